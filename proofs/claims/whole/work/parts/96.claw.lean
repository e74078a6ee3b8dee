/-! moor: the class reads laws. -/
def kVl (T : Nat → Nat) (n a : Nat) : Nat := if kdP T n a = 23 then nvl T a (behP T n a - a) else 0
def kN (T : Nat → Nat) (n a : Nat) : Nat := atP T n (behP T n a)
theorem kd_24 {T : Nat → Nat} {n a : Nat} (h : kdP T n a ≠ 24) : a < n := Classical.byContradiction (fun q => h (by unfold kdP; rw [if_neg q]))
theorem kd_23 {T : Nat → Nat} {n a : Nat} (h : kdP T n a = 23) : behP T n a - a ≤ 3 ∧ ∀ i, i < behP T n a - a → isD (T (a + i)) = true := by
  have ha : a < n := kd_24 (T := T) (by omega)
  by_cases cs : isS (T a) = true
  · have ek : kdP T n a = kwf (txt T a (behP T n a - a)) 22 kwt 0 := by unfold kdP; rw [if_pos ha, if_pos cs]
    have b1 := kwf_b (w := txt T a (behP T n a - a)) (z := 22) (xs := kwt) (i := 0)
    rw [kwt_n.2, ← ek] at b1
    omega
  · by_cases cd : isD (T a) = true
    · have ek : kdP T n a = if behP T n a - a ≤ 3 then 23 else 25 := by unfold kdP; rw [if_pos ha, if_neg cs, if_pos cd]
      have eb : behP T n a = rnE isD T (n - a) a := by unfold behP; rw [if_pos ha, if_neg cs, if_pos cd]
      refine ⟨Classical.byContradiction (fun q => by rw [if_neg q] at ek; omega), fun i hi => ?_⟩
      rw [eb] at hi
      exact rnE_i (k := n - a) (b := a) (by omega) (by omega)
    · have ek : kdP T n a = kwf (txt T a 1) 25 sgt 30 := by unfold kdP; rw [if_pos ha, if_neg cs, if_neg cd]
      have b1 := kwf_b (w := txt T a 1) (z := 25) (xs := sgt) (i := 30)
      rw [sgt_n.2, ← ek] at b1
      omega
theorem nvl_b {T : Nat → Nat} {a : Nat} : ∀ {k : Nat}, (∀ i, i < k → isD (T (a + i)) = true) → nvl T a k < 10 ^ k
  | 0, _ => by show 0 < 1; omega
  | k + 1, h => by
    have ih := nvl_b (T := T) (a := a) (k := k) (fun i hi => h i (by omega))
    have hd := h k (by omega)
    unfold isD at hd
    rw [decide_eq_true_iff] at hd
    rw [nvl_s, Nat.pow_succ]
    omega
theorem kVl_b (T : Nat → Nat) (n a : Nat) : kVl T n a < 1000 := by
  unfold kVl
  split
  · rename_i h
    obtain ⟨h1, h2⟩ := kd_23 h
    have h3 := nvl_b h2
    have : 10 ^ (behP T n a - a) ≤ 10 ^ 3 := Nat.pow_le_pow_right (by omega) h1
    omega
  · omega
theorem kgn (T : Nat → Nat) (n : Nat) : pgn (kdP T n) (kN T n) (kVl T n) n := by
  refine ⟨fun a ha hk => ?_, kVl_b T n⟩
  have hb := beh_b (T := T) (kd_24 hk)
  have h1 := rnE_b (P := isB) (T := T) (k := n - behP T n a) (b := behP T n a)
  unfold kN atP
  omega
/-- the class as it reads -/
def PC (T : Nat → Nat) (n : Nat) (s : PsT) (h : abJ) : Prop := TP T n 11 h ∧ TC T n s.2.1 h ∧ s.2.1 ≤ n ∧ h.1 9 2 = nI s.2.2.length ∧ (∀ i, i < s.2.2.length → h.1 8 i = cc (s.2.2.getD i 0)) ∧ s.2.2.length ≤ s.2.1 ∧ h.1 9 10 = nI 0 ∧ h.1 9 11 = -1
def fL (h h' : abJ) : Prop := fr [8, 9] [] h h' ∧ ∀ q, q ≠ 2 → q ≠ 6 → q ≠ 7 → q ≠ 8 → q ≠ 9 → q ≠ 10 → q ≠ 11 → h'.1 9 q = h.1 9 q
theorem fL_r (h : abJ) : fL h h := ⟨fr_r _ _ _, fun _ _ _ _ _ _ _ _ => rfl⟩
theorem fL_t {h h1 h2 : abJ} (a : fL h h1) (b : fL h1 h2) : fL h h2 := ⟨fr_t a.1 b.1, fun q w1 w2 w3 w4 w5 w6 w7 => (b.2 q w1 w2 w3 w4 w5 w6 w7).trans (a.2 q w1 w2 w3 w4 w5 w6 w7)⟩
theorem fL_9 {h h' : abJ} (a : f9 h h') : fL h h' := ⟨fr_m a.1 (by simp) (by simp), fun q _ w2 w3 w4 w5 _ _ => a.2 q w2 w3 w4 w5⟩
def pok (T : Nat → Nat) (n : Nat) (s : PsT) (h0 : abJ) (r : Int32 × abJ) : Prop := fL h0 r.2 ∧ (s.1 = none → r.1 = nI 1 ∧ PC T n s r.2) ∧ ∀ x, s.1 = some x → r.1 = nI 0 ∧ r.2.1 9 10 = nI x.1 ∧ r.2.1 9 11 = nI x.2
def crd (T : Nat → Nat) (n : Nat) (g : abJ → Option (Int32 × abJ)) (f : PsT → PsT) : Prop := ∀ s h, s.1 = none → PC T n s h → Ok (g h) (pok T n (f s) h)
theorem pok_t {T : Nat → Nat} {n : Nat} {s : PsT} {h h1 : abJ} {r : Int32 × abJ} (a : fL h h1) (b : pok T n s h1 r) : pok T n s h r := ⟨fL_t a b.1, b.2⟩
theorem c_next {T : Nat → Nat} {n : Nat} {s : PsT} {h : abJ} (hP : PC T n s h) (hk : kdP T n s.2.1 ≠ 24) : Ok (fX6_advance h) (fun h' => PC T n (pN (kN T n) s) h' ∧ fL h h') := by
  obtain ⟨p1, p2, p3, p4, p5, p6⟩ := hP
  have hb := beh_b (T := T) (kd_24 hk)
  have hg := (kgn T n).1 _ p3 hk
  refine (c_adv p1 p2.1 p2.2.2.1 hb.2).mono (fun h' hr => ⟨⟨TP_f9 p1 hr.2, hr.1, hg.2, ?_, fun i hi => ?_, ?_, ?_, ?_⟩, fL_9 hr.2⟩)
  · rw [hr.2.2 2 (by decide) (by decide) (by decide) (by decide)]; exact p4
  · rw [hr.2.1.1 8 (by decide)]; exact p5 i hi
  · have : s.2.1 < kN T n s.2.1 := hg.1
    have := p6.1
    show s.2.2.length ≤ kN T n s.2.1
    omega
  · rw [hr.2.2 10 (by decide) (by decide) (by decide) (by decide)]; exact p6.2.1
  · rw [hr.2.2 11 (by decide) (by decide) (by decide) (by decide)]; exact p6.2.2
theorem c_wrong {T : Nat → Nat} {n f : Nat} {s : PsT} {h : abJ} (hs : s.1 = none) (hP : PC T n s h) : Ok (fX6_wrong (nI f) h) (pok T n (pF (kdP T n) f s) h) := by
  obtain ⟨p1, p2, p3, p4, p5, p6⟩ := hP
  unfold fX6_wrong pF
  rw [p2.2.2.2.1, if_pos hs, ab_w1k (show 7 ≠ 10 by decide), ab_w1k (show 7 ≠ 10 by decide), p2.2.1]
  have fw : ∀ v w : Int32, fL h (ab_wI (ab_wI h 9 10 v) 9 11 w) := fun v w => ⟨fr_w (fr_w (fr_r _ _ _) (by simp)) (by simp), fun q w1 w2 w3 w4 w5 w6 w7 => by rw [ab_w1k w7, ab_w1k w6]⟩
  by_cases c : kdP T n s.2.1 = 25
  · rw [c, if_pos rfl]
    refine Ok.pos (by decide) (Ok.some ⟨fw _ _, fun q => (by cases q), fun x hx => ?_⟩)
    have hx := Option.some.inj hx
    subst hx
    exact ⟨rfl, by rw [ab_w1k (by decide), ab_w1e]; rfl, ab_w1e ..⟩
  · have ec : ¬ nI (ck (kdP T n s.2.1)) = 1 := by
      unfold ck
      split
      · decide
      · split <;> decide
    rw [if_neg c]
    refine Ok.neg ec (Ok.some ⟨fw _ _, fun q => (by cases q), fun x hx => ?_⟩)
    have hx := Option.some.inj hx
    subst hx
    exact ⟨rfl, by rw [ab_w1k (by decide), ab_w1e], ab_w1e ..⟩
theorem b01 {x : Int32} (h : x = nI 0 ∨ x = nI 1) : ¬ ¬ (x = 0 ∨ x = 1) := fun q => q h
/-- what one answers is 0 or 1 -/
theorem pok_b {T : Nat → Nat} {n : Nat} {s : PsT} {h0 : abJ} {r : Int32 × abJ} (h : pok T n s h0 r) : r.1 = nI 0 ∨ r.1 = nI 1 := by
  cases e : s.1 with
  | none => exact Or.inr (h.2.1 e).1
  | some x => exact Or.inl (h.2.2 x e).1
theorem c_wrongA {T : Nat → Nat} {n f : Nat} {s : PsT} {h : abJ} (hs : s.1 = none) (hP : PC T n s h) : Ok ((fX6_wrong (nI f) h).bind (fun r => ab_ask (¬ (r.1 = 0 ∨ r.1 = 1)) (some (r.1, r.2)))) (pok T n (pF (kdP T n) f s) h) :=
  Ok.bind (c_wrong hs hP) (fun r hr => Ok.ask (b01 (pok_b hr)) (Ok.some hr))
theorem c_isP {T : Nat → Nat} {n j : Nat} {s : PsT} {h : abJ} (hP : PC T n s h) (hj : j < 31) (h1 : 1 ≤ j) : fX6_is (1000000 + j) h = some (bI (decide (kdP T n s.2.1 = kc j))) := c_is hP.1 hP.2.1 hj h1
theorem c_take2 {T : Nat → Nat} {n j : Nat} (hj : j < 31) (h1 : 1 ≤ j) : crd T n (fX6_take (1000000 + j)) (pE (kdP T n) (kN T n) (kc j)) := by
  intro s h hs hP
  have kj : kc j ≠ 24 := by rcases kc_w j hj h1 with w | w <;> omega
  unfold fX6_take pE
  rw [c_isP hP hj h1, ab_bindS, if_pos hs]
  by_cases c : kdP T n s.2.1 = kc j
  · rw [if_pos c, decide_eq_true c]
    refine Ok.neg (by decide) (Ok.bind (c_next hP (by rw [c]; exact kj)) (fun h' hr => Ok.some ⟨hr.2, fun _ => ⟨rfl, hr.1⟩, fun x hx => ?_⟩))
    rw [show (pN (kN T n) s).1 = s.1 from rfl, hs] at hx; cases hx
  · rw [if_neg c, decide_eq_false c]
    exact Ok.pos (by decide) (c_wrongA (f := 2) hs hP)
theorem c_emit {T : Nat → Nat} {n c : Nat} {s : PsT} {h : abJ} (hs : s.1 = none) (hP : PC T n s h) (hl : s.2.2.length < s.2.1) : Ok (fX6_emit (cc c) h) (pok T n (pC c s) h) := by
  obtain ⟨p1, p2, p3, p4, p5, p6⟩ := hP
  have hn := p1.1
  unfold fX6_emit pC
  rw [p4, nI_clamp (by omega), ab_w1n (show 9 ≠ 8 by decide), p4, nI_1, if_pos hs]
  refine Ok.pos (by rw [show (900 : Int32) = nI 900 from rfl, nI_ltI (by omega) (by omega)]; omega) (Ok.ask (ixN (by omega) (by omega)) (Ok.some ⟨⟨fr_w (fr_w (fr_r _ _ _) (by simp)) (by simp), fun q w1 w2 w3 w4 w5 w6 w7 => by rw [ab_w1k w1, ab_w1n (by decide)]⟩, fun _ => ⟨rfl, ⟨p1.1, fun k hk => ?_⟩, ⟨?_, ?_, ?_, ?_, fun q => ?_⟩, p3, ?_, fun i hi => ?_, ?_, ?_, ?_⟩, fun x hx => by cases hx⟩))
  · rw [ab_w1n (by decide), ab_w1n (by decide)]; exact p1.2 k hk
  · rw [ab_w1k (by decide), ab_w1n (by decide)]; exact p2.1
  · rw [ab_w1k (by decide), ab_w1n (by decide)]; exact p2.2.1
  · rw [ab_w1k (by decide), ab_w1n (by decide)]; exact p2.2.2.1
  · rw [ab_w1k (by decide), ab_w1n (by decide)]; exact p2.2.2.2.1
  · rw [ab_w1k (by decide), ab_w1n (by decide)]; exact p2.2.2.2.2 q
  · rw [ab_w1e]; exact congrArg nI ln_a.symm
  · have hi : i < (s.2.2 ++ [c]).length := hi
    rw [ln_a] at hi
    rw [ab_w1n (by decide)]
    show (ab_wI h 8 s.2.2.length (cc c)).1 8 i = cc ((s.2.2 ++ [c]).getD i 0)
    by_cases e : i = s.2.2.length
    · rw [e, ab_w1e, gd_e]
    · rw [ab_w1k e, gd_l (by omega)]; exact p5 i (by omega)
  · show (s.2.2 ++ [c]).length ≤ s.2.1
    rw [ln_a]; omega
  · rw [ab_w1k (by decide), ab_w1n (by decide)]; exact p6.2.1
  · rw [ab_w1k (by decide), ab_w1n (by decide)]; exact p6.2.2
/-- behind a reader of the class: a code -/
theorem c_thenE {T : Nat → Nat} {n c : Nat} {b : Bool} {D : Nat} {s : PsT} {B : PsT → PsT} {g : abJ → Option (Int32 × abJ)} {h : abJ} {α : Type} {F : abJ → Option α} {G : abJ → Option α} {Q : α → Prop} (hB : grd n b D B) (hc : crd T n g B) (hs : s.1 = none) (hP : PC T n s h) (hk : kdP T n s.2.1 ≠ 24) (hF : ∀ h' x, (pC c (B (pN (kN T n) s))).1 = some x → fL h h' → h'.1 9 10 = nI x.1 → h'.1 9 11 = nI x.2 → Ok (F h') Q) (hG : ∀ h', (pC c (B (pN (kN T n) s))).1 = none → fL h h' → PC T n (pC c (B (pN (kN T n) s))) h' → Ok (G h') Q) : Ok ((fX6_advance h).bind (fun r6 => (g r6).bind (fun r7 => if r7.1 = 0 then F r7.2 else (fX6_emit (cc c) r7.2).bind (fun r9 => if r9.1 = 0 then F r9.2 else G r9.2)))) Q := by
  refine Ok.bind (c_next hP hk) (fun h1 hr1 => Ok.bind (hc (pN (kN T n) s) h1 hs hr1.1) (fun r hr => ?_))
  have hk2 := pK_N (s := s) (kgn T n) hP.2.2.1 hk
  cases e : (B (pN (kN T n) s)).1 with
  | some x =>
    obtain ⟨q1, q2, q3⟩ := hr.2.2 x e
    rw [q1]
    refine Ok.pos rfl (hF r.2 x ?_ (fL_t hr1.2 hr.1) q2 q3)
    rw [pC_x (by rw [e]; exact fun w => by cases w)]; exact e
  | none =>
    obtain ⟨q1, q2⟩ := hr.2.1 e
    rw [q1]
    refine Ok.neg (by decide) ?_
    obtain ⟨g1, g2, l, g3, g4, g5⟩ := hB.2 (pN (kN T n) s) hs hk2.2.1 e
    have hl : (B (pN (kN T n) s)).2.2.length < (B (pN (kN T n) s)).2.1 := by
      have h6 := hP.2.2.2.2.2.1
      have hk3 := hk2.1
      have e3 : (pN (kN T n) s).2.2 = s.2.2 := rfl
      rw [g3, List.length_append, e3]
      omega
    refine Ok.bind (c_emit (c := c) e q2 hl) (fun r9 hr9 => ?_)
    have en : (pC c (B (pN (kN T n) s))).1 = none := by unfold pC; rw [if_pos e]
    obtain ⟨w1, w2⟩ := hr9.2.1 en
    rw [w1]
    exact Ok.neg (by decide) (hG r9.2 en (fL_t hr1.2 (fL_t hr.1 hr9.1)) w2)
theorem c_lpTerm {T : Nat → Nat} {n d D : Nat} {R : Nat → Int32 → abJ → Option (Int32 × abJ)} {B : PsT → PsT} (hB : grd n false D B) (hc : crd T n (R 2 (nI d)) B) : ∀ (k N i : Nat) (s : PsT) (h : abJ), s.1 = none → PC T n s h → 901 ≤ k + s.2.1 → i ≤ s.2.1 → k + 1 < N → Ok (fX6_readTerm_L8 R N (nI d) (nI 1) (nI i) h) (pok T n (plp (kdP T n) (kN T n) cdT B k s) h)
  | 0, N, i, s, h, hs, hP, hk, hi, hN => by
    have h1 := hP.1.1
    have h2 := hP.2.2.1
    omega
  | k + 1, N, i, s, h, hs, hP, hk, hi, hN => by
    obtain ⟨N, rfl⟩ : ∃ n0, N = n0 + 1 := ⟨N - 1, by omega⟩
    have h1 := hP.1.1
    have h2 := hP.2.2.1
    have me : pok T n s h (nI 1, h) := ⟨fL_r h, fun _ => ⟨rfl, hP⟩, fun x hx => by rw [hs] at hx; cases hx⟩
    rw [fX6_readTerm_L8, plp, if_pos hs, show fX6_is 1000027 h = some (bI (decide (kdP T n s.2.1 = 34))) from c_isP (j := 27) hP (by omega) (by omega), ab_bindS]
    by_cases c : kdP T n s.2.1 = 34
    · have ha : s.2.1 < n := kd_24 (T := T) (by omega)
      rw [decide_eq_true c, c]
      show Ok _ (pok T n (plp (kdP T n) (kN T n) cdT B k (pC 3002 (B (pN (kN T n) s)))) h)
      refine Ok.neg (by rw [show (900 : Int32) = nI 900 from rfl, nI_leI (by omega) (by omega)]; omega) (Ok.neg (by decide) (Ok.neg (by decide) ?_))
      refine c_thenE (c := 3002) (F := fun h => fX6_readTerm_J53 R (fun y1 y2 y3 h => fX6_readTerm_L8 R N y1 y2 y3 h) (nI d) (nI i) h) (G := fun h => fX6_readTerm_J54 R (fun y1 y2 y3 h => fX6_readTerm_L8 R N y1 y2 y3 h) (nI d) (nI i) 1 h) hB hc hs hP (by omega) (fun h' x hx hf q1 q2 => ?_) (fun h' hx hf hP' => ?_)
      · unfold fX6_readTerm_J53 fX6_readTerm_J54
        obtain ⟨N, rfl⟩ : ∃ n0, N = n0 + 1 := ⟨N - 1, by omega⟩
        have hx' : (pC 3002 (B (pN (kN T n) s))).1 ≠ none := by rw [hx]; exact fun w => by cases w
        have ep : plp (kdP T n) (kN T n) cdT B k (pC 3002 (B (pN (kN T n) s))) = pC 3002 (B (pN (kN T n) s)) := (gr_lp (kgn T n) cdk_T hB k _).1 hx'
        show Ok (fX6_readTerm_L8 R (N + 1) (nI d) 0 (nI i + 1) h') _
        rw [nI_1, fX6_readTerm_L8, ep]
        have r0 : pok T n (pC 3002 (B (pN (kN T n) s))) h (0, h') := ⟨hf, fun w => absurd w hx', fun y hy => by
          rw [hx] at hy
          have hy := Option.some.inj hy
          subst hy
          exact ⟨rfl, q1, q2⟩⟩
        by_cases c9 : 900 ≤ i + 1
        · exact Ok.pos (by rw [show (900 : Int32) = nI 900 from rfl, nI_leI (by omega) (by omega)]; exact c9) (Ok.ask (b01 (Or.inl rfl)) (Ok.some r0))
        · exact Ok.neg (by rw [show (900 : Int32) = nI 900 from rfl, nI_leI (by omega) (by omega)]; exact c9) (Ok.pos rfl (Ok.ask (b01 (Or.inl rfl)) (Ok.some r0)))
      · unfold fX6_readTerm_J54
        have hk2 := pK_N (s := s) (kgn T n) h2 (by omega)
        have hn2 := pC_n hx
        have g1 := (hB.2 (pN (kN T n) s) hs hk2.2.1 hn2).1
        have ea : (pC 3002 (B (pN (kN T n) s))).2.1 = (B (pN (kN T n) s)).2.1 := by unfold pC; rw [if_pos hn2]
        have hk3 := hk2.1
        rw [nI_1]
        exact (c_lpTerm hB hc k N (i + 1) _ h' hx hP' (by rw [ea]; omega) (by rw [ea]; omega) (by omega)).mono (fun r hr => pok_t hf hr)
    · rw [decide_eq_false c, show cdT (kdP T n s.2.1) = none by unfold cdT; rw [if_neg c]]
      show Ok _ (pok T n s h)
      by_cases c9 : 900 ≤ i
      · exact Ok.pos (by rw [show (900 : Int32) = nI 900 from rfl, nI_leI (by omega) (by omega)]; exact c9) (Ok.ask (b01 (Or.inr rfl)) (Ok.some me))
      · exact Ok.neg (by rw [show (900 : Int32) = nI 900 from rfl, nI_leI (by omega) (by omega)]; exact c9) (Ok.neg (by decide) (Ok.pos (by decide) (Ok.ask (b01 (Or.inr rfl)) (Ok.some me))))
theorem c_rdTerm {T : Nat → Nat} {n d D : Nat} {R : Nat → Int32 → abJ → Option (Int32 × abJ)} {B : PsT → PsT} (hB : grd n false D B) (hc : crd T n (R 2 (nI d)) B) : crd T n (bX6_readTerm R (nI d)) (fun s => plp (kdP T n) (kN T n) cdT B 901 (B s)) := by
  intro s h hs hP
  unfold bX6_readTerm
  refine Ok.bind (hc s h hs hP) (fun r hr => ?_)
  have lp := gr_lp (kgn T n) cdk_T hB 901 (B s)
  cases e : (B s).1 with
  | none =>
    obtain ⟨q1, q2⟩ := hr.2.1 e
    rw [q1]
    exact (c_lpTerm hB hc 901 ab_N 0 (B s) r.2 e q2 (by omega) (Nat.zero_le _) (by unfold ab_N; omega)).mono (fun r' hr' => pok_t hr.1 hr')
  | some x =>
    obtain ⟨q1, q2, q3⟩ := hr.2.2 x e
    have hx' : (B s).1 ≠ none := by rw [e]; exact fun w => by cases w
    rw [q1, show ab_N = 999999 + 1 from rfl, fX6_readTerm_L8]
    show Ok _ (pok T n (plp (kdP T n) (kN T n) cdT B 901 (B s)) h)
    rw [lp.1 hx']
    exact Ok.neg (by decide) (Ok.pos rfl (Ok.ask (b01 (Or.inl rfl)) (Ok.some ⟨hr.1, fun w => absurd w hx', fun y hy => by
      rw [e] at hy
      have hy := Option.some.inj hy
      subst hy
      exact ⟨rfl, q2, q3⟩⟩)))
theorem c_lpBoth {T : Nat → Nat} {n d D : Nat} {R : Nat → Int32 → abJ → Option (Int32 × abJ)} {B : PsT → PsT} (hB : grd n true D B) (hc : crd T n (R 5 (nI d)) B) : ∀ (k N i : Nat) (s : PsT) (h : abJ), s.1 = none → PC T n s h → 901 ≤ k + s.2.1 → i ≤ s.2.1 → k + 1 < N → Ok (fX6_readBoth_L8 R N (nI d) (nI 1) (nI i) h) (pok T n (plp (kdP T n) (kN T n) cdB B k s) h)
  | 0, N, i, s, h, hs, hP, hk, hi, hN => by
    have h1 := hP.1.1
    have h2 := hP.2.2.1
    omega
  | k + 1, N, i, s, h, hs, hP, hk, hi, hN => by
    obtain ⟨N, rfl⟩ : ∃ n0, N = n0 + 1 := ⟨N - 1, by omega⟩
    have h1 := hP.1.1
    have h2 := hP.2.2.1
    have me : pok T n s h (nI 1, h) := ⟨fL_r h, fun _ => ⟨rfl, hP⟩, fun x hx => by rw [hs] at hx; cases hx⟩
    rw [fX6_readBoth_L8, plp, if_pos hs, show fX6_is 1000022 h = some (bI (decide (kdP T n s.2.1 = 15))) from c_isP (j := 22) hP (by omega) (by omega), ab_bindS]
    by_cases c : kdP T n s.2.1 = 15
    · have ha : s.2.1 < n := kd_24 (T := T) (by omega)
      rw [decide_eq_true c, c]
      show Ok _ (pok T n (plp (kdP T n) (kN T n) cdB B k (pC 3007 (B (pN (kN T n) s)))) h)
      refine Ok.neg (by rw [show (900 : Int32) = nI 900 from rfl, nI_leI (by omega) (by omega)]; omega) (Ok.neg (by decide) (Ok.neg (by decide) ?_))
      refine c_thenE (c := 3007) (F := fun h => fX6_readBoth_J53 R (fun y1 y2 y3 h => fX6_readBoth_L8 R N y1 y2 y3 h) (nI d) (nI i) h) (G := fun h => fX6_readBoth_J54 R (fun y1 y2 y3 h => fX6_readBoth_L8 R N y1 y2 y3 h) (nI d) (nI i) 1 h) hB hc hs hP (by omega) (fun h' x hx hf q1 q2 => ?_) (fun h' hx hf hP' => ?_)
      · unfold fX6_readBoth_J53 fX6_readBoth_J54
        obtain ⟨N, rfl⟩ : ∃ n0, N = n0 + 1 := ⟨N - 1, by omega⟩
        have hx' : (pC 3007 (B (pN (kN T n) s))).1 ≠ none := by rw [hx]; exact fun w => by cases w
        have ep : plp (kdP T n) (kN T n) cdB B k (pC 3007 (B (pN (kN T n) s))) = pC 3007 (B (pN (kN T n) s)) := (gr_lp (kgn T n) cdk_B hB k _).1 hx'
        show Ok (fX6_readBoth_L8 R (N + 1) (nI d) 0 (nI i + 1) h') _
        rw [nI_1, fX6_readBoth_L8, ep]
        have r0 : pok T n (pC 3007 (B (pN (kN T n) s))) h (0, h') := ⟨hf, fun w => absurd w hx', fun y hy => by
          rw [hx] at hy
          have hy := Option.some.inj hy
          subst hy
          exact ⟨rfl, q1, q2⟩⟩
        by_cases c9 : 900 ≤ i + 1
        · exact Ok.pos (by rw [show (900 : Int32) = nI 900 from rfl, nI_leI (by omega) (by omega)]; exact c9) (Ok.ask (b01 (Or.inl rfl)) (Ok.some r0))
        · exact Ok.neg (by rw [show (900 : Int32) = nI 900 from rfl, nI_leI (by omega) (by omega)]; exact c9) (Ok.pos rfl (Ok.ask (b01 (Or.inl rfl)) (Ok.some r0)))
      · unfold fX6_readBoth_J54
        have hk2 := pK_N (s := s) (kgn T n) h2 (by omega)
        have hn2 := pC_n hx
        have g1 := (hB.2 (pN (kN T n) s) hs hk2.2.1 hn2).1
        have ea : (pC 3007 (B (pN (kN T n) s))).2.1 = (B (pN (kN T n) s)).2.1 := by unfold pC; rw [if_pos hn2]
        have hk3 := hk2.1
        rw [nI_1]
        exact (c_lpBoth hB hc k N (i + 1) _ h' hx hP' (by rw [ea]; omega) (by rw [ea]; omega) (by omega)).mono (fun r hr => pok_t hf hr)
    · rw [decide_eq_false c, show cdB (kdP T n s.2.1) = none by unfold cdB; rw [if_neg c]]
      show Ok _ (pok T n s h)
      by_cases c9 : 900 ≤ i
      · exact Ok.pos (by rw [show (900 : Int32) = nI 900 from rfl, nI_leI (by omega) (by omega)]; exact c9) (Ok.ask (b01 (Or.inr rfl)) (Ok.some me))
      · exact Ok.neg (by rw [show (900 : Int32) = nI 900 from rfl, nI_leI (by omega) (by omega)]; exact c9) (Ok.neg (by decide) (Ok.pos (by decide) (Ok.ask (b01 (Or.inr rfl)) (Ok.some me))))
theorem c_rdBoth {T : Nat → Nat} {n d D : Nat} {R : Nat → Int32 → abJ → Option (Int32 × abJ)} {B : PsT → PsT} (hB : grd n true D B) (hc : crd T n (R 5 (nI d)) B) : crd T n (bX6_readBoth R (nI d)) (fun s => plp (kdP T n) (kN T n) cdB B 901 (B s)) := by
  intro s h hs hP
  unfold bX6_readBoth
  refine Ok.bind (hc s h hs hP) (fun r hr => ?_)
  have lp := gr_lp (kgn T n) cdk_B hB 901 (B s)
  cases e : (B s).1 with
  | none =>
    obtain ⟨q1, q2⟩ := hr.2.1 e
    rw [q1]
    exact (c_lpBoth hB hc 901 ab_N 0 (B s) r.2 e q2 (by omega) (Nat.zero_le _) (by unfold ab_N; omega)).mono (fun r' hr' => pok_t hr.1 hr')
  | some x =>
    obtain ⟨q1, q2, q3⟩ := hr.2.2 x e
    have hx' : (B s).1 ≠ none := by rw [e]; exact fun w => by cases w
    rw [q1, show ab_N = 999999 + 1 from rfl, fX6_readBoth_L8]
    show Ok _ (pok T n (plp (kdP T n) (kN T n) cdB B 901 (B s)) h)
    rw [lp.1 hx']
    exact Ok.neg (by decide) (Ok.pos rfl (Ok.ask (b01 (Or.inl rfl)) (Ok.some ⟨hr.1, fun w => absurd w hx', fun y hy => by
      rw [e] at hy
      have hy := Option.some.inj hy
      subst hy
      exact ⟨rfl, q2, q3⟩⟩)))
theorem c_lpTruth {T : Nat → Nat} {n d D : Nat} {R : Nat → Int32 → abJ → Option (Int32 × abJ)} {B : PsT → PsT} (hB : grd n true D B) (hc : crd T n (R 4 (nI d)) B) : ∀ (k N i : Nat) (s : PsT) (h : abJ), s.1 = none → PC T n s h → 901 ≤ k + s.2.1 → i ≤ s.2.1 → k + 1 < N → Ok (fX6_readTruth_L8 R N (nI d) (nI 1) (nI i) h) (pok T n (plp (kdP T n) (kN T n) cdR B k s) h)
  | 0, N, i, s, h, hs, hP, hk, hi, hN => by
    have h1 := hP.1.1
    have h2 := hP.2.2.1
    omega
  | k + 1, N, i, s, h, hs, hP, hk, hi, hN => by
    obtain ⟨N, rfl⟩ : ∃ n0, N = n0 + 1 := ⟨N - 1, by omega⟩
    have h1 := hP.1.1
    have h2 := hP.2.2.1
    have me : pok T n s h (nI 1, h) := ⟨fL_r h, fun _ => ⟨rfl, hP⟩, fun x hx => by rw [hs] at hx; cases hx⟩
    rw [fX6_readTruth_L8, plp, if_pos hs, show fX6_is 1000023 h = some (bI (decide (kdP T n s.2.1 = 16))) from c_isP (j := 23) hP (by omega) (by omega), ab_bindS]
    by_cases c : kdP T n s.2.1 = 16
    · have ha : s.2.1 < n := kd_24 (T := T) (by omega)
      rw [decide_eq_true c, c]
      show Ok _ (pok T n (plp (kdP T n) (kN T n) cdR B k (pC 3008 (B (pN (kN T n) s)))) h)
      refine Ok.neg (by rw [show (900 : Int32) = nI 900 from rfl, nI_leI (by omega) (by omega)]; omega) (Ok.neg (by decide) (Ok.neg (by decide) ?_))
      refine c_thenE (c := 3008) (F := fun h => fX6_readTruth_J53 R (fun y1 y2 y3 h => fX6_readTruth_L8 R N y1 y2 y3 h) (nI d) (nI i) h) (G := fun h => fX6_readTruth_J54 R (fun y1 y2 y3 h => fX6_readTruth_L8 R N y1 y2 y3 h) (nI d) (nI i) 1 h) hB hc hs hP (by omega) (fun h' x hx hf q1 q2 => ?_) (fun h' hx hf hP' => ?_)
      · unfold fX6_readTruth_J53 fX6_readTruth_J54
        obtain ⟨N, rfl⟩ : ∃ n0, N = n0 + 1 := ⟨N - 1, by omega⟩
        have hx' : (pC 3008 (B (pN (kN T n) s))).1 ≠ none := by rw [hx]; exact fun w => by cases w
        have ep : plp (kdP T n) (kN T n) cdR B k (pC 3008 (B (pN (kN T n) s))) = pC 3008 (B (pN (kN T n) s)) := (gr_lp (kgn T n) cdk_R hB k _).1 hx'
        show Ok (fX6_readTruth_L8 R (N + 1) (nI d) 0 (nI i + 1) h') _
        rw [nI_1, fX6_readTruth_L8, ep]
        have r0 : pok T n (pC 3008 (B (pN (kN T n) s))) h (0, h') := ⟨hf, fun w => absurd w hx', fun y hy => by
          rw [hx] at hy
          have hy := Option.some.inj hy
          subst hy
          exact ⟨rfl, q1, q2⟩⟩
        by_cases c9 : 900 ≤ i + 1
        · exact Ok.pos (by rw [show (900 : Int32) = nI 900 from rfl, nI_leI (by omega) (by omega)]; exact c9) (Ok.ask (b01 (Or.inl rfl)) (Ok.some r0))
        · exact Ok.neg (by rw [show (900 : Int32) = nI 900 from rfl, nI_leI (by omega) (by omega)]; exact c9) (Ok.pos rfl (Ok.ask (b01 (Or.inl rfl)) (Ok.some r0)))
      · unfold fX6_readTruth_J54
        have hk2 := pK_N (s := s) (kgn T n) h2 (by omega)
        have hn2 := pC_n hx
        have g1 := (hB.2 (pN (kN T n) s) hs hk2.2.1 hn2).1
        have ea : (pC 3008 (B (pN (kN T n) s))).2.1 = (B (pN (kN T n) s)).2.1 := by unfold pC; rw [if_pos hn2]
        have hk3 := hk2.1
        rw [nI_1]
        exact (c_lpTruth hB hc k N (i + 1) _ h' hx hP' (by rw [ea]; omega) (by rw [ea]; omega) (by omega)).mono (fun r hr => pok_t hf hr)
    · rw [decide_eq_false c, show cdR (kdP T n s.2.1) = none by unfold cdR; rw [if_neg c]]
      show Ok _ (pok T n s h)
      by_cases c9 : 900 ≤ i
      · exact Ok.pos (by rw [show (900 : Int32) = nI 900 from rfl, nI_leI (by omega) (by omega)]; exact c9) (Ok.ask (b01 (Or.inr rfl)) (Ok.some me))
      · exact Ok.neg (by rw [show (900 : Int32) = nI 900 from rfl, nI_leI (by omega) (by omega)]; exact c9) (Ok.neg (by decide) (Ok.pos (by decide) (Ok.ask (b01 (Or.inr rfl)) (Ok.some me))))
theorem c_rdTruth {T : Nat → Nat} {n d D : Nat} {R : Nat → Int32 → abJ → Option (Int32 × abJ)} {B : PsT → PsT} (hB : grd n true D B) (hc : crd T n (R 4 (nI d)) B) : crd T n (bX6_readTruth R (nI d)) (fun s => plp (kdP T n) (kN T n) cdR B 901 (B s)) := by
  intro s h hs hP
  unfold bX6_readTruth
  refine Ok.bind (hc s h hs hP) (fun r hr => ?_)
  have lp := gr_lp (kgn T n) cdk_R hB 901 (B s)
  cases e : (B s).1 with
  | none =>
    obtain ⟨q1, q2⟩ := hr.2.1 e
    rw [q1]
    exact (c_lpTruth hB hc 901 ab_N 0 (B s) r.2 e q2 (by omega) (Nat.zero_le _) (by unfold ab_N; omega)).mono (fun r' hr' => pok_t hr.1 hr')
  | some x =>
    obtain ⟨q1, q2, q3⟩ := hr.2.2 x e
    have hx' : (B s).1 ≠ none := by rw [e]; exact fun w => by cases w
    rw [q1, show ab_N = 999999 + 1 from rfl, fX6_readTruth_L8]
    show Ok _ (pok T n (plp (kdP T n) (kN T n) cdR B 901 (B s)) h)
    rw [lp.1 hx']
    exact Ok.neg (by decide) (Ok.pos rfl (Ok.ask (b01 (Or.inl rfl)) (Ok.some ⟨hr.1, fun w => absurd w hx', fun y hy => by
      rw [e] at hy
      have hy := Option.some.inj hy
      subst hy
      exact ⟨rfl, q2, q3⟩⟩)))
