/-! moor: the class reads laws to their ends. -/
theorem c_seq {T : Nat → Nat} {n : Nat} {s1 s2 : PsT} {h : abJ} {o : Option (Int32 × abJ)} {G : Int32 × abJ → Option (Int32 × abJ)} (h1 : Ok o (pok T n s1 h)) (hx : s1.1 ≠ none → s2 = s1) (h2 : ∀ r : Int32 × abJ, s1.1 = none → PC T n s1 r.2 → Ok (G r) (pok T n s2 r.2)) : Ok (o.bind (fun r => if r.1 = 0 then some (0, r.2) else G r)) (pok T n s2 h) := by
  refine Ok.bind h1 (fun r hr => ?_)
  cases e : s1.1 with
  | none =>
    obtain ⟨q1, q2⟩ := hr.2.1 e
    rw [q1]
    exact Ok.neg (by decide) ((h2 r e q2).mono (fun r' hr' => pok_t hr.1 hr'))
  | some x =>
    obtain ⟨q1, q2, q3⟩ := hr.2.2 x e
    have hne : s1.1 ≠ none := by rw [e]; exact fun w => by cases w
    rw [q1, hx hne]
    exact Ok.pos rfl (Ok.some ⟨hr.1, fun w => absurd w hne, fun y hy => by
      rw [e] at hy
      have hy := Option.some.inj hy
      subst hy
      exact ⟨rfl, q2, q3⟩⟩)
theorem c_one {T : Nat → Nat} {n : Nat} {s : PsT} {h : abJ} (hs : s.1 = none) (hP : PC T n s h) : Ok (some ((1 : Int32), h)) (pok T n s h) := Ok.some ⟨fL_r h, fun _ => ⟨rfl, hP⟩, fun x hx => by rw [hs] at hx; cases hx⟩
theorem c_open {T : Nat → Nat} {n d : Nat} {s : PsT} {h : abJ} (hd : d ≤ 6) (hs : s.1 = none) (hP : PC T n s h) (hk : kdP T n s.2.1 ≠ 24) : Ok (fX6_open (nI d) h) (pok T n (if d < 6 then pN (kN T n) s else pF (kdP T n) 4 s) h) := by
  unfold fX6_open
  by_cases c : d < 6
  · rw [if_pos c]
    refine Ok.pos (by rw [show (6 : Int32) = nI 6 from rfl, nI_ltI (by omega) (by omega)]; exact c) (Ok.bind (c_next hP hk) (fun h' hr => Ok.some ⟨hr.2, fun _ => ⟨rfl, hr.1⟩, fun x hx => ?_⟩))
    rw [show (pN (kN T n) s).1 = s.1 from rfl, hs] at hx; cases hx
  · rw [if_neg c]
    exact Ok.neg (by rw [show (6 : Int32) = nI 6 from rfl, nI_ltI (by omega) (by omega)]; exact c) (c_wrongA (f := 4) hs hP)
theorem pF_x {K : Nat → Nat} {f : Nat} {s : PsT} : (pF K f s).1 ≠ none := fun h => pF_n h
/-- texts are no shorter than what they tell -/
def slk (n : Nat) (s s' : PsT) : Prop := s'.2.2.length + s.2.1 ≤ s.2.2.length + s'.2.1 ∧ s.2.1 ≤ s'.2.1 ∧ s'.2.1 ≤ n
theorem slk_g {s s' : PsT} {n : Nat} {P : List Nat → Prop} (h : grw s s' n P) : slk n s s' := by
  obtain ⟨a1, a2, l, a3, a4, _⟩ := h
  refine ⟨?_, a1, a2⟩
  rw [a3, List.length_append]; omega
theorem slk_E {T : Nat → Nat} {n k : Nat} {s : PsT} (hk : k ≠ 24) (ha : s.2.1 ≤ n) (he : (pE (kdP T n) (kN T n) k s).1 = none) : slk n s (pE (kdP T n) (kN T n) k s) := by
  obtain ⟨h1, h2, h3⟩ := pE_n he
  have := (kgn T n).1 _ ha (by rw [h2]; exact hk)
  rw [h3]
  exact ⟨show s.2.2.length + s.2.1 ≤ s.2.2.length + kN T n s.2.1 by omega, show s.2.1 ≤ kN T n s.2.1 by omega, this.2⟩
theorem c_lpSum {T : Nat → Nat} {n d D : Nat} {R : Nat → Int32 → abJ → Option (Int32 × abJ)} {B : PsT → PsT} (hB : grd n false D B) (hc : crd T n (R 1 (nI d)) B) : ∀ (k N i : Nat) (s : PsT) (h : abJ), s.1 = none → PC T n s h → 901 ≤ k + s.2.1 → i ≤ s.2.1 → k + 1 < N → Ok (fX6_readSum_L8 R N (nI d) (nI 1) (nI i) h) (pok T n (plp (kdP T n) (kN T n) cdS B k s) h)
  | 0, N, i, s, h, hs, hP, hk, hi, hN => by
    have h1 := hP.1.1
    have h2 := hP.2.2.1
    omega
  | k + 1, N, i, s, h, hs, hP, hk, hi, hN => by
    obtain ⟨N, rfl⟩ : ∃ n0, N = n0 + 1 := ⟨N - 1, by omega⟩
    have h1 := hP.1.1
    have h2 := hP.2.2.1
    have me : pok T n s h (nI 1, h) := ⟨fL_r h, fun _ => ⟨rfl, hP⟩, fun x hx => by rw [hs] at hx; cases hx⟩
    have e28 : fX6_is 1000028 h = some (bI (decide (kdP T n s.2.1 = 32))) := c_isP (j := 28) hP (by omega) (by omega)
    have e29 : fX6_is 1000029 h = some (bI (decide (kdP T n s.2.1 = 33))) := c_isP (j := 29) hP (by omega) (by omega)
    have j53 : ∀ code, kdP T n s.2.1 ≠ 24 → Ok (fX6_readSum_J53 R (fun y1 y2 y3 h => fX6_readSum_L8 R N y1 y2 y3 h) (nI d) (nI i) (cc code) h) (pok T n (plp (kdP T n) (kN T n) cdS B k (pC code (B (pN (kN T n) s)))) h) := by
      intro code hk24
      have ha : s.2.1 < n := kd_24 (T := T) hk24
      unfold fX6_readSum_J53
      refine c_thenE (c := code) (F := fun h => fX6_readSum_J80 R (fun y1 y2 y3 h => fX6_readSum_L8 R N y1 y2 y3 h) (nI d) (nI i) h) (G := fun h => fX6_readSum_J81 R (fun y1 y2 y3 h => fX6_readSum_L8 R N y1 y2 y3 h) (nI d) (nI i) 1 h) hB hc hs hP hk24 (fun h' x hx hf q1 q2 => ?_) (fun h' hx hf hP' => ?_)
      · unfold fX6_readSum_J80 fX6_readSum_J81
        obtain ⟨N, rfl⟩ : ∃ n0, N = n0 + 1 := ⟨N - 1, by omega⟩
        have hx' : (pC code (B (pN (kN T n) s))).1 ≠ none := by rw [hx]; exact fun w => by cases w
        have ep : plp (kdP T n) (kN T n) cdS B k (pC code (B (pN (kN T n) s))) = pC code (B (pN (kN T n) s)) := (gr_lp (kgn T n) cdk_S hB k _).1 hx'
        show Ok (fX6_readSum_L8 R (N + 1) (nI d) 0 (nI i + 1) h') _
        rw [nI_1, fX6_readSum_L8, ep]
        have r0 : pok T n (pC code (B (pN (kN T n) s))) h (0, h') := ⟨hf, fun w => absurd w hx', fun y hy => by
          rw [hx] at hy
          have hy := Option.some.inj hy
          subst hy
          exact ⟨rfl, q1, q2⟩⟩
        by_cases c9 : 900 ≤ i + 1
        · exact Ok.pos (by rw [show (900 : Int32) = nI 900 from rfl, nI_leI (by omega) (by omega)]; exact c9) (Ok.ask (b01 (Or.inl rfl)) (Ok.some r0))
        · exact Ok.neg (by rw [show (900 : Int32) = nI 900 from rfl, nI_leI (by omega) (by omega)]; exact c9) (Ok.pos rfl (Ok.ask (b01 (Or.inl rfl)) (Ok.some r0)))
      · unfold fX6_readSum_J81
        have hk2 := pK_N (s := s) (kgn T n) h2 hk24
        have hn2 := pC_n hx
        have g1 := (hB.2 (pN (kN T n) s) hs hk2.2.1 hn2).1
        have ea : (pC code (B (pN (kN T n) s))).2.1 = (B (pN (kN T n) s)).2.1 := by unfold pC; rw [if_pos hn2]
        have hk3 := hk2.1
        rw [nI_1]
        exact (c_lpSum hB hc k N (i + 1) _ h' hx hP' (by rw [ea]; omega) (by rw [ea]; omega) (by omega)).mono (fun r hr => pok_t hf hr)
    rw [fX6_readSum_L8, plp, if_pos hs, e28, ab_bindS, e29, ab_bindS]
    unfold fX6_readSum_J37
    rw [e28, ab_bindS]
    by_cases c : kdP T n s.2.1 = 32
    · have ha : s.2.1 < n := kd_24 (T := T) (by omega)
      rw [decide_eq_true c, show cdS (kdP T n s.2.1) = some 3000 by rw [c]; rfl]
      exact Ok.neg (by rw [show (900 : Int32) = nI 900 from rfl, nI_leI (by omega) (by omega)]; omega) (Ok.neg (by decide) (Ok.neg (by decide) (Ok.neg (by decide) (j53 3000 (by omega)))))
    · rw [decide_eq_false c]
      by_cases c2 : kdP T n s.2.1 = 33
      · have ha : s.2.1 < n := kd_24 (T := T) (by omega)
        rw [decide_eq_true c2, show cdS (kdP T n s.2.1) = some 3001 by rw [c2]; rfl]
        exact Ok.neg (by rw [show (900 : Int32) = nI 900 from rfl, nI_leI (by omega) (by omega)]; omega) (Ok.neg (by decide) (Ok.pos (by decide) (Ok.neg (by decide) (Ok.pos (by decide) (j53 3001 (by omega))))))
      · rw [decide_eq_false c2, show cdS (kdP T n s.2.1) = none by unfold cdS; rw [if_neg c, if_neg c2]]
        show Ok _ (pok T n s h)
        by_cases c9 : 900 ≤ i
        · exact Ok.pos (by rw [show (900 : Int32) = nI 900 from rfl, nI_leI (by omega) (by omega)]; exact c9) (Ok.ask (b01 (Or.inr rfl)) (Ok.some me))
        · exact Ok.neg (by rw [show (900 : Int32) = nI 900 from rfl, nI_leI (by omega) (by omega)]; exact c9) (Ok.neg (by decide) (Ok.pos (by decide) (Ok.pos (by decide) (Ok.ask (b01 (Or.inr rfl)) (Ok.some me)))))
theorem c_rdSum {T : Nat → Nat} {n d D : Nat} {R : Nat → Int32 → abJ → Option (Int32 × abJ)} {B : PsT → PsT} (hB : grd n false D B) (hc : crd T n (R 1 (nI d)) B) : crd T n (bX6_readSum R (nI d)) (fun s => plp (kdP T n) (kN T n) cdS B 901 (B s)) := by
  intro s h hs hP
  unfold bX6_readSum
  refine Ok.bind (hc s h hs hP) (fun r hr => ?_)
  have lp := gr_lp (kgn T n) cdk_S hB 901 (B s)
  cases e : (B s).1 with
  | none =>
    obtain ⟨q1, q2⟩ := hr.2.1 e
    rw [q1]
    exact (c_lpSum hB hc 901 ab_N 0 (B s) r.2 e q2 (by omega) (Nat.zero_le _) (by unfold ab_N; omega)).mono (fun r' hr' => pok_t hr.1 hr')
  | some x =>
    obtain ⟨q1, q2, q3⟩ := hr.2.2 x e
    have hx' : (B s).1 ≠ none := by rw [e]; exact fun w => by cases w
    rw [q1, show ab_N = 999999 + 1 from rfl, fX6_readSum_L8]
    show Ok _ (pok T n (plp (kdP T n) (kN T n) cdS B 901 (B s)) h)
    rw [lp.1 hx']
    exact Ok.neg (by decide) (Ok.pos rfl (Ok.ask (b01 (Or.inl rfl)) (Ok.some ⟨hr.1, fun w => absurd w hx', fun y hy => by
      rw [e] at hy
      have hy := Option.some.inj hy
      subst hy
      exact ⟨rfl, q2, q3⟩⟩)))
/-- what stands alone -/
def lfv (T : Nat → Nat) (n a : Nat) : Int32 := if kdP T n a = 23 then nI (kVl T n a) else match lfc (kdP T n a) with | some c => cc c | none => -14
theorem c_leaf {T : Nat → Nat} {n : Nat} {s : PsT} {h : abJ} (hP : PC T n s h) : fX6_leafHere h = some (lfv T n s.2.1) := by
  have e11 : fX6_is 1000011 h = some (bI (decide (kdP T n s.2.1 = 13))) := c_isP (j := 11) hP (by omega) (by omega)
  have e5 : fX6_is 1000005 h = some (bI (decide (kdP T n s.2.1 = 3))) := c_isP (j := 5) hP (by omega) (by omega)
  have e12 : fX6_is 1000012 h = some (bI (decide (kdP T n s.2.1 = 14))) := c_isP (j := 12) hP (by omega) (by omega)
  have e8 : fX6_is 1000008 h = some (bI (decide (kdP T n s.2.1 = 6))) := c_isP (j := 8) hP (by omega) (by omega)
  obtain ⟨t1, t2, t3, t4, t5⟩ := hP.2.1
  unfold fX6_leafHere lfv
  rw [t4, e11, ab_bindS, e5, ab_bindS, e12, ab_bindS, e8, ab_bindS]
  by_cases c : kdP T n s.2.1 = 23
  · rw [if_pos c, c, if_pos (by decide), t5 c]
    unfold kVl
    rw [if_pos c]
  · have ec : ¬ nI (ck (kdP T n s.2.1)) = 2 := by
      unfold ck
      split
      · decide
      · split
        · decide
        · decide
    rw [if_neg c, if_neg ec]
    unfold lfc
    by_cases c1 : kdP T n s.2.1 = 13
    · rw [if_pos c1, decide_eq_true c1, if_neg (by decide)]; rfl
    rw [if_neg c1, decide_eq_false c1, if_pos (by decide)]
    by_cases c2 : kdP T n s.2.1 = 3
    · rw [if_pos c2, decide_eq_true c2, if_neg (by decide)]; rfl
    rw [if_neg c2, decide_eq_false c2, if_pos (by decide)]
    by_cases c3 : kdP T n s.2.1 = 14
    · rw [if_pos c3, decide_eq_true c3, if_neg (by decide)]; rfl
    rw [if_neg c3, decide_eq_false c3, if_pos (by decide)]
    by_cases c4 : kdP T n s.2.1 = 6
    · rw [if_pos c4, decide_eq_true c4, if_neg (by decide)]; rfl
    · rw [if_neg c4, decide_eq_false c4, if_pos (by decide)]
theorem pCN {N : Nat → Nat} {c : Nat} {s : PsT} (hs : s.1 = none) : pN N (pC c s) = pC c (pN N s) := by
  unfold pC pN
  rw [if_pos hs, if_pos hs]
theorem c_rdAtom {T : Nat → Nat} {n d D : Nat} {R : Nat → Int32 → abJ → Option (Int32 × abJ)} {S0 R0 : PsT → PsT} (hd : d ≤ 6) (hS : d < 6 → grd n false D S0 ∧ crd T n (R 0 (nI (d + 1))) S0) (hR : d < 6 → grd n true D R0 ∧ crd T n (R 3 (nI (d + 1))) R0) : crd T n (bX6_readAtom R (nI d)) (pA (kdP T n) (kN T n) (kVl T n) (decide (d < 6)) S0 R0) := by
  intro s h hs hP
  have h2 := hP.2.2.1
  have h6 := hP.2.2.2.2.2.1
  have e13 : fX6_is 1000013 h = some (bI (decide (kdP T n s.2.1 = 35))) := c_isP (j := 13) hP (by omega) (by omega)
  have e15 : fX6_is 1000015 h = some (bI (decide (kdP T n s.2.1 = 9))) := c_isP (j := 15) hP (by omega) (by omega)
  have leaf : ∀ c, c < 1004 → kdP T n s.2.1 ≠ 24 → Ok ((fX6_advance h).bind (fun r30 => (fX6_emit (cc c) r30).bind (fun r31 => ab_ask (¬ (r31.1 = 0 ∨ r31.1 = 1)) (some (r31.1, r31.2))))) (pok T n (pN (kN T n) (pC c s)) h) := by
    intro c hc hk
    rw [pCN hs]
    have hk2 := pK_N (s := s) (kgn T n) h2 hk
    refine Ok.bind (c_next hP hk) (fun h1 hr => Ok.bind (c_emit (c := c) (s := pN (kN T n) s) hs hr.1 (by have := hk2.1; show s.2.2.length < _; omega)) (fun r hr2 => Ok.ask (b01 (pok_b hr2)) (Ok.some (pok_t hr.2 hr2))))
  unfold bX6_readAtom pA
  rw [c_leaf hP, ab_bindS, e13, ab_bindS, e15, ab_bindS, if_pos hs, nI_1]
  by_cases c1 : kdP T n s.2.1 = 23
  · have hv := kVl_b T n s.2.1
    have el : lfv T n s.2.1 = cc (kVl T n s.2.1) := by unfold lfv cc; rw [if_pos c1, if_pos hv]
    have le : ¬ cc (kVl T n s.2.1) ≤ -5 := by
      have := (v_leaf (w := fun _ => 0) (h := (fun _ _ => 0, fun _ _ => 0)) ⟨rfl, rfl, rfl, rfl⟩ (show kVl T n s.2.1 < 1004 by omega)).2
      exact this
    rw [if_pos c1, el]
    exact Ok.neg le (leaf _ (by omega) (by omega))
  rw [if_neg c1]
  cases e : lfc (kdP T n s.2.1) with
  | some c =>
    obtain ⟨b1, b2⟩ := lfc_b e
    have el : lfv T n s.2.1 = cc c := by unfold lfv; rw [if_neg c1, e]
    have le : ¬ cc c ≤ -5 := (v_leaf (w := fun _ => 0) (h := (fun _ _ => 0, fun _ _ => 0)) ⟨rfl, rfl, rfl, rfl⟩ b1).2
    rw [el]
    exact Ok.neg le (leaf c b1 b2)
  | none =>
    have el : lfv T n s.2.1 = -14 := by unfold lfv; rw [if_neg c1, e]
    rw [el]
    dsimp only
    refine Ok.pos (by decide) ?_
    by_cases c2 : kdP T n s.2.1 = 35
    · rw [if_pos c2, decide_eq_true c2]
      refine Ok.neg (by decide) ?_
      have ho := c_open (d := d) hd hs hP (by omega)
      have hk2 := pK_N (s := s) (kgn T n) h2 (by omega)
      by_cases co : d < 6
      · rw [if_pos co] at ho
        rw [decide_eq_true co, if_pos rfl]
        obtain ⟨g1, g2⟩ := hS co
        refine c_seq ho (fun w => absurd hs w) (fun h1 _ hP1 => ?_)
        refine c_seq (g2 (pN (kN T n) s) h1.2 hs hP1) (fun w => pE_x w) (fun h3 w hP3 => ?_)
        exact c_seq (c_take2 (j := 14) (by omega) (by omega) _ h3.2 w hP3) (fun _ => rfl) (fun h4 w4 hP4 => c_one w4 hP4)
      · rw [if_neg co] at ho
        rw [decide_eq_false co, if_neg (by decide)]
        exact c_seq ho (fun _ => rfl) (fun h1 w _ => absurd w pF_x)
    · rw [if_neg c2, decide_eq_false c2]
      refine Ok.pos (by decide) ?_
      by_cases c3 : kdP T n s.2.1 = 9
      · rw [if_pos c3, decide_eq_true c3]
        refine Ok.neg (by decide) ?_
        have ho := c_open (d := d) hd hs hP (by omega)
        have hk2 := pK_N (s := s) (kgn T n) h2 (by omega)
        by_cases co : d < 6
        · rw [if_pos co] at ho
          rw [decide_eq_true co, if_pos rfl]
          obtain ⟨g1, g2⟩ := hS co
          obtain ⟨r1, r2⟩ := hR co
          have t24 : crd T n (fX6_take 1000024) (pE (kdP T n) (kN T n) 10) := c_take2 (j := 24) (by omega) (by omega)
          have t25 : crd T n (fX6_take 1000025) (pE (kdP T n) (kN T n) 11) := c_take2 (j := 25) (by omega) (by omega)
          have t26 : crd T n (fX6_take 1000026) (pE (kdP T n) (kN T n) 12) := c_take2 (j := 26) (by omega) (by omega)
          have x7 : ∀ {u : PsT}, u.1 ≠ none → pC 3009 u = u := fun w => pC_x w
          have x6 : ∀ {u : PsT}, u.1 ≠ none → pC 3009 (pE (kdP T n) (kN T n) 12 u) = u := fun w => by rw [pE_x w, x7 w]
          have x5 : ∀ {u : PsT}, u.1 ≠ none → pC 3009 (pE (kdP T n) (kN T n) 12 (S0 u)) = u := fun w => by rw [g1.1 _ w, x6 w]
          have x4 : ∀ {u : PsT}, u.1 ≠ none → pC 3009 (pE (kdP T n) (kN T n) 12 (S0 (pE (kdP T n) (kN T n) 11 u))) = u := fun w => by rw [pE_x w, x5 w]
          have x3 : ∀ {u : PsT}, u.1 ≠ none → pC 3009 (pE (kdP T n) (kN T n) 12 (S0 (pE (kdP T n) (kN T n) 11 (S0 u)))) = u := fun w => by rw [g1.1 _ w, x4 w]
          have x2 : ∀ {u : PsT}, u.1 ≠ none → pC 3009 (pE (kdP T n) (kN T n) 12 (S0 (pE (kdP T n) (kN T n) 11 (S0 (pE (kdP T n) (kN T n) 10 u))))) = u := fun w => by rw [pE_x w, x3 w]
          refine c_seq ho (fun w => absurd hs w) (fun h1 _ hP1 => ?_)
          refine c_seq (r2 (pN (kN T n) s) h1.2 hs hP1) (fun w => x2 w) (fun h3 w3 hP3 => ?_)
          refine c_seq (t24 _ h3.2 w3 hP3) (fun w => x3 w) (fun h4 w4 hP4 => ?_)
          refine c_seq (g2 _ h4.2 w4 hP4) (fun w => x4 w) (fun h5 w5 hP5 => ?_)
          refine c_seq (t25 _ h5.2 w5 hP5) (fun w => x5 w) (fun h6' w6 hP6 => ?_)
          refine c_seq (g2 _ h6'.2 w6 hP6) (fun w => x6 w) (fun h7 w7 hP7 => ?_)
          refine c_seq (t26 _ h7.2 w7 hP7) (fun w => x7 w) (fun h8 w8 hP8 => ?_)
          have k3 := slk_g (r1.2 (pN (kN T n) s) hs hk2.2.1 w3)
          have k4 := slk_E (T := T) (k := 10) (by omega) k3.2.2 w4
          have k5 := slk_g (g1.2 _ w4 k4.2.2 w5)
          have k6 := slk_E (T := T) (k := 11) (by omega) k5.2.2 w6
          have k7 := slk_g (g1.2 _ w6 k6.2.2 w7)
          have k8 := slk_E (T := T) (k := 12) (by omega) k7.2.2 w8
          have k1 := hk2.1
          have ec : (pN (kN T n) s).2.2 = s.2.2 := rfl
          unfold slk at k3 k4 k5 k6 k7 k8
          rw [ec] at k3
          exact c_seq (c_emit (c := 3009) w8 hP8 (by omega)) (fun _ => rfl) (fun h9 w9 hP9 => c_one w9 hP9)
        · rw [if_neg co] at ho
          rw [decide_eq_false co, if_neg (by decide)]
          exact c_seq ho (fun _ => rfl) (fun h1 w _ => absurd w pF_x)
      · rw [if_neg c3, decide_eq_false c3]
        exact Ok.pos (by decide) (c_wrongA (f := 2) hs hP)
theorem c_rdComp {T : Nat → Nat} {n d D : Nat} {R : Nat → Int32 → abJ → Option (Int32 × abJ)} {S : PsT → PsT} (hB : grd n false D S) (hc : crd T n (R 0 (nI d)) S) : crd T n (bX6_readComparison R (nI d)) (pQ (kdP T n) (kN T n) S) := by
  intro s h hs hP
  have h2 := hP.2.2.1
  have e19 : fX6_is 1000019 h = some (bI (decide (kdP T n s.2.1 = 39))) := c_isP (j := 19) hP (by omega) (by omega)
  have e20 : fX6_is 1000020 h = some (bI (decide (kdP T n s.2.1 = 40))) := c_isP (j := 20) hP (by omega) (by omega)
  have e21 : fX6_is 1000021 h = some (bI (decide (kdP T n s.2.1 = 41))) := c_isP (j := 21) hP (by omega) (by omega)
  have go : ∀ c, kdP T n s.2.1 ≠ 24 → Ok ((fX6_advance h).bind (fun r6 => (R 0 (nI d) r6).bind (fun r7 => if r7.1 = 0 then some (0, r7.2) else (fX6_emit (cc c) r7.2).bind (fun r9 => if r9.1 = 0 then some (0, r9.2) else some (1, r9.2))))) (pok T n (pC c (S (pN (kN T n) s))) h) := by
    intro c hk
    refine c_thenE (c := c) (F := fun h => some (0, h)) (G := fun h => some (1, h)) hB hc hs hP hk (fun h' x hx hf q1 q2 => Ok.some ⟨hf, fun w => (by rw [hx] at w; cases w), fun y hy => ?_⟩) (fun h' hx hf hP' => Ok.some ⟨hf, fun _ => ⟨rfl, hP'⟩, fun y hy => by rw [hx] at hy; cases hy⟩)
    rw [hx] at hy
    have hy := Option.some.inj hy
    subst hy
    exact ⟨rfl, q1, q2⟩
  unfold bX6_readComparison fX6_readComparison_J30 pQ
  rw [e19, ab_bindS, e20, ab_bindS, e21, ab_bindS, if_pos hs]
  by_cases c1 : kdP T n s.2.1 = 39
  · rw [decide_eq_true c1, show cdC (kdP T n s.2.1) = some 3003 by rw [c1]; rfl]
    exact Ok.neg (by decide) (Ok.neg (by decide) (go 3003 (by omega)))
  rw [decide_eq_false c1]
  refine Ok.pos (by decide) ?_
  by_cases c2 : kdP T n s.2.1 = 40
  · rw [decide_eq_true c2, show cdC (kdP T n s.2.1) = some 3004 by rw [c2]; rfl]
    exact Ok.neg (by decide) (Ok.neg (by decide) (go 3004 (by omega)))
  rw [decide_eq_false c2]
  refine Ok.pos (by decide) (Ok.pos (by decide) ?_)
  by_cases c3 : kdP T n s.2.1 = 41
  · rw [decide_eq_true c3, show cdC (kdP T n s.2.1) = some 3005 by rw [c3]; rfl]
    exact Ok.neg (by decide) (go 3005 (by omega))
  · rw [decide_eq_false c3, show cdC (kdP T n s.2.1) = none by unfold cdC; rw [if_neg c1, if_neg c2, if_neg c3]]
    exact Ok.pos (by decide) (c_wrongA (f := 2) hs hP)
theorem pQ_x {K N : Nat → Nat} {S : PsT → PsT} {s : PsT} (h : s.1 ≠ none) : pQ K N S s = s := by unfold pQ; rw [if_neg h]
theorem c_rdUnit {T : Nat → Nat} {n d D : Nat} {R : Nat → Int32 → abJ → Option (Int32 × abJ)} {S R0 U0 : PsT → PsT} (hd : d ≤ 6) (hS : grd n false D S ∧ crd T n (R 0 (nI d)) S) (hQ : crd T n (R 6 (nI d)) (pQ (kdP T n) (kN T n) S)) (hR : d < 6 → grd n true D R0 ∧ crd T n (R 3 (nI (d + 1))) R0) (hU : d < 6 → grd n true D U0 ∧ crd T n (R 5 (nI (d + 1))) U0) : crd T n (bX6_readUnit R (nI d)) (pUn (kdP T n) (kN T n) (decide (d < 6)) S R0 U0) := by
  intro s h hs hP
  have h2 := hP.2.2.1
  have h6 := hP.2.2.2.2.2.1
  have e16 : fX6_is 1000016 h = some (bI (decide (kdP T n s.2.1 = 17))) := c_isP (j := 16) hP (by omega) (by omega)
  have e17 : fX6_is 1000017 h = some (bI (decide (kdP T n s.2.1 = 37))) := c_isP (j := 17) hP (by omega) (by omega)
  unfold bX6_readUnit pUn
  rw [e16, ab_bindS, e17, ab_bindS, if_pos hs, nI_1]
  by_cases c1 : kdP T n s.2.1 = 17
  · rw [if_pos c1, decide_eq_true c1]
    refine Ok.neg (by decide) ?_
    have ho := c_open (d := d) hd hs hP (by omega)
    have hk2 := pK_N (s := s) (kgn T n) h2 (by omega)
    by_cases co : d < 6
    · rw [if_pos co] at ho
      rw [decide_eq_true co, if_pos rfl]
      obtain ⟨g1, g2⟩ := hU co
      refine c_seq ho (fun w => absurd hs w) (fun h1 _ hP1 => ?_)
      refine c_seq (g2 (pN (kN T n) s) h1.2 hs hP1) (fun w => pC_x w) (fun h3 w3 hP3 => ?_)
      have k3 := slk_g (g1.2 (pN (kN T n) s) hs hk2.2.1 w3)
      have k1 := hk2.1
      have ec : (pN (kN T n) s).2.2 = s.2.2 := rfl
      unfold slk at k3
      rw [ec] at k3
      exact c_seq (c_emit (c := 3006) w3 hP3 (by omega)) (fun _ => rfl) (fun h9 w9 hP9 => c_one w9 hP9)
    · rw [if_neg co] at ho
      rw [decide_eq_false co, if_neg (by decide)]
      exact c_seq ho (fun _ => rfl) (fun h1 w _ => absurd w pF_x)
  rw [if_neg c1, decide_eq_false c1]
  refine Ok.pos (by decide) ?_
  by_cases c2 : kdP T n s.2.1 = 37
  · rw [if_pos c2, decide_eq_true c2]
    refine Ok.neg (by decide) ?_
    have ho := c_open (d := d) hd hs hP (by omega)
    have t18 : crd T n (fX6_take 1000018) (pE (kdP T n) (kN T n) 38) := c_take2 (j := 18) (by omega) (by omega)
    by_cases co : d < 6
    · rw [if_pos co] at ho
      rw [decide_eq_true co, if_pos rfl]
      obtain ⟨g1, g2⟩ := hR co
      refine c_seq ho (fun w => absurd hs w) (fun h1 _ hP1 => ?_)
      refine c_seq (g2 (pN (kN T n) s) h1.2 hs hP1) (fun w => pE_x w) (fun h3 w hP3 => ?_)
      exact c_seq (t18 _ h3.2 w hP3) (fun _ => rfl) (fun h4 w4 hP4 => c_one w4 hP4)
    · rw [if_neg co] at ho
      rw [decide_eq_false co, if_neg (by decide)]
      exact c_seq ho (fun _ => rfl) (fun h1 w _ => absurd w pF_x)
  rw [if_neg c2, decide_eq_false c2]
  refine Ok.pos (by decide) ?_
  refine c_seq (hS.2 s h hs hP) (fun w => pQ_x w) (fun h1 w1 hP1 => ?_)
  exact c_seq (hQ _ h1.2 w1 hP1) (fun _ => rfl) (fun h4 w4 hP4 => c_one w4 hP4)
/-- all of them, by how many may still stand within one another -/
theorem c_lv {T : Nat → Nat} {n : Nat} : ∀ (e d f : Nat), d + e = 6 → crd T n (fPX6 (f + 7 * e + 3) 0 (nI d)) (pLv (kdP T n) (kN T n) (kVl T n) e).1 ∧ crd T n (fPX6 (f + 7 * e + 7) 3 (nI d)) (pLv (kdP T n) (kN T n) (kVl T n) e).2.1 ∧ crd T n (fPX6 (f + 7 * e + 5) 5 (nI d)) (pLv (kdP T n) (kN T n) (kVl T n) e).2.2 := by
  intro e
  induction e with
  | zero =>
    intro d f hd
    have ed : d = 6 := by omega
    subst ed
    have op : decide (6 < 6) = false := rfl
    have hA : grd n false 1 (pA (kdP T n) (kN T n) (kVl T n) false id id) := gr_A (kgn T n) (by omega) (fun q => by cases q) (fun q => by cases q)
    have cA : ∀ f, crd T n (fPX6 (f + 1) 2 (nI 6)) (pA (kdP T n) (kN T n) (kVl T n) false id id) := fun f => c_rdAtom (D := 1) (R := fPX6 f) (S0 := id) (R0 := id) (by omega) (fun q => by omega) (fun q => by omega)
    have hT : grd n false 2 (fun s => plp (kdP T n) (kN T n) cdT (pA (kdP T n) (kN T n) (kVl T n) false id id) 901 (pA (kdP T n) (kN T n) (kVl T n) false id id s)) := gr_l (kgn T n) cdk_T hA 901
    have cT : ∀ f, crd T n (fPX6 (f + 2) 1 (nI 6)) (fun s => plp (kdP T n) (kN T n) cdT (pA (kdP T n) (kN T n) (kVl T n) false id id) 901 (pA (kdP T n) (kN T n) (kVl T n) false id id s)) := fun f => c_rdTerm (R := fPX6 (f + 1)) hA (cA f)
    have hS : grd n false 3 (pS (kdP T n) (kN T n) (kVl T n) false id id) := gr_S (kgn T n) hA
    have cS : ∀ f, crd T n (fPX6 (f + 3) 0 (nI 6)) (pS (kdP T n) (kN T n) (kVl T n) false id id) := fun f => c_rdSum (R := fPX6 (f + 2)) hT (cT f)
    have cQ : ∀ f, crd T n (fPX6 (f + 4) 6 (nI 6)) (pQ (kdP T n) (kN T n) (pS (kdP T n) (kN T n) (kVl T n) false id id)) := fun f => c_rdComp (R := fPX6 (f + 3)) hS (cS f)
    have hU : grd n true 4 (pUn (kdP T n) (kN T n) false (pS (kdP T n) (kN T n) (kVl T n) false id id) id id) := gr_U (kgn T n) hS (by omega) (fun q => by cases q) (fun q => by cases q)
    have cU : ∀ f, crd T n (fPX6 (f + 5) 5 (nI 6)) (pUn (kdP T n) (kN T n) false (pS (kdP T n) (kN T n) (kVl T n) false id id) id id) := fun f => c_rdUnit (D := 3) (R := fPX6 (f + 4)) (R0 := id) (U0 := id) (by omega) ⟨hS, cS (f + 1)⟩ (cQ f) (fun q => by omega) (fun q => by omega)
    have hB : grd n true 5 (fun s => plp (kdP T n) (kN T n) cdB (pUn (kdP T n) (kN T n) false (pS (kdP T n) (kN T n) (kVl T n) false id id) id id) 901 (pUn (kdP T n) (kN T n) false (pS (kdP T n) (kN T n) (kVl T n) false id id) id id s)) := gr_l (kgn T n) cdk_B hU 901
    have cB : ∀ f, crd T n (fPX6 (f + 6) 4 (nI 6)) (fun s => plp (kdP T n) (kN T n) cdB (pUn (kdP T n) (kN T n) false (pS (kdP T n) (kN T n) (kVl T n) false id id) id id) 901 (pUn (kdP T n) (kN T n) false (pS (kdP T n) (kN T n) (kVl T n) false id id) id id s)) := fun f => c_rdBoth (R := fPX6 (f + 5)) hU (cU f)
    exact ⟨cS f, c_rdTruth (R := fPX6 (f + 6)) hB (cB f), cU f⟩
  | succ e ih =>
    intro d f hd
    have op : decide (d < 6) = true := decide_eq_true (by omega)
    obtain ⟨l1, l2, l3⟩ := gr_Lv (kgn T n) e
    have i1 : ∀ f, crd T n (fPX6 (f + 7 * e + 3) 0 (nI (d + 1))) (pLv (kdP T n) (kN T n) (kVl T n) e).1 := fun f => (ih (d + 1) f (by omega)).1
    have i2 : ∀ f, crd T n (fPX6 (f + 7 * e + 7) 3 (nI (d + 1))) (pLv (kdP T n) (kN T n) (kVl T n) e).2.1 := fun f => (ih (d + 1) f (by omega)).2.1
    have i3 : ∀ f, crd T n (fPX6 (f + 7 * e + 5) 5 (nI (d + 1))) (pLv (kdP T n) (kN T n) (kVl T n) e).2.2 := fun f => (ih (d + 1) f (by omega)).2.2
    have hA : grd n false (6 + 5 * e) (pA (kdP T n) (kN T n) (kVl T n) true (pLv (kdP T n) (kN T n) (kVl T n) e).1 (pLv (kdP T n) (kN T n) (kVl T n) e).2.1) := gr_A (kgn T n) (by omega) (fun _ => ⟨grd_m l1 (by omega), by omega⟩) (fun _ => grd_m l2 (by omega))
    have cA : ∀ f, crd T n (fPX6 (f + 7 * e + 8) 2 (nI d)) (pA (kdP T n) (kN T n) (kVl T n) true (pLv (kdP T n) (kN T n) (kVl T n) e).1 (pLv (kdP T n) (kN T n) (kVl T n) e).2.1) := fun f => by
      have := c_rdAtom (d := d) (D := 6 + 5 * e) (R := fPX6 (f + 7 * e + 7)) (S0 := (pLv (kdP T n) (kN T n) (kVl T n) e).1) (R0 := (pLv (kdP T n) (kN T n) (kVl T n) e).2.1) (by omega) (fun _ => ⟨grd_m l1 (by omega), by have := i1 (f + 4); rwa [show f + 4 + 7 * e + 3 = f + 7 * e + 7 by omega] at this⟩) (fun _ => ⟨l2, i2 f⟩)
      rw [op] at this
      exact this
    generalize eA : pA (kdP T n) (kN T n) (kVl T n) true (pLv (kdP T n) (kN T n) (kVl T n) e).1 (pLv (kdP T n) (kN T n) (kVl T n) e).2.1 = A at hA cA
    have eS : pS (kdP T n) (kN T n) (kVl T n) true (pLv (kdP T n) (kN T n) (kVl T n) e).1 (pLv (kdP T n) (kN T n) (kVl T n) e).2.1 = fun s => plp (kdP T n) (kN T n) cdS (fun s => plp (kdP T n) (kN T n) cdT A 901 (A s)) 901 (plp (kdP T n) (kN T n) cdT A 901 (A s)) := by unfold pS; rw [eA]
    have hT := gr_l (kgn T n) cdk_T hA 901
    have cT : ∀ f, crd T n (fPX6 (f + 7 * e + 9) 1 (nI d)) (fun s => plp (kdP T n) (kN T n) cdT A 901 (A s)) := fun f => c_rdTerm (R := fPX6 (f + 7 * e + 8)) hA (cA f)
    have hS := gr_l (kgn T n) cdk_S hT 901
    have cS : ∀ f, crd T n (fPX6 (f + 7 * e + 10) 0 (nI d)) (fun s => plp (kdP T n) (kN T n) cdS (fun s => plp (kdP T n) (kN T n) cdT A 901 (A s)) 901 (plp (kdP T n) (kN T n) cdT A 901 (A s))) := fun f => c_rdSum (R := fPX6 (f + 7 * e + 9)) hT (cT f)
    rw [← eS] at hS
    simp only [← eS] at cS
    generalize eS2 : pS (kdP T n) (kN T n) (kVl T n) true (pLv (kdP T n) (kN T n) (kVl T n) e).1 (pLv (kdP T n) (kN T n) (kVl T n) e).2.1 = S at hS cS
    have cQ : ∀ f, crd T n (fPX6 (f + 7 * e + 11) 6 (nI d)) (pQ (kdP T n) (kN T n) S) := fun f => c_rdComp (R := fPX6 (f + 7 * e + 10)) hS (cS f)
    have hU : grd n true (9 + 5 * e) (pUn (kdP T n) (kN T n) true S (pLv (kdP T n) (kN T n) (kVl T n) e).2.1 (pLv (kdP T n) (kN T n) (kVl T n) e).2.2) := gr_U (kgn T n) (grd_m hS (by omega)) (by omega) (fun _ => grd_m l2 (by omega)) (fun _ => grd_m l3 (by omega))
    have cU : ∀ f, crd T n (fPX6 (f + 7 * e + 12) 5 (nI d)) (pUn (kdP T n) (kN T n) true S (pLv (kdP T n) (kN T n) (kVl T n) e).2.1 (pLv (kdP T n) (kN T n) (kVl T n) e).2.2) := fun f => by
      have := c_rdUnit (d := d) (D := 9 + 5 * e) (R := fPX6 (f + 7 * e + 11)) (R0 := (pLv (kdP T n) (kN T n) (kVl T n) e).2.1) (U0 := (pLv (kdP T n) (kN T n) (kVl T n) e).2.2) (by omega) ⟨grd_m hS (by omega), by have := cS (f + 1); rwa [show f + 1 + 7 * e + 10 = f + 7 * e + 11 by omega] at this⟩ (cQ f) (fun _ => ⟨grd_m l2 (by omega), by have := i2 (f + 4); rwa [show f + 4 + 7 * e + 7 = f + 7 * e + 11 by omega] at this⟩) (fun _ => ⟨grd_m l3 (by omega), by have := i3 (f + 6); rwa [show f + 6 + 7 * e + 5 = f + 7 * e + 11 by omega] at this⟩)
      rw [op] at this
      exact this
    have hB := gr_l (kgn T n) cdk_B hU 901
    have cB : ∀ f, crd T n (fPX6 (f + 7 * e + 13) 4 (nI d)) (fun s => plp (kdP T n) (kN T n) cdB (pUn (kdP T n) (kN T n) true S (pLv (kdP T n) (kN T n) (kVl T n) e).2.1 (pLv (kdP T n) (kN T n) (kVl T n) e).2.2) 901 (pUn (kdP T n) (kN T n) true S (pLv (kdP T n) (kN T n) (kVl T n) e).2.1 (pLv (kdP T n) (kN T n) (kVl T n) e).2.2 s)) := fun f => c_rdBoth (R := fPX6 (f + 7 * e + 12)) hU (cU f)
    have cR : ∀ f, crd T n (fPX6 (f + 7 * e + 14) 3 (nI d)) (pR (kdP T n) (kN T n) (pUn (kdP T n) (kN T n) true S (pLv (kdP T n) (kN T n) (kVl T n) e).2.1 (pLv (kdP T n) (kN T n) (kVl T n) e).2.2)) := fun f => c_rdTruth (R := fPX6 (f + 7 * e + 13)) hB (cB f)
    have z := cS f
    have z2 := cR f
    have z3 := cU f
    rw [← eS2] at z z2 z3
    refine ⟨?_, ?_, ?_⟩
    · rw [show f + 7 * (e + 1) + 3 = f + 7 * e + 10 by omega]; exact z
    · rw [show f + 7 * (e + 1) + 7 = f + 7 * e + 14 by omega]; exact z2
    · rw [show f + 7 * (e + 1) + 5 = f + 7 * e + 12 by omega]; exact z3
