/-! moor: the class reads all lines. -/
theorem pokL_b {T : Nat → Nat} {n P : Nat} {y : PsT × DrT} {h0 : abJ} {r : Int32 × abJ} (h : pokL T n P y h0 r) : r.1 = nI 0 ∨ r.1 = nI 1 := by
  cases e : y.1.1 with
  | none => exact Or.inr (h.2.1 e).1
  | some x => exact Or.inl (h.2.2 x e).1
theorem b01_s {r : Int32 × abJ} (h : r.1 = nI 0 ∨ r.1 = nI 1) : (if r.1 = 0 then some ((0 : Int32), r.2) else some (1, r.2)) = some r := by
  obtain ⟨a, b⟩ := r
  rcases h with h | h
  · have h : a = nI 0 := h
    subst h; rfl
  · have h : a = nI 1 := h
    subst h
    rw [if_neg (show ¬ nI 1 = 0 by decide)]; rfl
theorem c_lineE {T : Nat → Nat} {n P : Nat} {y : PsT × DrT} {h : abJ} {o : Option (Int32 × abJ)} (ho : Ok o (pokL T n P y h)) : Ok (o.bind (fun r => if r.1 = 0 then some (0, r.2) else (fX6_endLine r.2).bind (fun r2 => if r2.1 = 0 then some (0, r2.2) else some (1, r2.2)))) (pokL T n P (lnE (kdP T n) (kN T n) y) h) := by
  refine Ok.bind ho (fun r hr => ?_)
  cases e : y.1.1 with
  | none =>
    obtain ⟨q1, q2, q3⟩ := hr.2.1 e
    rw [q1]
    refine Ok.neg (by decide) (Ok.bind (c_endLn (s := y.1) (x := y.2) e q2 q3) (fun r2 hr2 => ?_))
    rw [b01_s (pokL_b hr2)]
    exact Ok.some (pokL_t hr.1 hr2)
  | some z =>
    obtain ⟨q1, q2, q3⟩ := hr.2.2 z e
    have hne : y.1.1 ≠ none := by rw [e]; exact fun w => by cases w
    have e1 : (lnE (kdP T n) (kN T n) y).1 = y.1 := pE_x hne
    rw [q1]
    refine Ok.pos rfl (Ok.some ⟨hr.1, fun w => ?_, fun z' hz => ?_⟩)
    · rw [e1] at w; exact absurd w hne
    · rw [e1, e] at hz
      have hz := Option.some.inj hz
      subst hz
      exact ⟨rfl, q2, q3⟩
theorem c_seqY {T : Nat → Nat} {n P : Nat} {s1 : PsT} {y : PsT × DrT} {h : abJ} {o : Option (Int32 × abJ)} {G : Int32 × abJ → Option (Int32 × abJ)} (h1 : Ok o (pok T n s1 h)) (hx : s1.1 ≠ none → y.1 = s1) (h2 : ∀ r : Int32 × abJ, s1.1 = none → PC T n s1 r.2 → fL h r.2 → Ok (G r) (pokL T n P y r.2)) : Ok (o.bind (fun r => if r.1 = 0 then some (0, r.2) else G r)) (pokL T n P y h) := by
  refine Ok.bind h1 (fun r hr => ?_)
  cases e : s1.1 with
  | none =>
    obtain ⟨q1, q2⟩ := hr.2.1 e
    rw [q1]
    exact Ok.neg (by decide) ((h2 r e q2 hr.1).mono (fun r' hr' => pokL_t (fDr_L hr.1) hr'))
  | some z =>
    obtain ⟨q1, q2, q3⟩ := hr.2.2 z e
    have hne : s1.1 ≠ none := by rw [e]; exact fun w => by cases w
    have e1 := hx hne
    rw [q1]
    refine Ok.pos rfl (Ok.some ⟨fDr_L hr.1, fun w => ?_, fun z' hz => ?_⟩)
    · rw [e1] at w; exact absurd w hne
    · rw [e1, e] at hz
      have hz := Option.some.inj hz
      subst hz
      exact ⟨rfl, q2, q3⟩
theorem c_takeY {T : Nat → Nat} {n P v : Nat} {s1 : PsT} {y : PsT × DrT} {h : abJ} {o : Option (Int32 × abJ)} {G : Int32 × abJ → Option (Int32 × abJ)} (hv : v < 1000) (h1 : Ok o (pokN T n v s1 h)) (hx : s1.1 ≠ none → y.1 = s1) (h2 : ∀ r : Int32 × abJ, s1.1 = none → r.1 = nI v → PC T n s1 r.2 → fL h r.2 → Ok (G r) (pokL T n P y r.2)) : Ok (o.bind (fun r => if r.1 = -1 then some (0, r.2) else G r)) (pokL T n P y h) := by
  refine Ok.bind h1 (fun r hr => ?_)
  cases e : s1.1 with
  | none =>
    obtain ⟨q1, q2⟩ := hr.2.1 e
    exact Ok.neg (by rw [q1]; exact v_n1 hv) ((h2 r e q1 q2 hr.1).mono (fun r' hr' => pokL_t (fDr_L hr.1) hr'))
  | some z =>
    obtain ⟨q1, q2, q3⟩ := hr.2.2 z e
    have hne : s1.1 ≠ none := by rw [e]; exact fun w => by cases w
    have e1 := hx hne
    refine Ok.pos q1 (Ok.some ⟨fDr_L hr.1, fun w => ?_, fun z' hz => ?_⟩)
    · rw [e1] at w; exact absurd w hne
    · rw [e1, e] at hz
      have hz := Option.some.inj hz
      subst hz
      exact ⟨rfl, q2, q3⟩
theorem c_rdLine {T : Nat → Nat} {n P : Nat} {s : PsT} {x : DrT} {h : abJ} (hs : s.1 = none) (hP : PC T n s h) (hD : DC P x h) (hO : DO P x) (hk : kdP T n s.2.1 ≠ 24) : Ok (fX6_readLine h) (pokL T n P (lnE (kdP T n) (kN T n) (ln1 (kdP T n) (kN T n) (kVl T n) P s x)) h) := by
  have adv : ∀ {g : abJ → Option (Int32 × abJ)} {y : PsT × DrT}, (∀ h1, PC T n (pN (kN T n) s) h1 → DC P x h1 → Ok (g h1) (pokL T n P y h1)) → Ok ((fX6_advance h).bind g) (pokL T n P y h) := fun hg => Ok.bind (c_next hP hk) (fun h1 hr => (hg h1 hr.1 (fL_DC hD hr.2)).mono (fun r hr2 => pokL_t (fDr_L hr.2) hr2))
  have i4 : fX6_is 1000004 h = some (bI (decide (kdP T n s.2.1 = 2))) := c_isP (j := 4) hP (by omega) (by omega)
  have i5 : fX6_is 1000005 h = some (bI (decide (kdP T n s.2.1 = 3))) := c_isP (j := 5) hP (by omega) (by omega)
  have i6 : fX6_is 1000006 h = some (bI (decide (kdP T n s.2.1 = 4))) := c_isP (j := 6) hP (by omega) (by omega)
  have i7 : fX6_is 1000007 h = some (bI (decide (kdP T n s.2.1 = 5))) := c_isP (j := 7) hP (by omega) (by omega)
  have i8 : fX6_is 1000008 h = some (bI (decide (kdP T n s.2.1 = 6))) := c_isP (j := 8) hP (by omega) (by omega)
  have i9 : fX6_is 1000009 h = some (bI (decide (kdP T n s.2.1 = 7))) := c_isP (j := 9) hP (by omega) (by omega)
  have i30 : fX6_is 1000030 h = some (bI (decide (kdP T n s.2.1 = 8))) := c_isP (j := 30) hP (by omega) (by omega)
  unfold fX6_readLine ln1
  rw [i4, ab_bindS]
  by_cases c4 : kdP T n s.2.1 = 2
  · rw [decide_eq_true c4, if_pos c4]
    exact Ok.neg (by decide) (adv (fun h1 p1 d1 => c_lineE (c_rRoad (s := pN (kN T n) s) hs p1 d1 hO)))
  rw [decide_eq_false c4, if_neg c4, i5, ab_bindS]
  refine Ok.pos rfl ?_
  by_cases c5 : kdP T n s.2.1 = 3
  · rw [decide_eq_true c5, if_pos c5]
    exact Ok.neg (by decide) (adv (fun h1 p1 d1 => c_lineE (c_rArm (s := pN (kN T n) s) hs p1 d1 hO)))
  rw [decide_eq_false c5, if_neg c5, i6, ab_bindS]
  refine Ok.pos rfl ?_
  by_cases c6 : kdP T n s.2.1 = 4
  · rw [decide_eq_true c6, if_pos c6]
    exact Ok.neg (by decide) (adv (fun h1 p1 d1 => c_lineE (c_rHome (s := pN (kN T n) s) hs p1 d1 hO)))
  rw [decide_eq_false c6, if_neg c6, i7, ab_bindS]
  refine Ok.pos rfl ?_
  by_cases c7 : kdP T n s.2.1 = 5
  · rw [decide_eq_true c7, if_pos c7]
    exact Ok.neg (by decide) (adv (fun h1 p1 d1 => c_lineE (c_rWalker (s := pN (kN T n) s) hs p1 d1 hO)))
  rw [decide_eq_false c7, if_neg c7, i8, ab_bindS]
  refine Ok.pos rfl ?_
  by_cases c8 : kdP T n s.2.1 = 6
  · rw [decide_eq_true c8, if_pos c8]
    exact Ok.neg (by decide) (adv (fun h1 p1 d1 => c_lineE (c_rFog (s := pN (kN T n) s) hs p1 d1)))
  rw [decide_eq_false c8, if_neg c8, i9, ab_bindS]
  refine Ok.pos rfl ?_
  by_cases c9 : kdP T n s.2.1 = 7
  · rw [decide_eq_true c9, if_pos c9]
    exact Ok.neg (by decide) (adv (fun h1 p1 d1 => c_lineE (c_rTurns (s := pN (kN T n) s) hs p1 d1)))
  rw [decide_eq_false c9, if_neg c9, i30, ab_bindS]
  refine Ok.pos rfl ?_
  by_cases c30 : kdP T n s.2.1 = 8
  · rw [decide_eq_true c30, if_pos c30]
    exact Ok.neg (by decide) (adv (fun h1 p1 d1 => c_lineE (c_rSticks (s := pN (kN T n) s) hs p1 d1)))
  rw [decide_eq_false c30, if_neg c30]
  refine Ok.pos rfl ((c_wrongA (f := 2) hs hP).mono (fun r hr => ?_))
  have e : lnE (kdP T n) (kN T n) (pF (kdP T n) 2 s, x) = (pF (kdP T n) 2 s, (dN x + 1, x.2)) := by
    unfold lnE
    rw [pE_x (show ((pF (kdP T n) 2 s, x) : PsT × DrT).1.1 ≠ none from pF_x)]
  rw [e]
  exact pokL_f pF_x hr
def pokD (T : Nat → Nat) (n P : Nat) (y : PsT × DrT) (h0 h' : abJ) : Prop := fDr h0 h' ∧ (y.1.1 = none → PC T n y.1 h' ∧ DC P y.2 h') ∧ ∀ x, y.1.1 = some x → h'.1 9 10 = nI x.1 ∧ h'.1 9 11 = nI x.2
theorem lns_x {K N V : Nat → Nat} {P k : Nat} {y : PsT × DrT} (h : y.1.1 ≠ none) : lns K N V P k y = y := by
  cases k with
  | zero => rfl
  | succ k => rw [lns, if_neg h]
theorem lns_24 {K N V : Nat → Nat} {P k : Nat} {y : PsT × DrT} (h : y.1.1 = none) (c : K y.1.2.1 = 24) : lns K N V P k y = y := by
  cases k with
  | zero => rfl
  | succ k => rw [lns, if_pos h, if_pos c]
theorem DI_lns {K N V : Nat → Nat} {n P : Nat} (hg : pgn K N V n) : ∀ (k : Nat) (y : PsT × DrT), (y.1.1 = none → DI n P y) → (lns K N V P k y).1.1 = none → DI n P (lns K N V P k y)
  | 0, y, h, hn => h hn
  | k + 1, y, h, hn => by
    rw [lns] at hn ⊢
    by_cases c : y.1.1 = none
    · rw [if_pos c] at hn ⊢
      by_cases c2 : K y.1.2.1 = 24
      · rw [if_pos c2]; exact h c
      · rw [if_neg c2] at hn ⊢
        exact DI_lns hg k _ (fun w => (DI_ln hg c c2 (h c) w).1) hn
    · rw [if_neg c] at hn; exact absurd hn c
theorem DI_0 {K N V : Nat → Nat} {n a0 : Nat} (hg : pgn K N V n) (ha : a0 ≤ n) (h : (lnE K N (pT K N V 1 7 (pE K N 1 (pE K N 0 (none, a0, []))), dr0)).1.1 = none) : DI n (V (pE K N 1 (pE K N 0 (none, a0, []))).2.1) (lnE K N (pT K N V 1 7 (pE K N 1 (pE K N 0 (none, a0, []))), dr0)) := by
  refine (DI_E (s := (none, a0, [])) hg (fun w => ?_) h).1
  have w : (pT K N V 1 7 (pE K N 1 (pE K N 0 (none, a0, [])))).1 = none := w
  obtain ⟨n1, k1, v0, v1, _⟩ := pT_n w
  have n0 := (pE_n n1).1
  have g1 := pLe_E hg (by omega) ha n0
  have g2 := pLe_E hg (by omega) g1.1.2.1 n1
  have g3 := pLe_T hg g2.1.2.1 w
  have a := pLe_t g1.1 (pLe_t g2.1 g3.1)
  exact ⟨DO_0 v0 (by omega), a.1, a.2.1, Nat.zero_le _, (fun z (hz : none = some z) => by cases hz), (fun z (hz : none = some z) => by cases hz), pLe_l a (Nat.zero_le _)⟩
theorem DI_mrs {K N V : Nat → Nat} {n a0 : Nat} (hg : pgn K N V n) (ha : a0 ≤ n) (h : (mrs K N V a0).2.1.1 = none) : DI n (mrs K N V a0).1 (mrs K N V a0).2 := DI_lns hg 901 _ (fun w => DI_0 hg ha w) h
theorem c_lns {T : Nat → Nat} {n P : Nat} : ∀ (k N i : Nat) (y : PsT × DrT) (h0 : abJ) (r : Int32 × abJ), pokL T n P y h0 r → (y.1.1 = none → DI n P y ∧ 901 ≤ k + y.1.2.1 ∧ i ≤ y.1.2.1) → k + 1 < N → Ok (fX6_read_L61 N r.1 (nI i) r.2) (pokD T n P (lns (kdP T n) (kN T n) (kVl T n) P k y) h0) := by
  intro k
  induction k with
  | zero =>
    intro N i y h0 r hp hI hN
    obtain ⟨N, rfl⟩ : ∃ n0, N = n0 + 1 := ⟨N - 1, by omega⟩
    rw [fX6_read_L61]
    cases e : y.1.1 with
    | some z =>
      have hne : y.1.1 ≠ none := by rw [e]; exact fun w => by cases w
      have fin : pokD T n P y h0 r.2 := ⟨hp.1, fun w => absurd w hne, fun x hx => (hp.2.2 x hx).2⟩
      rw [lns_x hne, (hp.2.2 z e).1]
      exact Ok.ite (fun _ => Ok.some fin) (fun _ => Ok.pos rfl (Ok.some fin))
    | none =>
      obtain ⟨q1, q2, q3⟩ := hp.2.1 e
      obtain ⟨i1, i2, i3⟩ := hI e
      have := q2.1.1
      have := i1.2.1
      omega
  | succ k ih =>
    intro N i y h0 r hp hI hN
    obtain ⟨N, rfl⟩ : ∃ n0, N = n0 + 1 := ⟨N - 1, by omega⟩
    rw [fX6_read_L61]
    cases e : y.1.1 with
    | some z =>
      have hne : y.1.1 ≠ none := by rw [e]; exact fun w => by cases w
      have fin : pokD T n P y h0 r.2 := ⟨hp.1, fun w => absurd w hne, fun x hx => (hp.2.2 x hx).2⟩
      rw [lns_x hne, (hp.2.2 z e).1]
      exact Ok.ite (fun _ => Ok.some fin) (fun _ => Ok.pos rfl (Ok.some fin))
    | none =>
      obtain ⟨q1, q2, q3⟩ := hp.2.1 e
      obtain ⟨i1, i2, i3⟩ := hI e
      have n900 := q2.1.1
      have e6 := q2.2.1.2.2.2.1
      by_cases c : kdP T n y.1.2.1 = 24
      · have fin : pokD T n P y h0 r.2 := ⟨hp.1, fun _ => ⟨q2, q3⟩, fun x hx => by rw [e] at hx; cases hx⟩
        rw [lns_24 e c, q1, e6, c]
        exact Ok.ite (fun _ => Ok.some fin) (fun _ => Ok.neg (by decide) (Ok.pos rfl (Ok.some fin)))
      · have hlt := kd_24 c
        rw [lns, if_pos e, if_neg c, q1, e6, nI_1]
        refine Ok.neg (by rw [show (900 : Int32) = nI 900 from rfl, nI_leI (by omega) (by omega)]; omega) (Ok.neg (by decide) (Ok.neg ?_ ?_))
        · unfold ck
          rw [if_neg c]
          split
          · decide
          · split
            · decide
            · decide
        · refine Ok.bind (c_rdLine (s := y.1) (x := y.2) e q2 q3 i1.1 c) (fun r10 hr => ?_)
          refine ih N (i + 1) _ h0 r10 (pokL_t hp.1 hr) (fun w => ?_) (by omega)
          have := DI_ln (kgn T n) e c i1 w
          exact ⟨this.1, by omega, by omega⟩
theorem DC_P {P : Nat} {h : abJ} (hD : DC 0 dr0 h) : DC P dr0 (ab_wI h 5 0 (nI P)) := by
  obtain ⟨d0, d1, d2, d3, d4, d5, d6, d7, d8, d9, d10⟩ := hD
  refine ⟨ab_w1e .., ?_, ?_, fun p hp => ?_, fun p r' hp hr => absurd hr (Nat.not_lt_zero _), ?_, ?_, ?_, ?_, ?_, ?_⟩
  · rw [ab_w1k (by decide)]; exact d1
  · rw [ab_w1k (by decide)]; exact d2
  · rw [ab_w1n (by decide)]; exact d3 p hp
  · rw [ab_w1k (by decide), ab_w1k (by decide)]; exact d5
  · rw [ab_w1k (by decide), ab_w1k (by decide)]; exact d6
  · rw [ab_w1n (by decide)]; exact d7
  · rw [ab_w1n (by decide)]; exact d8
  · rw [ab_w1n (by decide)]; exact d9
  · rw [ab_w1n (by decide)]; exact d10
theorem c_rdHead {T : Nat → Nat} {n : Nat} {s : PsT} {h : abJ} (hs : s.1 = none) (hP : PC T n s h) (hD : DC 0 dr0 h) : Ok (fX6_readHead h) (pokL T n (kVl T n (pE (kdP T n) (kN T n) 1 (pE (kdP T n) (kN T n) 0 s)).2.1) (lnE (kdP T n) (kN T n) (pT (kdP T n) (kN T n) (kVl T n) 1 7 (pE (kdP T n) (kN T n) 1 (pE (kdP T n) (kN T n) 0 s)), dr0)) h) := by
  have t1 : crd T n (fX6_take 1000001) (pE (kdP T n) (kN T n) 0) := c_take2 (j := 1) (by omega) (by omega)
  have t2 : crd T n (fX6_take 1000002) (pE (kdP T n) (kN T n) 1) := c_take2 (j := 2) (by omega) (by omega)
  unfold fX6_readHead
  refine c_seqY (t1 s h hs hP) (fun w => ?_) (fun r e q1 q2 => ?_)
  · show pE (kdP T n) (kN T n) 30 (pT (kdP T n) (kN T n) (kVl T n) 1 7 (pE (kdP T n) (kN T n) 1 (pE (kdP T n) (kN T n) 0 s))) = pE (kdP T n) (kN T n) 0 s
    rw [pE_x (k := 1) w, pT_x w, pE_x w]
  refine c_seqY (t2 _ r.2 e q1) (fun w => ?_) (fun r3 e3 q3 q4 => ?_)
  · show pE (kdP T n) (kN T n) 30 (pT (kdP T n) (kN T n) (kVl T n) 1 7 (pE (kdP T n) (kN T n) 1 (pE (kdP T n) (kN T n) 0 s))) = pE (kdP T n) (kN T n) 1 (pE (kdP T n) (kN T n) 0 s)
    rw [pT_x w, pE_x w]
  have tk : Ok (fX6_takeNumber 1 6 r3.2) (pokN T n (kVl T n (pE (kdP T n) (kN T n) 1 (pE (kdP T n) (kN T n) 0 s)).2.1) (pT (kdP T n) (kN T n) (kVl T n) 1 7 (pE (kdP T n) (kN T n) 1 (pE (kdP T n) (kN T n) 0 s))) r3.2) := c_takeN (lo := 1) (hx := 7) e3 q3 (by omega) (by omega)
  refine c_takeY (kVl_b T n _) tk (fun w => pE_x w) (fun r5 e5 u1 u2 u3 => ?_)
  rw [u1]
  refine Ok.bind (c_endLn (x := dr0) e5 (PC_w u2 (by simp)) (DC_P (fL_DC hD (fL_t q2 (fL_t q4 u3))))) (fun r7 hr7 => Ok.ask (b01 (pokL_b hr7)) (Ok.some ?_))
  exact pokL_t (fDr_w (fDr_r _) (by simp)) hr7
