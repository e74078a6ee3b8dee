/-! chance, mean: the reference's loops over rows. -/
def isA (A : List Nat) (h : abJ) : Prop := ∀ p, p < 6 → h.1 82 p = nI (if p ∈ A then 1 else 0)
theorem r_sol167 {A : List Nat} {m m' : Nat → Nat → Int} {l : Int} {ρ : Nat → Int} {p : Nat} {h0 : abJ} {K : Int32 → abJ → Option abJ} {Q : abJ → Prop} (hA6 : ∀ i, i ∈ A → i < 6) (hf : fbd A m l ρ) (hp : p ∈ A) (hpi : 0 < m p p) (hmp : m' p = m p) (hE : ∀ q, q ∈ A → q ≠ p → ∀ k, l * m' q k = m p p * m q k - m q p * m p k) (h82 : isA A h0) (hK : ∀ h, RQ A (FF m' (m p p) (rh1 ρ p)) h → frR [] [] [80, 81] h0 h → Ok (K (nI (p + 1)) h) Q) : ∀ (j N q : Nat) (h : abJ), q + j = 6 → j < N → RQ A (fun p' q' => if p' = p ∨ p' < q then FF m' (m p p) (rh1 ρ p) p' q' else FF m l ρ p' q') h → frR [] [] [80, 81] h0 h → Ok (fX12_solves_L167 K N (nI p) (nI q) h) Q := by
  have p6 := hA6 p hp
  intro j
  induction j with
  | zero =>
    intro N q h hc hN hR hfr
    obtain ⟨N, rfl⟩ : ∃ n0, N = n0 + 1 := ⟨N - 1, by omega⟩
    rw [fX12_solves_L167]
    refine Ok.pos (by rw [show (6 : Int32) = nI 6 from rfl, nI_leI (by omega) (by omega)]; omega) ?_
    unfold fX12_solves_J282
    rw [nI_1]
    refine hK h (fun p' q' h1 h2 => ?_) hfr
    have := hR p' q' h1 h2
    try dsimp only at this
    try dsimp only
    rw [if_pos (Or.inr (by have := hA6 p' h1; omega))] at this
    exact this
  | succ j ih =>
    intro N q h hc hN hR hfr
    obtain ⟨N, rfl⟩ : ∃ n0, N = n0 + 1 := ⟨N - 1, by omega⟩
    have h8 : h.1 82 q = nI (if q ∈ A then 1 else 0) := by rw [hfr.1 82 (by simp) (by decide)]; exact h82 q (by omega)
    have nxt : (∀ p' q', p' ∈ A → q' < 7 → p' = q → q ≠ p → FF m l ρ p' q' = FF m' (m p p) (rh1 ρ p) p' q') → Ok (fX12_solves_J276 (fun y1 y7 h => fX12_solves_L167 K N y1 y7 h) (nI p) (nI q) h) Q := by
      intro hs
      unfold fX12_solves_J276
      rw [nI_1]
      refine ih N (q + 1) h (by omega) (by omega) (fun p' q' h1 h2 => ?_) hfr
      have := hR p' q' h1 h2
      try dsimp only at this
      try dsimp only
      by_cases e : p' = p ∨ p' < q
      · rw [if_pos e] at this; rw [if_pos (by omega)]; exact this
      · rw [if_neg e] at this
        by_cases e2 : p' = q
        · rw [if_pos (by omega), ← hs p' q' h1 h2 e2 (by omega)]; exact this
        · rw [if_neg (by omega)]; exact this
    rw [fX12_solves_L167, nI_clamp (by omega), h8]
    refine Ok.neg (by rw [show (6 : Int32) = nI 6 from rfl, nI_leI (by omega) (by omega)]; omega) ?_
    by_cases e : q = p
    · exact Ok.pos (by rw [e]) (nxt (fun _ _ _ _ _ w => absurd e w))
    · refine Ok.neg (by rw [nI_eq (by omega) (by omega)]; exact e) (Ok.ask (ixN (by omega) (by omega)) ?_)
      by_cases cA : q ∈ A
      · rw [if_pos cA]
        refine Ok.neg (by decide) ?_
        rw [show (7 : Int32) = nI 7 from rfl, pk_mul, nI_add, nI_clamp (by omega)]
        have hqp := hR q p cA (by omega)
        try dsimp only at hqp
        rw [if_neg (by omega)] at hqp
        have c2 := fbd_f hf cA (show p < 7 by omega)
        have bq : bd (FF m l ρ q p).1 := bd_n c2.1 (by omega)
        rw [hqp.1, hqp.2]
        refine Ok.ask (ixN (by omega) (by omega)) ?_
        by_cases c0 : (FF m l ρ q p).1 = 0
        · refine Ok.pos ((iL_0 bq).mpr c0) (nxt (fun p' q' h1 h2 e2 _ => ?_))
          subst e2
          have hd := fbd_d hf cA
          have hl := hf.1.1
          have m0 : m p' p = 0 := by
            have := c2.2.2.2.2
            rw [c0, Int.zero_mul] at this
            rcases Int.mul_eq_zero.mp this.symm with w | w
            · exact w
            · have := c2.2.2.1; omega
          unfold FF
          have er : rh1 ρ p p' = ρ p' := by unfold rh1; rw [if_neg e]
          rw [er]
          have hr := hf.2.1 p' cA
          refine nf_e hd.1 (Int.mul_pos hpi (by omega)) ?_
          have := hE p' cA e q'
          rw [m0, Int.zero_mul] at this
          calc m p' q' * (m p p * ρ p') = (m p p * m p' q' - 0) * ρ p' := by grind
            _ = (l * m' p' q') * ρ p' := by rw [← this]
            _ = m' p' q' * (l * ρ p') := by grind
        · refine Ok.neg (fun w => c0 ((iL_0 bq).mp w)) (Ok.ask (ixN (by omega) (by omega)) (Ok.ask (ixN (by omega) (by omega)) ?_))
          rw [iL_n, show (0 : Int32) = nI 0 from rfl]
          refine r_sol241 (m' := m') (h0 := h0) (G := fun p' q' => if p' = p ∨ p' < q then FF m' (m p p) (rh1 ρ p) p' q' else FF m l ρ p' q') hA6 hf hp cA e hpi (fun k hk => ?_) (fun k hk => ?_) (fun k hk => hE q cA e k) (fun h1 hR1 hf1 => ?_) 7 ab_N 0 h (by omega) (by unfold ab_N; omega) (fun p' q' h1 h2 => ?_) hfr
          · show (if p = p ∨ p < q then FF m' (m p p) (rh1 ρ p) p k else FF m l ρ p k) = _
            rw [if_pos (Or.inl rfl)]
            unfold FF rh1
            rw [if_pos rfl, Int.mul_one, hmp]
          · show (if q = p ∨ q < q then FF m' (m p p) (rh1 ρ p) q k else FF m l ρ q k) = _
            rw [if_neg (by omega)]
          · refine ih N (q + 1) h1 (by omega) (by omega) (fun p' q' w1 w2 => ?_) hf1
            have := hR1 p' q' w1 w2
            try dsimp only at this
            try dsimp only
            by_cases e2 : p' = q
            · rw [if_pos e2] at this; rw [if_pos (by omega)]; exact this
            · rw [if_neg e2] at this
              by_cases e3 : p' = p ∨ p' < q
              · rw [if_pos e3] at this; rw [if_pos (by omega)]; exact this
              · rw [if_neg e3] at this; rw [if_neg (by omega)]; exact this
          · have := hR p' q' h1 h2
            try dsimp only at this
            try dsimp only
            rw [if_neg (show ¬ (p' = q ∧ q' < 0) by omega)]; exact this
      · rw [if_neg cA]
        exact Ok.pos rfl (nxt (fun p' q' h1 _ e2 _ => absurd (by rw [← e2]; exact h1) cA))
theorem r_sol111 {A : List Nat} {m : Nat → Nat → Int} {l : Int} {ρ : Nat → Int} {p : Nat} {h0 : abJ} {K : Int32 → abJ → Option abJ} {Q : abJ → Prop} (hA6 : ∀ i, i ∈ A → i < 6) (hf : fbd A m l ρ) (hp : p ∈ A) (hpi : 0 < m p p) (hK : ∀ h, RQ A (fun p' q' => if p' = p then nf (m p q') (m p p) else FF m l ρ p' q') h → frR [] [] [80, 81] h0 h → Ok (fX12_solves_L167 K ab_N (nI p) (nI 0) h) Q) : ∀ (j N c : Nat) (h : abJ), c + j = 7 → j < N → RQ A (fun p' q' => if p' = p ∧ q' < c then nf (m p q') (m p p) else FF m l ρ p' q') h → frR [] [] [80, 81] h0 h → Ok (fX12_solves_L111 K N (nI p) (iL (FF m l ρ p p).1) (iL (FF m l ρ p p).2) (nI c) h) Q := by
  have p6 := hA6 p hp
  have hd := fbd_d hf hp
  have c2 := fbd_f hf hp (show p < 7 by omega)
  have up0 : 0 < (FF m l ρ p p).1 := by
    refine Classical.byContradiction (fun q => ?_)
    have h1 : (FF m l ρ p p).1 * (l * ρ p) ≤ 0 * (l * ρ p) := Int.mul_le_mul_of_nonneg_right (by omega) (by omega)
    have h2 := Int.mul_pos hpi c2.2.2.1
    rw [Int.zero_mul] at h1
    have := c2.2.2.2.2
    omega
  have c2b := c2.2.1 (by omega)
  intro j
  induction j with
  | zero =>
    intro N c h hc hN hR hfr
    obtain ⟨N, rfl⟩ : ∃ n0, N = n0 + 1 := ⟨N - 1, by omega⟩
    rw [fX12_solves_L111]
    refine Ok.pos (by rw [show (7 : Int32) = nI 7 from rfl, nI_leI (by omega) (by omega)]; omega) (hK h (fun p' q' h1 h2 => ?_) hfr)
    have := hR p' q' h1 h2
    try dsimp only at this
    try dsimp only
    by_cases e : p' = p
    · rw [if_pos ⟨e, by omega⟩] at this; rw [if_pos e]; exact this
    · rw [if_neg (fun w => e w.1)] at this; rw [if_neg e]; exact this
  | succ j ih =>
    intro N c h hc hN hR hfr
    obtain ⟨N, rfl⟩ : ∃ n0, N = n0 + 1 := ⟨N - 1, by omega⟩
    have c1 := fbd_f hf hp (show c < 7 by omega)
    have hpc := hR p c hp (by omega)
    try dsimp only at hpc
    rw [if_neg (show ¬ (p = p ∧ c < c) by omega)] at hpc
    rw [fX12_solves_L111, show (7 : Int32) = nI 7 from rfl, pk_mul, nI_add, nI_clamp (by omega), hpc.1, hpc.2, nI_1, iL_m, iL_m]
    refine Ok.neg (by rw [nI_leI (by omega) (by omega)]; omega) (Ok.ask (ixN (by omega) (by omega)) (Ok.ask (ixN (by omega) (by omega)) ?_))
    have w1 : ((FF m l ρ p c).1 * (FF m l ρ p p).2).natAbs ≤ 23328 * 729 := mab c1.1 (by omega)
    have w2 : ((FF m l ρ p c).2 * (FF m l ρ p p).1).natAbs ≤ 729 * 729 := mab (by omega) c2b
    have w3 : 0 < (FF m l ρ p c).2 * (FF m l ρ p p).1 := Int.mul_pos c1.2.2.1 up0
    rw [r_lays (by omega) (bd_n w1 (by omega)) w3 (by omega), ab_bindS]
    have en : nf ((FF m l ρ p c).1 * (FF m l ρ p p).2) ((FF m l ρ p c).2 * (FF m l ρ p p).1) = nf (m p c) (m p p) := by
      refine nf_e w3 hpi ?_
      have e1 := c1.2.2.2.2
      have e2 := c2.2.2.2.2
      generalize FF m l ρ p c = x at *
      generalize FF m l ρ p p = y at *
      generalize m p p = π at *
      generalize m p c = M at *
      generalize l * ρ p = D at *
      refine Int.eq_of_mul_eq_mul_left (a := D) (by omega) ?_
      calc D * (x.1 * y.2 * π) = (x.1 * D) * (y.2 * π) := by grind
        _ = (M * x.2) * (y.2 * π) := by rw [e1]
        _ = (M * x.2) * (π * y.2) := by grind
        _ = (M * x.2) * (y.1 * D) := by rw [e2]
        _ = D * (M * (x.2 * y.1)) := by grind
    rw [en]
    refine ih N (c + 1) _ (by omega) (by omega) (fun p' q' w4 w5 => ?_) (frR_t hfr (lay81 h _ _ _))
    have := RQ_l (v := nf (m p c) (m p p)) hA6 hR hp (show c < 7 by omega) p' q' w4 w5
    try dsimp only at this
    try dsimp only
    unfold upF at this
    try dsimp only at this
    by_cases e : p' = p
    · subst e
      by_cases e2 : q' = c
      · subst e2
        rw [if_pos ⟨rfl, rfl⟩] at this
        rw [if_pos ⟨rfl, by omega⟩]
        exact this
      · rw [if_neg (fun w => e2 w.2)] at this
        by_cases e3 : q' < c
        · rw [if_pos ⟨rfl, e3⟩] at this; rw [if_pos ⟨rfl, by omega⟩]; exact this
        · rw [if_neg (fun w => e3 w.2)] at this; rw [if_neg (fun w => by have := w.2; omega)]; exact this
    · rw [if_neg (fun w => e w.1), if_neg (fun w => e w.1)] at this
      rw [if_neg (fun w => e w.1)]
      exact this
theorem r_sol55 {p : Nat} {h0 : abJ} {K : Int32 → abJ → Option abJ} {Q : abJ → Prop} (p6 : p < 6) (hK : ∀ h, (∀ i, h.2 80 i = h0.2 80 i ∧ h.2 81 i = h0.2 81 i) → frR [] [] [80, 81] h0 h → Ok (fX12_solves_L111 K ab_N (nI p) (h.2 80 (7 * p + p)) (h.2 81 (7 * p + p)) (nI 0) h) Q) : ∀ (j N c : Nat) (h : abJ), c + j = 7 → j < N → (∀ i, h.2 80 i = h0.2 80 i ∧ h.2 81 i = h0.2 81 i) → frR [] [] [80, 81] h0 h → Ok (fX12_solves_L55 K N (nI p) (nI p) (nI c) h) Q := by
  intro j
  induction j with
  | zero =>
    intro N c h hc hN hR hfr
    obtain ⟨N, rfl⟩ : ∃ n0, N = n0 + 1 := ⟨N - 1, by omega⟩
    rw [fX12_solves_L55, show (7 : Int32) = nI 7 from rfl, pk_mul, nI_add, nI_clamp (by omega)]
    exact Ok.pos (by rw [nI_leI (by omega) (by omega)]; omega) (Ok.ask (ixN (by omega) (by omega)) (Ok.ask (ixN (by omega) (by omega)) (hK h hR hfr)))
  | succ j ih =>
    intro N c h hc hN hR hfr
    obtain ⟨N, rfl⟩ : ∃ n0, N = n0 + 1 := ⟨N - 1, by omega⟩
    rw [fX12_solves_L55, nI_1, show (7 : Int32) = nI 7 from rfl, pk_mul, show nI (7 * p) + nI c = nI (7 * p + c) from nI_add _ _]
    refine Ok.neg (by rw [nI_leI (by omega) (by omega)]; omega) ?_
    refine Ok.bind (r_swaps (k := 7 * p + c) (by omega)) (fun h1 hr => ?_)
    exact ih N (c + 1) h1 (by omega) (by omega) (fun i => ⟨(hr.2.2 i).1.trans (hR i).1, (hr.2.2 i).2.trans (hR i).2⟩) (frR_t hfr (fr81 hr.1 hr.2.1))
/-- the posts of a set, in order -/
def al (B : Nat) : Nat → Nat → List Nat
  | 0, _ => []
  | k + 1, p => if B.testBit p = true then p :: al B k (p + 1) else al B k (p + 1)
theorem EI_fb {t : Nat} {l : Int} {m : Nat → Nat → Int} {w : Nat → Int} {A P U : List Nat} {ρ : Nat → Int} (h : EI t l m w A P U) (hρ : ∀ p, p ∈ A → 1 ≤ ρ p ∧ ρ p ≤ 3) (hA6 : ∀ i, i ∈ A → i < 6) : fbd A m l ρ := by
  obtain ⟨b1, b2⟩ := EI_bb h
  refine ⟨b1, hρ, fun p q hp hq => ?_⟩
  have := b2 p hp
  by_cases e : q = 6
  · subst e; exact ⟨by omega, fun w => by omega⟩
  · by_cases c : q ∈ A
    · have := this.1 q c; exact ⟨by omega, fun _ => by omega⟩
    · have := h.2.2.2.2.2.2.2.2.2.1 p hp q (by omega) c
      rw [this]; exact ⟨by decide, fun _ => by decide⟩
theorem r_sol2 {B : Nat} {A : List Nat} {w : Nat → Int} {h0 : abJ} (hA6 : ∀ i, i ∈ A → i < 6) (hAB : ∀ p, p < 6 → (p ∈ A ↔ B.testBit p = true)) (h82 : isA A h0) : ∀ (j N p t : Nat) (l : Int) (m : Nat → Nat → Int) (P : List Nat) (ρ : Nat → Int) (h : abJ), p + j = 6 → j < N → EI t l m w A P (al B j p) → (∀ q, q ∈ A → 1 ≤ ρ q ∧ ρ q ≤ 3) → (∀ q, q ∈ P → ρ q = 1) → RQ A (FF m l ρ) h → frR [] [] [80, 81] h0 h → Ok (fX12_solves_L2 N (nI p) h) (fun h' => RQ A (FF (eRun (al B j p) l m).2 (eRun (al B j p) l m).1 (fun _ => 1)) h' ∧ frR [] [] [80, 81] h0 h') := by
  intro j
  induction j with
  | zero =>
    intro N p t l m P ρ h hp hN hE hρ h1 hR hfr
    obtain ⟨N, rfl⟩ : ∃ n0, N = n0 + 1 := ⟨N - 1, by omega⟩
    rw [fX12_solves_L2]
    refine Ok.pos (by rw [show (6 : Int32) = nI 6 from rfl, nI_leI (by omega) (by omega)]; omega) (Ok.some ⟨fun p' q' w1 w2 => ?_, hfr⟩)
    have := hR p' q' w1 w2
    try dsimp only at this
    try dsimp only
    have hP : p' ∈ P := by
      rcases (hE.2.2.2.2.2.2.2.1 p').mp w1 with q | q
      · exact q
      · cases q
    unfold FF at this ⊢
    rw [h1 p' hP] at this
    exact this
  | succ j ih =>
    intro N p t l m P ρ h hp hN hE hρ h1 hR hfr
    obtain ⟨N, rfl⟩ : ∃ n0, N = n0 + 1 := ⟨N - 1, by omega⟩
    have h8 : h.1 82 p = nI (if p ∈ A then 1 else 0) := by rw [hfr.1 82 (by simp) (by decide)]; exact h82 p (by omega)
    rw [fX12_solves_L2, nI_clamp (by omega), h8]
    refine Ok.neg (by rw [show (6 : Int32) = nI 6 from rfl, nI_leI (by omega) (by omega)]; omega) (Ok.ask (ixN (by omega) (by omega)) ?_)
    rw [al] at hE ⊢
    by_cases c : B.testBit p = true
    · have hpA := (hAB p (by omega)).mpr c
      rw [if_pos c] at hE ⊢
      rw [if_pos hpA]
      refine Ok.neg (by decide) ?_
      have ht := hE.2.2.1.1
      rw [List.length_cons] at ht
      obtain ⟨t, rfl⟩ : ∃ t0, t = t0 + 1 := ⟨t - 1, by omega⟩
      have hf := EI_fb hE hρ hA6
      have hpi := (EI_b hE hpA).1
      have hx := fun i hi q => EI_x hE (i := i) hi q
      have hpp := hR p p hpA (by omega)
      have c2 := fbd_f hf hpA (show p < 7 by omega)
      have up0 : (FF m l ρ p p).1 ≠ 0 := by
        intro q
        have := c2.2.2.2.2
        rw [q, Int.zero_mul] at this
        have := Int.mul_pos hpi c2.2.2.1
        omega
      have go : Ok (fX12_solves_L55 (fun y1 h => fX12_solves_L2 N y1 h) ab_N (nI p) (nI p) (nI 0) h) (fun h' => RQ A (FF (eRun (p :: al B j (p + 1)) l m).2 (eRun (p :: al B j (p + 1)) l m).1 (fun _ => 1)) h' ∧ frR [] [] [80, 81] h0 h') := by
        refine r_sol55 (h0 := h) (by omega) (fun h2 hs2 hf2 => ?_) 7 ab_N 0 h (by omega) (by unfold ab_N; omega) (fun i => ⟨rfl, rfl⟩) (frR_r _ _ _ _)
        have hR2 : RQ A (FF m l ρ) h2 := fun p' q' w1 w2 => by rw [(hs2 _).1, (hs2 _).2]; exact hR p' q' w1 w2
        rw [(hR2 p p hpA (by omega)).1, (hR2 p p hpA (by omega)).2]
        refine r_sol111 (h0 := h) hA6 hf hpA hpi (fun h3 hR3 hf3 => ?_) 7 ab_N 0 h2 (by omega) (by unfold ab_N; omega) (fun p' q' w1 w2 => ?_) hf2
        · refine r_sol167 (m' := elm l p m) (h0 := h) hA6 hf hpA hpi elm_k (fun q hq hqp k => hx q hq hqp k) (fun p' hp' => by rw [hfr.1 82 (by simp) (by decide)]; exact h82 p' hp') (fun h4 hR4 hf4 => ?_) 6 ab_N 0 h3 (by omega) (by unfold ab_N; omega) (fun p' q' w1 w2 => ?_) hf3
          · refine ih N (p + 1) t (m p p) (elm l p m) (p :: P) (rh1 ρ p) h4 (by omega) (by omega) (EI_s hE hA6) (fun q hq => ?_) (fun q hq => ?_) hR4 (frR_t hfr hf4)
            · unfold rh1
              by_cases e : q = p
              · rw [if_pos e]; omega
              · rw [if_neg e]; exact hρ q hq
            · unfold rh1
              by_cases e : q = p
              · rw [if_pos e]
              · rw [if_neg e]; exact h1 q ((List.mem_cons.mp hq).resolve_left e)
          · have := hR3 p' q' w1 w2
            try dsimp only at this
            try dsimp only
            by_cases e : p' = p
            · rw [if_pos e] at this
              rw [if_pos (Or.inl e), e]
              unfold FF rh1
              rw [if_pos rfl, Int.mul_one, elm_k]
              rw [e] at this
              exact this
            · rw [if_neg e] at this
              rw [if_neg (by omega)]
              exact this
        · dsimp only
          rw [if_neg (show ¬ (p' = p ∧ q' < 0) by omega)]; exact hR2 p' q' w1 w2
      have e22 : fX12_solves_L22 (fun y1 h => fX12_solves_L2 N y1 h) ab_N (nI p) (nI p) h = fX12_solves_L55 (fun y1 h => fX12_solves_L2 N y1 h) ab_N (nI p) (nI p) (nI 0) h := by
        rw [show ab_N = 999999 + 1 from rfl, fX12_solves_L22, show (7 : Int32) = nI 7 from rfl, pk_mul, nI_add, nI_clamp (by omega), nI_clamp (by omega), ab_askP (ixN (by omega) (by omega)), hpp.1, if_neg (fun q => up0 ((iL_0 (bd_n c2.1 (by omega))).mp q)), ab_askP (ixN (by omega) (by omega)), h8, if_pos hpA, if_neg (by decide)]
        rfl
      rw [e22]
      exact go
    · have hpA : p ∉ A := fun q => c ((hAB p (by omega)).mp q)
      rw [if_neg c] at hE ⊢
      rw [if_neg hpA]
      refine Ok.pos rfl ?_
      unfold fX12_solves_J282
      rw [nI_1]
      exact ih N (p + 1) t l m P ρ h (by omega) (by omega) hE hρ h1 hR hfr
