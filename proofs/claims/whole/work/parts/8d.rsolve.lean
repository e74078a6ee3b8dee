/-! chance, mean: the reference clears rows. -/
def RQ (A : List Nat) (F : Nat → Nat → Int × Int) (h : abJ) : Prop := ∀ p q, p ∈ A → q < 7 → h.2 80 (7 * p + q) = iL (F p q).1 ∧ h.2 81 (7 * p + q) = iL (F p q).2
def upF (F : Nat → Nat → Int × Int) (p q : Nat) (v : Int × Int) : Nat → Nat → Int × Int := fun p' q' => if p' = p ∧ q' = q then v else F p' q'
theorem mab {x y : Int} {B C : Nat} (hx : x.natAbs ≤ B) (hy : y.natAbs ≤ C) : (x * y).natAbs ≤ B * C := by
  rw [Int.natAbs_mul]; exact Nat.mul_le_mul hx hy
theorem bd_n {x : Int} {B : Nat} (hx : x.natAbs ≤ B) (hB : B ≤ 4611686018427387904) : bd x := ⟨by omega, by omega⟩
theorem RQ_l {A : List Nat} {F : Nat → Nat → Int × Int} {h : abJ} {p q : Nat} {v : Int × Int} (hA6 : ∀ i, i ∈ A → i < 6) (hR : RQ A F h) (hp : p ∈ A) (hq : q < 7) : RQ A (upF F p q v) (ab_wL (ab_wL h 80 (7 * p + q) (iL v.1)) 81 (7 * p + q) (iL v.2)) := by
  intro p' q' h1 h2
  have := hA6 p hp
  have := hA6 p' h1
  unfold upF
  by_cases e : p' = p ∧ q' = q
  · rw [if_pos e, e.1, e.2, ab_v2n (by decide), ab_v2e, ab_v2e]; exact ⟨rfl, rfl⟩
  · rw [if_neg e, ab_v2n (by decide), ab_v2k (by omega), ab_v2k (by omega), ab_v2n (by decide)]
    exact hR p' q' h1 h2
def FF (m : Nat → Nat → Int) (l : Int) (ρ : Nat → Int) : Nat → Nat → Int × Int := fun p q => nf (m p q) (l * ρ p)
/-- what the fractions are made of is small -/
def fbd (A : List Nat) (m : Nat → Nat → Int) (l : Int) (ρ : Nat → Int) : Prop := (0 < l ∧ l ≤ 243) ∧ (∀ p, p ∈ A → 1 ≤ ρ p ∧ ρ p ≤ 3) ∧ ∀ p q, p ∈ A → q < 7 → (m p q).natAbs ≤ 23328 ∧ (q < 6 → (m p q).natAbs ≤ 729)
theorem fbd_d {A : List Nat} {m : Nat → Nat → Int} {l : Int} {ρ : Nat → Int} (h : fbd A m l ρ) {p : Nat} (hp : p ∈ A) : 0 < l * ρ p ∧ l * ρ p ≤ 729 := by
  have h1 := h.1
  have h2 := h.2.1 p hp
  refine ⟨Int.mul_pos h1.1 (by omega), ?_⟩
  have : l * ρ p ≤ 243 * 3 := Int.mul_le_mul h1.2 h2.2 (by omega) (by omega)
  omega
theorem fbd_f {A : List Nat} {m : Nat → Nat → Int} {l : Int} {ρ : Nat → Int} (h : fbd A m l ρ) {p q : Nat} (hp : p ∈ A) (hq : q < 7) : (FF m l ρ p q).1.natAbs ≤ 23328 ∧ (q < 6 → (FF m l ρ p q).1.natAbs ≤ 729) ∧ 0 < (FF m l ρ p q).2 ∧ (FF m l ρ p q).2 ≤ 729 ∧ (FF m l ρ p q).1 * (l * ρ p) = m p q * (FF m l ρ p q).2 := by
  obtain ⟨d1, d2⟩ := fbd_d h hp
  have b := nf_b (a := m p q) d1
  have x := nf_x (a := m p q) d1
  have c := h.2.2 p q hp hq
  refine ⟨Nat.le_trans b.1 c.1, fun g => Nat.le_trans b.1 (c.2 g), x.2.2.1, Int.le_trans b.2 d2, nf_r d1⟩
theorem r_swaps {k : Nat} {h : abJ} (hk : k < 42) : Ok (fX12_swaps (nI k) (nI k) h) (fun h' => h'.1 = h.1 ∧ (∀ o, o ≠ 80 → o ≠ 81 → h'.2 o = h.2 o) ∧ (∀ i, h'.2 80 i = h.2 80 i ∧ h'.2 81 i = h.2 81 i)) := by
  unfold fX12_swaps
  rw [nI_clamp (by omega)]
  simp only [ab_askP (ixN hk (by omega))]
  refine Ok.some ⟨rfl, fun o h1 h2 => ?_, fun i => ?_⟩
  · rw [ab_v2n h2, ab_v2n h1, ab_v2n h2, ab_v2n h1]
  · by_cases e : i = k
    · subst e
      rw [ab_v2n (by decide), ab_v2e, ab_v2e]; exact ⟨rfl, rfl⟩
    · rw [ab_v2n (by decide), ab_v2k e, ab_v2n (by decide), ab_v2k e, ab_v2k e, ab_v2n (by decide), ab_v2k e, ab_v2n (by decide)]; exact ⟨rfl, rfl⟩
theorem fr81 {h h' : abJ} (h1 : h'.1 = h.1) (h2 : ∀ o, o ≠ 80 → o ≠ 81 → h'.2 o = h.2 o) : frR [] [] [80, 81] h h' := ⟨fun o _ _ => by rw [h1], fun k _ => by rw [h1], fun o ho => h2 o (fun e => ho (by simp [e])) (fun e => ho (by simp [e]))⟩
theorem lay81 (h : abJ) (k : Nat) (a b : Int64) : frR [] [] [80, 81] h (ab_wL (ab_wL h 80 k a) 81 k b) := frR_v (frR_v (frR_r _ _ _ _) (by simp)) (by simp)
theorem r_adds {A : List Nat} {F : Nat → Nat → Int × Int} {h : abJ} {p q k : Nat} {up dn : Int} {E D : Int} (hA6 : ∀ i, i ∈ A → i < 6) (hR : RQ A F h) (hp : p ∈ A) (hq : q ∈ A) (hk : k < 7) (h1 : (F q k).1.natAbs ≤ 23328 ∧ 0 < (F q k).2 ∧ (F q k).2 ≤ 729) (h2 : (F p k).1.natAbs ≤ 23328 ∧ 0 < (F p k).2 ∧ (F p k).2 ≤ 729) (h3 : up.natAbs ≤ 729 ∧ 0 < dn ∧ dn ≤ 729) (hD : 0 < D) (hE : ((F q k).1 * (dn * (F p k).2) + (up * (F p k).1) * (F q k).2) * D = E * ((F q k).2 * (dn * (F p k).2))) : Ok (fX12_addsTo (nI (7 * q + k)) (nI (7 * p + k)) (iL up) (iL dn) h) (fun h' => RQ A (upF F q k (nf E D)) h' ∧ frR [] [] [80, 81] h h') := by
  have p6 := hA6 p hp
  have q6 := hA6 q hq
  obtain ⟨f1, f2⟩ := hR q k hq hk
  obtain ⟨g1, g2⟩ := hR p k hp hk
  generalize (F q k).1 = a at *
  generalize (F q k).2 = b at *
  generalize (F p k).1 = c at *
  generalize (F p k).2 = d at *
  have u1 := mab h3.1 h2.1
  have v1 : (dn * d).natAbs ≤ 729 * 729 := mab (by omega) (by omega)
  have v2 : 0 < dn * d := Int.mul_pos h3.2.1 h2.2.1
  obtain ⟨x1, x2, x3, x4⟩ := nf_x (a := up * c) v2
  have xb := nf_b (a := up * c) v2
  have hg := gcd_ps (a := up * c) v2
  have hgb : (Int.gcd (up * c) (dn * d) : Int) ≤ dn * d := Int.le_of_dvd v2 (Int.gcd_dvd_right _ _)
  have hgd : bd (Int.gcd (up * c) (dn * d) : Int) := ⟨by omega, by omega⟩
  have n0 : ¬ iL (Int.gcd (up * c) (dn * d) : Int) = 0 := fun q => by have := (iL_z hgd).mp q; omega
  have w1 : (a * (nf (up * c) (dn * d)).2).natAbs ≤ 23328 * (729 * 729) := mab h1.1 (by omega)
  have w2 : ((nf (up * c) (dn * d)).1 * b).natAbs ≤ (729 * 23328) * 729 := mab (by omega) (by omega)
  have w3 : (b * (nf (up * c) (dn * d)).2).natAbs ≤ 729 * (729 * 729) := mab (by omega) (by omega)
  have w4 : 0 < b * (nf (up * c) (dn * d)).2 := Int.mul_pos h1.2.1 x3
  unfold fX12_addsTo
  rw [nI_clamp (by omega), nI_clamp (by omega), f1, f2, g1, g2, iL_m, iL_m]
  refine Ok.ask (ixN (by omega) (by omega)) (Ok.ask (ixN (by omega) (by omega)) ?_)
  rw [r_common (bd_n u1 (by omega)) (bd_n v1 (by omega)) (by omega), ab_bindS, iL_d (bd_n u1 (by omega)) hgd, iL_d (bd_n v1 (by omega)) hgd]
  refine Ok.ask n0 (Ok.ask n0 (Ok.ask (ixN (by omega) (by omega)) (Ok.ask (ixN (by omega) (by omega)) (Ok.ask (ixN (by omega) (by omega)) ?_))))
  show Ok ((fX12_lays (nI (7 * q + k)) (iL a * iL (nf (up * c) (dn * d)).2 + iL (nf (up * c) (dn * d)).1 * iL b) (iL b * iL (nf (up * c) (dn * d)).2) h).bind _) _
  rw [iL_m, iL_m, iL_m, iL_a, r_lays (by omega) ⟨by omega, by omega⟩ w4 (by omega), ab_bindS]
  have en : nf (a * (nf (up * c) (dn * d)).2 + (nf (up * c) (dn * d)).1 * b) (b * (nf (up * c) (dn * d)).2) = nf E D := by
    refine nf_e w4 hD ?_
    generalize (Int.gcd (up * c) (dn * d) : Int) = g at *
    generalize nf (up * c) (dn * d) = x at *
    refine Int.eq_of_mul_eq_mul_left (a := g) (by omega) ?_
    calc g * ((a * x.2 + x.1 * b) * D) = (a * (g * x.2) + (g * x.1) * b) * D := by grind
      _ = (a * (dn * d) + (up * c) * b) * D := by rw [← x1, ← x2]
      _ = E * (b * (dn * d)) := hE
      _ = E * (b * (g * x.2)) := by rw [← x2]
      _ = g * (E * (b * x.2)) := by grind
  rw [en]
  exact Ok.some ⟨RQ_l hA6 hR hq hk, lay81 h _ _ _⟩
/-- a row behind a step, in fractions -/
theorem FF_q {A : List Nat} {m : Nat → Nat → Int} {l : Int} {ρ : Nat → Int} {p q k : Nat} {E : Int} (hf : fbd A m l ρ) (hp : p ∈ A) (hq : q ∈ A) (hk : k < 7) (p6 : p < 7) (hpi : 0 < m p p) (hE : l * E = m p p * m q k - m q p * m p k) : ((FF m l ρ q k).1 * ((FF m l ρ q p).2 * (nf (m p k) (m p p)).2) + ((-(FF m l ρ q p).1) * (nf (m p k) (m p p)).1) * (FF m l ρ q k).2) * (m p p * ρ q) = E * ((FF m l ρ q k).2 * ((FF m l ρ q p).2 * (nf (m p k) (m p p)).2)) := by
  obtain ⟨_, _, _, _, e1⟩ := fbd_f hf hq hk
  obtain ⟨_, _, _, _, e2⟩ := fbd_f hf hq p6
  have e3 := nf_r (a := m p k) hpi
  have hl := hf.1.1
  generalize FF m l ρ q k = x at *
  generalize FF m l ρ q p = y at *
  generalize nf (m p k) (m p p) = z at *
  generalize m p p = π at *
  generalize m q k = M at *
  generalize m q p = X at *
  generalize m p k = Y at *
  generalize ρ q = r at *
  refine Int.eq_of_mul_eq_mul_left (a := l) (by omega) ?_
  calc l * ((x.1 * (y.2 * z.2) + ((-y.1) * z.1) * x.2) * (π * r)) = (x.1 * (l * r)) * (y.2 * z.2 * π) - (y.1 * (l * r)) * (z.1 * π) * x.2 := by grind
    _ = (M * x.2) * (y.2 * z.2 * π) - (X * y.2) * (Y * z.2) * x.2 := by rw [e1, e2, e3]
    _ = (π * M - X * Y) * (x.2 * (y.2 * z.2)) := by grind
    _ = (l * E) * (x.2 * (y.2 * z.2)) := by rw [← hE]
    _ = l * (E * (x.2 * (y.2 * z.2))) := by grind
def rh1 (ρ : Nat → Int) (p : Nat) : Nat → Int := fun q => if q = p then 1 else ρ q
theorem r_sol241 {A : List Nat} {m m' : Nat → Nat → Int} {l : Int} {ρ : Nat → Int} {p q : Nat} {h0 : abJ} {G : Nat → Nat → Int × Int} {K : Int32 → Int32 → abJ → Option abJ} {Q : abJ → Prop} (hA6 : ∀ i, i ∈ A → i < 6) (hf : fbd A m l ρ) (hp : p ∈ A) (hq : q ∈ A) (hqp : q ≠ p) (hpi : 0 < m p p) (hpr : ∀ k, k < 7 → G p k = nf (m p k) (m p p)) (hqr : ∀ k, k < 7 → G q k = FF m l ρ q k) (hE : ∀ k, k < 7 → l * m' q k = m p p * m q k - m q p * m p k) (hK : ∀ h, RQ A (fun p' q' => if p' = q then FF m' (m p p) (rh1 ρ p) p' q' else G p' q') h → frR [] [] [80, 81] h0 h → Ok (K (nI p) (nI (q + 1)) h) Q) : ∀ (j N c : Nat) (h : abJ), c + j = 7 → j < N → RQ A (fun p' q' => if p' = q ∧ q' < c then FF m' (m p p) (rh1 ρ p) p' q' else G p' q') h → frR [] [] [80, 81] h0 h → Ok (fX12_solves_L241 K N (nI p) (iL (-(FF m l ρ q p).1)) (iL (FF m l ρ q p).2) (nI q) (nI c) h) Q := by
  have p6 := hA6 p hp
  have q6 := hA6 q hq
  have er : rh1 ρ p q = ρ q := by unfold rh1; rw [if_neg hqp]
  intro j
  induction j with
  | zero =>
    intro N c h hc hN hR hfr
    obtain ⟨N, rfl⟩ : ∃ n0, N = n0 + 1 := ⟨N - 1, by omega⟩
    rw [fX12_solves_L241]
    refine Ok.pos (by rw [show (7 : Int32) = nI 7 from rfl, nI_leI (by omega) (by omega)]; omega) ?_
    unfold fX12_solves_J276
    rw [nI_1]
    refine hK h (fun p' q' h1 h2 => ?_) hfr
    have := hR p' q' h1 h2
    try dsimp only at this
    try dsimp only
    by_cases e : p' = q
    · rw [if_pos ⟨e, by omega⟩] at this; rw [if_pos e]; exact this
    · rw [if_neg (fun w => e w.1)] at this; rw [if_neg e]; exact this
  | succ j ih =>
    intro N c h hc hN hR hfr
    obtain ⟨N, rfl⟩ : ∃ n0, N = n0 + 1 := ⟨N - 1, by omega⟩
    rw [fX12_solves_L241, show (7 : Int32) = nI 7 from rfl, pk_mul, nI_add, pk_mul, nI_add, nI_1]
    refine Ok.neg (by rw [nI_leI (by omega) (by omega)]; omega) ?_
    have c1 := fbd_f hf hq (show c < 7 by omega)
    have c2 := fbd_f hf hq (show p < 7 by omega)
    have nb := nf_b (a := m p c) hpi
    have nx1 := nf_x (a := m p c) hpi
    have mp := hf.2.2 p p hp (by omega)
    have mc := hf.2.2 p c hp (by omega)
    have g1 : (if q = q ∧ c < c then FF m' (m p p) (rh1 ρ p) q c else G q c) = FF m l ρ q c := by rw [if_neg (by omega)]; exact hqr c (by omega)
    have g2 : (if p = q ∧ c < c then FF m' (m p p) (rh1 ρ p) p c else G p c) = nf (m p c) (m p p) := by rw [if_neg (by omega)]; exact hpr c (by omega)
    refine Ok.bind (r_adds (E := m' q c) (D := m p p * ρ q) hA6 hR hp hq (show c < 7 by omega) (by rw [g1]; exact ⟨c1.1, c1.2.2.1, c1.2.2.2.1⟩) (by rw [g2]; exact ⟨by omega, nx1.2.2.1, by have := mp.2 (by omega); omega⟩) ⟨by rw [Int.natAbs_neg]; exact c2.2.1 (by omega), c2.2.2.1, c2.2.2.2.1⟩ (Int.mul_pos hpi (by have := hf.2.1 q hq; omega)) (by rw [g1, g2]; exact FF_q hf hp hq (by omega) (by omega) hpi (hE c (by omega)))) (fun h1 hr => ?_)
    refine ih N (c + 1) h1 (by omega) (by omega) (fun p' q' w1 w2 => ?_) (frR_t hfr hr.2)
    have := hr.1 p' q' w1 w2
    try dsimp only at this
    try dsimp only
    unfold upF at this
    try dsimp only at this
    by_cases e : p' = q
    · subst e
      by_cases e2 : q' = c
      · subst e2
        rw [if_pos ⟨rfl, rfl⟩] at this
        rw [if_pos ⟨rfl, by omega⟩]
        unfold FF
        rw [er]
        exact this
      · rw [if_neg (fun w => e2 w.2)] at this
        by_cases e3 : q' < c
        · rw [if_pos ⟨rfl, e3⟩] at this; rw [if_pos ⟨rfl, by omega⟩]; exact this
        · rw [if_neg (fun w => e3 w.2)] at this; rw [if_neg (fun w => by have := w.2; omega)]; exact this
    · rw [if_neg (fun w => e w.1), if_neg (fun w => e w.1)] at this
      rw [if_neg (fun w => e w.1)]
      exact this
