/-! chance, mean: longs, common divisors, fractions in lowest terms. -/
def iL (v : Int) : Int64 := Int64.ofInt v
def bd (v : Int) : Prop := -4611686018427387904 ≤ v ∧ v ≤ 4611686018427387904
theorem iL_T {v : Int} (h : bd v) : (iL v).toInt = v := Int64.toInt_ofInt_of_le (by have := h.1; omega) (by have := h.2; omega)
theorem iL_a (a b : Int) : iL a + iL b = iL (a + b) := (Int64.ofInt_add a b).symm
theorem iL_s (a b : Int) : iL a - iL b = iL (a - b) := (Int64.ofInt_sub a b).symm
theorem iL_m (a b : Int) : iL a * iL b = iL (a * b) := (Int64.ofInt_mul a b).symm
theorem iL_n (a : Int) : -iL a = iL (-a) := (Int64.ofInt_neg a).symm
theorem iL_d {a b : Int} (ha : bd a) (hb : bd b) : iL a / iL b = iL (a.tdiv b) := by
  have h1 : Int64.minValue.toInt = -9223372036854775808 := rfl
  have h2 : Int64.maxValue.toInt = 9223372036854775807 := rfl
  have := ha.1
  have := ha.2
  have := hb.1
  have := hb.2
  exact (Int64.ofInt_tdiv (by omega) (by omega) (by omega) (by omega)).symm
theorem iL_e {a b : Int} (ha : bd a) (hb : bd b) : iL a = iL b ↔ a = b := by rw [← Int64.toInt_inj, iL_T ha, iL_T hb]
theorem bd_s {v : Int} (h1 : -4611686018427387904 ≤ v) (h2 : v ≤ 4611686018427387904) : bd v := ⟨h1, h2⟩
theorem iL_0 {a : Int} (ha : bd a) : (lg_cmp (iL a) 0 = 0) ↔ a = 0 := by
  rw [lg_cmp_eq]
  exact iL_e (b := 0) ha ⟨by omega, by omega⟩
theorem iL_z {a : Int} (ha : bd a) : (iL a = 0) ↔ a = 0 := iL_e (b := 0) ha ⟨by omega, by omega⟩
theorem iL_p {a : Int} (ha : bd a) : (0 ≤ lg_cmp (iL a) 0) ↔ 0 ≤ a := by
  rw [lg_cmp_ge, Int64.le_iff_toInt_le, iL_T ha]
  exact Iff.rfl
theorem iL_r {a b : Int} (ha : bd a) (hb : bd b) : iL a - iL a / iL b * iL b = iL (a.tmod b) := by
  rw [iL_d ha hb, iL_m, iL_s, Int.tmod_def, Int.mul_comm]
theorem bd_tm {a b : Int} (ha : bd a) : bd (a.tmod b) := by
  have h1 : (a.tmod b).natAbs ≤ a.natAbs := by rw [Int.natAbs_tmod]; exact Nat.mod_le _ _
  have := ha.1
  have := ha.2
  exact ⟨by omega, by omega⟩
theorem gcd_tm {a b : Int} : Int.gcd b (a.tmod b) = Int.gcd a b := by
  unfold Int.gcd
  rw [Int.natAbs_tmod, Nat.gcd_comm b.natAbs, ← Nat.gcd_rec, Nat.gcd_comm]
theorem mod_half {a b : Nat} (hb : 0 < b) (h : 0 < a % b) : 2 * (b % (a % b)) < b := by
  have h1 := Nat.mod_lt a hb
  have h2 := Nat.mod_lt b h
  have h3 := Nat.div_add_mod b (a % b)
  have h4 : 1 ≤ b / (a % b) := (Nat.one_le_div_iff h).mpr (by omega)
  have h5 : a % b ≤ (a % b) * (b / (a % b)) := Nat.le_mul_of_pos_right _ h4
  omega
theorem r_common' : ∀ (j n : Nat) (a b : Int) (h : abJ), b.natAbs < 2 ^ j → 2 * j + 1 ≤ n → bd a → bd b → fPXC n 0 (iL a) (iL b) h = some (iL (Int.gcd a b)) := by
  have z : ∀ (n : Nat) (a : Int) (h : abJ), bd a → fPXC (n + 1) 0 (iL a) (iL 0) h = some (iL (Int.gcd a 0)) := by
    intro n a h ha
    rw [fPXC]
    show bX12_common (fPXC n) (iL a) (iL 0) h = _
    unfold bX12_common
    rw [if_pos ((iL_0 ⟨by omega, by omega⟩).mpr rfl), Int.gcd_zero_right]
    by_cases c : 0 ≤ a
    · rw [if_pos ((iL_p ha).mpr c), show ((a.natAbs : Nat) : Int) = a by omega]
    · rw [if_neg (fun q => c ((iL_p ha).mp q)), iL_n, show ((a.natAbs : Nat) : Int) = -a by omega]
  have st : ∀ (n : Nat) (a b : Int) (h : abJ), bd a → bd b → b ≠ 0 → fPXC (n + 1) 0 (iL a) (iL b) h = fPXC n 0 (iL b) (iL (a.tmod b)) h := by
    intro n a b h ha hb c
    rw [fPXC]
    show bX12_common (fPXC n) (iL a) (iL b) h = _
    unfold bX12_common
    rw [if_neg (fun q => c ((iL_0 hb).mp q)), ab_askP (fun q => c ((iL_z hb).mp q)), iL_r ha hb]
    cases fPXC n 0 (iL b) (iL (a.tmod b)) h <;> rfl
  intro j
  induction j with
  | zero =>
    intro n a b h hb hn ha hbb
    obtain ⟨n, rfl⟩ : ∃ n0, n = n0 + 1 := ⟨n - 1, by omega⟩
    have e : b = 0 := by simp at hb; exact hb
    subst e
    exact z n a h ha
  | succ j ih =>
    intro n a b h hb hn ha hbb
    obtain ⟨n, rfl⟩ : ∃ n0, n = n0 + 2 := ⟨n - 2, by omega⟩
    by_cases c : b = 0
    · subst c; exact z (n + 1) a h ha
    rw [st (n + 1) a b h ha hbb c, ← gcd_tm]
    by_cases c2 : a.tmod b = 0
    · rw [c2]; exact z n b h hbb
    rw [st n b _ h hbb (bd_tm ha) c2, ← gcd_tm]
    refine ih n _ _ h ?_ (by omega) (bd_tm ha) (bd_tm hbb)
    have h1 : 0 < a.natAbs % b.natAbs := by rw [← Int.natAbs_tmod]; omega
    have h2 := mod_half (show 0 < b.natAbs by omega) h1
    rw [Int.natAbs_tmod, Int.natAbs_tmod]
    rw [Nat.pow_succ] at hb
    omega
theorem r_common {a b : Int} {h : abJ} (ha : bd a) (hb : bd b) (hbs : b.natAbs < 562949953421312) : fX12_common (iL a) (iL b) h = some (iL (Int.gcd a b)) := r_common' 49 100 a b h hbs (by omega) ha hb
/-- lowest terms -/
def nf (a b : Int) : Int × Int := (a.tdiv (Int.gcd a b), b.tdiv (Int.gcd a b))
theorem gcd_dv (a b : Int) : ∃ u v : Int, a = (Int.gcd a b : Int) * u ∧ b = (Int.gcd a b : Int) * v := by
  obtain ⟨u, hu⟩ := Int.gcd_dvd_left a b
  obtain ⟨v, hv⟩ := Int.gcd_dvd_right a b
  exact ⟨u, v, hu, hv⟩
theorem gcd_ps {a b : Int} (hb : 0 < b) : 0 < (Int.gcd a b : Int) := by
  have : Int.gcd a b ≠ 0 := by
    intro q
    rw [Int.gcd_eq_zero_iff] at q
    omega
  omega
theorem nf_x {a b : Int} (hb : 0 < b) : a = (Int.gcd a b : Int) * (nf a b).1 ∧ b = (Int.gcd a b : Int) * (nf a b).2 ∧ 0 < (nf a b).2 ∧ Int.gcd (nf a b).1 (nf a b).2 = 1 := by
  have hg := gcd_ps (a := a) hb
  obtain ⟨u, v, hu, hv⟩ := gcd_dv a b
  have e1 : (nf a b).1 = u := by
    unfold nf
    show a.tdiv _ = u
    conv => lhs; lhs; rw [hu]
    exact Int.mul_tdiv_cancel_left _ (by omega)
  have e2 : (nf a b).2 = v := by
    unfold nf
    show b.tdiv _ = v
    conv => lhs; lhs; rw [hv]
    exact Int.mul_tdiv_cancel_left _ (by omega)
  rw [e1, e2]
  refine ⟨hu, hv, ?_, ?_⟩
  · refine Classical.byContradiction (fun q => ?_)
    have : (Int.gcd a b : Int) * v ≤ (Int.gcd a b : Int) * 0 := Int.mul_le_mul_of_nonneg_left (by omega) (by omega)
    omega
  · have h0 : Int.gcd ((Int.gcd a b : Int) * u) ((Int.gcd a b : Int) * v) = Int.gcd a b := by rw [← hu, ← hv]
    have h1 : Int.gcd a b = (Int.gcd a b : Int).natAbs * Int.gcd u v := by
      rw [Int.gcd_mul_left] at h0
      exact h0.symm
    have h2 : Int.gcd a b * Int.gcd u v = Int.gcd a b * 1 := by
      rw [Nat.mul_one]
      exact h1.symm
    exact Nat.eq_of_mul_eq_mul_left (by omega) h2
/-- like fractions have like lowest terms -/
theorem nf_e {a b c d : Int} (hb : 0 < b) (hd : 0 < d) (h : a * d = c * b) : nf a b = nf c d := by
  obtain ⟨a1, b1, p1, g1⟩ := nf_x (a := a) hb
  obtain ⟨c1, d1, p2, g2⟩ := nf_x (a := c) hd
  have q1 := gcd_ps (a := a) hb
  have q2 := gcd_ps (a := c) hd
  generalize (Int.gcd a b : Int) = g at *
  generalize (Int.gcd c d : Int) = k at *
  generalize nf a b = x at *
  generalize nf c d = y at *
  have e : x.1 * y.2 = y.1 * x.2 := by
    have h2 : (g * k) * (x.1 * y.2) = (g * k) * (y.1 * x.2) := by
      calc (g * k) * (x.1 * y.2) = (g * x.1) * (k * y.2) := by grind
        _ = a * d := by rw [← a1, ← d1]
        _ = c * b := h
        _ = (k * y.1) * (g * x.2) := by rw [← c1, ← b1]
        _ = (g * k) * (y.1 * x.2) := by grind
    refine Int.eq_of_mul_eq_mul_left ?_ h2
    have := Int.mul_pos q1 q2
    omega
  have d2 : x.2 ∣ y.2 := by
    have : x.2 ∣ x.1 * y.2 := ⟨y.1, by rw [e]; grind⟩
    have w := Int.dvd_gcd_mul_iff_dvd_mul.mpr this
    rw [Int.gcd_comm, g1] at w
    simpa using w
  have d3 : y.2 ∣ x.2 := by
    have : y.2 ∣ y.1 * x.2 := ⟨x.1, by rw [← e]; grind⟩
    have w := Int.dvd_gcd_mul_iff_dvd_mul.mpr this
    rw [Int.gcd_comm, g2] at w
    simpa using w
  have e2 : x.2 = y.2 := Int.dvd_antisymm (by omega) (by omega) d2 d3
  have e3 : x.1 = y.1 := by
    rw [e2] at e
    exact Int.eq_of_mul_eq_mul_right (by omega) e
  exact Prod.ext e3 e2
theorem nf_b {a b : Int} (hb : 0 < b) : (nf a b).1.natAbs ≤ a.natAbs ∧ (nf a b).2 ≤ b := by
  obtain ⟨a1, b1, p1, _⟩ := nf_x (a := a) hb
  have q1 := gcd_ps (a := a) hb
  generalize (Int.gcd a b : Int) = g at *
  generalize nf a b = x at *
  constructor
  · have : a.natAbs = g.natAbs * x.1.natAbs := by conv => lhs; rw [a1]; rw [Int.natAbs_mul]
    rw [this]
    exact Nat.le_mul_of_pos_left _ (by omega)
  · have : 1 * x.2 ≤ g * x.2 := Int.mul_le_mul_of_nonneg_right (by omega) (by omega)
    omega
/-- it is the same fraction -/
theorem nf_r {a b : Int} (hb : 0 < b) : (nf a b).1 * b = a * (nf a b).2 := by
  obtain ⟨a1, b1, _, _⟩ := nf_x (a := a) hb
  generalize (Int.gcd a b : Int) = g at *
  generalize nf a b = x at *
  conv => lhs; rw [b1]
  conv => rhs; rw [a1]
  grind
theorem r_lays {k : Nat} {a b : Int} {h : abJ} (hk : k < 42) (ha : bd a) (hb : 0 < b) (hbs : b < 562949953421312) : fX12_lays (nI k) (iL a) (iL b) h = some (ab_wL (ab_wL h 80 k (iL (nf a b).1)) 81 k (iL (nf a b).2)) := by
  have hbd : bd b := ⟨by omega, by omega⟩
  have hg := gcd_ps (a := a) hb
  have hgb : (Int.gcd a b : Int) ≤ b := Int.le_of_dvd hb (Int.gcd_dvd_right a b)
  have hgd : bd (Int.gcd a b : Int) := ⟨by omega, by omega⟩
  have n0 : ¬ iL (Int.gcd a b : Int) = 0 := fun q => by have := (iL_z hgd).mp q; omega
  unfold fX12_lays
  rw [r_common ha hbd (by omega), ab_bindS, if_pos ((iL_p hbd).mpr (by omega)), nI_clamp (by omega), ab_askP n0, ab_askP (ixN (by omega) (by omega)), ab_askP n0, ab_askP (ixN (by omega) (by omega)), iL_d ha hgd, iL_d hbd hgd]
  rfl
