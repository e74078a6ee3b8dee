/-! forces, best: who can force what. -/
theorem fgb_t {F : Nat → Bool} {q : Nat} : ∀ {k j acc : Nat}, (fgb F k j acc).testBit q = true ↔ (acc.testBit q = true ∨ (j ≤ q ∧ q < j + k ∧ F q = true))
  | 0, j, acc => ⟨fun h => Or.inl h, fun h => by
      rcases h with h | ⟨a, b, _⟩
      · exact h
      · omega⟩
  | k + 1, j, acc => by
    rw [fgb, fgb_t]
    constructor
    · rintro (h | ⟨a, b, c⟩)
      · by_cases cb : F j = true
        · rw [if_pos cb, Nat.testBit_or, Nat.testBit_two_pow, Bool.or_eq_true, decide_eq_true_iff] at h
          rcases h with h | h
          · exact Or.inl h
          · exact Or.inr ⟨by omega, by omega, by rw [← h]; exact cb⟩
        · rw [if_neg cb] at h; exact Or.inl h
      · exact Or.inr ⟨by omega, by omega, c⟩
    · rintro (h | ⟨a, b, c⟩)
      · refine Or.inl ?_
        split
        · rw [Nat.testBit_or, h]; rfl
        · exact h
      · by_cases e : j = q
        · subst e
          refine Or.inl ?_
          rw [if_pos c, Nat.testBit_or, Nat.testBit_two_pow, Bool.or_eq_true, decide_eq_true_iff]
          exact Or.inr rfl
        · exact Or.inr ⟨by omega, by omega, c⟩
theorem fgb_lt {F : Nat → Bool} : ∀ {k j acc : Nat}, j + k ≤ 6 → acc < 64 → fgb F k j acc < 64
  | 0, j, acc, _, h => h
  | k + 1, j, acc, hj, h => by
    rw [fgb]
    refine fgb_lt (by omega) ?_
    split
    · exact or64 h (by omega)
    · exact h
theorem sg_all {P : Nat → Bool} : ∀ {n : Nat}, sg (fun i => if P i = true then 1 else 0) n = n ↔ ∀ i, i < n → P i = true
  | 0 => ⟨fun _ i hi => by omega, fun _ => rfl⟩
  | n + 1 => by
    rw [sg]
    have hb := sg_1 (F := fun i => if P i = true then 1 else 0) (fun i => by split <;> omega) n
    have ih := sg_all (P := P) (n := n)
    constructor
    · intro q
      by_cases c : P n = true
      · rw [if_pos c] at q
        intro i hi
        by_cases e : i = n
        · subst e; exact c
        · exact ih.mp (by omega) i (by omega)
      · rw [if_neg c] at q; omega
    · intro q
      rw [if_pos (q n (by omega)), ih.mpr (fun i hi => q i (by omega))]
/-- roads into a set -/
def rin (m : MoT) (B p n : Nat) : Nat := sg (fun r => if B.testBit (mL m p r) = true then 1 else 0) n
def cnL (m : MoT) (B p : Nat) : Bool := !rs m p && decide (0 < rin m B p (mR m p))
def msL (m : MoT) (B p : Nat) : Bool := !rs m p && decide (rin m B p (mR m p) = mR m p)
def fFO (m : MoT) (g : Nat) : Nat → Nat × Nat
  | 0 => (2 ^ g, 2 ^ g)
  | n + 1 => (2 ^ g ||| fgb (cnL m (fFO m g n).2) (mP m) 0 0, 2 ^ g ||| fgb (msL m (fFO m g n).1) (mP m) 0 0)
theorem fF_m {m : MoT} {g n p : Nat} : (fFO m g (n + 1)).1.testBit p = true ↔ (p = g ∨ (p < mP m ∧ rs m p = false ∧ ∃ r, r < mR m p ∧ (fFO m g n).2.testBit (mL m p r) = true)) := by
  rw [fFO, Nat.testBit_or, Nat.testBit_two_pow, Bool.or_eq_true, decide_eq_true_iff, fgb_t, Nat.zero_testBit]
  unfold cnL rin
  rw [Bool.and_eq_true, decide_eq_true_iff, Bool.not_eq_true', sg_pos]
  constructor
  · rintro (h | h | ⟨_, h, h1, r, h2, h3⟩)
    · exact Or.inl h.symm
    · cases h
    · refine Or.inr ⟨by omega, h1, r, h2, ?_⟩
      by_cases c : (fFO m g n).2.testBit (mL m p r) = true
      · exact c
      · rw [if_neg c] at h3; omega
  · rintro (h | ⟨h, h1, r, h2, h3⟩)
    · exact Or.inl h.symm
    · exact Or.inr (Or.inr ⟨Nat.zero_le _, by omega, h1, r, h2, by rw [if_pos h3]; omega⟩)
theorem fO_m {m : MoT} {g n p : Nat} : (fFO m g (n + 1)).2.testBit p = true ↔ (p = g ∨ (p < mP m ∧ rs m p = false ∧ ∀ r, r < mR m p → (fFO m g n).1.testBit (mL m p r) = true)) := by
  rw [fFO, Nat.testBit_or, Nat.testBit_two_pow, Bool.or_eq_true, decide_eq_true_iff, fgb_t, Nat.zero_testBit]
  unfold msL rin
  rw [Bool.and_eq_true, decide_eq_true_iff, Bool.not_eq_true', sg_all (P := fun r => (fFO m g n).1.testBit (mL m p r))]
  constructor
  · rintro (h | h | ⟨_, h, h1, h2⟩)
    · exact Or.inl h.symm
    · cases h
    · exact Or.inr ⟨by omega, h1, h2⟩
  · rintro (h | ⟨h, h1, h2⟩)
    · exact Or.inl h.symm
    · exact Or.inr (Or.inr ⟨Nat.zero_le _, by omega, h1, h2⟩)
theorem f0_m {m : MoT} {g p : Nat} : ((fFO m g 0).1.testBit p = true ↔ p = g) ∧ ((fFO m g 0).2.testBit p = true ↔ p = g) := by
  have : (2 ^ g).testBit p = true ↔ p = g := by
    rw [Nat.testBit_two_pow, decide_eq_true_iff]
    exact ⟨fun h => h.symm, fun h => h.symm⟩
  exact ⟨this, this⟩
theorem fFO_g {m : MoT} {g : Nat} : ∀ n, (fFO m g n).1.testBit g = true ∧ (fFO m g n).2.testBit g = true
  | 0 => ⟨f0_m.1.mpr rfl, f0_m.2.mpr rfl⟩
  | _ + 1 => ⟨fF_m.mpr (Or.inl rfl), fO_m.mpr (Or.inl rfl)⟩
theorem fFO_s {m : MoT} {g : Nat} : ∀ n p, ((fFO m g n).1.testBit p = true → (fFO m g (n + 1)).1.testBit p = true) ∧ ((fFO m g n).2.testBit p = true → (fFO m g (n + 1)).2.testBit p = true)
  | 0, p => ⟨fun h => by rw [f0_m.1.mp h]; exact (fFO_g 1).1, fun h => by rw [f0_m.2.mp h]; exact (fFO_g 1).2⟩
  | n + 1, p => by
    refine ⟨fun h => ?_, fun h => ?_⟩
    · rw [fF_m] at h ⊢
      rcases h with h | ⟨a, b, r, c, d⟩
      · exact Or.inl h
      · exact Or.inr ⟨a, b, r, c, (fFO_s n _).2 d⟩
    · rw [fO_m] at h ⊢
      rcases h with h | ⟨a, b, c⟩
      · exact Or.inl h
      · exact Or.inr ⟨a, b, fun r hr => (fFO_s n _).1 (c r hr)⟩
theorem fFO_k {m : MoT} {g p : Nat} : ∀ k n, ((fFO m g n).1.testBit p = true → (fFO m g (n + k)).1.testBit p = true) ∧ ((fFO m g n).2.testBit p = true → (fFO m g (n + k)).2.testBit p = true)
  | 0, n => ⟨id, id⟩
  | k + 1, n => by
    obtain ⟨a, b⟩ := fFO_k (m := m) (g := g) (p := p) k n
    exact ⟨fun h => (fFO_s (n + k) p).1 (a h), fun h => (fFO_s (n + k) p).2 (b h)⟩
theorem fFO_le {m : MoT} {g p a b : Nat} (h : a ≤ b) : ((fFO m g a).1.testBit p = true → (fFO m g b).1.testBit p = true) ∧ ((fFO m g a).2.testBit p = true → (fFO m g b).2.testBit p = true) := by
  have := fFO_k (m := m) (g := g) (p := p) (b - a) a
  rwa [show a + (b - a) = b by omega] at this
theorem fFO_lt {m : MoT} {g : Nat} (hO : MO m) (hg : g < 6) : ∀ n, (fFO m g n).1 < 64 ∧ (fFO m g n).2 < 64
  | 0 => ⟨Nat.pow_lt_pow_right (m := g) (n := 6) (by omega) hg, Nat.pow_lt_pow_right (m := g) (n := 6) (by omega) hg⟩
  | n + 1 => by
    have h6 := hO.2.1
    have h2 : 2 ^ g < 2 ^ 6 := Nat.pow_lt_pow_right (by omega) hg
    exact ⟨Nat.or_lt_two_pow (n := 6) h2 (fgb_lt (by omega) (by omega)), Nat.or_lt_two_pow (n := 6) h2 (fgb_lt (by omega) (by omega))⟩
theorem pc6_lt' : ∀ F < 64, ∀ G < 64, F ||| G = G → F ≠ G → pc6 F < pc6 G := by decide +kernel
theorem or_sub {F G : Nat} (h : ∀ p, F.testBit p = true → G.testBit p = true) : F ||| G = G := by
  refine Nat.eq_of_testBit_eq (fun q => ?_)
  rw [Nat.testBit_or]
  cases c : F.testBit q with
  | false => rfl
  | true => rw [h q c]; rfl
theorem pc6_mo {F G : Nat} (hF : F < 64) (hG : G < 64) (h : ∀ p, F.testBit p = true → G.testBit p = true) : F = G ∨ pc6 F < pc6 G := by
  by_cases e : F = G
  · exact Or.inl e
  · exact Or.inr (pc6_lt' F hF G hG (or_sub h) e)
theorem fFO_st {m : MoT} {g : Nat} (hO : MO m) (hg : g < 6) : ∀ n, (∃ j, j < n ∧ fFO m g (j + 1) = fFO m g j) ∨ n ≤ pc6 (fFO m g n).1 + pc6 (fFO m g n).2
  | 0 => Or.inr (Nat.zero_le _)
  | n + 1 => by
    rcases fFO_st hO hg n with ⟨j, hj, e⟩ | h
    · exact Or.inl ⟨j, by omega, e⟩
    · obtain ⟨a1, a2⟩ := fFO_lt hO hg n
      obtain ⟨b1, b2⟩ := fFO_lt hO hg (n + 1)
      rcases pc6_mo a1 b1 (fun p => (fFO_s n p).1) with e1 | e1 <;> rcases pc6_mo a2 b2 (fun p => (fFO_s n p).2) with e2 | e2
      · exact Or.inl ⟨n, by omega, (Prod.ext e1 e2).symm⟩
      · rw [← e1]; exact Or.inr (by omega)
      · rw [← e2]; exact Or.inr (by omega)
      · exact Or.inr (by omega)
theorem fFO_12 {m : MoT} {g n : Nat} (hO : MO m) (hg : g < 6) (hn : 12 ≤ n) : fFO m g n = fFO m g 12 := by
  have key : ∀ j, fFO m g (j + 1) = fFO m g j → ∀ k, fFO m g (j + k) = fFO m g j := by
    intro j e k
    induction k with
    | zero => rfl
    | succ k ih =>
      have e1 : fFO m g (j + k + 1) = (2 ^ g ||| fgb (cnL m (fFO m g (j + k)).2) (mP m) 0 0, 2 ^ g ||| fgb (msL m (fFO m g (j + k)).1) (mP m) 0 0) := rfl
      rw [show j + (k + 1) = j + k + 1 by omega, e1, ih]
      exact e
  have hs : ∃ j, j ≤ 12 ∧ fFO m g (j + 1) = fFO m g j := by
    rcases fFO_st hO hg 13 with ⟨j, hj, e⟩ | h
    · exact ⟨j, by omega, e⟩
    · have h1 := pc6_le (fFO m g 13).1
      have h2 := pc6_le (fFO m g 13).2
      omega
  obtain ⟨j, hj, e⟩ := hs
  have e1 := key j e (n - j)
  have e2 := key j e (12 - j)
  rw [show j + (n - j) = n by omega] at e1
  rw [show j + (12 - j) = 12 by omega] at e2
  rw [e1, e2]
/-- within how many steps -/
def fsr (m : MoT) (g w : Nat) : Nat → Nat → Option Nat
  | 0, _ => none
  | k + 1, n => if (fFO m g n).1.testBit w = true then some n else fsr m g w k (n + 1)
theorem fsr_s {m : MoT} {g w : Nat} : ∀ {k n j : Nat}, fsr m g w k n = some j → n ≤ j ∧ j < n + k ∧ (fFO m g j).1.testBit w = true ∧ ∀ i, n ≤ i → i < j → (fFO m g i).1.testBit w = false
  | 0, n, j, h => by cases h
  | k + 1, n, j, h => by
    rw [fsr] at h
    by_cases c : (fFO m g n).1.testBit w = true
    · rw [if_pos c] at h
      cases h
      exact ⟨Nat.le_refl _, by omega, c, fun i h1 h2 => by omega⟩
    · rw [if_neg c] at h
      obtain ⟨a, b, d, e⟩ := fsr_s h
      refine ⟨by omega, by omega, d, fun i h1 h2 => ?_⟩
      by_cases ei : i = n
      · subst ei; simpa using c
      · exact e i (by omega) h2
theorem fsr_n {m : MoT} {g w : Nat} : ∀ {k n : Nat}, fsr m g w k n = none → ∀ i, n ≤ i → i < n + k → (fFO m g i).1.testBit w = false
  | 0, n, _, i, h1, h2 => by omega
  | k + 1, n, h, i, h1, h2 => by
    rw [fsr] at h
    by_cases c : (fFO m g n).1.testBit w = true
    · rw [if_pos c] at h; cases h
    · rw [if_neg c] at h
      by_cases ei : i = n
      · subst ei; simpa using c
      · exact fsr_n h i (by omega) (by omega)
/-- the first road from here into a set -/
def frd (m : MoT) (B w : Nat) : Nat → Nat → Option Nat
  | 0, _ => none
  | k + 1, r => if B.testBit (mL m w r) = true then some r else frd m B w k (r + 1)
