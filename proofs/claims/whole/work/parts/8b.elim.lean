/-! chance, mean: rows are cleared. -/
def sL (f : Nat → Int) : List Nat → Int
  | [] => 0
  | a :: A => f a + sL f A
theorem sL_c {f g : Nat → Int} : ∀ {A : List Nat}, (∀ j, j ∈ A → f j = g j) → sL f A = sL g A
  | [], _ => rfl
  | a :: A, h => by rw [sL, sL, h a (by simp), sL_c (fun j hj => h j (by simp [hj]))]
theorem sL_l {f g : Nat → Int} {s t : Int} : ∀ {A : List Nat}, sL (fun j => s * f j - t * g j) A = s * sL f A - t * sL g A
  | [] => by simp [sL]
  | a :: A => by rw [sL, sL, sL, sL_l]; grind
theorem sL_n {f : Nat → Int} : ∀ {A : List Nat}, (∀ j, j ∈ A → f j ≤ 0) → sL f A ≤ 0
  | [], _ => by simp [sL]
  | a :: A, h => by
    have h1 := h a (by simp)
    have h2 := sL_n (A := A) (fun j hj => h j (by simp [hj]))
    rw [sL]; omega
theorem sL_1 {f : Nat → Int} {k : Nat} : ∀ {A : List Nat}, A.Nodup → k ∈ A → (∀ j, j ∈ A → j ≠ k → f j ≤ 0) → sL f A ≤ f k
  | [], _, hk, _ => by cases hk
  | a :: A, hn, hk, h => by
    have hn2 := List.nodup_cons.mp hn
    rw [sL]
    by_cases e : a = k
    · have := sL_n (f := f) (A := A) (fun j hj => h j (by simp [hj]) (fun q => hn2.1 (by rw [e, ← q]; exact hj)))
      rw [e]; omega
    · have h1 := h a (by simp) e
      have h2 := sL_1 hn2.2 ((List.mem_cons.mp hk).resolve_left (fun q => e q.symm)) (fun j hj => h j (by simp [hj]))
      omega
theorem sL_2 {f : Nat → Int} {k i : Nat} : ∀ {A : List Nat}, A.Nodup → k ∈ A → i ∈ A → i ≠ k → (∀ j, j ∈ A → j ≠ k → f j ≤ 0) → sL f A ≤ f k + f i
  | [], _, hk, _, _, _ => by cases hk
  | a :: A, hn, hk, hi, hik, h => by
    have hn2 := List.nodup_cons.mp hn
    rw [sL]
    by_cases e : a = i
    · have := sL_1 (f := f) hn2.2 ((List.mem_cons.mp hk).resolve_left (fun q => hik (by rw [q, e]))) (fun j hj => h j (by simp [hj]))
      rw [e]; omega
    · by_cases e2 : a = k
      · have hiA := (List.mem_cons.mp hi).resolve_left (fun q => e q.symm)
        have := sL_1 (f := f) (k := i) hn2.2 hiA (fun j hj _ => h j (by simp [hj]) (fun q => hn2.1 (by rw [e2, ← q]; exact hj)))
        rw [e2]; omega
      · have h1 := h a (by simp) e2
        have h2 := sL_2 hn2.2 ((List.mem_cons.mp hk).resolve_left (fun q => e2 q.symm)) ((List.mem_cons.mp hi).resolve_left (fun q => e q.symm)) hik (fun j hj => h j (by simp [hj]))
        omega
/-- one step -/
def elm (l : Int) (k : Nat) (m : Nat → Nat → Int) : Nat → Nat → Int := fun i j => if i = k then m k j else (m i j * m k k - m i k * m k j).tdiv l
theorem elm_k {l : Int} {k : Nat} {m : Nat → Nat → Int} : elm l k m k = m k := by funext j; unfold elm; rw [if_pos rfl]
/-- what holds of rows: columns 0 to 5 posts, 6 the right side, 7 the sum, 8 the sum by weights -/
def EI (t : Nat) (l : Int) (m : Nat → Nat → Int) (w : Nat → Int) (A P U : List Nat) : Prop :=
  (0 < l ∧ l ≤ 3 ^ P.length) ∧ (DU t l m U ∧ DR t l m P U) ∧ (U.length ≤ t ∧ t + P.length ≤ 5) ∧
  (∀ i, i ∈ A → ∀ j, j ∈ U → j ≠ i → m i j ≤ 0) ∧
  ((∀ i, i ∈ P → m i i = l) ∧ (∀ i, i ∈ A → ∀ j, j ∈ P → j ≠ i → m i j = 0)) ∧
  (∀ i, i ∈ A → m i 7 = sL (m i) A ∧ m i 8 = sL (fun j => m i j * w j) A ∧ 0 ≤ m i 7 ∧ 0 < m i 8 ∧ 0 ≤ m i 6 ∧ m i 6 ≤ 3 * 6 ^ P.length) ∧
  (∀ i, i ∈ U → m i i ≤ 3 * l) ∧ (∀ i, i ∈ A ↔ (i ∈ P ∨ i ∈ U)) ∧ (A.Nodup ∧ (∀ i, i ∈ P → i ∉ U) ∧ U.Nodup) ∧ (∀ i, i ∈ A → ∀ j, j < 6 → j ∉ A → m i j = 0) ∧ (∀ i, i ∈ A → 0 < w i)
theorem EI_od {t : Nat} {l : Int} {m : Nat → Nat → Int} {w : Nat → Int} {A P U : List Nat} (h : EI t l m w A P U) {i j : Nat} (hi : i ∈ A) (hj : j ∈ A) (hij : j ≠ i) : m i j ≤ 0 := by
  obtain ⟨h1, h2, h3, h4, h5, h6, h7, h8, h9, h10, h11⟩ := h
  rcases (h8 j).mp hj with q | q
  · rw [h5.2 i hi j q hij]; exact Int.le_refl _
  · exact h4 i hi j q hij
theorem EI_b {t : Nat} {l : Int} {m : Nat → Nat → Int} {w : Nat → Int} {A P U : List Nat} (h : EI t l m w A P U) {i : Nat} (hi : i ∈ A) : 0 < m i i ∧ m i i ≤ 3 * l ∧ (∀ j, j ∈ A → j ≠ i → -(m i i) ≤ m i j) := by
  have od := fun j hj q => EI_od h (i := i) (j := j) hi hj q
  obtain ⟨h1, h2, h3, h4, h5, h6, h7, h8, h9, h10, h11⟩ := h
  obtain ⟨a7, a8, b7, b8, _, _⟩ := h6 i hi
  refine ⟨?_, ?_, fun j hj hij => ?_⟩
  · have := sL_1 (f := fun j => m i j * w j) h9.1 hi (fun j hj q => by
      have q1 := od j hj q
      have q2 := h11 j hj
      have : m i j * w j ≤ 0 * w j := Int.mul_le_mul_of_nonneg_right q1 (by omega)
      rw [Int.zero_mul] at this
      exact this)
    have q2 := h11 i hi
    refine Classical.byContradiction (fun q => ?_)
    have : m i i * w i ≤ 0 * w i := Int.mul_le_mul_of_nonneg_right (by omega) (by omega)
    rw [Int.zero_mul] at this
    omega
  · rcases (h8 i).mp hi with q | q
    · rw [h5.1 i q]; omega
    · exact h7 i q
  · have := sL_2 (f := m i) h9.1 hi hj hij od
    omega
/-- each division leaves no rest -/
theorem EI_x {t k : Nat} {l : Int} {m : Nat → Nat → Int} {w : Nat → Int} {A P U : List Nat} (h : EI t l m w A P (k :: U)) {i : Nat} (hi : i ∈ A) (hik : i ≠ k) : nw l k (m k) (m i) (elm l k m i) := by
  obtain ⟨h1, h2, h3, h4, h5, h6, h7, h8, h9, h10, h11⟩ := h
  intro j
  have hd : l ^ 1 ∣ e2 (m i) (m k) j k := by
    have hl := h3.1
    rw [List.length_cons] at hl
    rcases (h8 i).mp hi with q | q
    · exact h2.2.1 (by omega) i k q (by simp) j k
    · have : i ∈ U := (List.mem_cons.mp q).resolve_left hik
      have : 1 ≤ U.length := List.length_pos_of_mem this
      exact h2.1.1 (by omega) i k q (by simp) j k
  rw [Int.pow_succ, Int.pow_zero, Int.one_mul] at hd
  unfold elm
  rw [if_neg hik]
  obtain ⟨q, hq⟩ := hd
  have e : m i j * m k k - m i k * m k j = l * q := hq
  rw [e, Int.mul_tdiv_cancel_left _ (by omega), ← e]
  grind
theorem EI_s {t k : Nat} {l : Int} {m : Nat → Nat → Int} {w : Nat → Int} {A P U : List Nat} (h : EI (t + 1) l m w A P (k :: U)) (h6b : ∀ i, i ∈ A → i < 6) : EI t (m k k) (elm l k m) w A (k :: P) U := by
  have hx := fun i hi q => EI_x h (i := i) hi q
  have hb := fun i hi => EI_b h (i := i) hi
  have od := fun i j hi hj q => EI_od h (i := i) (j := j) hi hj q
  obtain ⟨h1, h2, h3, h4, h5, h6, h7, h8, h9, h10, h11⟩ := h
  have hkA : k ∈ A := (h8 k).mpr (Or.inr (by simp))
  have hkU := List.nodup_cons.mp h9.2.2
  have hkP : k ∉ P := fun q => h9.2.1 k q (by simp)
  obtain ⟨p1, p2, p3⟩ := hb k hkA
  have hlen := h3.1
  have hlen2 := h3.2
  rw [List.length_cons] at hlen
  have hPA : ∀ i, i ∈ P → i ∈ A := fun i q => (h8 i).mpr (Or.inl q)
  have hUA : ∀ i, i ∈ U → i ∈ A := fun i q => (h8 i).mpr (Or.inr (by simp [q]))
  have hPk : ∀ i, i ∈ P → i ≠ k := fun i q e => hkP (by rw [← e]; exact q)
  have hUk : ∀ i, i ∈ U → i ≠ k := fun i q e => hkU.1 (by rw [← e]; exact q)
  have hl0 : l ≠ 0 := by omega
  have pos : ∀ {x : Int}, 0 < l * x → 0 < x := fun {x} q => by
    refine Classical.byContradiction (fun c => ?_)
    have : l * x ≤ l * 0 := Int.mul_le_mul_of_nonneg_left (by omega) (by omega)
    omega
  have nng : ∀ {x : Int}, 0 ≤ l * x → 0 ≤ x := fun {x} q => by
    refine Classical.byContradiction (fun c => ?_)
    have : l * x ≤ l * (-1) := Int.mul_le_mul_of_nonneg_left (by omega) (by omega)
    omega
  have npo : ∀ {x : Int}, l * x ≤ 0 → x ≤ 0 := fun {x} q => by
    have : 0 ≤ l * (-x) := by rw [Int.mul_neg]; omega
    have := nng this
    omega
  have lec : ∀ {x y : Int}, l * x ≤ l * y → x ≤ y := fun {x y} q => by
    have : 0 ≤ l * (y - x) := by rw [Int.mul_sub]; omega
    have := nng this
    omega
  refine ⟨⟨p1, ?_⟩, ⟨DU_s (by omega) hl0 (by omega) (by simp) h2.1 (fun u hu => ⟨by simp [hu], hx u (hUA u hu) (hUk u hu)⟩), DR_s (by omega) (fun q => List.eq_nil_of_length_eq_zero (by omega)) hl0 (by omega) (by simp) elm_k h2.1 h2.2 (fun u hu => ⟨by simp [hu], hx u (hUA u hu) (hUk u hu)⟩) (fun u hu => hx u (hPA u hu) (hPk u hu))⟩, ⟨by omega, by rw [List.length_cons]; omega⟩, fun i hi j hj hij => ?_, ⟨fun i hi => ?_, fun i hi j hj hij => ?_⟩, fun i hi => ?_, fun i hi => ?_, fun i => ?_, ⟨h9.1, fun i hi q => ?_, hkU.2⟩, fun i hi j hj hjA => ?_, h11⟩
  · rw [List.length_cons, Int.pow_succ]
    omega
  · by_cases e : i = k
    · subst e; rw [elm_k]; exact h4 i hi j (by simp [hj]) hij
    · refine npo ?_
      rw [hx i hi e j]
      have q1 := h4 i hi j (by simp [hj]) hij
      have q2 := od i k hi hkA (fun q => e q.symm)
      have q3 := h4 k hkA j (by simp [hj]) (hUk j hj)
      have q4 : m k k * m i j ≤ m k k * 0 := Int.mul_le_mul_of_nonneg_left q1 (by omega)
      have q5 : 0 ≤ m i k * m k j := Int.mul_nonneg_of_nonpos_of_nonpos q2 q3
      omega
  · rcases List.mem_cons.mp hi with e | e
    · subst e; rw [elm_k]
    · have w1 := hx i (hPA i e) (hPk i e) i
      rw [h5.1 i e, h5.2 k hkA i e (hPk i e)] at w1
      have : l * elm l k m i i = l * m k k := by rw [w1]; grind
      exact Int.eq_of_mul_eq_mul_left hl0 this
  · by_cases e : i = k
    · subst e
      rw [elm_k]
      rcases List.mem_cons.mp hj with q | q
      · exact absurd q hij
      · exact h5.2 i hi j q hij
    · rcases List.mem_cons.mp hj with q | q
      · subst q
        exact nw_0 hl0 (hx i hi e)
      · have w1 := hx i hi e j
        rw [h5.2 i hi j q hij, h5.2 k hkA j q (hPk j q)] at w1
        have : l * elm l k m i j = l * 0 := by rw [w1]; grind
        exact Int.eq_of_mul_eq_mul_left hl0 this
  · obtain ⟨a7, a8, b7, b8, b6, c6⟩ := h6 i hi
    obtain ⟨k7, k8, d7, d8, d6, f6⟩ := h6 k hkA
    have pw6 : (6 : Int) ^ (P.length + 1) = 6 * 6 ^ P.length := by rw [Int.pow_succ]; omega
    by_cases e : i = k
    · subst e
      rw [elm_k, List.length_cons, pw6]
      have := Int.pow_pos (m := P.length) (show (0 : Int) < 6 by omega)
      exact ⟨a7, a8, b7, b8, b6, by omega⟩
    · have q2 := od i k hi hkA (fun q => e q.symm)
      have w1 := hx i hi e
      have up : ∀ {c : Nat}, 0 ≤ m i c → 0 ≤ m k c → 0 ≤ m k k * m i c - m i k * m k c := fun {c} u v => by
        have u1 := Int.mul_nonneg (show 0 ≤ m k k by omega) u
        have u2 : 0 ≤ (-(m i k)) * m k c := Int.mul_nonneg (by omega) v
        rw [Int.neg_mul] at u2
        omega
      refine ⟨?_, ?_, nng (by rw [w1]; exact up b7 d7), pos ?_, nng (by rw [w1]; exact up b6 d6), lec ?_⟩
      · refine Int.eq_of_mul_eq_mul_left hl0 ?_
        rw [w1, a7, k7, ← sL_l]
        have : sL (fun j => m k k * m i j - m i k * m k j) A = sL (fun j => l * elm l k m i j - 0 * 0) A := sL_c (fun j _ => by rw [w1 j]; omega)
        rw [this, sL_l (g := fun _ => 0)]
        omega
      · refine Int.eq_of_mul_eq_mul_left hl0 ?_
        rw [w1, a8, k8, ← sL_l]
        have : sL (fun j => m k k * (m i j * w j) - m i k * (m k j * w j)) A = sL (fun j => l * (elm l k m i j * w j) - 0 * 0) A := sL_c (fun j _ => by rw [← Int.mul_assoc l, w1 j]; grind)
        rw [this, sL_l (g := fun _ => 0)]
        omega
      · rw [w1]
        have u1 := Int.mul_pos p1 b8
        have u2 : 0 ≤ (-(m i k)) * m k 8 := Int.mul_nonneg (by omega) (by omega)
        rw [Int.neg_mul] at u2
        omega
      · rw [w1, List.length_cons, pw6]
        obtain ⟨s1, s2, s3⟩ := hb i hi
        have s4 := s3 k hkA (fun q => e q.symm)
        have u1 : m k k * m i 6 ≤ (3 * l) * (3 * 6 ^ P.length) := Int.mul_le_mul p2 c6 b6 (by omega)
        have u2 : (-(m i k)) * m k 6 ≤ (3 * l) * (3 * 6 ^ P.length) := Int.mul_le_mul (by omega) f6 d6 (by omega)
        rw [Int.neg_mul] at u2
        have u3 : l * (3 * (6 * 6 ^ P.length)) = 2 * ((3 * l) * (3 * 6 ^ P.length)) := by grind
        omega
  · refine lec ?_
    rw [hx i (hUA i hi) (hUk i hi)]
    have q2 := od i k (hUA i hi) hkA (fun q => hUk i hi q.symm)
    have q3 := od k i hkA (hUA i hi) (hUk i hi)
    have q5 : 0 ≤ m i k * m k i := Int.mul_nonneg_of_nonpos_of_nonpos q2 q3
    have q6 : m k k * m i i ≤ m k k * (3 * l) := Int.mul_le_mul_of_nonneg_left (h7 i (by simp [hi])) (by omega)
    have q7 : l * (3 * m k k) = m k k * (3 * l) := by grind
    omega
  · rw [h8 i]
    simp only [List.mem_cons]
    constructor
    · rintro (q | q | q)
      · exact Or.inl (Or.inr q)
      · exact Or.inl (Or.inl q)
      · exact Or.inr q
    · rintro ((q | q) | q)
      · exact Or.inr (Or.inl q)
      · exact Or.inl q
      · exact Or.inr (Or.inr q)
  · rcases List.mem_cons.mp hi with e | e
    · subst e; exact hkU.1 q
    · exact h9.2.1 i e (by simp [q])
  · by_cases e : i = k
    · subst e; rw [elm_k]; exact h10 i hi j hj hjA
    · have w1 := hx i hi e j
      rw [h10 i hi j hj hjA, h10 k hkA j hj hjA] at w1
      have : l * elm l k m i j = l * 0 := by rw [w1]; grind
      exact Int.eq_of_mul_eq_mul_left hl0 this
/-- all steps -/
def eRun : List Nat → Int → (Nat → Nat → Int) → Int × (Nat → Nat → Int)
  | [], l, m => (l, m)
  | k :: U, l, m => eRun U (m k k) (elm l k m)
theorem p36 : ∀ n < 6, (3 : Int) ^ n ≤ 243 ∧ (6 : Int) ^ n ≤ 7776 := by decide
theorem EI_bb {t : Nat} {l : Int} {m : Nat → Nat → Int} {w : Nat → Int} {A P U : List Nat} (h : EI t l m w A P U) : (0 < l ∧ l ≤ 243) ∧ ∀ i, i ∈ A → (∀ j, j ∈ A → -729 ≤ m i j ∧ m i j ≤ 729) ∧ 0 ≤ m i 6 ∧ m i 6 ≤ 23328 := by
  have hb := fun i hi => EI_b h (i := i) hi
  have od := fun i j hi hj q => EI_od h (i := i) (j := j) hi hj q
  obtain ⟨h1, h2, h3, h4, h5, h6, h7, h8, h9, h10, h11⟩ := h
  obtain ⟨q3, q6⟩ := p36 P.length (by omega)
  refine ⟨⟨h1.1, by omega⟩, fun i hi => ⟨fun j hj => ?_, (h6 i hi).2.2.2.2.1, by have := (h6 i hi).2.2.2.2.2; omega⟩⟩
  obtain ⟨b1, b2, b3⟩ := hb i hi
  by_cases e : j = i
  · subst e; omega
  · have := b3 j hj e
    have := od i j hi hj e
    omega
