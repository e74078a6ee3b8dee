/-! ahead, from: what lies one step before a stand. -/
theorem pt_pt {a p r q : Nat} (hr : r < 3) : pt (pt a p r) p q = pt a p q := by
  have h1 := dg_le a p
  have h2 := pt_same (a := a) (p := p) hr
  have h3 := dg_le (pt a p r) p
  rw [h2] at h3
  have e : pt a p r = a + r * 3 ^ p - dg a p * 3 ^ p := rfl
  show pt a p r + q * 3 ^ p - dg (pt a p r) p * 3 ^ p = a + q * 3 ^ p - dg a p * 3 ^ p
  rw [h2]
  omega
theorem pt_self (a p : Nat) : pt a p (dg a p) = a := by
  have h1 := dg_le a p
  show a + dg a p * 3 ^ p - dg a p * 3 ^ p = a
  omega
def nd : List Nat → Prop
  | [] => True
  | x :: l => x ∉ l ∧ nd l
theorem nd_app : ∀ {a b : List Nat}, nd a → nd b → (∀ x, x ∈ a → x ∉ b) → nd (a ++ b)
  | [], _, _, hb, _ => hb
  | x :: a, b, ha, hb, h => by
    refine ⟨fun q => ?_, nd_app ha.2 hb (fun y hy => h y (List.mem_cons_of_mem _ hy))⟩
    rcases List.mem_append.mp q with q | q
    · exact ha.1 q
    · exact h x (List.mem_cons_self ..) q
theorem sg_one {x : Nat} : ∀ N, sg (fun i => if i = x then 1 else 0) N = if x < N then 1 else 0
  | 0 => by rw [sg, if_neg (Nat.not_lt_zero _)]
  | N + 1 => by
    rw [sg, sg_one N]
    by_cases c : N = x
    · rw [if_pos c, if_neg (show ¬ x < N by omega), if_pos (by omega)]
    · rw [if_neg c]
      by_cases c2 : x < N
      · rw [if_pos c2, if_pos (by omega)]
      · rw [if_neg c2, if_neg (by omega)]
theorem nd_len {N : Nat} : ∀ {L : List Nat}, nd L → (∀ x, x ∈ L → x < N) → L.length = sg (fun i => if decide (i ∈ L) = true then 1 else 0) N
  | [], _, _ => by
    have : sg (fun i => if decide (i ∈ ([] : List Nat)) = true then 1 else 0) N = sg (fun _ => 0) N := sg_congr (fun i _ => by simp)
    rw [this]
    have e : ∀ n, sg (fun _ => 0) n = 0 := fun n => by
      induction n with
      | zero => rfl
      | succ n ih => rw [sg, ih]
    rw [e]; rfl
  | x :: l, h, hb => by
    have ih := nd_len h.2 (fun y hy => hb y (List.mem_cons_of_mem _ hy))
    have : sg (fun i => if decide (i ∈ x :: l) = true then 1 else 0) N = sg (fun i => (if decide (i ∈ l) = true then 1 else 0) + (if i = x then 1 else 0)) N := sg_congr (fun i _ => by
      by_cases c : i = x
      · subst c
        have := h.1
        simp [this]
      · simp [c])
    rw [this, sg_add, ← ih, sg_one, if_pos (hb x (List.mem_cons_self ..)), List.length_cons]
theorem nd_le {N : Nat} {L : List Nat} (h : nd L) (hb : ∀ x, x ∈ L → x < N) : L.length ≤ N := by
  rw [nd_len h hb]
  exact sg_1 (fun i => by split <;> omega) N
def prR (m : MoT) (f s p : Nat) : Nat → Nat → List Nat
  | 0, _ => []
  | k + 1, r => (if to m f p r = s % 6 ∧ ar m f p r = dg (s / 6) p then [6 * pt (s / 6) p r + p] else []) ++ prR m f s p k (r + 1)
def prP (m : MoT) (f s : Nat) : Nat → Nat → List Nat
  | 0, _ => []
  | k + 1, p => prR m f s p (if hm m p then 0 else mR m p) 0 ++ prP m f s k (p + 1)
def prd (m : MoT) (f s : Nat) : List Nat := prP m f s (mP m) 0
theorem prR_m {m : MoT} {f s p u : Nat} : ∀ {k r : Nat}, u ∈ prR m f s p k r ↔ ∃ q, r ≤ q ∧ q < r + k ∧ to m f p q = s % 6 ∧ ar m f p q = dg (s / 6) p ∧ u = 6 * pt (s / 6) p q + p
  | 0, r => ⟨fun q => (by cases q), fun ⟨q, a, b, _⟩ => by omega⟩
  | k + 1, r => by
    rw [prR, List.mem_append, prR_m]
    constructor
    · rintro (h | ⟨q, a, b, c⟩)
      · by_cases c : to m f p r = s % 6 ∧ ar m f p r = dg (s / 6) p
        · rw [if_pos c, List.mem_singleton] at h
          exact ⟨r, Nat.le_refl _, by omega, c.1, c.2, h⟩
        · rw [if_neg c] at h; cases h
      · exact ⟨q, by omega, by omega, c⟩
    · rintro ⟨q, a, b, c, d, e⟩
      by_cases eq : q = r
      · subst eq
        refine Or.inl ?_
        rw [if_pos ⟨c, d⟩, List.mem_singleton]
        exact e
      · exact Or.inr ⟨q, by omega, by omega, c, d, e⟩
theorem prP_m {m : MoT} {f s u : Nat} : ∀ {k p : Nat}, u ∈ prP m f s k p ↔ ∃ q, p ≤ q ∧ q < p + k ∧ u ∈ prR m f s q (if hm m q then 0 else mR m q) 0
  | 0, p => ⟨fun q => (by cases q), fun ⟨q, a, b, _⟩ => by omega⟩
  | k + 1, p => by
    rw [prP, List.mem_append, prP_m]
    constructor
    · rintro (h | ⟨q, a, b, c⟩)
      · exact ⟨p, Nat.le_refl _, by omega, h⟩
      · exact ⟨q, by omega, by omega, c⟩
    · rintro ⟨q, a, b, c⟩
      by_cases eq : q = p
      · subst eq; exact Or.inl c
      · exact Or.inr ⟨q, by omega, by omega, c⟩
theorem prd_m {m : MoT} {f s u : Nat} (hO : MO m) (hs : SV m s) : u ∈ prd m f s ↔ SV m u ∧ nx m f u = some s := by
  have h6 := hO.2.1
  unfold prd
  rw [prP_m]
  constructor
  · rintro ⟨p, _, hp, h⟩
    obtain ⟨r, _, hr, e1, e2, eu⟩ := prR_m.mp h
    rw [Nat.zero_add] at hp hr
    have hh : hm m p = false := by
      cases c : hm m p with
      | false => rfl
      | true => rw [c, if_pos rfl] at hr; omega
    rw [hh, if_neg (by decide)] at hr
    have h3 := hO.2.2.2.2.1 p
    have e6 : u % 6 = p := by omega
    have e7 : u / 6 = pt (s / 6) p r := by omega
    have ed : dg (u / 6) p = r := by rw [e7]; exact pt_same (by omega)
    refine ⟨⟨by omega, ?_⟩, ?_⟩
    · rw [e7]; exact AV_pt hO hs.2 (by omega)
    · unfold nx
      rw [if_neg (by rw [e6]; simp [rs, hh]; omega)]
      congr 1
      rw [sT_eq, e6, ed, e1, e2, e7, pt_pt (by omega), pt_self]
      omega
  · rintro ⟨hu, e⟩
    unfold nx at e
    by_cases c : rs m (u % 6) = true
    · rw [if_pos c] at e; cases e
    rw [if_neg c] at e
    have e := Option.some.inj e
    have hh : hm m (u % 6) = false := by simp [rs] at c; exact c.1
    have hr0 : 0 < mR m (u % 6) := by simp [rs] at c; omega
    have h3 := hO.2.2.2.2.1 (u % 6)
    have ha := hu.2 (u % 6)
    have hto := to_lt hO (f := f) (a := dg (u / 6) (u % 6)) hu.1
    have har := ar_lt (m := m) (f := f) (p := u % 6) (a := dg (u / 6) (u % 6)) hr0
    rw [sT_eq] at e
    refine ⟨u % 6, Nat.zero_le _, by have := hu.1; omega, ?_⟩
    rw [prR_m]
    have e7 : s / 6 = pt (u / 6) (u % 6) (ar m f (u % 6) (dg (u / 6) (u % 6))) := by omega
    refine ⟨dg (u / 6) (u % 6), Nat.zero_le _, ?_, by omega, ?_, ?_⟩
    · rw [hh, if_neg (by decide)]; omega
    · rw [e7, pt_same (by omega)]
    · rw [e7, pt_pt (by omega), pt_self]; omega
theorem prR_nd {m : MoT} {f s p : Nat} : ∀ {k r : Nat}, r + k ≤ 3 → nd (prR m f s p k r)
  | 0, _, _ => trivial
  | k + 1, r, h => by
    rw [prR]
    refine nd_app ?_ (prR_nd (by omega)) (fun x hx q => ?_)
    · split
      · exact ⟨(by intro q; cases q), trivial⟩
      · trivial
    · by_cases c : to m f p r = s % 6 ∧ ar m f p r = dg (s / 6) p
      · rw [if_pos c, List.mem_singleton] at hx
        obtain ⟨q, a, b, _, _, e⟩ := prR_m.mp q
        have e1 : pt (s / 6) p r = pt (s / 6) p q := by omega
        have e2 := pt_same (a := s / 6) (p := p) (r := r) (by omega)
        rw [e1, pt_same (by omega)] at e2
        omega
      · rw [if_neg c] at hx; cases hx
theorem prP_nd {m : MoT} {f s : Nat} (hO : MO m) : ∀ {k p : Nat}, p + k ≤ 6 → nd (prP m f s k p)
  | 0, _, _ => trivial
  | k + 1, p, h => by
    rw [prP]
    have h3 := hO.2.2.2.2.1 p
    refine nd_app (prR_nd (by split <;> omega)) (prP_nd hO (by omega)) (fun x hx q => ?_)
    obtain ⟨r, _, _, _, _, e1⟩ := prR_m.mp hx
    obtain ⟨p2, a, b, h2⟩ := prP_m.mp q
    obtain ⟨r2, _, _, _, _, e2⟩ := prR_m.mp h2
    omega
theorem prd_nd {m : MoT} {f s : Nat} (hO : MO m) : nd (prd m f s) := prP_nd hO (by have := hO.2.1; omega)
/-- lists for each of a list -/
def fm (F : Nat → List Nat) (L : List Nat) : Nat → Nat → List Nat
  | 0, _ => []
  | k + 1, j => F (L.getD j 0) ++ fm F L k (j + 1)
theorem fm_m {F : Nat → List Nat} {L : List Nat} {u : Nat} : ∀ {k j : Nat}, u ∈ fm F L k j ↔ ∃ i, j ≤ i ∧ i < j + k ∧ u ∈ F (L.getD i 0)
  | 0, j => ⟨fun q => (by cases q), fun ⟨q, a, b, _⟩ => by omega⟩
  | k + 1, j => by
    rw [fm, List.mem_append, fm_m]
    constructor
    · rintro (h | ⟨q, a, b, c⟩)
      · exact ⟨j, Nat.le_refl _, by omega, h⟩
      · exact ⟨q, by omega, by omega, c⟩
    · rintro ⟨q, a, b, c⟩
      by_cases eq : q = j
      · subst eq; exact Or.inl c
      · exact Or.inr ⟨q, by omega, by omega, c⟩
theorem getD_mem {L : List Nat} {i : Nat} (h : i < L.length) : L.getD i 0 ∈ L := by
  rw [List.getD_eq_getElem?_getD, List.getElem?_eq_getElem h]
  exact List.getElem_mem h
theorem mem_getD {L : List Nat} {x : Nat} (h : x ∈ L) : ∃ i, i < L.length ∧ L.getD i 0 = x := by
  obtain ⟨i, hi, e⟩ := List.mem_iff_getElem.mp h
  refine ⟨i, hi, ?_⟩
  rw [List.getD_eq_getElem?_getD, List.getElem?_eq_getElem hi]
  exact e
theorem nd_inj : ∀ {L : List Nat}, nd L → ∀ i j, i < j → j < L.length → L.getD i 0 ≠ L.getD j 0
  | [], _, i, j, _, h => absurd h (Nat.not_lt_zero _)
  | x :: l, h, 0, j + 1, _, hj => fun e => h.1 (by
      have e : x = l.getD j 0 := e
      rw [e]
      exact getD_mem (by rw [List.length_cons] at hj; omega))
  | x :: l, h, i + 1, j + 1, hi, hj => nd_inj h.2 i j (by omega) (by rw [List.length_cons] at hj; omega)
theorem fm_nd {m : MoT} {f : Nat} {L : List Nat} (hO : MO m) (hL : nd L) (hS : ∀ x, x ∈ L → SV m x) : ∀ {k j : Nat}, j + k ≤ L.length → nd (fm (prd m f) L k j)
  | 0, _, _ => trivial
  | k + 1, j, h => by
    rw [fm]
    refine nd_app (prd_nd hO) (fm_nd hO hL hS (by omega)) (fun x hx q => ?_)
    obtain ⟨i, a, b, h2⟩ := fm_m.mp q
    have e1 := (prd_m hO (hS _ (getD_mem (by omega)))).mp hx
    have e2 := (prd_m hO (hS _ (getD_mem (by omega)))).mp h2
    rw [e1.2] at e2
    exact nd_inj hL j i (by omega) (by omega) (Option.some.inj e2.2)
/-- all that come to a stand in so many steps -/
def lv (m : MoT) (f s : Nat) : Nat → List Nat
  | 0 => [s]
  | n + 1 => fm (prd m f) (lv m f s n) (lv m f s n).length 0
theorem lv_s {m : MoT} {f s : Nat} (hO : MO m) (hs : SV m s) : ∀ n, nd (lv m f s n) ∧ ∀ x, x ∈ lv m f s n → SV m x
  | 0 => ⟨⟨(by intro q; cases q), trivial⟩, fun x hx => by rw [lv, List.mem_singleton] at hx; rw [hx]; exact hs⟩
  | n + 1 => by
    obtain ⟨a, b⟩ := lv_s hO hs n
    refine ⟨fm_nd hO a b (by omega), fun x hx => ?_⟩
    rw [lv] at hx
    obtain ⟨i, _, hi, h⟩ := fm_m.mp hx
    exact ((prd_m hO (b _ (getD_mem (by omega)))).mp h).1
theorem lv_m {m : MoT} {f s n u : Nat} (hO : MO m) (hs : SV m s) : u ∈ lv m f s (n + 1) ↔ SV m u ∧ ∃ t, nx m f u = some t ∧ t ∈ lv m f s n := by
  obtain ⟨a, b⟩ := lv_s (f := f) hO hs n
  rw [lv, fm_m]
  constructor
  · rintro ⟨i, _, hi, h⟩
    have hm := getD_mem (L := lv m f s n) (i := i) (by omega)
    obtain ⟨c, d⟩ := (prd_m hO (b _ hm)).mp h
    exact ⟨c, _, d, hm⟩
  · rintro ⟨hu, t, e, ht⟩
    obtain ⟨i, hi, e2⟩ := mem_getD ht
    exact ⟨i, Nat.zero_le _, by omega, (prd_m hO (by rw [e2]; exact b t ht)).mpr ⟨hu, by rw [e2]; exact e⟩⟩
theorem lv_le {m : MoT} {f s n : Nat} (hO : MO m) (hs : SV m s) : (lv m f s n).length ≤ 4374 := by
  obtain ⟨a, b⟩ := lv_s (f := f) hO hs n
  exact nd_le a (fun x hx => SV_lt hO (b x hx))
