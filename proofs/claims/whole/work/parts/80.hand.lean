/-! hands: ways with turned arms. -/
/-- one goes on by a road, turned or not -/
def eg (m : MoT) (v r : Nat) : Prop := SV m v ∧ rs m (v % 6) = false ∧ r < mR m (v % 6)
def ed (m : MoT) (f v r : Nat) : Nat := sT m f (6 * pt (v / 6) (v % 6) r + v % 6)
def ew (v r : Nat) : Nat := if r = dg (v / 6) (v % 6) then 1 else 10001
theorem ew_b (v r : Nat) : 1 ≤ ew v r ∧ ew v r ≤ 10001 := by unfold ew; split <;> omega
theorem eg_SV {m : MoT} {v r : Nat} (hO : MO m) (h : eg m v r) : SV m (6 * pt (v / 6) (v % 6) r + v % 6) ∧ (6 * pt (v / 6) (v % 6) r + v % 6) % 6 = v % 6 := by
  obtain ⟨h1, h2, h3⟩ := h
  have h6 := hO.2.1
  refine ⟨⟨?_, ?_⟩, by omega⟩
  · rw [show (6 * pt (v / 6) (v % 6) r + v % 6) % 6 = v % 6 by omega]; exact h1.1
  · rw [show (6 * pt (v / 6) (v % 6) r + v % 6) / 6 = pt (v / 6) (v % 6) r by omega]
    exact AV_pt hO h1.2 (by omega)
theorem ed_SV {m : MoT} {f v r : Nat} (hO : MO m) (h : eg m v r) : SV m (ed m f v r) := by
  obtain ⟨a, b⟩ := eg_SV hO h
  exact sT_SV hO a (by rw [b]; have := h.2.2; omega)
def pw (m : MoT) (f s : Nat) : Nat → Nat → Nat → Prop
  | 0, X, u => X = 0 ∧ u = s
  | k + 1, X, u => ∃ v Y r, pw m f s k Y v ∧ eg m v r ∧ u = ed m f v r ∧ X = Y + ew v r
theorem pw_SV {m : MoT} {f s : Nat} (hO : MO m) (hs : SV m s) : ∀ {k X u : Nat}, pw m f s k X u → SV m u
  | 0, _, _, h => by rw [h.2]; exact hs
  | k + 1, _, _, ⟨v, Y, r, _, h2, h3, _⟩ => by rw [h3]; exact ed_SV hO h2
theorem pw_add {m : MoT} {f s a X v : Nat} (h1 : pw m f s a X v) : ∀ {b Y u : Nat}, pw m f v b Y u → pw m f s (a + b) (X + Y) u
  | 0, Y, u, h => by rw [h.1, h.2]; exact h1
  | b + 1, Y, u, ⟨w, Z, r, h2, h3, h4, h5⟩ => ⟨w, X + Z, r, pw_add h1 h2, h3, h4, by omega⟩
theorem pw_T {m : MoT} {f s : Nat} : ∀ {k X u : Nat}, pw m f s k X u → ∃ T, X = 10000 * T + k ∧ T ≤ k
  | 0, X, u, h => ⟨0, by rw [h.1], Nat.le_refl _⟩
  | k + 1, X, u, ⟨v, Y, r, h1, _, _, h4⟩ => by
    obtain ⟨T, e, hT⟩ := pw_T h1
    unfold ew at h4
    split at h4
    · exact ⟨T, by omega, by omega⟩
    · exact ⟨T + 1, by omega, by omega⟩
/-- a way as a row of stands -/
theorem pw_seq {m : MoT} {f s : Nat} : ∀ {k X u : Nat}, pw m f s k X u → ∃ b x : Nat → Nat, b 0 = s ∧ x 0 = 0 ∧ b k = u ∧ x k = X ∧ ∀ i, i < k → ∃ r, eg m (b i) r ∧ b (i + 1) = ed m f (b i) r ∧ x (i + 1) = x i + ew (b i) r
  | 0, X, u, h => ⟨fun _ => s, fun _ => 0, rfl, rfl, h.2.symm, h.1.symm, fun i hi => by omega⟩
  | k + 1, X, u, ⟨v, Y, r, h1, h2, h3, h4⟩ => by
    obtain ⟨b, x, e1, e2, e3, e4, e5⟩ := pw_seq h1
    refine ⟨ups b (k + 1) u, ups x (k + 1) X, by rw [ups_n (by omega)]; exact e1, by rw [ups_n (by omega)]; exact e2, ups_s .., ups_s .., fun i hi => ?_⟩
    by_cases c : i = k
    · subst c
      rw [ups_s, ups_s, ups_n (by omega), ups_n (by omega), e3, e4]
      exact ⟨r, h2, h3, h4⟩
    · rw [ups_n (by omega), ups_n (by omega), ups_n (by omega), ups_n (by omega)]
      exact e5 i (by omega)
theorem pw_seg {m : MoT} {f k : Nat} {b x : Nat → Nat} (h : ∀ i, i < k → ∃ r, eg m (b i) r ∧ b (i + 1) = ed m f (b i) r ∧ x (i + 1) = x i + ew (b i) r) {i : Nat} : ∀ {d : Nat}, i + d ≤ k → x i ≤ x (i + d) ∧ pw m f (b i) d (x (i + d) - x i) (b (i + d))
  | 0, _ => ⟨Nat.le_refl _, by rw [Nat.add_zero]; omega, rfl⟩
  | d + 1, hd => by
    obtain ⟨a1, a2⟩ := pw_seg h (i := i) (d := d) (by omega)
    obtain ⟨r, h1, h2, h3⟩ := h (i + d) (by omega)
    rw [show i + (d + 1) = i + d + 1 by omega]
    exact ⟨by omega, b (i + d), _, r, a2, h1, h2, by omega⟩
/-- no way need be longer than there are stands -/
theorem pw_cut {m : MoT} {f s : Nat} (hO : MO m) (hs : SV m s) : ∀ (N k X u : Nat), k ≤ N → pw m f s k X u → ∃ k' X', k' ≤ 4373 ∧ X' ≤ X ∧ k' ≤ k ∧ pw m f s k' X' u := by
  intro N
  induction N with
  | zero => intro k X u hk h; exact ⟨k, X, by omega, Nat.le_refl _, Nat.le_refl _, h⟩
  | succ N ih =>
    intro k X u hk h
    by_cases c : k ≤ 4373
    · exact ⟨k, X, c, Nat.le_refl _, Nat.le_refl _, h⟩
    obtain ⟨b, x, e1, e2, e3, e4, e5⟩ := pw_seq h
    have hv : ∀ i, i ≤ k → SV m (b i) := fun i hi => by
      have := (pw_seg e5 (i := 0) (d := i) (by omega)).2
      rw [Nat.zero_add, e1] at this
      exact pw_SV hO hs this
    have : ∃ i j, i < j ∧ j ≤ k ∧ b i = b j := by
      refine Classical.byContradiction (fun q => ?_)
      have := pig 4374 (k + 1) b (fun i hi => SV_lt hO (hv i (by omega))) (fun i j h1 h2 e => q ⟨i, j, h1, by omega, e⟩)
      omega
    obtain ⟨i, j, hij, hj, e⟩ := this
    have p1 := (pw_seg e5 (i := 0) (d := i) (by omega)).2
    have p2 := pw_seg e5 (i := j) (d := k - j) (by omega)
    have p3 := (pw_seg e5 (i := i) (d := j - i) (by omega)).1
    rw [show i + (j - i) = j by omega] at p3
    rw [Nat.zero_add, e1, e2] at p1
    rw [show j + (k - j) = k by omega, ← e, e3, e4] at p2
    obtain ⟨k', X', h1, h2, h3, h4⟩ := ih _ _ _ (by omega) (pw_add p1 p2.2)
    exact ⟨k', X', h1, by omega, by omega, h4⟩
/-- a table of least weights -/
def SC (m : MoT) (f s : Nat) (c : Nat → Nat) : Prop := ∀ u, c u < 268435456 → ∃ k, pw m f s k (c u) u
def CB (m : MoT) (f s k : Nat) (c : Nat → Nat) : Prop := ∀ n X u, n ≤ k → pw m f s n X u → c u ≤ X
def BV (m : MoT) (f s : Nat) (c0 c : Nat → Nat) (y : Nat) : Prop := (∀ u, c u ≤ c0 u) ∧ SC m f s c ∧ ((y = 0 ∧ ∀ u, c u = c0 u) ∨ (y = 1 ∧ ∃ u, c u < c0 u))
theorem BV_step {m : MoT} {f s y v r : Nat} {c0 c : Nat → Nat} (h : BV m f s c0 c y) (hg : eg m v r) (hv : c v < 268435456) : BV m f s c0 (if c v + ew v r < c (ed m f v r) then ups c (ed m f v r) (c v + ew v r) else c) (if c v + ew v r < c (ed m f v r) then 1 else y) := by
  by_cases q : c v + ew v r < c (ed m f v r)
  · rw [if_pos q, if_pos q]
    obtain ⟨h1, h2, h3⟩ := h
    refine ⟨fun u => ?_, fun u hu => ?_, Or.inr ⟨rfl, ed m f v r, ?_⟩⟩
    · by_cases e : u = ed m f v r
      · rw [e, ups_s]; have := h1 (ed m f v r); omega
      · rw [ups_n e]; exact h1 u
    · by_cases e : u = ed m f v r
      · rw [e, ups_s]
        obtain ⟨k, hk⟩ := h2 v hv
        exact ⟨k + 1, v, c v, r, hk, hg, rfl, rfl⟩
      · rw [ups_n e] at hu ⊢; exact h2 u hu
    · rw [ups_s]; have := h1 (ed m f v r); omega
  · rw [if_neg q, if_neg q]; exact h
theorem CB_st {m : MoT} {f s : Nat} {c0 c : Nat → Nat} (hO : MO m) (hs : SV m s) (hS : SC m f s c) (hb : ∀ u, c0 u ≤ 268435456) (hC : CB m f s 4373 c0) (u : Nat) : ¬ c u < c0 u := by
  intro q
  have := hb u
  obtain ⟨k, hk⟩ := hS u (by omega)
  obtain ⟨k', X', h1, h2, _, h4⟩ := pw_cut hO hs k k _ _ (Nat.le_refl _) hk
  have := hC k' X' u h1 h4
  omega
