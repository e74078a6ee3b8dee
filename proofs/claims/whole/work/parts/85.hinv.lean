/-! hands: what holds of the class's rows. -/
abbrev HzT : Type := (Nat → Nat) × List Nat × List Nat
theorem gd_l {L : List Nat} {x i : Nat} (h : i < L.length) : (L ++ [x]).getD i 0 = L.getD i 0 := by
  rw [List.getD_eq_getElem?_getD, List.getD_eq_getElem?_getD, List.getElem?_append_left h]
theorem gd_e {L : List Nat} {x : Nat} : (L ++ [x]).getD L.length 0 = x := by
  rw [List.getD_eq_getElem?_getD, List.getElem?_append_right (Nat.le_refl _), Nat.sub_self]; rfl
theorem ln_a {L : List Nat} {x : Nat} : (L ++ [x]).length = L.length + 1 := by rw [List.length_append, List.length_singleton]
theorem b8_4 : ∀ x < 8, (x ||| 4) < 8 ∧ (x ||| 4) &&& 1 = x &&& 1 ∧ (x ||| 4) &&& 4 ≠ 0 ∧ (x ||| 4) &&& 2 = x &&& 2 := by decide
theorem b8_2 : ∀ x < 8, (x ||| 2) < 8 ∧ (x ||| 2) &&& 1 = x &&& 1 ∧ (x ||| 2) &&& 2 ≠ 0 ∧ (x ||| 2) &&& 4 = x &&& 4 := by decide
theorem b8_1 : ∀ x < 8, (x ||| 1) < 8 ∧ (x ||| 1) &&& 1 ≠ 0 ∧ (x ||| 1) &&& 2 = x &&& 2 ∧ (x ||| 1) &&& 4 = x &&& 4 := by decide
/-- bits and rows -/
def HB (m : MoT) (Z : List Nat) (hd th : Nat) (z : HzT) : Prop :=
  (∀ u, z.1 u < 8) ∧ (∀ u, SV m u → (z.1 u &&& 1 = 0 ↔ u ∉ Z)) ∧
  (∀ u, SV m u → z.1 u &&& 4 = 0 ∨ u ∈ Z ∨ ∃ i, hd ≤ i ∧ i < z.2.1.length ∧ z.2.1.getD i 0 % 8192 = u) ∧
  (∀ u, SV m u → z.1 u &&& 2 = 0 ∨ u ∈ Z ∨ ∃ i, th ≤ i ∧ i < z.2.2.length ∧ z.2.2.getD i 0 % 8192 = u) ∧
  (∀ i, i < z.2.1.length → SV m (z.2.1.getD i 0 % 8192) ∧ z.1 (z.2.1.getD i 0 % 8192) &&& 4 ≠ 0) ∧
  (∀ i j, i < j → j < z.2.1.length → z.2.1.getD i 0 % 8192 ≠ z.2.1.getD j 0 % 8192) ∧
  (∀ i, i < z.2.2.length → SV m (z.2.2.getD i 0 % 8192) ∧ (0 < i → z.1 (z.2.2.getD i 0 % 8192) &&& 2 ≠ 0)) ∧
  (∀ i j, 0 < i → i < j → j < z.2.2.length → z.2.2.getD i 0 % 8192 ≠ z.2.2.getD j 0 % 8192) ∧
  Z.Nodup ∧ ∀ u, u ∈ Z → SV m u
theorem HB_P {m : MoT} {Z : List Nat} {hd th W t : Nat} {z : HzT} (h : HB m Z hd th z) (hO : MO m) (hh : hd ≤ z.2.1.length) (ht : SV m t) (h4 : z.1 t &&& 4 = 0) : HB m Z hd th (ups z.1 t (z.1 t ||| 4), z.2.1 ++ [W * 8192 + t], z.2.2) := by
  have ht4 := SV_lt hO ht
  obtain ⟨a1, a2, a3, a4, a5, a6, a7, a8, a9, a10⟩ := h
  have b := b8_4 _ (a1 t)
  have em : (W * 8192 + t) % 8192 = t := by omega
  refine ⟨fun u => ?_, fun u hu => ?_, fun u hu => ?_, fun u hu => ?_, fun i hi => ?_, fun i j hij hj => ?_, fun i hi => ?_, a8, a9, a10⟩
  · show ups z.1 t (z.1 t ||| 4) u < 8
    by_cases e : u = t
    · rw [e, ups_s]; exact b.1
    · rw [ups_n e]; exact a1 u
  · show ups z.1 t (z.1 t ||| 4) u &&& 1 = 0 ↔ u ∉ Z
    by_cases e : u = t
    · rw [e, ups_s, b.2.1]; exact a2 t ht
    · rw [ups_n e]; exact a2 u hu
  · show ups z.1 t (z.1 t ||| 4) u &&& 4 = 0 ∨ u ∈ Z ∨ ∃ i, hd ≤ i ∧ i < (z.2.1 ++ [W * 8192 + t]).length ∧ (z.2.1 ++ [W * 8192 + t]).getD i 0 % 8192 = u
    by_cases e : u = t
    · refine Or.inr (Or.inr ⟨z.2.1.length, hh, by rw [ln_a]; omega, ?_⟩)
      rw [gd_e, em, e]
    · rw [ups_n e]
      rcases a3 u hu with q | q | ⟨i, q1, q2, q3⟩
      · exact Or.inl q
      · exact Or.inr (Or.inl q)
      · exact Or.inr (Or.inr ⟨i, q1, by rw [ln_a]; omega, by rw [gd_l q2]; exact q3⟩)
  · show ups z.1 t (z.1 t ||| 4) u &&& 2 = 0 ∨ _
    by_cases e : u = t
    · rw [e, ups_s, b.2.2.2]; exact a4 t ht
    · rw [ups_n e]; exact a4 u hu
  · show SV m ((z.2.1 ++ [W * 8192 + t]).getD i 0 % 8192) ∧ ups z.1 t (z.1 t ||| 4) ((z.2.1 ++ [W * 8192 + t]).getD i 0 % 8192) &&& 4 ≠ 0
    have hi : i < (z.2.1 ++ [W * 8192 + t]).length := hi
    rw [ln_a] at hi
    by_cases e : i = z.2.1.length
    · rw [e, gd_e, em, ups_s]; exact ⟨ht, b.2.2.1⟩
    · have hi2 : i < z.2.1.length := by omega
      rw [gd_l hi2]
      have := a5 i hi2
      rw [ups_n (fun q => this.2 (by rw [q]; exact h4))]
      exact this
  · show (z.2.1 ++ [W * 8192 + t]).getD i 0 % 8192 ≠ (z.2.1 ++ [W * 8192 + t]).getD j 0 % 8192
    have hj : j < (z.2.1 ++ [W * 8192 + t]).length := hj
    rw [ln_a] at hj
    rw [gd_l (show i < z.2.1.length by omega)]
    by_cases e : j = z.2.1.length
    · rw [e, gd_e, em]
      have := a5 i (by omega)
      exact fun q => this.2 (by rw [q]; exact h4)
    · rw [gd_l (show j < z.2.1.length by omega)]
      exact a6 i j hij (by omega)
  · show SV m (z.2.2.getD i 0 % 8192) ∧ (0 < i → ups z.1 t (z.1 t ||| 4) (z.2.2.getD i 0 % 8192) &&& 2 ≠ 0)
    refine ⟨(a7 i hi).1, fun q => ?_⟩
    have := (a7 i hi).2 q
    by_cases e : z.2.2.getD i 0 % 8192 = t
    · rw [e, ups_s, b.2.2.2, ← e]; exact this
    · rw [ups_n e]; exact this
theorem HB_Q {m : MoT} {Z : List Nat} {hd th W t : Nat} {z : HzT} (h : HB m Z hd th z) (hO : MO m) (hh : th ≤ z.2.2.length) (ht : SV m t) (h4 : z.1 t &&& 2 = 0) : HB m Z hd th (ups z.1 t (z.1 t ||| 2), z.2.1, z.2.2 ++ [W * 8192 + t]) := by
  have ht4 := SV_lt hO ht
  obtain ⟨a1, a2, a3, a4, a5, a6, a7, a8, a9, a10⟩ := h
  have b := b8_2 _ (a1 t)
  have em : (W * 8192 + t) % 8192 = t := by omega
  refine ⟨fun u => ?_, fun u hu => ?_, fun u hu => ?_, fun u hu => ?_, fun i hi => ?_, a6, fun i hi => ?_, fun i j h0 hij hj => ?_, a9, a10⟩
  · show ups z.1 t (z.1 t ||| 2) u < 8
    by_cases e : u = t
    · rw [e, ups_s]; exact b.1
    · rw [ups_n e]; exact a1 u
  · show ups z.1 t (z.1 t ||| 2) u &&& 1 = 0 ↔ u ∉ Z
    by_cases e : u = t
    · rw [e, ups_s, b.2.1]; exact a2 t ht
    · rw [ups_n e]; exact a2 u hu
  · show ups z.1 t (z.1 t ||| 2) u &&& 4 = 0 ∨ _
    by_cases e : u = t
    · rw [e, ups_s, b.2.2.2]; exact a3 t ht
    · rw [ups_n e]; exact a3 u hu
  · show ups z.1 t (z.1 t ||| 2) u &&& 2 = 0 ∨ u ∈ Z ∨ ∃ i, th ≤ i ∧ i < (z.2.2 ++ [W * 8192 + t]).length ∧ (z.2.2 ++ [W * 8192 + t]).getD i 0 % 8192 = u
    by_cases e : u = t
    · refine Or.inr (Or.inr ⟨z.2.2.length, hh, by rw [ln_a]; omega, ?_⟩)
      rw [gd_e, em, e]
    · rw [ups_n e]
      rcases a4 u hu with q | q | ⟨i, q1, q2, q3⟩
      · exact Or.inl q
      · exact Or.inr (Or.inl q)
      · exact Or.inr (Or.inr ⟨i, q1, by rw [ln_a]; omega, by rw [gd_l q2]; exact q3⟩)
  · show SV m (z.2.1.getD i 0 % 8192) ∧ ups z.1 t (z.1 t ||| 2) (z.2.1.getD i 0 % 8192) &&& 4 ≠ 0
    refine ⟨(a5 i hi).1, ?_⟩
    have := (a5 i hi).2
    by_cases e : z.2.1.getD i 0 % 8192 = t
    · rw [e, ups_s, b.2.2.2, ← e]; exact this
    · rw [ups_n e]; exact this
  · show SV m ((z.2.2 ++ [W * 8192 + t]).getD i 0 % 8192) ∧ (0 < i → ups z.1 t (z.1 t ||| 2) ((z.2.2 ++ [W * 8192 + t]).getD i 0 % 8192) &&& 2 ≠ 0)
    have hi : i < (z.2.2 ++ [W * 8192 + t]).length := hi
    rw [ln_a] at hi
    by_cases e : i = z.2.2.length
    · rw [e, gd_e, em, ups_s]; exact ⟨ht, fun _ => b.2.2.1⟩
    · have hi2 : i < z.2.2.length := by omega
      rw [gd_l hi2]
      refine ⟨(a7 i hi2).1, fun q => ?_⟩
      have := (a7 i hi2).2 q
      rw [ups_n (fun q => this (by rw [q]; exact h4))]
      exact this
  · show (z.2.2 ++ [W * 8192 + t]).getD i 0 % 8192 ≠ (z.2.2 ++ [W * 8192 + t]).getD j 0 % 8192
    have hj : j < (z.2.2 ++ [W * 8192 + t]).length := hj
    rw [ln_a] at hj
    rw [gd_l (show i < z.2.2.length by omega)]
    by_cases e : j = z.2.2.length
    · rw [e, gd_e, em]
      have := (a7 i (by omega)).2 h0
      exact fun q => this (by rw [q]; exact h4)
    · rw [gd_l (show j < z.2.2.length by omega)]
      exact a8 i j h0 hij (by omega)
/-- one more is settled, and no more waits there first -/
theorem HB_Z {m : MoT} {Z : List Nat} {hd th hd' th' v : Nat} {z : HzT} (h : HB m Z hd th z) (hv : SV m v) (hn : v ∉ Z) (h1 : ∀ i, hd ≤ i → i < z.2.1.length → hd' ≤ i ∨ z.2.1.getD i 0 % 8192 = v) (h2 : ∀ i, th ≤ i → i < z.2.2.length → th' ≤ i ∨ z.2.2.getD i 0 % 8192 = v) : HB m (v :: Z) hd' th' (ups z.1 v (z.1 v ||| 1), z.2.1, z.2.2) := by
  obtain ⟨a1, a2, a3, a4, a5, a6, a7, a8, a9, a10⟩ := h
  have b := b8_1 _ (a1 v)
  refine ⟨fun u => ?_, fun u hu => ?_, fun u hu => ?_, fun u hu => ?_, fun i hi => ?_, a6, fun i hi => ?_, a8, List.nodup_cons.mpr ⟨hn, a9⟩, fun u hu => ?_⟩
  · show ups z.1 v (z.1 v ||| 1) u < 8
    by_cases e : u = v
    · rw [e, ups_s]; exact b.1
    · rw [ups_n e]; exact a1 u
  · show ups z.1 v (z.1 v ||| 1) u &&& 1 = 0 ↔ u ∉ v :: Z
    by_cases e : u = v
    · rw [e, ups_s]; exact iff_of_false b.2.1 (fun q => q (by simp))
    · rw [ups_n e, a2 u hu]; simp [e]
  · show ups z.1 v (z.1 v ||| 1) u &&& 4 = 0 ∨ u ∈ v :: Z ∨ _
    by_cases e : u = v
    · exact Or.inr (Or.inl (by simp [e]))
    · rw [ups_n e]
      rcases a3 u hu with q | q | ⟨i, q1, q2, q3⟩
      · exact Or.inl q
      · exact Or.inr (Or.inl (by simp [q]))
      · rcases h1 i q1 q2 with w | w
        · exact Or.inr (Or.inr ⟨i, w, q2, q3⟩)
        · exact absurd (q3.symm.trans w) e
  · show ups z.1 v (z.1 v ||| 1) u &&& 2 = 0 ∨ u ∈ v :: Z ∨ _
    by_cases e : u = v
    · exact Or.inr (Or.inl (by simp [e]))
    · rw [ups_n e]
      rcases a4 u hu with q | q | ⟨i, q1, q2, q3⟩
      · exact Or.inl q
      · exact Or.inr (Or.inl (by simp [q]))
      · rcases h2 i q1 q2 with w | w
        · exact Or.inr (Or.inr ⟨i, w, q2, q3⟩)
        · exact absurd (q3.symm.trans w) e
  · show SV m (z.2.1.getD i 0 % 8192) ∧ ups z.1 v (z.1 v ||| 1) (z.2.1.getD i 0 % 8192) &&& 4 ≠ 0
    refine ⟨(a5 i hi).1, ?_⟩
    have := (a5 i hi).2
    by_cases e : z.2.1.getD i 0 % 8192 = v
    · rw [e, ups_s, b.2.2.2, ← e]; exact this
    · rw [ups_n e]; exact this
  · show SV m (z.2.2.getD i 0 % 8192) ∧ (0 < i → ups z.1 v (z.1 v ||| 1) (z.2.2.getD i 0 % 8192) &&& 2 ≠ 0)
    refine ⟨(a7 i hi).1, fun q => ?_⟩
    have := (a7 i hi).2 q
    by_cases e : z.2.2.getD i 0 % 8192 = v
    · rw [e, ups_s, b.2.2.1, ← e]; exact this
    · rw [ups_n e]; exact this
  · rcases List.mem_cons.mp hu with e | e
    · rw [e]; exact hv
    · exact a10 u e
/-- one that is settled waits no more -/
theorem HB_s {m : MoT} {Z : List Nat} {hd th hd' th' v : Nat} {z : HzT} (h : HB m Z hd th z) (hn : v ∈ Z) (h1 : ∀ i, hd ≤ i → i < z.2.1.length → hd' ≤ i ∨ z.2.1.getD i 0 % 8192 = v) (h2 : ∀ i, th ≤ i → i < z.2.2.length → th' ≤ i ∨ z.2.2.getD i 0 % 8192 = v) : HB m Z hd' th' z := by
  obtain ⟨a1, a2, a3, a4, a5, a6, a7, a8, a9, a10⟩ := h
  refine ⟨a1, a2, fun u hu => ?_, fun u hu => ?_, a5, a6, a7, a8, a9, a10⟩
  · rcases a3 u hu with q | q | ⟨i, q1, q2, q3⟩
    · exact Or.inl q
    · exact Or.inr (Or.inl q)
    · rcases h1 i q1 q2 with w | w
      · exact Or.inr (Or.inr ⟨i, w, q2, q3⟩)
      · exact Or.inr (Or.inl (by rw [← q3, w]; exact hn))
  · rcases a4 u hu with q | q | ⟨i, q1, q2, q3⟩
    · exact Or.inl q
    · exact Or.inr (Or.inl q)
    · rcases h2 i q1 q2 with w | w
      · exact Or.inr (Or.inr ⟨i, w, q2, q3⟩)
      · exact Or.inr (Or.inl (by rw [← q3, w]; exact hn))
theorem HB_GB {m : MoT} {Z : List Nat} {hd th : Nat} {z : HzT} (hO : MO m) (h : HB m Z hd th z) : GB m z := by
  obtain ⟨a1, a2, a3, a4, a5, a6, a7, a8, a9, a10⟩ := h
  refine ⟨fun t ht h4 => ?_, fun t ht h2 => ?_, a1, ?_, ?_⟩
  · have := pig 4374 (z.2.1.length + 1) (fun i => if i < z.2.1.length then z.2.1.getD i 0 % 8192 else t) (fun i hi => ?_) (fun i j hij hj => ?_)
    · omega
    · show (if i < z.2.1.length then z.2.1.getD i 0 % 8192 else t) < 4374
      split
      · rename_i c; exact SV_lt hO (a5 i c).1
      · exact SV_lt hO ht
    · show (if i < z.2.1.length then z.2.1.getD i 0 % 8192 else t) ≠ (if j < z.2.1.length then z.2.1.getD j 0 % 8192 else t)
      rw [if_pos (show i < z.2.1.length by omega)]
      by_cases c : j < z.2.1.length
      · rw [if_pos c]; exact a6 i j hij c
      · rw [if_neg c]; exact fun q => (a5 i (by omega)).2 (by rw [q]; exact h4)
  · by_cases c0 : z.2.2.length = 0
    · omega
    have := pig 4374 z.2.2.length (fun i => if i + 1 < z.2.2.length then z.2.2.getD (i + 1) 0 % 8192 else t) (fun i hi => ?_) (fun i j hij hj => ?_)
    · exact this
    · show (if i + 1 < z.2.2.length then z.2.2.getD (i + 1) 0 % 8192 else t) < 4374
      split
      · rename_i c; exact SV_lt hO (a7 (i + 1) c).1
      · exact SV_lt hO ht
    · show (if i + 1 < z.2.2.length then z.2.2.getD (i + 1) 0 % 8192 else t) ≠ (if j + 1 < z.2.2.length then z.2.2.getD (j + 1) 0 % 8192 else t)
      rw [if_pos (show i + 1 < z.2.2.length by omega)]
      by_cases c : j + 1 < z.2.2.length
      · rw [if_pos c]; exact a8 (i + 1) (j + 1) (by omega) (by omega) c
      · rw [if_neg c]; exact fun q => (a7 (i + 1) (by omega)).2 (by omega) (by rw [q]; exact h2)
  · exact pig 4374 z.2.1.length (fun i => z.2.1.getD i 0 % 8192) (fun i hi => SV_lt hO (a5 i hi).1) a6
  · have := pig 4374 (z.2.2.length - 1) (fun i => z.2.2.getD (i + 1) 0 % 8192) (fun i hi => SV_lt hO (a7 (i + 1) (by omega)).1) (fun i j hij hj => a8 (i + 1) (j + 1) (by omega) (by omega) (by omega))
    omega
theorem HB_zl {m : MoT} {Z : List Nat} {hd th : Nat} {z : HzT} (hO : MO m) (h : HB m Z hd th z) : Z.length ≤ 4374 := by
  obtain ⟨a1, a2, a3, a4, a5, a6, a7, a8, a9, a10⟩ := h
  have := List.Nodup.length_le_of_subset a9 (l₂ := List.range 4374) (fun u hu => List.mem_range.mpr (SV_lt hO (a10 u hu)))
  rwa [List.length_range] at this
