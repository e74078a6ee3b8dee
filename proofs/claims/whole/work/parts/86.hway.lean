/-! hands: steps in the class's rows, and what waits. -/
def HS (w hd th E zl : Nat) (P Q : List Nat) : Prop :=
  (hd ≤ P.length ∧ th ≤ E ∧ E ≤ Q.length ∧ w ≤ zl) ∧
  (∀ i, hd ≤ i → i < P.length → w ≤ P.getD i 0 / 8192 ∧ P.getD i 0 / 8192 ≤ w + 1 ∧ P.getD i 0 / 8192 ≤ zl) ∧
  (∀ i j, hd ≤ i → i ≤ j → j < P.length → P.getD i 0 / 8192 ≤ P.getD j 0 / 8192) ∧
  (∀ i, th ≤ i → i < E → w ≤ Q.getD i 0 / 8192 ∧ Q.getD i 0 / 8192 ≤ zl) ∧
  (∀ i j, th ≤ i → i ≤ j → j < E → Q.getD i 0 / 8192 ≤ Q.getD j 0 / 8192) ∧
  (∀ i, E ≤ i → i < Q.length → Q.getD i 0 / 8192 ≤ w + 1 ∧ Q.getD i 0 / 8192 ≤ zl) ∧
  (∀ i j, E ≤ i → i ≤ j → j < Q.length → Q.getD i 0 / 8192 ≤ Q.getD j 0 / 8192)
theorem HS_P {w hd th E zl t : Nat} {P Q : List Nat} (h : HS w hd th E zl P Q) (ht : t < 8192) (hz : w + 1 ≤ zl) : HS w hd th E zl (P ++ [(w + 1) * 8192 + t]) Q := by
  obtain ⟨a1, a2, a3, a4, a5, a6, a7⟩ := h
  have ed : ((w + 1) * 8192 + t) / 8192 = w + 1 := by omega
  refine ⟨⟨by rw [ln_a]; omega, a1.2⟩, fun i h1 h2 => ?_, fun i j h1 h2 h3 => ?_, a4, a5, a6, a7⟩
  · rw [ln_a] at h2
    by_cases e : i = P.length
    · rw [e, gd_e, ed]; omega
    · rw [gd_l (by omega)]; exact a2 i h1 (by omega)
  · rw [ln_a] at h3
    by_cases e : j = P.length
    · rw [e, gd_e, ed]
      by_cases e2 : i = P.length
      · rw [e2, gd_e, ed]; omega
      · rw [gd_l (by omega)]; exact (a2 i h1 (by omega)).2.1
    · rw [gd_l (show j < P.length by omega), gd_l (show i < P.length by omega)]; exact a3 i j h1 h2 (by omega)
theorem HS_Q {w hd th E zl t : Nat} {P Q : List Nat} (h : HS w hd th E zl P Q) (ht : t < 8192) (hz : w + 1 ≤ zl) : HS w hd th E zl P (Q ++ [(w + 1) * 8192 + t]) := by
  obtain ⟨a1, a2, a3, a4, a5, a6, a7⟩ := h
  have ed : ((w + 1) * 8192 + t) / 8192 = w + 1 := by omega
  refine ⟨⟨a1.1, a1.2.1, by rw [ln_a]; omega, a1.2.2.2⟩, a2, a3, fun i h1 h2 => ?_, fun i j h1 h2 h3 => ?_, fun i h1 h2 => ?_, fun i j h1 h2 h3 => ?_⟩
  · rw [gd_l (by omega)]; exact a4 i h1 h2
  · rw [gd_l (show j < Q.length by omega), gd_l (show i < Q.length by omega)]; exact a5 i j h1 h2 h3
  · rw [ln_a] at h2
    by_cases e : i = Q.length
    · rw [e, gd_e, ed]; omega
    · rw [gd_l (by omega)]; exact a6 i h1 (by omega)
  · rw [ln_a] at h3
    by_cases e : j = Q.length
    · rw [e, gd_e, ed]
      by_cases e2 : i = Q.length
      · rw [e2, gd_e, ed]; omega
      · rw [gd_l (by omega)]; exact (a6 i h1 (by omega)).1
    · rw [gd_l (show j < Q.length by omega), gd_l (show i < Q.length by omega)]; exact a7 i j h1 h2 (by omega)
/-- a stand waits with a weight -/
def wg (T hd th E : Nat) (P Q : List Nat) (u X : Nat) : Prop :=
  (∃ i, hd ≤ i ∧ i < P.length ∧ P.getD i 0 % 8192 = u ∧ X = 10000 * T + P.getD i 0 / 8192) ∨
  (∃ i, th ≤ i ∧ i < Q.length ∧ Q.getD i 0 % 8192 = u ∧ X = 10000 * (if i < E then T else T + 1) + Q.getD i 0 / 8192)
theorem wg_P {T hd th E u X x : Nat} {P Q : List Nat} (h : wg T hd th E P Q u X) : wg T hd th E (P ++ [x]) Q u X := by
  rcases h with ⟨i, a, b, c, d⟩ | q
  · exact Or.inl ⟨i, a, by rw [ln_a]; omega, by rw [gd_l b]; exact c, by rw [gd_l b]; exact d⟩
  · exact Or.inr q
theorem wg_Q {T hd th E u X x : Nat} {P Q : List Nat} (h : wg T hd th E P Q u X) : wg T hd th E P (Q ++ [x]) u X := by
  rcases h with q | ⟨i, a, b, c, d⟩
  · exact Or.inl q
  · exact Or.inr ⟨i, a, by rw [ln_a]; omega, by rw [gd_l b]; exact c, by rw [gd_l b]; exact d⟩
theorem wg_Pi {T hd th E u X x : Nat} {P Q : List Nat} (h : wg T hd th E (P ++ [x]) Q u X) : wg T hd th E P Q u X ∨ (u = x % 8192 ∧ X = 10000 * T + x / 8192) := by
  rcases h with ⟨i, a, b, c, d⟩ | q
  · rw [ln_a] at b
    by_cases e : i = P.length
    · rw [e, gd_e] at c d
      exact Or.inr ⟨c.symm, d⟩
    · rw [gd_l (by omega)] at c d
      exact Or.inl (Or.inl ⟨i, a, by omega, c, d⟩)
  · exact Or.inl (Or.inr q)
theorem wg_Qi {T hd th E u X x : Nat} {P Q : List Nat} (hE : E ≤ Q.length) (h : wg T hd th E P (Q ++ [x]) u X) : wg T hd th E P Q u X ∨ (u = x % 8192 ∧ X = 10000 * (T + 1) + x / 8192) := by
  rcases h with q | ⟨i, a, b, c, d⟩
  · exact Or.inl (Or.inl q)
  · rw [ln_a] at b
    by_cases e : i = Q.length
    · rw [e, gd_e] at c d
      rw [if_neg (by omega)] at d
      exact Or.inr ⟨c.symm, d⟩
    · rw [gd_l (by omega)] at c d
      exact Or.inl (Or.inr ⟨i, a, by omega, c, d⟩)
/-- what is settled and what waits hold all ways -/
def HW (m : MoT) (f s T hd th E w : Nat) (Z : List Nat) (D : Nat → Nat) (P Q : List Nat) (R : Nat → Nat → Prop) : Prop :=
  (∀ u, u ∈ Z → D u ≤ 10000 * T + w) ∧ (∀ u X, wg T hd th E P Q u X → ∃ k, pw m f s k X u) ∧
  (∀ u r, u ∈ Z → R u r → eg m u r → (ed m f u r ∈ Z ∧ D (ed m f u r) ≤ D u + ew u r) ∨ ∃ X, X ≤ D u + ew u r ∧ wg T hd th E P Q (ed m f u r) X) ∧
  ((s ∈ Z ∧ D s = 0) ∨ wg T hd th E P Q s 0)
theorem HW_P {m : MoT} {f s T hd th E w W t : Nat} {Z : List Nat} {D : Nat → Nat} {P Q : List Nat} {R : Nat → Nat → Prop} (h : HW m f s T hd th E w Z D P Q R) (ht : t < 8192) (hp : ∃ k, pw m f s k (10000 * T + W) t) : HW m f s T hd th E w Z D (P ++ [W * 8192 + t]) Q R := by
  obtain ⟨a1, a2, a3, a4⟩ := h
  refine ⟨a1, fun u X hu => ?_, fun u r hu hR hg => ?_, a4.imp id wg_P⟩
  · rcases wg_Pi hu with q | ⟨q1, q2⟩
    · exact a2 u X q
    · rw [show (W * 8192 + t) % 8192 = t by omega] at q1
      rw [show (W * 8192 + t) / 8192 = W by omega] at q2
      rw [q1, q2]; exact hp
  · rcases a3 u r hu hR hg with q | ⟨X, q1, q2⟩
    · exact Or.inl q
    · exact Or.inr ⟨X, q1, wg_P q2⟩
theorem HW_Q {m : MoT} {f s T hd th E w W t : Nat} {Z : List Nat} {D : Nat → Nat} {P Q : List Nat} {R : Nat → Nat → Prop} (h : HW m f s T hd th E w Z D P Q R) (hE : E ≤ Q.length) (ht : t < 8192) (hp : ∃ k, pw m f s k (10000 * (T + 1) + W) t) : HW m f s T hd th E w Z D P (Q ++ [W * 8192 + t]) R := by
  obtain ⟨a1, a2, a3, a4⟩ := h
  refine ⟨a1, fun u X hu => ?_, fun u r hu hR hg => ?_, a4.imp id wg_Q⟩
  · rcases wg_Qi hE hu with q | ⟨q1, q2⟩
    · exact a2 u X q
    · rw [show (W * 8192 + t) % 8192 = t by omega] at q1
      rw [show (W * 8192 + t) / 8192 = W by omega] at q2
      rw [q1, q2]; exact hp
  · rcases a3 u r hu hR hg with q | ⟨X, q1, q2⟩
    · exact Or.inl q
    · exact Or.inr ⟨X, q1, wg_Q q2⟩
theorem HW_R {m : MoT} {f s T hd th E w v r0 : Nat} {Z : List Nat} {D : Nat → Nat} {P Q : List Nat} (h : HW m f s T hd th E w Z D P Q (fun u r => u ≠ v ∨ r < r0)) (hn : eg m v r0 → (ed m f v r0 ∈ Z ∧ D (ed m f v r0) ≤ D v + ew v r0) ∨ ∃ X, X ≤ D v + ew v r0 ∧ wg T hd th E P Q (ed m f v r0) X) : HW m f s T hd th E w Z D P Q (fun u r => u ≠ v ∨ r < r0 + 1) := by
  obtain ⟨a1, a2, a3, a4⟩ := h
  refine ⟨a1, a2, fun u r hu hR hg => ?_, a4⟩
  by_cases c : u ≠ v ∨ r < r0
  · exact a3 u r hu c hg
  · have e1 : u = v := Classical.byContradiction (fun q => c (Or.inl q))
    subst e1
    have e2 : r = r0 := by
      have : ¬ r < r0 := fun q => c (Or.inr q)
      rcases hR with q | q
      · exact absurd rfl q
      · omega
    subst e2
    exact hn hg
theorem HW_w {m : MoT} {f s T hd th E w : Nat} {Z : List Nat} {D : Nat → Nat} {P Q : List Nat} {R R' : Nat → Nat → Prop} (h : HW m f s T hd th E w Z D P Q R) (hR : ∀ u r, eg m u r → R' u r → R u r) : HW m f s T hd th E w Z D P Q R' := by
  obtain ⟨a1, a2, a3, a4⟩ := h
  exact ⟨a1, a2, fun u r hu h1 hg => a3 u r hu (hR u r hg h1) hg, a4⟩
/-- all of a state -/
def HA (m : MoT) (f s T hd th E w : Nat) (Z : List Nat) (D : Nat → Nat) (z : HzT) (R : Nat → Nat → Prop) : Prop :=
  HB m Z hd th z ∧ HS w hd th E Z.length z.2.1 z.2.2 ∧ HW m f s T hd th E w Z D z.2.1 z.2.2 R
theorem HA_gs {m : MoT} {f s T hd th E w v r : Nat} {Z : List Nat} {D : Nat → Nat} {z : HzT} (hO : MO m) (h : HA m f s T hd th E w Z D z (fun u q => u ≠ v ∨ q < r)) (hg : eg m v r) (hv : v ∈ Z) (hD : D v = 10000 * T + w) (hp : ∃ k, pw m f s k (D v) v) (hz : w + 1 ≤ Z.length) : HA m f s T hd th E w Z D (gs m f v (w + 1) r z) (fun u q => u ≠ v ∨ q < r + 1) := by
  obtain ⟨hB, hS, hW⟩ := h
  have hes := ed_SV (f := f) hO hg
  have he4 := SV_lt hO hes
  have hzl := HB_zl hO hB
  obtain ⟨k0, hk0⟩ := hp
  have hpe : pw m f s (k0 + 1) (D v + ew v r) (ed m f v r) := ⟨v, D v, r, hk0, hg, rfl, rfl⟩
  have hew := ew_b v r
  have done : ((ed m f v r ∈ Z ∧ D (ed m f v r) ≤ D v + ew v r) ∨ ∃ X, X ≤ D v + ew v r ∧ wg T hd th E z.2.1 z.2.2 (ed m f v r) X) → HA m f s T hd th E w Z D z (fun u q => u ≠ v ∨ q < r + 1) := fun q => ⟨hB, hS, HW_R hW (fun _ => q)⟩
  unfold gs
  by_cases c1 : z.1 (ed m f v r) &&& 1 = 0
  · rw [if_pos c1]
    have hnZ := (hB.2.1 _ hes).mp c1
    by_cases cr : r = dg (v / 6) (v % 6)
    · have e1 : ew v r = 1 := by unfold ew; rw [if_pos cr]
      rw [if_pos cr]
      by_cases c4 : z.1 (ed m f v r) &&& 4 = 0
      · rw [if_pos c4]
        refine ⟨HB_P hB hO hS.1.1 hes c4, HS_P hS (by omega) hz, HW_R (HW_P hW (by omega) ⟨k0 + 1, by rw [show 10000 * T + (w + 1) = D v + ew v r by omega]; exact hpe⟩) (fun _ => Or.inr ⟨10000 * T + (w + 1), by omega, Or.inl ⟨z.2.1.length, hS.1.1, by show _ < (z.2.1 ++ [(w + 1) * 8192 + ed m f v r]).length; rw [ln_a]; omega, ?_, ?_⟩⟩)⟩
        · show (z.2.1 ++ [(w + 1) * 8192 + ed m f v r]).getD z.2.1.length 0 % 8192 = _
          rw [gd_e]; omega
        · show _ = 10000 * T + (z.2.1 ++ [(w + 1) * 8192 + ed m f v r]).getD z.2.1.length 0 / 8192
          rw [gd_e]; omega
      · rw [if_neg c4]
        refine done (Or.inr ?_)
        rcases hB.2.2.1 _ hes with q | q | ⟨i, q1, q2, q3⟩
        · exact absurd q c4
        · exact absurd q hnZ
        · have := hS.2.1 i q1 q2
          exact ⟨10000 * T + z.2.1.getD i 0 / 8192, by omega, Or.inl ⟨i, q1, q2, q3, rfl⟩⟩
    · have e1 : ew v r = 10001 := by unfold ew; rw [if_neg cr]
      rw [if_neg cr]
      by_cases c4 : z.1 (ed m f v r) &&& 2 = 0
      · rw [if_pos c4]
        have hE := hS.1.2.2.1
        have htE := hS.1.2.1
        refine ⟨HB_Q hB hO (by omega) hes c4, HS_Q hS (by omega) hz, HW_R (HW_Q hW hE (by omega) ⟨k0 + 1, by rw [show 10000 * (T + 1) + (w + 1) = D v + ew v r by omega]; exact hpe⟩) (fun _ => Or.inr ⟨10000 * (T + 1) + (w + 1), by omega, Or.inr ⟨z.2.2.length, by omega, by show _ < (z.2.2 ++ [(w + 1) * 8192 + ed m f v r]).length; rw [ln_a]; omega, ?_, ?_⟩⟩)⟩
        · show (z.2.2 ++ [(w + 1) * 8192 + ed m f v r]).getD z.2.2.length 0 % 8192 = _
          rw [gd_e]; omega
        · show _ = 10000 * (if z.2.2.length < E then T else T + 1) + (z.2.2 ++ [(w + 1) * 8192 + ed m f v r]).getD z.2.2.length 0 / 8192
          rw [gd_e, if_neg (by omega)]; omega
      · rw [if_neg c4]
        refine done (Or.inr ?_)
        rcases hB.2.2.2.1 _ hes with q | q | ⟨i, q1, q2, q3⟩
        · exact absurd q c4
        · exact absurd q hnZ
        · refine ⟨10000 * (if i < E then T else T + 1) + z.2.2.getD i 0 / 8192, ?_, Or.inr ⟨i, q1, q2, q3, rfl⟩⟩
          by_cases cE : i < E
          · have := hS.2.2.2.1 i q1 cE
            rw [if_pos cE]; omega
          · have := hS.2.2.2.2.2.1 i (by omega) q2
            rw [if_neg cE]; omega
  · rw [if_neg c1]
    have hZ : ed m f v r ∈ Z := Classical.byContradiction (fun q => c1 ((hB.2.1 _ hes).mpr q))
    have := hW.1 _ hZ
    exact done (Or.inl ⟨hZ, by omega⟩)
theorem HA_gfo {m : MoT} {f s T hd th E w v : Nat} {Z : List Nat} {D : Nat → Nat} (hO : MO m) (hs : SV m v) (hr : rs m (v % 6) = false) (hv : v ∈ Z) (hD : D v = 10000 * T + w) (hp : ∃ k, pw m f s k (D v) v) (hz : w + 1 ≤ Z.length) : ∀ (k r : Nat) (z : HzT), r + k ≤ mR m (v % 6) → HA m f s T hd th E w Z D z (fun u q => u ≠ v ∨ q < r) → HA m f s T hd th E w Z D (gfo m f v (w + 1) k r z) (fun u q => u ≠ v ∨ q < r + k)
  | 0, r, z, _, h => h
  | k + 1, r, z, hk, h => by
    have := HA_gfo hO hs hr hv hD hp hz k (r + 1) (gs m f v (w + 1) r z) (by omega) (HA_gs hO h ⟨hs, hr, by omega⟩ hv hD hp hz)
    rw [gfo, show r + (k + 1) = r + 1 + k by omega]
    exact this
/-- ways end among the settled, or some stand waits with no more -/
theorem HW_way {m : MoT} {f s T hd th E w : Nat} {Z : List Nat} {D : Nat → Nat} {P Q : List Nat} (h : HW m f s T hd th E w Z D P Q (fun _ _ => True)) : ∀ {k Y u : Nat}, pw m f s k Y u → (u ∈ Z ∧ D u ≤ Y) ∨ ∃ t X, X ≤ Y ∧ wg T hd th E P Q t X
  | 0, Y, u, hp => by
    rw [hp.1, hp.2]
    rcases h.2.2.2 with q | q
    · exact Or.inl ⟨q.1, by omega⟩
    · exact Or.inr ⟨s, 0, Nat.le_refl _, q⟩
  | k + 1, Y, u, ⟨v, Y0, r, h1, h2, h3, h4⟩ => by
    rcases HW_way h h1 with ⟨q1, q2⟩ | ⟨t, X, q1, q2⟩
    · rcases h.2.2.1 v r q1 trivial h2 with ⟨p1, p2⟩ | ⟨X, p1, p2⟩
      · rw [h3]; exact Or.inl ⟨p1, by omega⟩
      · exact Or.inr ⟨_, X, by omega, p2⟩
    · exact Or.inr ⟨t, X, by omega, q2⟩
