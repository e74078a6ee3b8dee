/-! hands: the nearest is taken. -/
def pops (hd th hd' th' E x : Nat) (P Q : List Nat) : Prop := (hd' = hd + 1 ∧ th' = th ∧ hd < P.length ∧ x = P.getD hd 0) ∨ (hd' = hd ∧ th' = th + 1 ∧ th < E ∧ x = Q.getD th 0)
def pmin (hd th E x : Nat) (P Q : List Nat) : Prop := (∀ i, hd ≤ i → i < P.length → x / 8192 ≤ P.getD i 0 / 8192) ∧ (∀ i, th ≤ i → i < E → x / 8192 ≤ Q.getD i 0 / 8192)
theorem pop_wg {T hd th hd' th' E x u X : Nat} {P Q : List Nat} (hp : pops hd th hd' th' E x P Q) (h : wg T hd th E P Q u X) : (u = x % 8192 ∧ X = 10000 * T + x / 8192) ∨ wg T hd' th' E P Q u X := by
  rcases hp with ⟨e1, e2, h3, e4⟩ | ⟨e1, e2, h3, e4⟩ <;> subst e1 e2
  · rcases h with ⟨i, a, b, c, d⟩ | q
    · by_cases e : i = hd
      · subst e; rw [← e4] at c d; exact Or.inl ⟨c.symm, d⟩
      · exact Or.inr (Or.inl ⟨i, by omega, b, c, d⟩)
    · exact Or.inr (Or.inr q)
  · rcases h with q | ⟨i, a, b, c, d⟩
    · exact Or.inr (Or.inl q)
    · by_cases e : i = th
      · subst e; rw [← e4, if_pos h3] at d; rw [← e4] at c; exact Or.inl ⟨c.symm, d⟩
      · exact Or.inr (Or.inr ⟨i, by omega, b, c, d⟩)
theorem pop_sub {T hd th hd' th' E x u X : Nat} {P Q : List Nat} (hp : pops hd th hd' th' E x P Q) (h : wg T hd' th' E P Q u X) : wg T hd th E P Q u X := by
  have hd1 : hd ≤ hd' ∧ th ≤ th' := by rcases hp with ⟨e1, e2, _, _⟩ | ⟨e1, e2, _, _⟩ <;> omega
  rcases h with ⟨i, a, b, c, d⟩ | ⟨i, a, b, c, d⟩
  · exact Or.inl ⟨i, by omega, b, c, d⟩
  · exact Or.inr ⟨i, by omega, b, c, d⟩
theorem pop_in {T hd th hd' th' E x : Nat} {P Q : List Nat} (hE : E ≤ Q.length) (hp : pops hd th hd' th' E x P Q) : wg T hd th E P Q (x % 8192) (10000 * T + x / 8192) := by
  rcases hp with ⟨_, _, h3, e4⟩ | ⟨_, _, h3, e4⟩ <;> subst e4
  · exact Or.inl ⟨hd, Nat.le_refl _, h3, rfl, rfl⟩
  · exact Or.inr ⟨th, Nat.le_refl _, by omega, rfl, by rw [if_pos h3]⟩
theorem pop_b {w hd th hd' th' E zl x : Nat} {P Q : List Nat} (hp : pops hd th hd' th' E x P Q) (h : HS w hd th E zl P Q) : w ≤ x / 8192 ∧ x / 8192 ≤ zl := by
  rcases hp with ⟨_, _, h3, e4⟩ | ⟨_, _, h3, e4⟩ <;> subst e4
  · have := h.2.1 hd (Nat.le_refl _) h3; omega
  · have := h.2.2.2.1 th (Nat.le_refl _) h3; omega
theorem HS_pop {w hd th hd' th' E zl zl' x : Nat} {P Q : List Nat} (h : HS w hd th E zl P Q) (hp : pops hd th hd' th' E x P Q) (hm : pmin hd th E x P Q) (hz : zl ≤ zl') : HS (x / 8192) hd' th' E zl' P Q := by
  have hb := pop_b hp h
  obtain ⟨a1, a2, a3, a4, a5, a6, a7⟩ := h
  have hd1 : hd ≤ hd' ∧ th ≤ th' ∧ hd' ≤ P.length ∧ th' ≤ E := by rcases hp with ⟨e1, e2, _, _⟩ | ⟨e1, e2, _, _⟩ <;> omega
  refine ⟨⟨hd1.2.2.1, hd1.2.2.2, a1.2.2.1, by omega⟩, fun i h1 h2 => ?_, fun i j h1 h2 h3 => a3 i j (by omega) h2 h3, fun i h1 h2 => ?_, fun i j h1 h2 h3 => a5 i j (by omega) h2 h3, fun i h1 h2 => ?_, a7⟩
  · have := a2 i (by omega) h2
    have := hm.1 i (by omega) h2
    omega
  · have := a4 i (by omega) h2
    have := hm.2 i (by omega) h2
    omega
  · have := a6 i h1 h2
    omega
theorem HW_pop {m : MoT} {f s T hd th hd' th' E w w' v X0 : Nat} {Z Z' : List Nat} {D D' : Nat → Nat} {P Q : List Nat} {R R' : Nat → Nat → Prop} (h : HW m f s T hd th E w Z D P Q R) (hz : ∀ u, u ∈ Z → u ∈ Z' ∧ D' u = D u) (hv : v ∈ Z' ∧ D' v ≤ X0) (h1 : ∀ u X, wg T hd th E P Q u X → (u = v ∧ X = X0) ∨ wg T hd' th' E P Q u X) (h2 : ∀ u X, wg T hd' th' E P Q u X → wg T hd th E P Q u X) (hR : ∀ u r, u ∈ Z' → R' u r → u ∈ Z ∧ R u r) (hw : ∀ u, u ∈ Z' → D' u ≤ 10000 * T + w') : HW m f s T hd' th' E w' Z' D' P Q R' := by
  obtain ⟨a1, a2, a3, a4⟩ := h
  refine ⟨hw, fun u X hu => a2 u X (h2 u X hu), fun u r hu h3 hg => ?_, ?_⟩
  · obtain ⟨q1, q2⟩ := hR u r hu h3
    rw [(hz u q1).2]
    rcases a3 u r q1 q2 hg with ⟨p1, p2⟩ | ⟨X, p1, p2⟩
    · obtain ⟨p3, p4⟩ := hz _ p1
      exact Or.inl ⟨p3, by omega⟩
    · rcases h1 _ X p2 with ⟨e1, e2⟩ | q
      · rw [e1]; exact Or.inl ⟨hv.1, by omega⟩
      · exact Or.inr ⟨X, p1, q⟩
  · rcases a4 with ⟨p1, p2⟩ | p
    · obtain ⟨p3, p4⟩ := hz _ p1
      exact Or.inl ⟨p3, by omega⟩
    · rcases h1 _ 0 p with ⟨e1, e2⟩ | q
      · rw [e1]; exact Or.inl ⟨hv.1, by omega⟩
      · exact Or.inr q
theorem pop_hb {m : MoT} {Z : List Nat} {hd th hd' th' E x : Nat} {z : HzT} (hE : E ≤ z.2.2.length) (hB : HB m Z hd th z) (hp : pops hd th hd' th' E x z.2.1 z.2.2) : SV m (x % 8192) ∧ (∀ i, hd ≤ i → i < z.2.1.length → hd' ≤ i ∨ z.2.1.getD i 0 % 8192 = x % 8192) ∧ (∀ i, th ≤ i → i < z.2.2.length → th' ≤ i ∨ z.2.2.getD i 0 % 8192 = x % 8192) := by
  obtain ⟨a1, a2, a3, a4, a5, a6, a7, a8, a9, a10⟩ := hB
  rcases hp with ⟨e1, e2, h3, e4⟩ | ⟨e1, e2, h3, e4⟩ <;> subst e1 e2 e4
  · refine ⟨(a5 hd h3).1, fun i h1 h2 => ?_, fun i h1 h2 => Or.inl h1⟩
    by_cases e : i = hd
    · subst e; exact Or.inr rfl
    · exact Or.inl (by omega)
  · refine ⟨(a7 th (by omega)).1, fun i h1 h2 => Or.inl h1, fun i h1 h2 => ?_⟩
    by_cases e : i = th
    · subst e; exact Or.inr rfl
    · exact Or.inl (by omega)
theorem HA_pop_s {m : MoT} {f s T hd th hd' th' E w x : Nat} {Z : List Nat} {D : Nat → Nat} {z : HzT} (h : HA m f s T hd th E w Z D z (fun _ _ => True)) (hp : pops hd th hd' th' E x z.2.1 z.2.2) (hm : pmin hd th E x z.2.1 z.2.2) (hv : x % 8192 ∈ Z) : HA m f s T hd' th' E (x / 8192) Z D z (fun _ _ => True) := by
  obtain ⟨hB, hS, hW⟩ := h
  obtain ⟨q1, q2, q3⟩ := pop_hb hS.1.2.2.1 hB hp
  have hb := pop_b hp hS
  refine ⟨HB_s hB hv q2 q3, HS_pop hS hp hm (Nat.le_refl _), HW_pop (v := x % 8192) (X0 := 10000 * T + x / 8192) hW (fun u hu => ⟨hu, rfl⟩) ⟨hv, ?_⟩ (fun u X => pop_wg hp) (fun u X => pop_sub hp) (fun u r hu hr => ⟨hu, hr⟩) (fun u hu => ?_)⟩
  · have := hW.1 _ hv; omega
  · have := hW.1 _ hu; omega
theorem HA_pop_n {m : MoT} {f s T hd th hd' th' E w x : Nat} {Z : List Nat} {D : Nat → Nat} {z : HzT} (h : HA m f s T hd th E w Z D z (fun _ _ => True)) (hp : pops hd th hd' th' E x z.2.1 z.2.2) (hm : pmin hd th E x z.2.1 z.2.2) (hv : x % 8192 ∉ Z) : HA m f s T hd' th' E (x / 8192) (x % 8192 :: Z) (ups D (x % 8192) (10000 * T + x / 8192)) (ups z.1 (x % 8192) (z.1 (x % 8192) ||| 1), z.2.1, z.2.2) (fun u q => u ≠ x % 8192 ∨ q < 0) := by
  obtain ⟨hB, hS, hW⟩ := h
  obtain ⟨q1, q2, q3⟩ := pop_hb hS.1.2.2.1 hB hp
  have hb := pop_b hp hS
  refine ⟨HB_Z hB q1 hv q2 q3, HS_pop hS hp hm (by rw [List.length_cons]; omega), HW_pop (v := x % 8192) (X0 := 10000 * T + x / 8192) hW (fun u hu => ⟨List.mem_cons_of_mem _ hu, ups_n (fun e => hv (by rw [← e]; exact hu))⟩) ⟨by simp, by rw [ups_s]; exact Nat.le_refl _⟩ (fun u X => pop_wg hp) (fun u X => pop_sub hp) (fun u r hu hr => ?_) (fun u hu => ?_)⟩
  · rcases hr with q | q
    · exact ⟨(List.mem_cons.mp hu).resolve_left q, trivial⟩
    · omega
  · rcases List.mem_cons.mp hu with e | e
    · rw [e, ups_s]; omega
    · by_cases e2 : u = x % 8192
      · rw [e2, ups_s]; omega
      · have := hW.1 _ e
        rw [ups_n e2]; omega
theorem min_wg {w T hd th E zl x u X : Nat} {P Q : List Nat} (h : HS w hd th E zl P Q) (hz : zl ≤ 10000) (hx : x / 8192 ≤ zl) (hm : pmin hd th E x P Q) (hw : wg T hd th E P Q u X) : 10000 * T + x / 8192 ≤ X := by
  rcases hw with ⟨i, a, b, c, d⟩ | ⟨i, a, b, c, d⟩
  · have := hm.1 i a b; omega
  · by_cases e : i < E
    · have := hm.2 i a e; rw [if_pos e] at d; omega
    · rw [if_neg e] at d; omega
/-- the next round -/
theorem HA_next {m : MoT} {f s T E w : Nat} {Z : List Nat} {D : Nat → Nat} {z : HzT} (hO : MO m) (h : HA m f s T z.2.1.length E E w Z D z (fun _ _ => True)) : HA m f s (T + 1) 0 E z.2.2.length 0 Z D (z.1, [], z.2.2) (fun _ _ => True) := by
  obtain ⟨hB, hS, hW⟩ := h
  have hzl := HB_zl hO hB
  have wgi : ∀ u X, wg (T + 1) 0 E z.2.2.length [] z.2.2 u X ↔ wg T z.2.1.length E E z.2.1 z.2.2 u X := by
    intro u X
    constructor
    · rintro (⟨i, a, b, c, d⟩ | ⟨i, a, b, c, d⟩)
      · exact absurd b (Nat.not_lt_zero _)
      · exact Or.inr ⟨i, a, b, c, by rw [if_neg (by omega)]; rw [if_pos b] at d; exact d⟩
    · rintro (⟨i, a, b, c, d⟩ | ⟨i, a, b, c, d⟩)
      · omega
      · exact Or.inr ⟨i, a, b, c, by rw [if_pos b]; rw [if_neg (by omega)] at d; exact d⟩
  refine ⟨?_, ?_, ?_⟩
  · obtain ⟨a1, a2, a3, a4, a5, a6, a7, a8, a9, a10⟩ := hB
    refine ⟨a1, a2, fun u hu => ?_, a4, fun i hi => absurd hi (Nat.not_lt_zero _), fun i j _ hj => absurd hj (Nat.not_lt_zero _), a7, a8, a9, a10⟩
    rcases a3 u hu with q | q | ⟨i, q1, q2, q3⟩
    · exact Or.inl q
    · exact Or.inr (Or.inl q)
    · omega
  · obtain ⟨a1, a2, a3, a4, a5, a6, a7⟩ := hS
    refine ⟨⟨Nat.zero_le _, a1.2.2.1, Nat.le_refl _, Nat.zero_le _⟩, fun i _ hi => absurd hi (Nat.not_lt_zero _), fun i j _ _ hj => absurd hj (Nat.not_lt_zero _), fun i h1 h2 => ⟨Nat.zero_le _, (a6 i h1 h2).2⟩, a7, fun i h1 h2 => ?_, fun i j h1 h2 h3 => ?_⟩
    · have h2 : i < z.2.2.length := h2
      omega
    · have h3 : j < z.2.2.length := h3
      omega
  · obtain ⟨a1, a2, a3, a4⟩ := hW
    refine ⟨fun u hu => ?_, fun u X hu => a2 u X ((wgi u X).mp hu), fun u r hu hR hg => ?_, ?_⟩
    · have := a1 u hu
      have := hS.1.2.2.2
      omega
    · rcases a3 u r hu hR hg with q | ⟨X, q1, q2⟩
      · exact Or.inl q
      · exact Or.inr ⟨X, q1, (wgi _ X).mpr q2⟩
    · rcases a4 with q | q
      · exact Or.inl q
      · exact Or.inr ((wgi _ 0).mpr q)
theorem HA_start {m : MoT} {f s : Nat} (hO : MO m) (hs : SV m s) : HA m f s 0 0 0 1 0 [] (fun _ => 0) (fun _ => 0, [], [s]) (fun _ _ => True) := by
  have hs4 := SV_lt hO hs
  have e0 : ∀ i, i < 1 → ([s] : List Nat).getD i 0 = s := fun i hi => by rw [show i = 0 by omega]; rfl
  have el : ([s] : List Nat).length = 1 := rfl
  refine ⟨⟨fun u => by show 0 < 8; omega, fun u hu => iff_of_true (Nat.zero_and _) (by simp), fun u hu => Or.inl (Nat.zero_and _), fun u hu => Or.inl (Nat.zero_and _), fun i hi => absurd hi (Nat.not_lt_zero _), fun i j _ hj => absurd hj (Nat.not_lt_zero _), fun i hi => ?_, fun i j h0 hij hj => ?_, List.nodup_nil, fun u hu => by simp at hu⟩, ⟨⟨Nat.zero_le _, by omega, Nat.le_refl _, Nat.zero_le _⟩, fun i _ hi => absurd hi (Nat.not_lt_zero _), fun i j _ _ hj => absurd hj (Nat.not_lt_zero _), fun i _ hi => ?_, fun i j _ h1 h2 => ?_, fun i h1 h2 => ?_, fun i j h1 h2 h3 => ?_⟩, ⟨fun u hu => by simp at hu, fun u X hu => ?_, fun u r hu => by simp at hu, Or.inr (Or.inr ⟨0, Nat.le_refl _, by show 0 < 1; omega, ?_, ?_⟩)⟩⟩
  · have hi : i < 1 := hi
    show SV m ([s].getD i 0 % 8192) ∧ _
    rw [e0 i hi, Nat.mod_eq_of_lt (by omega)]
    exact ⟨hs, fun q => by omega⟩
  · have hj : j < 1 := hj
    omega
  · show 0 ≤ [s].getD i 0 / 8192 ∧ [s].getD i 0 / 8192 ≤ 0
    rw [e0 i hi]; omega
  · show [s].getD i 0 / 8192 ≤ [s].getD j 0 / 8192
    rw [e0 i (by omega), e0 j (by omega)]; exact Nat.le_refl _
  · have h2 : i < 1 := h2
    omega
  · have h3 : j < 1 := h3
    omega
  · rcases hu with ⟨i, a, b, c, d⟩ | ⟨i, a, b, c, d⟩
    · exact absurd b (Nat.not_lt_zero _)
    · have b : i < 1 := b
      have c : [s].getD i 0 % 8192 = u := c
      have d : X = 10000 * (if i < 1 then 0 else 0 + 1) + [s].getD i 0 / 8192 := d
      rw [e0 i b] at c d
      rw [if_pos b] at d
      exact ⟨0, by omega, by omega⟩
  · show [s].getD 0 0 % 8192 = s
    rw [e0 0 (by omega)]; omega
  · show 0 = 10000 * (if 0 < 1 then 0 else 0 + 1) + [s].getD 0 0 / 8192
    rw [e0 0 (by omega), if_pos (by omega)]; omega
