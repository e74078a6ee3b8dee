/-! hands: the reference's answer. -/
/-- the least of a table over the stands of a post -/
def mno (c : Nat → Nat) (p : Nat) : Nat → Nat → Nat → Nat
  | 0, _, acc => acc
  | k + 1, i, acc => mno c p k (i + 1) (if acc ≤ c (6 * i + p) then acc else c (6 * i + p))
theorem mno_le {c : Nat → Nat} {p n : Nat} : ∀ {k i acc : Nat}, mno c p k i acc ≤ n ↔ (acc ≤ n ∨ ∃ q, i ≤ q ∧ q < i + k ∧ c (6 * q + p) ≤ n)
  | 0, i, acc => ⟨fun h => Or.inl h, fun h => by
      rcases h with h | ⟨q, a, b, _⟩
      · exact h
      · omega⟩
  | k + 1, i, acc => by
    rw [mno, mno_le]
    constructor
    · rintro (a | ⟨q, a, b, d⟩)
      · by_cases e : acc ≤ c (6 * i + p)
        · rw [if_pos e] at a; exact Or.inl a
        · rw [if_neg e] at a; exact Or.inr ⟨i, by omega, by omega, a⟩
      · exact Or.inr ⟨q, by omega, by omega, d⟩
    · rintro (a | ⟨q, a, b, d⟩)
      · refine Or.inl ?_
        split <;> omega
      · by_cases e2 : q = i
        · subst e2
          refine Or.inl ?_
          split <;> omega
        · exact Or.inr ⟨q, by omega, by omega, d⟩
def hnv (x : Int32) (w : Nat) : Int32 := if w = 268435456 then -1 else if x = 0 then nI (w / 10000) else nI (w % 10000)
theorem r_hand38 {c : Nat → Nat} {p : Nat} {x : Int32} {h : abJ} (hp : p < 6) (hb : ∀ u, c u ≤ 268435456) (ht : tc c h) : ∀ (k n i acc : Nat), i + k = 729 → k < n → acc ≤ 268435456 → fX12_hands_L38 n x (nI acc) (nI (6 * i + p)) h = some (hnv x (mno c p k i acc), h) := by
  intro k
  induction k with
  | zero =>
    intro n i acc hi hn ha
    obtain ⟨n, rfl⟩ : ∃ n0, n = n0 + 1 := ⟨n - 1, by omega⟩
    rw [fX12_hands_L38, if_pos (by rw [show (4374 : Int32) = nI 4374 from rfl, nI_leI (by omega) (by omega)]; omega), mno]
    unfold hnv
    by_cases c1 : acc = 268435456
    · rw [if_pos (by rw [c1]; rfl), if_pos c1]
    · rw [if_neg (by rw [show (268435456 : Int32) = nI 268435456 from rfl, nI_eq (by omega) (by omega)]; exact c1), if_neg c1, show (10000 : Int32) = nI 10000 from rfl, pk_rem (by omega) (by omega) (by omega), pk_div (by omega) (by omega) (by omega)]
      by_cases c2 : x = 0
      · rw [if_pos c2, if_pos c2]
      · rw [if_neg c2, if_neg c2]
  | succ k ih =>
    intro n i acc hi hn ha
    obtain ⟨n, rfl⟩ : ∃ n0, n = n0 + 1 := ⟨n - 1, by omega⟩
    have hcb := hb (6 * i + p)
    rw [fX12_hands_L38, if_neg (by rw [show (4374 : Int32) = nI 4374 from rfl, nI_leI (by omega) (by omega)]; omega), nI_clamp (by omega), ab_askP (ixN (by omega) (by omega)), ab_askP (ixN (by omega) (by omega)), ht _ (by omega), mno]
    unfold fX12_hands_J68
    rw [show (6 : Int32) = nI 6 from rfl, nI_add, show 6 * i + p + 6 = 6 * (i + 1) + p by omega]
    by_cases e : acc ≤ c (6 * i + p)
    · rw [if_pos (by rw [nI_leI (by omega) (by omega)]; exact e), if_pos e]
      exact ih n (i + 1) acc (by omega) (by omega) ha
    · rw [if_neg (by rw [nI_leI (by omega) (by omega)]; exact e), if_neg e]
      exact ih n (i + 1) _ (by omega) (by omega) hcb
/-- the least weight of a way to a post; 268435456: none -/
def LW (m : MoT) (f s p w : Nat) : Prop := (w < 268435456 → ∃ k u, pw m f s k w u ∧ u % 6 = p) ∧ (∀ k X u, pw m f s k X u → u % 6 = p → w ≤ X) ∧ w ≤ 268435456
theorem LW_u {m : MoT} {f s p w w' : Nat} (h : LW m f s p w) (h' : LW m f s p w') : w = w' := by
  have key : ∀ {a b : Nat}, LW m f s p a → LW m f s p b → a ≤ b := by
    intro a b ha hb
    by_cases c : b < 268435456
    · obtain ⟨k, u, h1, h2⟩ := hb.1 c
      exact ha.2.1 k b u h1 h2
    · have := ha.2.2
      omega
  exact Nat.le_antisymm (key h h') (key h' h)
theorem WX_LW {m : MoT} {f s p : Nat} {c : Nat → Nat} (hO : MO m) (hs : SV m s) (hp : p < 6) (h : WX m f s c) : LW m f s p (mno c p 729 0 268435456) := by
  obtain ⟨h1, h2, h3⟩ := h
  refine ⟨fun q => ?_, fun k X u hu hup => ?_, mno_le.mpr (Or.inl (Nat.le_refl _))⟩
  · rcases mno_le.mp (Nat.le_refl (mno c p 729 0 268435456)) with a | ⟨i, _, hi, a⟩
    · omega
    · have b : mno c p 729 0 268435456 ≤ c (6 * i + p) := mno_le.mpr (Or.inr ⟨i, by omega, hi, Nat.le_refl _⟩)
      have e : mno c p 729 0 268435456 = c (6 * i + p) := Nat.le_antisymm b a
      rw [e] at q ⊢
      obtain ⟨k, hk⟩ := h1 _ q
      exact ⟨k, _, hk, by omega⟩
  · have hu4 := SV_lt hO (pw_SV hO hs hu)
    have := h2 k X u hu
    exact mno_le.mpr (Or.inr ⟨u / 6, by omega, by omega, by rw [show 6 * (u / 6) + p = u by omega]; exact this⟩)
theorem LW_ex {m : MoT} {f s p : Nat} (hO : MO m) (hs : SV m s) : ∃ w, LW m f s p w := by
  by_cases c : ∃ X k u, pw m f s k X u ∧ u % 6 = p ∧ X < 268435456
  · have key : ∀ N, (∃ X, X ≤ N ∧ ∃ k u, pw m f s k X u ∧ u % 6 = p) → ∃ X, (∃ k u, pw m f s k X u ∧ u % 6 = p) ∧ ∀ k Y u, pw m f s k Y u → u % 6 = p → X ≤ Y := by
      intro N
      induction N with
      | zero =>
        rintro ⟨X, hX, h⟩
        exact ⟨X, h, fun k Y u _ _ => by omega⟩
      | succ N ih =>
        rintro ⟨X, hX, h⟩
        by_cases c2 : ∃ Y, Y ≤ N ∧ ∃ k u, pw m f s k Y u ∧ u % 6 = p
        · exact ih c2
        · refine ⟨X, h, fun k Y u h1 h2 => ?_⟩
          have : ¬ Y ≤ N := fun q => c2 ⟨Y, q, k, u, h1, h2⟩
          omega
    obtain ⟨X, k, u, h1, h2, h3⟩ := c
    obtain ⟨W, ⟨k', u', h4, h5⟩, h6⟩ := key X ⟨X, Nat.le_refl _, k, u, h1, h2⟩
    have := h6 k X u h1 h2
    exact ⟨W, fun _ => ⟨k', u', h4, h5⟩, h6, by omega⟩
  · refine ⟨268435456, fun q => absurd q (Nat.lt_irrefl _), fun k X u h1 h2 => ?_, Nat.le_refl _⟩
    have : ¬ X < 268435456 := fun q => c ⟨X, k, u, h1, h2, q⟩
    omega
theorem r_hands {A : AbT} {p w : Nat} {x : Int32} {h0 h : abJ} (hW : WF A) (hp : p < mP (aM A)) (hL : LW (aM A) (sF (aS A)) (aN A) p w) (hR : RR A h) (hf : frR sk1 sc1 [80, 81] h0 h) : Ok ((fX12_laysCost h).bind (fun r => fX12_hands_L38 ab_N x 268435456 (nI p) r)) (fun r => r.1 = hnv x w ∧ frR sk1 sc1 [80, 81] h0 r.2) := by
  have hO := hW.1
  have h6 := hO.2.1
  have hb : Ok (fX12_laysCost h) (fun h' => ∃ c, WX (aM A) (sF (aS A)) (aN A) c ∧ tc c h' ∧ RR A h' ∧ frR sk1 sc1 [80, 81] h0 h') := by
    unfold fX12_laysCost
    exact r_laysCost2 hW 4374 ab_N 0 h (by omega) (by unfold ab_N; omega) (fun u hu => by omega) hR hf
  refine Ok.bind hb (fun h1 hr => ?_)
  obtain ⟨c, q1, q2, q3, q4⟩ := hr
  have := r_hand38 (x := x) (show p < 6 by omega) q1.2.2 q2 729 ab_N 0 268435456 (by omega) (by unfold ab_N; omega) (by omega)
  rw [Nat.mul_zero, Nat.zero_add] at this
  rw [show (268435456 : Int32) = nI 268435456 from rfl, this, ← LW_u hL (WX_LW hO (aN_SV hW) (by omega) q1)]
  exact Ok.some ⟨rfl, q4⟩
