/-! forces, best: the reference, the calls. -/
def inc (x : Nat) : Nat := if x < 268435456 then x + 1 else 268435456
theorem inc_le {x n : Nat} (hn : n < 268435456) : inc x ≤ n ↔ x + 1 ≤ n := by unfold inc; split <;> omega
theorem inc_b (x : Nat) : inc x ≤ 268435456 := by unfold inc; split <;> omega
def mxd (m : MoT) (p : Nat) (d : Nat → Nat) : Nat → Nat → Nat → Nat
  | 0, _, acc => acc
  | k + 1, r, acc => mxd m p d k (r + 1) (if d (mL m p r) ≤ acc then acc else d (mL m p r))
def mnd (m : MoT) (p : Nat) (e : Nat → Nat) : Nat → Nat → Nat → Nat
  | 0, _, acc => acc
  | k + 1, r, acc => mnd m p e k (r + 1) (if acc ≤ inc (e (mL m p r)) then acc else inc (e (mL m p r)))
theorem mxd_le {m : MoT} {p n : Nat} {d : Nat → Nat} : ∀ {k r acc : Nat}, mxd m p d k r acc ≤ n ↔ (acc ≤ n ∧ ∀ q, r ≤ q → q < r + k → d (mL m p q) ≤ n)
  | 0, r, acc => ⟨fun h => ⟨h, fun q a b => by omega⟩, fun h => h.1⟩
  | k + 1, r, acc => by
    rw [mxd, mxd_le]
    constructor
    · rintro ⟨a, b⟩
      have ha : acc ≤ n ∧ d (mL m p r) ≤ n := by split at a <;> omega
      refine ⟨ha.1, fun q h1 h2 => ?_⟩
      by_cases e : q = r
      · subst e; exact ha.2
      · exact b q (by omega) (by omega)
    · rintro ⟨a, b⟩
      refine ⟨?_, fun q h1 h2 => b q (by omega) (by omega)⟩
      have := b r (by omega) (by omega)
      split <;> omega
theorem mnd_le {m : MoT} {p n : Nat} {e : Nat → Nat} : ∀ {k r acc : Nat}, mnd m p e k r acc ≤ n ↔ (acc ≤ n ∨ ∃ q, r ≤ q ∧ q < r + k ∧ inc (e (mL m p q)) ≤ n)
  | 0, r, acc => ⟨fun h => Or.inl h, fun h => by
      rcases h with h | ⟨q, a, b, _⟩
      · exact h
      · omega⟩
  | k + 1, r, acc => by
    rw [mnd, mnd_le]
    constructor
    · rintro (a | ⟨q, a, b, c⟩)
      · by_cases c : acc ≤ inc (e (mL m p r))
        · rw [if_pos c] at a; exact Or.inl a
        · rw [if_neg c] at a; exact Or.inr ⟨r, by omega, by omega, a⟩
      · exact Or.inr ⟨q, by omega, by omega, c⟩
    · rintro (a | ⟨q, a, b, c⟩)
      · refine Or.inl ?_
        split <;> omega
      · by_cases e2 : q = r
        · subst e2
          refine Or.inl ?_
          split <;> omega
        · exact Or.inr ⟨q, by omega, by omega, c⟩
theorem r_firstBy {m : MoT} {h : abJ} {p r : Nat} {e : Nat → Nat} (hO : MO m) (hM : rM m (h.1 65)) (hp : p < 6) (hr : r < mR m p) (he : ∀ q, e q ≤ 268435456) (h84 : ∀ q, q < 6 → h.1 84 q = nI (e q)) : fX12_firstBy (nI p) (nI r) h = some (nI (inc (e (mL m p r)))) := by
  have hl := hO.2.2.2.2.2.2.1 p r
  have h6 := hO.2.1
  have heb := he (mL m p r)
  unfold fX12_firstBy inc
  rw [r_roadOf hM hp hr (hO.2.2.2.2.1 p), ab_bindS, nI_clamp (by omega), ab_askP (ixN (by omega) (by omega)), h84 _ (by omega), nI_1]
  by_cases c : e (mL m p r) < 268435456
  · rw [if_pos (by rw [show (268435456 : Int32) = nI 268435456 from rfl, nI_ltI (by omega) (by omega)]; exact c), if_pos c]
  · rw [if_neg (by rw [show (268435456 : Int32) = nI 268435456 from rfl, nI_ltI (by omega) (by omega)]; exact c), if_neg c]; rfl
theorem r_otherAt {m : MoT} {h : abJ} {p : Nat} {d : Nat → Nat} (hO : MO m) (hM : rM m (h.1 65)) (hp : p < 6) (hd : ∀ q, d q ≤ 268435456) (h83 : ∀ q, q < 6 → h.1 83 q = nI (d q)) : fX12_otherAt (nI p) h = some (nI (inc (mxd m p d (mR m p) 0 0))) := by
  have h6 := hO.2.1
  have h3 := hO.2.2.2.2.1 p
  have key : ∀ (k n r acc : Nat), r + k = mR m p → k < n → acc ≤ 268435456 → fX12_otherAt_L4 h n (nI p) (nI acc) (nI r) = some (nI (inc (mxd m p d k r acc))) := by
    intro k
    induction k with
    | zero =>
      intro n r acc hr hn ha
      obtain ⟨n, rfl⟩ : ∃ n0, n = n0 + 1 := ⟨n - 1, by omega⟩
      rw [fX12_otherAt_L4, show (9 : Int32) = nI 9 from rfl, nI_add, nI_clamp (by omega), ab_askP (ixN (by omega) (by omega)), hM.2.2.2.1 p hp, if_pos (by rw [nI_leI (by omega) (by omega)]; omega), nI_1, mxd]
      unfold inc
      by_cases c : acc < 268435456
      · rw [if_pos (by rw [show (268435456 : Int32) = nI 268435456 from rfl, nI_ltI (by omega) (by omega)]; exact c), if_pos c]
      · rw [if_neg (by rw [show (268435456 : Int32) = nI 268435456 from rfl, nI_ltI (by omega) (by omega)]; exact c), if_neg c]; rfl
    | succ k ih =>
      intro n r acc hr hn ha
      obtain ⟨n, rfl⟩ : ∃ n0, n = n0 + 1 := ⟨n - 1, by omega⟩
      have hl := hO.2.2.2.2.2.2.1 p r
      have hdb := hd (mL m p r)
      rw [fX12_otherAt_L4, show (9 : Int32) = nI 9 from rfl, nI_add, nI_clamp (by omega), ab_askP (ixN (by omega) (by omega)), hM.2.2.2.1 p hp, if_neg (by rw [nI_leI (by omega) (by omega)]; omega), r_roadOf hM hp (by omega) h3, ab_bindS, ab_bindS, nI_clamp (by omega), ab_askP (ixN (by omega) (by omega)), ab_askP (ixN (by omega) (by omega)), h83 _ (by omega), mxd]
      unfold fX12_otherAt_J47
      rw [nI_1]
      by_cases c : d (mL m p r) ≤ acc
      · rw [if_pos (by rw [nI_leI (by omega) (by omega)]; exact c), if_pos c]
        exact ih n (r + 1) acc (by omega) (by omega) ha
      · rw [if_neg (by rw [nI_leI (by omega) (by omega)]; exact c), if_neg c]
        exact ih n (r + 1) _ (by omega) (by omega) hdb
  exact key (mR m p) ab_N 0 0 (by omega) (by unfold ab_N; omega) (by omega)
/-- both tables -/
def tb (d e : Nat → Nat) (h : abJ) : Prop := (∀ q, q < 6 → h.1 83 q = nI (d q)) ∧ (∀ q, q < 6 → h.1 84 q = nI (e q))
theorem or_1 {y : Nat} (hy : y = 0 ∨ y = 1) : y ||| 1 = 1 := by rcases hy with rfl | rfl <;> rfl
theorem r_force98 {m : MoT} {h : abJ} {g p y z : Nat} {d e : Nat → Nat} {K : Int32 → Int32 → Int32 → abJ → Option (Int32 × abJ)} (hO : MO m) (hM : rM m (h.1 65)) (hp : p < 6) (hy : y = 0 ∨ y = 1) (hd : ∀ q, d q ≤ 268435456) (he : ∀ q, e q ≤ 268435456) (ht : tb d e h) (hz : z ≤ 268435456) : ∀ (k n r acc : Nat), r + k = mR m p → k < n → acc ≤ 268435456 → fX12_laysForce_L98 K n (nI g) (nI y) (nI p) (nI z) (nI acc) (nI r) h = K (nI g) (nI (if mnd m p e k r acc < d p ∨ z < e p then 1 else y)) (nI (p + 1)) (ab_wI (ab_wI h 83 p (nI (mnd m p e k r acc))) 84 p (nI (min (e p) z))) := by
  have h3 := hO.2.2.2.2.1 p
  intro k
  induction k with
  | zero =>
    intro n r acc hr hn ha
    obtain ⟨n, rfl⟩ : ∃ n0, n = n0 + 1 := ⟨n - 1, by omega⟩
    have hdp := hd p
    have hep := he p
    rw [fX12_laysForce_L98, show (9 : Int32) = nI 9 from rfl, nI_add, nI_clamp (by omega), ab_askP (ixN (by omega) (by omega)), hM.2.2.2.1 p hp, if_pos (by rw [nI_leI (by omega) (by omega)]; omega), nI_clamp (by omega), ab_askP (ixN (by omega) (by omega)), ht.1 p hp, ab_askP (ixN (by omega) (by omega)), ht.2 p hp, mnd]
    unfold fX12_laysForce_J167 fX12_laysForce_J172 fX12_laysForce_J209 fX12_laysForce_J210
    rw [nI_clamp (by omega), ab_askP (ixN (by omega) (by omega)), ab_askP (ixN (by omega) (by omega)), ab_w1n (show 84 ≠ 83 by decide), ht.2 p hp, ab_askP (ixN (by omega) (by omega)), ab_askP (ixN (by omega) (by omega)), ab_askP (ixN (by omega) (by omega)), nI_1, show (1 : Int32) = nI 1 from rfl, show (0 : Int32) = nI 0 from rfl, b_or, b_or, or_1 hy, Nat.or_zero]
    by_cases c1 : acc < d p
    · rw [if_pos (by rw [nI_ltI (by omega) (by omega)]; exact c1), if_pos (Or.inl c1)]
      by_cases c2 : e p ≤ z
      · rw [if_pos (by rw [nI_leI (by omega) (by omega)]; exact c2), show min (e p) z = e p by omega]
      · rw [if_neg (by rw [nI_leI (by omega) (by omega)]; exact c2), show min (e p) z = z by omega]
    · rw [if_neg (by rw [nI_ltI (by omega) (by omega)]; exact c1)]
      by_cases c2 : e p ≤ z
      · rw [if_pos (by rw [nI_leI (by omega) (by omega)]; exact c2), if_pos (by rw [nI_leI (by omega) (by omega)]; exact c2), if_neg (show ¬ (acc < d p ∨ z < e p) by omega), show min (e p) z = e p by omega, ab_askP (show ¬ (nI p < nI 0 ∨ 6 ≤ p) from ixN (by omega) (by omega)), ab_askP (show ¬ (nI p < nI 0 ∨ 6 ≤ p) from ixN (by omega) (by omega)), ab_askP (show ¬ (nI p < nI 0 ∨ 6 ≤ p) from ixN (by omega) (by omega)), ab_askP (show ¬ (nI p < nI 0 ∨ 6 ≤ p) from ixN (by omega) (by omega))]
      · rw [if_neg (by rw [nI_leI (by omega) (by omega)]; exact c2), if_neg (by rw [nI_leI (by omega) (by omega)]; exact c2), if_pos (show acc < d p ∨ z < e p by omega), show min (e p) z = z by omega]
  | succ k ih =>
    intro n r acc hr hn ha
    obtain ⟨n, rfl⟩ : ∃ n0, n = n0 + 1 := ⟨n - 1, by omega⟩
    have hib := inc_b (e (mL m p r))
    rw [fX12_laysForce_L98, show (9 : Int32) = nI 9 from rfl, nI_add, nI_clamp (by omega), ab_askP (ixN (by omega) (by omega)), hM.2.2.2.1 p hp, if_neg (by rw [nI_leI (by omega) (by omega)]; omega), r_firstBy hO hM hp (by omega) he ht.2, ab_bindS, ab_bindS]
    unfold fX12_laysForce_J136
    rw [nI_1, mnd]
    by_cases c : acc ≤ inc (e (mL m p r))
    · rw [if_pos (by rw [nI_leI (by omega) (by omega)]; exact c), if_pos c]
      exact ih n (r + 1) acc (by omega) (by omega) ha
    · rw [if_neg (by rw [nI_leI (by omega) (by omega)]; exact c), if_neg c]
      exact ih n (r + 1) _ (by omega) (by omega) hib
def SD (m : MoT) (g : Nat) (d e : Nat → Nat) : Prop := ∀ n p, n < 268435456 → (d p ≤ n → (fFO m g n).1.testBit p = true) ∧ (e p ≤ n → (fFO m g n).2.testBit p = true)
def CK (m : MoT) (g k : Nat) (d e : Nat → Nat) : Prop := ∀ n p, n ≤ k → ((fFO m g n).1.testBit p = true → d p ≤ n) ∧ ((fFO m g n).2.testBit p = true → e p ≤ n)
def PV (m : MoT) (g : Nat) (d0 e0 : Nat → Nat) (j : Nat) (d e : Nat → Nat) (y : Nat) : Prop := (∀ q, d q ≤ d0 q ∧ e q ≤ e0 q) ∧ SD m g d e ∧ (∀ k, k < 1000 → CK m g k d0 e0 → ∀ n p, n ≤ k + 1 → p < j → ((fFO m g n).1.testBit p = true → d p ≤ n) ∧ ((fFO m g n).2.testBit p = true → e p ≤ n)) ∧ ((y = 0 ∧ ∀ q, d q = d0 q ∧ e q = e0 q) ∨ (y = 1 ∧ ∃ q, d q < d0 q ∨ e q < e0 q))
theorem PV_skip {m : MoT} {g j y : Nat} {d0 e0 d e : Nat → Nat} (h : PV m g d0 e0 j d e y) (h0 : d0 g = 0 ∧ e0 g = 0) (hj : j = g ∨ rs m j = true) : PV m g d0 e0 (j + 1) d e y := by
  obtain ⟨h1, h2, h3, h4⟩ := h
  refine ⟨h1, h2, fun k hk hC n p hn hp => ?_, h4⟩
  by_cases e1 : p = j
  · subst e1
    by_cases eg : p = g
    · have := h1 p
      rw [eg, h0.1, h0.2] at this
      rw [eg]
      exact ⟨fun _ => by omega, fun _ => by omega⟩
    · have hr := hj.resolve_left eg
      cases n with
      | zero => exact ⟨fun q => absurd (f0_m.1.mp q) eg, fun q => absurd (f0_m.2.mp q) eg⟩
      | succ n =>
        refine ⟨fun q => ?_, fun q => ?_⟩
        · rcases fF_m.mp q with a | ⟨_, b, _⟩
          · exact absurd a eg
          · rw [hr] at b; cases b
        · rcases fO_m.mp q with a | ⟨_, b, _⟩
          · exact absurd a eg
          · rw [hr] at b; cases b
  · exact h3 k hk hC n p hn (by omega)
theorem PV_step {m : MoT} {g j y : Nat} {d0 e0 d e : Nat → Nat} (h : PV m g d0 e0 j d e y) (hb : ∀ q, d0 q ≤ 268435456 ∧ e0 q ≤ 268435456) (hj : j < mP m) (hg : j ≠ g) (hr : rs m j = false) : PV m g d0 e0 (j + 1) (ups d j (mnd m j e (mR m j) 0 (d j))) (ups e j (min (e j) (inc (mxd m j d (mR m j) 0 0)))) (if mnd m j e (mR m j) 0 (d j) < d j ∨ inc (mxd m j d (mR m j) 0 0) < e j then 1 else y) := by
  obtain ⟨h1, h2, h3, h4⟩ := h
  have hm : mnd m j e (mR m j) 0 (d j) ≤ d j := mnd_le.mpr (Or.inl (Nat.le_refl _))
  refine ⟨fun q => ?_, fun n p hn => ?_, fun k hk hC n p hn hp => ?_, ?_⟩
  · have := h1 q
    by_cases e1 : q = j
    · subst e1
      rw [ups_s, ups_s]; omega
    · rw [ups_n e1, ups_n e1]; exact this
  · by_cases e1 : p = j
    · subst e1
      rw [ups_s, ups_s]
      refine ⟨fun q => ?_, fun q => ?_⟩
      · rcases mnd_le.mp q with a | ⟨r, _, hr2, a⟩
        · exact (h2 n p hn).1 a
        · rw [inc_le hn] at a
          cases n with
          | zero => omega
          | succ n => exact fF_m.mpr (Or.inr ⟨hj, hr, r, by omega, (h2 n _ (by omega)).2 (by omega)⟩)
      · by_cases c : e p ≤ n
        · exact (h2 n p hn).2 c
        · have a : inc (mxd m p d (mR m p) 0 0) ≤ n := by omega
          rw [inc_le hn] at a
          cases n with
          | zero => omega
          | succ n =>
            have a := mxd_le.mp (show mxd m p d (mR m p) 0 0 ≤ n by omega)
            exact fO_m.mpr (Or.inr ⟨hj, hr, fun r hr2 => (h2 n _ (by omega)).1 (a.2 r (by omega) (by omega))⟩)
    · rw [ups_n e1, ups_n e1]; exact h2 n p hn
  · by_cases e1 : p = j
    · subst e1
      rw [ups_s, ups_s]
      cases n with
      | zero => exact ⟨fun q => absurd (f0_m.1.mp q) hg, fun q => absurd (f0_m.2.mp q) hg⟩
      | succ n =>
        refine ⟨fun q => ?_, fun q => ?_⟩
        · rcases fF_m.mp q with a | ⟨_, _, r, hr2, a⟩
          · exact absurd a hg
          · have b := (hC n _ (by omega)).2 a
            have b2 := (h1 (mL m p r)).2
            exact mnd_le.mpr (Or.inr ⟨r, by omega, by omega, (inc_le (by omega)).mpr (by omega)⟩)
        · rcases fO_m.mp q with a | ⟨_, _, a⟩
          · exact absurd a hg
          · have : mxd m p d (mR m p) 0 0 ≤ n := mxd_le.mpr ⟨by omega, fun r _ hr2 => by
              have b := (hC n _ (by omega)).1 (a r (by omega))
              have b2 := (h1 (mL m p r)).1
              omega⟩
            have : inc (mxd m p d (mR m p) 0 0) ≤ n + 1 := (inc_le (by omega)).mpr (by omega)
            omega
    · rw [ups_n e1, ups_n e1]; exact h3 k hk hC n p hn (by omega)
  · by_cases c : mnd m j e (mR m j) 0 (d j) < d j ∨ inc (mxd m j d (mR m j) 0 0) < e j
    · rw [if_pos c]
      refine Or.inr ⟨rfl, j, ?_⟩
      have := h1 j
      rw [ups_s, ups_s]
      omega
    · rw [if_neg c]
      have u1 : ∀ q, ups d j (mnd m j e (mR m j) 0 (d j)) q = d q := fun q => by
        by_cases e1 : q = j
        · subst e1; rw [ups_s]; omega
        · rw [ups_n e1]
      have u2 : ∀ q, ups e j (min (e j) (inc (mxd m j d (mR m j) 0 0))) q = e q := fun q => by
        by_cases e1 : q = j
        · subst e1; rw [ups_s]; omega
        · rw [ups_n e1]
      rcases h4 with ⟨a, b⟩ | ⟨a, q, b⟩
      · exact Or.inl ⟨a, fun q => by rw [u1, u2]; exact b q⟩
      · exact Or.inr ⟨a, q, by rw [u1, u2]; exact b⟩
