/-! first, visits. -/
def ffi (g : Nat → Nat) (p : Nat) : Nat → Nat → Int32
  | 0, _ => -nI 1
  | k + 1, j => if g j % 6 = p then nI j else ffi g p k (j + 1)
theorem c_first_L {h : abJ} {L p : Nat} {g : Nat → Nat} (hL2 : L ≤ 4374) (hp : p < 6) (h4 : h.1 32 4 = nI L) (hg : ∀ i, i < L → h.1 30 i = nI (g i)) (hv : ∀ i, i < L → g i < 4374) : ∀ (k n j : Nat), j + k = L → k < n → fX2_firstAt_L2 h n (nI p) (nI j) = some (ffi g p k j) := by
  intro k
  induction k with
  | zero =>
    intro n j hj hn
    obtain ⟨n, rfl⟩ : ∃ n0, n = n0 + 1 := ⟨n - 1, by omega⟩
    rw [fX2_firstAt_L2, h4, if_pos (by rw [nI_leI (by omega) (by omega)]; omega)]
    rfl
  | succ k ih =>
    intro n j hj hn
    obtain ⟨n, rfl⟩ : ∃ n0, n = n0 + 1 := ⟨n - 1, by omega⟩
    have := hv j (by omega)
    rw [fX2_firstAt_L2, h4, if_neg (by rw [nI_leI (by omega) (by omega)]; omega), nI_clamp (by omega), ab_askP (ixN (by omega) (by omega)), hg j (by omega), show (6 : Int32) = nI 6 from rfl, pk_rem (by omega) (by omega) (by omega), nI_1, ih n (j + 1) (by omega) (by omega)]
    simp only [nI_eq (show g j % 6 < 2 ^ 31 by omega) (show p < 2 ^ 31 by omega), ffi]
    split <;> rfl
theorem r_first_L {h : abJ} {L p : Nat} {g : Nat → Nat} (hL2 : L ≤ 4374) (hp : p < 6) (h4 : h.1 64 22 = nI L) (hg : ∀ i, i < L → h.1 72 i = nI (g i)) (hv : ∀ i, i < L → g i < 4374) : ∀ (k n j : Nat), j + k = L → k < n → fX12_first_L27 n (nI p) (nI j) h = some (ffi g p k j, h) := by
  intro k
  induction k with
  | zero =>
    intro n j hj hn
    obtain ⟨n, rfl⟩ : ∃ n0, n = n0 + 1 := ⟨n - 1, by omega⟩
    rw [fX12_first_L27, h4, if_pos (by rw [nI_leI (by omega) (by omega)]; omega)]
    rfl
  | succ k ih =>
    intro n j hj hn
    obtain ⟨n, rfl⟩ : ∃ n0, n = n0 + 1 := ⟨n - 1, by omega⟩
    have := hv j (by omega)
    rw [fX12_first_L27, h4, if_neg (by rw [nI_leI (by omega) (by omega)]; omega), nI_clamp (by omega), ab_askP (ixN (by omega) (by omega)), hg j (by omega), show (6 : Int32) = nI 6 from rfl, pk_rem (by omega) (by omega) (by omega), nI_1, ih n (j + 1) (by omega) (by omega)]
    simp only [nI_eq (show g j % 6 < 2 ^ 31 by omega) (show p < 2 ^ 31 by omega), ffi]
    split <;> rfl
/-- a post that isn't: both say so -/
theorem post_ro {α : Type} {c r : Int32 → abJ → Option (α × abJ)} (x : Int32) {v0 : α} (hc : ∀ A h x, WF A → RC A h → (x < 0 ∨ nI (mP (aM A)) ≤ x) → c x h = some (v0, h)) (hr : ∀ A h x, WF A → RR A h → (x < 0 ∨ nI (mP (aM A)) ≤ x) → r x h = some (v0, ab_wI h 64 0 0)) (k : ∀ A p, WF A → p < mP (aM A) → ∃ v, (∀ h, RC A h → Ok (c (nI p) h) (fun x => x.1 = v ∧ fr sc0 [41] h x.2)) ∧ (∀ h, RR A h → Ok (r (nI p) h) (fun x => x.1 = v ∧ frR sk1 sc1 [80, 81] h x.2))) : call2 (c x) (r x) := by
  refine call2_ro (fun A hW => ?_)
  have h6 := hW.1.2.1
  have out : (x < 0 ∨ nI (mP (aM A)) ≤ x) → ∃ v, (∀ h, RC A h → Ok (c x h) (fun x => x.1 = v ∧ fr sc0 [41] h x.2)) ∧ (∀ h, RR A h → Ok (r x h) (fun x => x.1 = v ∧ frR sk1 sc1 [80, 81] h x.2)) := by
    intro hx
    refine ⟨v0, fun h hR => ?_, fun h hR => ?_⟩
    · rw [hc A h x hW hR hx]; exact Ok.some ⟨rfl, fr_r _ _ _⟩
    · rw [hr A h x hW hR hx]; exact Ok.some ⟨rfl, frR_64 (frR_r _ _ _ _) (by decide)⟩
  rcases pk_ix x (n := mP (aM A)) (by omega) with hx | hx | ⟨p, hp, rfl⟩
  · exact out (Or.inl hx)
  · exact out (Or.inr hx)
  · exact k A p hW hp
theorem RR_0 {A : AbT} {h : abJ} (hR : RR A h) : RR A (ab_wI h 64 0 0) := (RR_sc hR (frR_64 (frR_r sk1 sc1 [80, 81] h) (by decide))).1
theorem call_first (x : Int32) : call2 (fX11_first x) (fX12_first x) := by
  refine post_ro x (v0 := -2) (fun A h x hW hR hx => by unfold fX11_first; rw [c_has_out hR.1 hx]; rfl) (fun A h x hW hR hx => by unfold fX12_first; rw [r_isPost_out hW.1 (RR_0 hR).1 hx]; rfl) (fun A p hW hp => ?_)
  have h6 := hW.1.2.1
  obtain ⟨L, g, t, hL⟩ := LN_ex (f := sF (aS A)) hW.1 (aN_SV hW)
  have hL2 := LN_le hW.1 hL
  refine ⟨ffi g p L 0, fun h hR => ?_, fun h hR => ?_⟩
  · unfold fX11_first
    rw [c_has_in hW.1 hR.1 hp, ab_bindS]
    refine Ok.neg (by decide) ?_
    rw [c_code hR, ab_bindS]
    refine Ok.bind (c_walkA hW hR (aN_SV hW) hL) (fun h1 hr => ?_)
    unfold fX2_firstAt
    rw [show (0 : Int32) = nI 0 from rfl, c_first_L hL2 (by omega) hr.1 hr.2.2.1 (fun i hi => SV_lt hW.1 (hL.2.2.1 i hi)) L ab_N 0 (by omega) (by unfold ab_N; omega), ab_bindS]
    exact Ok.some ⟨rfl, fr30 hr.2.2.2⟩
  · unfold fX12_first
    generalize e0 : ab_wI h 64 0 0 = h0; have f0 : frR sk1 sc1 [80, 81] h h0 := (by subst e0; exact frR_64 (frR_r _ _ _ _) (by decide)); have hR0 : RR A h0 := (RR_sc hR f0).1
    rw [r_isPost_in hW.1 hR0.1 hp, ab_bindS]
    refine Ok.neg (by decide) ?_
    rw [r_now hW hR0, ab_bindS]
    refine Ok.bind (r_lineA hW hR0 (aN_SV hW) hL) (fun h1 hr => ?_)
    rw [show (0 : Int32) = nI 0 from rfl, r_first_L hL2 (by omega) hr.1 hr.2.2.1 (fun i hi => SV_lt hW.1 (hL.2.2.1 i hi)) L ab_N 0 (by omega) (by unfold ab_N; omega)]
    exact Ok.some ⟨rfl, fr22 f0 hr.2.2.2⟩
/-! Sums. -/
def sg (F : Nat → Nat) : Nat → Nat
  | 0 => 0
  | n + 1 => sg F n + F n
theorem sg_congr {F G : Nat → Nat} : ∀ {n : Nat}, (∀ i, i < n → F i = G i) → sg F n = sg G n
  | 0, _ => rfl
  | n + 1, h => by rw [sg, sg, sg_congr (fun i hi => h i (by omega)), h n (by omega)]
theorem sg_add (F G : Nat → Nat) : ∀ n, sg (fun i => F i + G i) n = sg F n + sg G n
  | 0 => rfl
  | n + 1 => by rw [sg, sg, sg, sg_add F G n]; omega
theorem sg_mul (c : Nat) (F : Nat → Nat) : ∀ n, sg (fun i => c * F i) n = c * sg F n
  | 0 => rfl
  | n + 1 => by rw [sg, sg, sg_mul c F n, Nat.mul_add]
theorem sg_lo (F : Nat → Nat) (j : Nat) : ∀ n, j ≤ n → sg (fun i => if j ≤ i then F i else 0) n + sg F j = sg F n
  | 0, h => by
    have e : j = 0 := by omega
    subst e; rfl
  | n + 1, h => by
    rcases Nat.eq_or_lt_of_le h with e | e
    · subst e
      have z : sg (fun i => if n + 1 ≤ i then F i else 0) (n + 1) = sg (fun _ => 0) (n + 1) := sg_congr (fun i hi => if_neg (by omega))
      have z2 : ∀ k, sg (fun _ => 0) k = 0 := fun k => by
        induction k with
        | zero => rfl
        | succ k ih => rw [sg, ih]
      rw [z, z2]; omega
    · have := sg_lo F j n (by omega)
      rw [sg, sg, if_pos (by omega)]; omega
theorem sg_hi (F : Nat → Nat) (k : Nat) : ∀ n, k ≤ n → sg (fun i => if i < k then F i else 0) n = sg F k
  | 0, h => by
    have e : k = 0 := by omega
    subst e; rfl
  | n + 1, h => by
    rcases Nat.eq_or_lt_of_le h with e | e
    · subst e
      exact sg_congr (fun i hi => if_pos hi)
    · rw [sg, if_neg (by omega), sg_hi F k n (by omega)]; rfl
theorem sg_le {F G : Nat → Nat} : ∀ {n : Nat}, (∀ i, i < n → F i ≤ G i) → sg F n ≤ sg G n
  | 0, _ => Nat.le_refl _
  | n + 1, h => by
    have h1 := sg_le (n := n) (fun i hi => h i (by omega))
    have h2 := h n (by omega)
    rw [sg, sg]; omega
def ind (g : Nat → Nat) (p i : Nat) : Nat := if g i % 6 = p then 1 else 0
/-- how often the i-th of a line is come to within n steps -/
def tmq (L : Nat) (t : Option Nat) (i n : Nat) : Nat := match t with | none => 0 | some j => if j ≤ i then (n - i) / (L - j) else 0
def tms (L : Nat) (t : Option Nat) (i n : Nat) : Nat := (if i = 0 then 0 else 1) + tmq L t i n
theorem c_timesAt {h : abJ} {L i n : Nat} {t : Option Nat} (hL2 : L ≤ 4374) (hi : i < L) (ht : ∀ j, t = some j → j < L) (h4 : h.1 32 4 = nI L) (h5 : h.1 32 5 = oI t) (hn : n ≤ 1000000000000000) (hin : i ≤ n) : fX2_timesAt (nI i) (lN n) h = some (lN (tms L t i n)) := by
  have key : ∀ b, fX2_timesAt_J9 h (nI i) (lN n) (lN b) = some (lN (b + tmq L t i n)) := by
    intro b
    unfold fX2_timesAt_J9 tmq
    rw [h4, h5]
    cases t with
    | none => exact if_pos rfl
    | some j =>
      have hj := ht j rfl
      rw [show oI (some j) = nI j from rfl, if_neg (oI_ne (by omega)), pk_sub (by omega)]
      by_cases c : j ≤ i
      · rw [if_neg (by rw [nI_ltI (by omega) (by omega)]; omega), if_neg (by rw [show (0 : Int32) = nI 0 from rfl, nI_leI (by omega) (by omega)]; omega), nI_l (by omega), nI_l (by omega), lN_sub (by omega), L_div (by omega) (by omega) (by omega), lN_add, show (0 : Int64) = lN 0 from rfl, ab_askP (by rw [L_eq (by omega) (by omega)]; omega)]
        simp only [if_pos c]
      · rw [if_pos (by rw [nI_ltI (by omega) (by omega)]; omega)]
        simp only [if_neg c]
        rfl
  unfold fX2_timesAt tms
  by_cases c : i = 0
  · rw [if_pos (by rw [c]; rfl), if_pos c]; exact key 0
  · rw [if_neg (by rw [show (0 : Int32) = nI 0 from rfl, nI_eq (by omega) (by omega)]; exact c), if_neg c]; exact key 1
theorem c_visits_L {h : abJ} {L p n0 : Nat} {g : Nat → Nat} {t : Option Nat} (hL2 : L ≤ 4374) (hp : p < 6) (ht : ∀ j, t = some j → j < L) (h4 : h.1 32 4 = nI L) (h5 : h.1 32 5 = oI t) (hg : ∀ i, i < L → h.1 30 i = nI (g i)) (hv : ∀ i, i < L → g i < 4374) (hn0 : n0 ≤ 1000000000000000) : ∀ (k n j : Nat), j + k = min L (n0 + 1) → k < n → fX2_visitsTo_L6 h n (nI p) (lN n0) (lN (sg (fun i => ind g p i * tms L t i n0) j)) (nI j) = some (lN (sg (fun i => ind g p i * tms L t i n0) (min L (n0 + 1)))) := by
  intro k
  induction k with
  | zero =>
    intro n j hj hn
    obtain ⟨n, rfl⟩ : ∃ n0, n = n0 + 1 := ⟨n - 1, by omega⟩
    rw [fX2_visitsTo_L6, h4]
    simp only [lg_cmp_gt]
    rw [nI_l (by omega)]
    by_cases c : L ≤ j
    · rw [if_pos (by rw [nI_leI (by omega) (by omega)]; omega), ← hj]; rfl
    · rw [if_neg (by rw [nI_leI (by omega) (by omega)]; omega), if_pos (by rw [L_lt (by omega) (by omega)]; omega), ← hj]; rfl
  | succ k ih =>
    intro n j hj hn
    obtain ⟨n, rfl⟩ : ∃ n0, n = n0 + 1 := ⟨n - 1, by omega⟩
    have hvj := hv j (by omega)
    have e := ih n (j + 1) (by omega) (by omega)
    rw [fX2_visitsTo_L6, h4]
    simp only [lg_cmp_gt]
    rw [nI_l (by omega), if_neg (by rw [nI_leI (by omega) (by omega)]; omega), if_neg (by rw [L_lt (by omega) (by omega)]; omega), nI_clamp (by omega), ab_askP (ixN (by omega) (by omega)), hg j (by omega), show (6 : Int32) = nI 6 from rfl, pk_rem (by omega) (by omega) (by omega), c_timesAt hL2 (by omega) ht h4 h5 hn0 (by omega), ab_bindS]
    unfold fX2_visitsTo_J49
    rw [nI_1, lN_add]
    rw [sg] at e
    by_cases c : g j % 6 = p
    · rw [if_pos (by rw [c])]
      rw [show ind g p j = 1 from if_pos c, Nat.one_mul] at e
      exact e
    · rw [if_neg (by rw [nI_eq (by omega) (by omega)]; exact c)]
      rw [show ind g p j = 0 from if_neg c, Nat.zero_mul, Nat.add_zero] at e
      exact e
theorem r_often_L {h : abJ} {L p hi : Nat} {g : Nat → Nat} (hL2 : L ≤ 4374) (hp : p < 6) (hh : hi ≤ L) (hg : ∀ i, i < L → h.1 72 i = nI (g i)) (hv : ∀ i, i < L → g i < 4374) : ∀ (k n j acc : Nat), j + k = hi → k < n → fX12_oftenAt_L6 h n (nI p) (nI hi) (nI acc) (nI j) = some (nI (acc + (sg (ind g p) hi - sg (ind g p) j))) := by
  intro k
  induction k with
  | zero =>
    intro n j acc hj hn
    obtain ⟨n, rfl⟩ : ∃ n0, n = n0 + 1 := ⟨n - 1, by omega⟩
    rw [fX12_oftenAt_L6, if_pos (by rw [nI_leI (by omega) (by omega)]; omega), show j = hi by omega, Nat.sub_self]; rfl
  | succ k ih =>
    intro n j acc hj hn
    obtain ⟨n, rfl⟩ : ∃ n0, n = n0 + 1 := ⟨n - 1, by omega⟩
    have hvj := hv j (by omega)
    have hm : sg (ind g p) (j + 1) ≤ sg (ind g p) hi := by
      have := sg_lo (ind g p) (j + 1) hi (by omega)
      omega
    have e1 : sg (ind g p) (j + 1) = sg (ind g p) j + ind g p j := rfl
    rw [fX12_oftenAt_L6, if_neg (by rw [nI_leI (by omega) (by omega)]; omega), nI_clamp (by omega), ab_askP (ixN (by omega) (by omega)), hg j (by omega), show (6 : Int32) = nI 6 from rfl, pk_rem (by omega) (by omega) (by omega)]
    unfold fX12_oftenAt_J33
    rw [nI_1]
    by_cases c : g j % 6 = p
    · have e2 : ind g p j = 1 := if_pos c
      rw [if_pos (by rw [c]), nI_1]
      exact (ih n (j + 1) (acc + 1) (by omega) (by omega)).trans (by congr 2; omega)
    · have e2 : ind g p j = 0 := if_neg c
      rw [if_neg (by rw [nI_eq (by omega) (by omega)]; exact c), show (0 : Int32) = nI 0 from rfl, nI_add, nI_1]
      exact (ih n (j + 1) (acc + 0) (by omega) (by omega)).trans (by congr 2; omega)
theorem r_often {h : abJ} {L p lo hi : Nat} {g : Nat → Nat} (hL2 : L ≤ 4374) (hp : p < 6) (hh : hi ≤ L) (hlo : lo ≤ hi) (hg : ∀ i, i < L → h.1 72 i = nI (g i)) (hv : ∀ i, i < L → g i < 4374) : fX12_oftenAt (nI p) (nI lo) (nI hi) h = some (nI (sg (ind g p) hi - sg (ind g p) lo)) := by
  unfold fX12_oftenAt
  have := r_often_L hL2 hp hh hg hv (hi - lo) ab_N lo 0 (by omega) (by unfold ab_N; omega)
  rw [Nat.zero_add] at this
  exact this
theorem vis_div {n L j i q r : Nat} (hL : L ≤ n) (hj : j < L) (hi : j ≤ i) (hi2 : i < L) (hq : n - L + 1 = (L - j) * q + r) (hr : r < L - j) : (n - i) / (L - j) = q + if i < j + r then 1 else 0 := by
  generalize hX : (L - j) * q = X at hq
  by_cases c : i < j + r
  · rw [if_pos c]
    apply Nat.div_eq_of_lt_le
    · rw [Nat.add_mul, Nat.mul_comm q, hX]; omega
    · rw [Nat.add_mul, Nat.add_mul, Nat.mul_comm q, hX]; omega
  · rw [if_neg c]
    apply Nat.div_eq_of_lt_le
    · rw [Nat.add_zero, Nat.mul_comm q, hX]; omega
    · rw [Nat.add_mul, Nat.add_zero, Nat.mul_comm q, hX]; omega
theorem ind_b (g : Nat → Nat) (p i : Nat) : ind g p i ≤ 1 := by unfold ind; split <;> omega
theorem sg_ind (g : Nat → Nat) (p : Nat) : ∀ n, sg (ind g p) n ≤ n
  | 0 => Nat.le_refl _
  | n + 1 => by have := sg_ind g p n; have := ind_b g p n; rw [sg]; omega
theorem vis1 {g : Nat → Nat} {p k : Nat} (hk : 1 ≤ k) : sg (fun i => ind g p i * (if i = 0 then 0 else 1)) k + sg (ind g p) 1 = sg (ind g p) k := by
  rw [← sg_lo (ind g p) 1 k hk]
  congr 1
  exact sg_congr (fun i _ => by by_cases e : i = 0 <;> simp [e])
theorem call_visits (x : Int32) (y : Int64) : call2 (fX11_visits x y) (fX12_visits x y) := by
  refine post_ro (c := fun x => fX11_visits x y) (r := fun x => fX12_visits x y) x (v0 := -2) (fun A h x hW hR hx => by unfold fX11_visits; rw [c_has_out hR.1 hx]; rfl) (fun A h x hW hR hx => by unfold fX12_visits; rw [r_isPost_out hW.1 (RR_0 hR).1 hx]; rfl) (fun A p hW hp => ?_)
  have h6 := hW.1.2.1
  rcases L_cs y (M := 1000000000000000) (by omega) with hy | ⟨n, hn, rfl⟩
  · refine ⟨-3, fun h hR => ?_, fun h hR => ?_⟩
    · unfold fX11_visits
      rw [c_has_in hW.1 hR.1 hp, ab_bindS]
      refine Ok.neg (by decide) ?_
      rw [far_c hy]
      exact Ok.some ⟨rfl, fr_r _ _ _⟩
    · unfold fX12_visits
      generalize e0 : ab_wI h 64 0 0 = h0; have f0 : frR sk1 sc1 [80, 81] h h0 := (by subst e0; exact frR_64 (frR_r _ _ _ _) (by decide)); have hR0 : RR A h0 := (RR_sc hR f0).1
      rw [r_isPost_in hW.1 hR0.1 hp, ab_bindS]
      refine Ok.neg (by decide) ?_
      rw [far_w _ hy, ab_bindS]
      exact Ok.pos rfl (Ok.some ⟨rfl, f0⟩)
  obtain ⟨L, g, t, hL⟩ := LN_ex (f := sF (aS A)) hW.1 (aN_SV hW)
  have hL2 := LN_le hW.1 hL
  have h1L := hL.1
  have ht := hL.2.2.2.2.2.2
  have hv : ∀ i, i < L → g i < 4374 := fun i hi => SV_lt hW.1 (hL.2.2.1 i hi)
  refine ⟨lN (sg (fun i => ind g p i * tms L t i n) (min L (n + 1))), fun h hR => ?_, fun h hR => ?_⟩
  · unfold fX11_visits
    rw [c_has_in hW.1 hR.1 hp, ab_bindS]
    refine Ok.neg (by decide) ?_
    rw [far_d hn, c_code hR, ab_bindS]
    refine Ok.bind (c_walkA hW hR (aN_SV hW) hL) (fun h1 hr => ?_)
    unfold fX2_visitsTo
    have e := c_visits_L hL2 (by omega) ht hr.1 hr.2.1 hr.2.2.1 hv hn (min L (n + 1)) ab_N 0 (by omega) (by unfold ab_N; omega) (p := p)
    rw [show (0 : Int32) = nI 0 from rfl, show (0 : Int64) = lN (sg (fun i => ind g p i * tms L t i n) 0) from rfl, e, ab_bindS]
    exact Ok.some ⟨rfl, fr30 hr.2.2.2⟩
  · unfold fX12_visits
    generalize e0 : ab_wI h 64 0 0 = h0; have f0 : frR sk1 sc1 [80, 81] h h0 := (by subst e0; exact frR_64 (frR_r _ _ _ _) (by decide)); have hR0 : RR A h0 := (RR_sc hR f0).1
    rw [r_isPost_in hW.1 hR0.1 hp, ab_bindS]
    refine Ok.neg (by decide) ?_
    rw [far_v _ hn, ab_bindS]
    refine Ok.neg (by decide) ?_
    rw [r_now hW hR0, ab_bindS]
    refine Ok.bind (r_lineA hW hR0 (aN_SV hW) hL) (fun h1 hr => ?_)
    have f1 := fr22 f0 hr.2.2.2
    rw [hr.1, hr.2.1, nI_l (by omega), show (1 : Int32) = nI 1 from rfl]
    have sm := fun k => sg_ind g p k
    by_cases c : n < L
    · refine Ok.neg (by rw [lg_cmp_ge, L_le (by omega) (by omega)]; omega) ?_
      rw [lN_i, nI_add, r_often hL2 (by omega) (by omega) (by omega) hr.2.2.1 hv, ab_bindS]
      have s1 := sm (n + 1)
      refine Ok.some ⟨?_, f1⟩
      show (nI _).toInt64 = _
      rw [nI_l (by omega), show min L (n + 1) = n + 1 by omega]
      congr 1
      rw [← vis1 (g := g) (p := p) (show 1 ≤ n + 1 by omega), Nat.add_sub_cancel]
      refine sg_congr (fun i hi => ?_)
      congr 1
      unfold tms tmq
      cases t with
      | none => rfl
      | some j =>
        have hj := ht j rfl
        dsimp only
        by_cases cj : j ≤ i
        · rw [if_pos cj, Nat.div_eq_of_lt (by omega)]; rfl
        · rw [if_neg cj]; rfl
    · refine Ok.pos (by rw [lg_cmp_ge, L_le (by omega) (by omega)]; omega) ?_
      rw [r_often hL2 (by omega) (Nat.le_refl L) h1L hr.2.2.1 hv]
      have s1 := sm L
      rw [show min L (n + 1) = L by omega]
      cases t with
      | none =>
        refine Ok.pos rfl ?_
        rw [ab_bindS]
        refine Ok.some ⟨?_, f1⟩
        show (nI _).toInt64 = _
        rw [nI_l (by omega)]
        congr 1
        rw [← vis1 (g := g) (p := p) h1L, Nat.add_sub_cancel]
        rfl
      | some j =>
        have hj := ht j rfl
        have hrm := Nat.mod_lt (n - L + 1) (show 0 < L - j by omega)
        refine Ok.neg (oI_ne (by omega)) ?_
        rw [ab_bindS, show oI (some j) = nI j from rfl, pk_sub (by omega), nI_l (by omega), lN_sub (by omega), show (1 : Int64) = lN 1 from rfl, lN_add, L_rem (by omega) (by omega) (by omega), lN_i, nI_add, L_div (by omega) (by omega) (by omega), r_often hL2 (by omega) (Nat.le_refl L) (by omega) hr.2.2.1 hv, ab_bindS, r_often hL2 (by omega) (by omega) (by omega) hr.2.2.1 hv, ab_bindS]
        refine Ok.ask (by rw [show (0 : Int64) = lN 0 from rfl, L_eq (by omega) (by omega)]; omega) (Ok.ask (by rw [show (0 : Int64) = lN 0 from rfl, L_eq (by omega) (by omega)]; omega) (Ok.some ⟨?_, f1⟩))
        have hq := (Nat.div_add_mod (n - L + 1) (L - j)).symm
        generalize hQ : (n - L + 1) / (L - j) = q at *
        generalize hRr : (n - L + 1) % (L - j) = r at *
        have s2 := sm (j + r)
        show (nI _).toInt64 + lN q * (nI _).toInt64 + (nI _).toInt64 = _
        rw [nI_l (by omega), nI_l (by omega), nI_l (by omega), lN_mul, lN_add, lN_add]
        congr 1
        have e1 := vis1 (g := g) (p := p) h1L
        have e2 := sg_lo (ind g p) j L (by omega)
        have e3 := sg_hi (ind g p) (j + r) L (by omega)
        have e4 := sg_lo (fun i => if i < j + r then ind g p i else 0) j L (by omega)
        have e5 := sg_hi (ind g p) (j + r) j
        have e6 : sg (fun i => if i < j + r then ind g p i else 0) j = sg (ind g p) j := sg_congr (fun i hi => if_pos (by omega))
        have tot : sg (fun i => ind g p i * tms L (some j) i n) L = sg (fun i => ind g p i * (if i = 0 then 0 else 1)) L + (q * sg (fun i => if j ≤ i then ind g p i else 0) L + sg (fun i => if j ≤ i then (if i < j + r then ind g p i else 0) else 0) L) := by
          rw [← sg_mul, ← sg_add, ← sg_add]
          refine sg_congr (fun i hi => ?_)
          unfold tms tmq
          dsimp only
          rw [Nat.mul_add]
          congr 1
          by_cases c1 : j ≤ i
          · rw [if_pos c1, if_pos c1, if_pos c1, vis_div (by omega) hj c1 hi hq hrm, Nat.mul_add, Nat.mul_comm]
            congr 1
            by_cases c2 : i < j + r
            · rw [if_pos c2, if_pos c2]; omega
            · rw [if_neg c2, if_neg c2]; omega
          · rw [if_neg c1, if_neg c1, if_neg c1]; omega
        rw [tot]
        have e7 : sg (fun i => if j ≤ i then ind g p i else 0) L = sg (ind g p) L - sg (ind g p) j := by omega
        rw [e7]
        omega
