/-! homing: the loops. -/
def hst (v : Option Nat) (a : Nat) (z : Nat × Nat × Nat × Nat) : Nat × Nat × Nat × Nat := match v with
  | none => z
  | some j => (z.1 + 1, if z.1 = 0 ∨ j < z.2.1 then j else z.2.1, if z.1 = 0 ∨ j < z.2.1 then a else z.2.2.1, if z.1 = 0 then j else max z.2.2.2 j)
def hfo (v : Nat → Option Nat) : Nat → Nat → Nat × Nat × Nat × Nat → Nat × Nat × Nat × Nat
  | 0, _, z => z
  | k + 1, a, z => hfo v k (a + 1) (hst (v a) a z)
theorem hfo_add {v : Nat → Option Nat} : ∀ (j k a : Nat) (z : Nat × Nat × Nat × Nat), hfo v (j + k) a z = hfo v k (a + j) (hfo v j a z)
  | 0, k, a, z => by rw [Nat.zero_add]; rfl
  | j + 1, k, a, z => by
    rw [show j + 1 + k = (j + k) + 1 by omega, hfo, hfo, hfo_add j k (a + 1), show a + 1 + j = a + (j + 1) by omega]
theorem hfo_n {v : Nat → Option Nat} {N : Nat} (hv : ∀ a, N ≤ a → v a = none) : ∀ (k a : Nat) (z : Nat × Nat × Nat × Nat), N ≤ a → hfo v k a z = z
  | 0, a, z, _ => rfl
  | k + 1, a, z, h => by
    rw [hfo, hv a h, hfo_n hv k (a + 1) _ (by omega)]; rfl
/-- from these arms, at this post, home -/
noncomputable def hva (m : MoT) (f w a : Nat) : Option Nat := if avb m a then hsO m f (6 * a + w) else none
def hcs (z : Nat × Nat × Nat × Nat) (a : Nat) (h : abJ) : Prop := h.1 35 5 = nI z.1 ∧ z.1 ≤ a ∧ (0 < z.1 → h.1 35 6 = nI z.2.1 ∧ h.1 35 7 = nI z.2.2.1 ∧ h.1 35 8 = nI z.2.2.2 ∧ z.2.1 < 4374 ∧ z.2.2.2 < 4374)
theorem c_home58 {v : Option Nat} {a N : Nat} {z : Nat × Nat × Nat × Nat} {h : abJ} {K : Int32 → Int32 → abJ → Option abJ} {Q : abJ → Prop} (ha : a < 729) (hv : ∀ j, v = some j → j < 4374) (hz : hcs z a h) (hK : ∀ h', hcs (hst v a z) (a + 1) h' → fr [35] [] h h' → Ok (K (nI N) (nI (a + 1)) h') Q) : Ok (fX8_home_J58 K (nI N) (nI a) (hI v) h) Q := by
  obtain ⟨z1, z2, z3⟩ := hz
  unfold fX8_home_J58
  cases v with
  | none =>
    refine Ok.pos rfl ?_
    unfold fX8_home_J132
    rw [nI_1]
    exact hK h ⟨z1, by show z.1 ≤ a + 1; omega, z3⟩ (fr_r _ _ _)
  | some j =>
    have hj := hv j rfl
    rw [show hI (some j) = nI j from rfl]
    have ne : ¬ nI j = -2 := fun q => (ab_n_eq (b := 2) (by omega) (by omega) (by omega)).mp q
    refine Ok.neg ne ?_
    rw [z1]
    have last : ∀ (h1 : abJ) (t : Nat), h1.1 35 5 = nI z.1 → fr [35] [] h h1 → h1.1 35 6 = nI (hst (some j) a z).2.1 → h1.1 35 7 = nI (hst (some j) a z).2.2.1 → t = (hst (some j) a z).2.2.2 → (hst (some j) a z).2.1 < 4374 → t < 4374 → Ok (fX8_home_J119 K (nI N) (nI a) (nI t) h1) Q := by
      intro h1 t e5 hfr e6 e7 et b1 b2
      unfold fX8_home_J119 fX8_home_J132
      rw [ab_w1k (show 5 ≠ 8 by decide), e5, nI_1, nI_1]
      refine hK _ ⟨?_, ?_, fun _ => ⟨?_, ?_, ?_, b1, by rw [← et]; exact b2⟩⟩ (fr_w (fr_w hfr (by simp)) (by simp))
      · rw [ab_w1e]; rfl
      · show z.1 + 1 ≤ a + 1; omega
      · rw [ab_w1k (by decide), ab_w1k (by decide)]; exact e6
      · rw [ab_w1k (by decide), ab_w1k (by decide)]; exact e7
      · rw [ab_w1k (by decide), ab_w1e, et]
    by_cases c0 : z.1 = 0
    · refine Ok.pos (by rw [c0]; rfl) ?_
      unfold fX8_home_J86 fX8_home_J97
      rw [ab_w1k (show 5 ≠ 7 by decide), ab_w1k (show 5 ≠ 6 by decide), z1]
      refine Ok.pos (by rw [c0]; rfl) ?_
      refine last _ j (by rw [ab_w1k (by decide), ab_w1k (by decide)]; exact z1) (fr_w (fr_w (fr_r _ _ _) (by simp)) (by simp)) ?_ ?_ ?_ ?_ hj
      · rw [ab_w1k (by decide), ab_w1e]; show nI j = nI (if z.1 = 0 ∨ j < z.2.1 then j else z.2.1); rw [if_pos (Or.inl c0)]
      · rw [ab_w1e]; show nI a = nI (if z.1 = 0 ∨ j < z.2.1 then a else z.2.2.1); rw [if_pos (Or.inl c0)]
      · show j = if z.1 = 0 then j else max z.2.2.2 j; rw [if_pos c0]
      · show (if z.1 = 0 ∨ j < z.2.1 then j else z.2.1) < 4374; rw [if_pos (Or.inl c0)]; exact hj
    · obtain ⟨e6, e7, e8, b1, b2⟩ := z3 (by omega)
      have ne0 : ¬ nI z.1 = 0 := by rw [show (0 : Int32) = nI 0 from rfl, nI_eq (by omega) (by omega)]; exact c0
      refine Ok.neg ne0 ?_
      rw [e6]
      by_cases c1 : j < z.2.1
      · refine Ok.neg (by rw [nI_leI (by omega) (by omega)]; omega) ?_
        unfold fX8_home_J86 fX8_home_J97
        rw [ab_w1k (show 5 ≠ 7 by decide), ab_w1k (show 5 ≠ 6 by decide), z1]
        refine Ok.neg ne0 ?_
        rw [ab_w1k (show 8 ≠ 7 by decide), ab_w1k (show 8 ≠ 6 by decide), e8, c_max _ (by omega) (by omega), ab_bindS]
        refine last _ _ (by rw [ab_w1k (by decide), ab_w1k (by decide)]; exact z1) (fr_w (fr_w (fr_r _ _ _) (by simp)) (by simp)) ?_ ?_ ?_ ?_ (by omega)
        · rw [ab_w1k (by decide), ab_w1e]; show nI j = nI (if z.1 = 0 ∨ j < z.2.1 then j else z.2.1); rw [if_pos (Or.inr c1)]
        · rw [ab_w1e]; show nI a = nI (if z.1 = 0 ∨ j < z.2.1 then a else z.2.2.1); rw [if_pos (Or.inr c1)]
        · show max z.2.2.2 j = if z.1 = 0 then j else max z.2.2.2 j; rw [if_neg c0]
        · show (if z.1 = 0 ∨ j < z.2.1 then j else z.2.1) < 4374; rw [if_pos (Or.inr c1)]; exact hj
      · have cn : ¬ (z.1 = 0 ∨ j < z.2.1) := by omega
        refine Ok.pos (by rw [nI_leI (by omega) (by omega)]; omega) ?_
        unfold fX8_home_J97
        rw [z1]
        refine Ok.neg ne0 ?_
        rw [e8, c_max _ (by omega) (by omega), ab_bindS]
        refine last _ _ z1 (fr_r _ _ _) ?_ ?_ ?_ ?_ (by omega)
        · rw [e6]; show nI z.2.1 = nI (if z.1 = 0 ∨ j < z.2.1 then j else z.2.1); rw [if_neg cn]
        · rw [e7]; show nI z.2.2.1 = nI (if z.1 = 0 ∨ j < z.2.1 then a else z.2.2.1); rw [if_neg cn]
        · show max z.2.2.2 j = if z.1 = 0 then j else max z.2.2.2 j; rw [if_neg c0]
        · show (if z.1 = 0 ∨ j < z.2.1 then j else z.2.1) < 4374; rw [if_neg cn]; exact b1
theorem hva_b {m : MoT} {f w a j : Nat} (hO : MO m) (hw : w < mP m) (h : hva m f w a = some j) : j < 4374 := by
  unfold hva at h
  by_cases c : avb m a = true
  · rw [if_pos c] at h
    exact hsO_b hO (lnl_a hO (avb_t.mp c) hw) h
  · rw [if_neg c] at h; cases h
theorem c_home20 {m : MoT} {f w : Nat} {h0 : abJ} (hO : MO m) (hw : w < mP m) (hf : f < 10) (hM0 : cM m 1 h0) (hK0 : cK m h0) (hR0 : rdy m f h0) (h12 : h0.1 12 2 = nI f) (h10 : h0.1 12 0 = nI w) : ∀ (k n a : Nat) (z : Nat × Nat × Nat × Nat) (h : abJ), a + k = 3 ^ mP m → k < n → hcs z a h → (∀ x, SV m x → hin m f (h.1 31) x) → fr [30, 31, 35] [] h0 h → Ok (fX8_home_L20 n (nI (3 ^ mP m)) (nI a) h) (fun h' => hcs (hfo (hva m f w) k a z) (3 ^ mP m) h' ∧ fr [30, 31, 35] [] h0 h') := by
  have h7 := MO_729 hO
  have h6 := hO.2.1
  intro k
  induction k with
  | zero =>
    intro n a z h ha hn hz hi hfr
    obtain ⟨n, rfl⟩ : ∃ n0, n = n0 + 1 := ⟨n - 1, by omega⟩
    rw [fX8_home_L20]
    have e : a = 3 ^ mP m := by omega
    subst e
    exact Ok.pos (Int32.le_refl _) (Ok.some ⟨hz, hfr⟩)
  | succ k ih =>
    intro n a z h ha hn hz hi hfr
    obtain ⟨n, rfl⟩ : ∃ n0, n = n0 + 1 := ⟨n - 1, by omega⟩
    have hM := cM_fr hM0 hfr (by decide) (by decide) (by decide) (by decide)
    have hK := cK_fr hK0 hfr (by decide) (by decide)
    have hR := rdy_fr hR0 hfr (by decide)
    rw [fX8_home_L20, c_canShow hO hM (by omega), ab_bindS]
    refine Ok.neg (by rw [nI_leI (by omega) (by omega)]; omega) ?_
    by_cases c : avb m a = true
    · rw [c]
      refine Ok.neg (by decide) ?_
      rw [hfr.1 12 (by decide), h12, h10, show (6 : Int32) = nI 6 from rfl, pk_mul, nI_add, Nat.mul_comm a 6]
      refine Ok.bind (c_stepsHome hO hf hM hK hR (lnl_a hO (avb_t.mp c) hw) hi) (fun r hr => ?_)
      have ev : hva m f w a = hsO m f (6 * a + w) := by unfold hva; rw [if_pos c]
      rw [hr.1, ← ev]
      refine c_home58 (z := z) (by omega) (fun j hj => hva_b hO hw hj) ?_ (fun h' hz' hf' => ?_)
      · unfold hcs at hz ⊢
        rw [hr.2.2.1 35 (by decide)]
        exact hz
      · rw [hfo]
        refine ih n (a + 1) _ h' (by omega) (by omega) hz' (fun x hx => ?_) (fr_t hfr (fr_t (fr_m hr.2.2 (by simp) (by simp)) (fr_m hf' (by simp) (by simp))))
        have := hr.2.1 x hx
        unfold hin at this ⊢
        rw [hf'.1 31 (by decide)]
        exact this
    · have ev : hva m f w a = none := by unfold hva; rw [if_neg c]
      rw [show avb m a = false by simpa using c]
      refine Ok.pos rfl ?_
      rw [show (-2 : Int32) = hI (hva m f w a) by rw [ev]; rfl]
      refine c_home58 (z := z) (by omega) (fun j hj => hva_b hO hw hj) hz (fun h' hz' hf' => ?_)
      rw [hfo]
      refine ih n (a + 1) _ h' (by omega) (by omega) hz' (fun x hx => ?_) (fr_t hfr (fr_m hf' (by simp) (by simp)))
      have := hi x hx
      unfold hin at this ⊢
      rw [hf'.1 31 (by decide)]
      exact this
theorem LN_hk {m : MoT} {f s L : Nat} {g : Nat → Nat} {t : Option Nat} (hL : LN m f s L g t) : (t = none → hm m (g (L - 1) % 6) = true → hk m f (L - 1) s) ∧ (∀ k, hk m f k s → t = none ∧ hm m (g (L - 1) % 6) = true) := by
  obtain ⟨h1, h2, h3, h4, h5, h6, h7⟩ := hL
  have nh : ∀ x y, nx m f x = some y → hm m (x % 6) = false := by
    intro x y e
    unfold nx at e
    by_cases c : rs m (x % 6) = true
    · rw [if_pos c] at e; cases e
    · simp [rs] at c; exact c.1
  refine ⟨fun _ hh => ?_, fun k hk0 => ?_⟩
  · have key : ∀ d i, i + d = L - 1 → hk m f d (g i) := by
      intro d
      induction d with
      | zero => intro i hi; rw [show i = L - 1 by omega]; exact hk_0.mpr hh
      | succ d ih =>
        intro i hi
        have e := h5 i (by omega)
        exact hk_s.mpr ⟨nh _ _ e, g (i + 1), e, ih (i + 1) (by omega)⟩
    have := key (L - 1) 0 (by omega)
    rwa [h2] at this
  · have key : ∀ i, i < L → i ≤ k → hk m f (k - i) (g i) := by
      intro i
      induction i with
      | zero => intro _ _; rw [h2]; exact hk0
      | succ i ih =>
        intro hi hik
        have a := ih (by omega) (by omega)
        rw [show k - i = (k - (i + 1)) + 1 by omega] at a
        obtain ⟨_, y, e, b⟩ := hk_s.mp a
        rw [h5 i hi] at e
        cases e
        exact b
    have hkL : ¬ k < L - 1 := by
      intro q
      have a := key k (by omega) (Nat.le_refl _)
      rw [Nat.sub_self] at a
      have := nh _ _ (h5 k (by omega))
      rw [hk_0.mp a] at this
      cases this
    have a := key (L - 1) (by omega) (by omega)
    by_cases e : k = L - 1
    · rw [e, Nat.sub_self] at a
      have ah := hk_0.mp a
      refine ⟨?_, ah⟩
      cases t with
      | none => rfl
      | some j =>
        have := nh _ _ h6
        rw [ah] at this
        cases this
    · exfalso
      rw [show k - (L - 1) = (k - L) + 1 by omega] at a
      obtain ⟨_, y, e1, b⟩ := hk_s.mp a
      rw [h6] at e1
      cases t with
      | none => cases e1
      | some j =>
        cases e1
        have hj := h7 j rfl
        have := hk_u b (key j hj (by omega))
        omega
theorem r_homeFrom {m : MoT} {f s : Nat} {h : abJ} (hO : MO m) (hf : f < 10) (hs : SV m s) (hM : rM m (h.1 65)) (h40 : h.1 65 40 = nI f) : Ok (fX12_homeFrom (nI s) h) (fun r => r.1 = oI (hsO m f s) ∧ frR [22, 23] [69, 70, 72, 73] [] h r.2) := by
  unfold fX12_homeFrom
  refine Ok.bind (r_laysLine hO hf hs hM h40) (fun h1 hr => ?_)
  obtain ⟨L, g, t, hL, q1, q2, q3, q4⟩ := hr
  have hL2 := LN_le hO hL
  have h1L := hL.1
  obtain ⟨k1, k2⟩ := LN_hk hL
  rw [q1, q2]
  cases t with
  | some j =>
    have := hL.2.2.2.2.2.2 j rfl
    refine Ok.neg (oI_ne (by omega)) (Ok.some ⟨?_, q4⟩)
    rw [hsO_n (fun k hk => by cases (k2 k hk).1)]; rfl
  | none =>
    have hg4 := SV_lt hO (hL.2.2.1 (L - 1) (by omega))
    refine Ok.pos rfl ?_
    rw [pk_s1 h1L, nI_clamp (by omega), q3 (L - 1) (by omega), show (6 : Int32) = nI 6 from rfl, pk_rem (by omega) (by omega) (by omega), q4.1 65 (by decide) (by decide), hM.2.2.1, r_isIn h1 ?_ (by omega), ab_bindS]
    · refine Ok.ask (ixN (by omega) (by omega)) ?_
      by_cases c : hm m (g (L - 1) % 6) = true
      · refine Ok.neg (by unfold hm at c; rw [c]; decide) (Ok.some ⟨?_, q4⟩)
        rw [hsO_k (k1 rfl c)]; rfl
      · refine Ok.pos (by unfold hm at c; rw [show (mH m).testBit (g (L - 1) % 6) = false by simpa using c]; rfl) (Ok.some ⟨?_, q4⟩)
        rw [hsO_n (fun k hk => c (k2 k hk).2)]; rfl
    · exact Nat.lt_of_lt_of_le hO.2.2.1 (Nat.pow_le_pow_right (by omega) hO.2.1)
def hr2 (z : Nat × Nat × Nat × Nat) : Int32 := if z.1 = 0 then nI 268435456 else nI z.2.1
def hr3 (z : Nat × Nat × Nat × Nat) : Int32 := if z.1 = 0 then -1 else nI z.2.2.1
def hr4 (z : Nat × Nat × Nat × Nat) : Int32 := if z.1 = 0 then -1 else nI z.2.2.2
theorem r_home72 {v : Option Nat} {a : Nat} {z : Nat × Nat × Nat × Nat} {h : abJ} {x : Int32} {K : Int32 → Int32 → Int32 → Int32 → Int32 → Int32 → abJ → Option (Int32 × abJ)} {Q : Int32 × abJ → Prop} (ha : a < 729) (hv : ∀ j, v = some j → j < 4374) (hz : z.1 ≤ a ∧ (0 < z.1 → z.2.1 < 4374 ∧ z.2.2.2 < 4374)) (hK : ((hst v a z).1 ≤ a + 1 ∧ (0 < (hst v a z).1 → (hst v a z).2.1 < 4374 ∧ (hst v a z).2.2.2 < 4374)) → Ok (K x (hr2 (hst v a z)) (hr3 (hst v a z)) (hr4 (hst v a z)) (nI (hst v a z).1) (nI (a + 1)) h) Q) : Ok (fX12_homing_J72 K x (hr2 z) (hr3 z) (hr4 z) (nI z.1) (nI a) (oI v) h) Q := by
  unfold fX12_homing_J72
  cases v with
  | none =>
    refine Ok.pos rfl ?_
    unfold fX12_homing_J117
    rw [nI_1]
    exact hK ⟨by show z.1 ≤ a + 1; omega, hz.2⟩
  | some j =>
    have hj := hv j rfl
    rw [show oI (some j) = nI j from rfl]
    refine Ok.neg (oI_ne (by omega)) ?_
    have hk1 : hr3 (hst (some j) a z) = if z.1 = 0 ∨ j < z.2.1 then nI a else hr3 z := by
      show (if z.1 + 1 = 0 then (-1 : Int32) else nI (if z.1 = 0 ∨ j < z.2.1 then a else z.2.2.1)) = _
      rw [if_neg (by omega)]
      unfold hr3
      by_cases c0 : z.1 = 0
      · rw [if_pos (Or.inl c0), if_pos (Or.inl c0)]
      · rw [if_neg c0]; split <;> rfl
    have hk2 : hr2 (hst (some j) a z) = if z.1 = 0 ∨ j < z.2.1 then nI j else hr2 z := by
      show (if z.1 + 1 = 0 then nI 268435456 else nI (if z.1 = 0 ∨ j < z.2.1 then j else z.2.1)) = _
      rw [if_neg (by omega)]
      unfold hr2
      by_cases c0 : z.1 = 0
      · rw [if_pos (Or.inl c0), if_pos (Or.inl c0)]
      · rw [if_neg c0]; split <;> rfl
    have hc2 : nI j < hr2 z ↔ (z.1 = 0 ∨ j < z.2.1) := by
      unfold hr2
      by_cases c0 : z.1 = 0
      · rw [if_pos c0, nI_ltI (by omega) (by omega)]; omega
      · have := hz.2 (by omega)
        rw [if_neg c0, nI_ltI (by omega) (by omega)]; omega
    have b : ((hst (some j) a z).1 ≤ a + 1 ∧ (0 < (hst (some j) a z).1 → (hst (some j) a z).2.1 < 4374 ∧ (hst (some j) a z).2.2.2 < 4374)) := by
      refine ⟨by show z.1 + 1 ≤ a + 1; omega, fun _ => ⟨?_, ?_⟩⟩
      · show (if z.1 = 0 ∨ j < z.2.1 then j else z.2.1) < 4374
        by_cases c : z.1 = 0 ∨ j < z.2.1
        · rw [if_pos c]; exact hj
        · rw [if_neg c]; exact (hz.2 (by omega)).1
      · show (if z.1 = 0 then j else max z.2.2.2 j) < 4374
        by_cases c : z.1 = 0
        · rw [if_pos c]; exact hj
        · have := (hz.2 (by omega)).2
          rw [if_neg c]; omega
    have hk := hK b
    have last : ∀ t, t = hr4 (hst (some j) a z) → Ok (fX12_homing_J100 K x (hr2 z) (hr3 z) (nI z.1 + 1) (nI a) (nI j) t h) Q := by
      intro t et
      unfold fX12_homing_J100 fX12_homing_J117
      rw [nI_1, nI_1, et]
      rw [hk1, hk2] at hk
      by_cases c : z.1 = 0 ∨ j < z.2.1
      · rw [if_pos c, if_pos c] at hk
        exact Ok.pos (hc2.mpr c) hk
      · rw [if_neg c, if_neg c] at hk
        exact Ok.neg (fun q => c (hc2.mp q)) hk
    have e4 : hr4 (hst (some j) a z) = if z.1 = 0 then nI j else nI (max z.2.2.2 j) := by
      show (if z.1 + 1 = 0 then (-1 : Int32) else nI (if z.1 = 0 then j else max z.2.2.2 j)) = _
      rw [if_neg (by omega)]; split <;> rfl
    by_cases c0 : z.1 = 0
    · refine Ok.neg ?_ (last _ (by rw [e4, if_pos c0]))
      unfold hr4
      rw [if_pos c0]
      exact fun q => (ab_n_le (b := 1) (by omega) (by omega) (by omega)).mp q
    · have b2 := (hz.2 (by omega)).2
      have e5 : hr4 z = nI z.2.2.2 := by unfold hr4; rw [if_neg c0]
      by_cases c1 : j ≤ z.2.2.2
      · exact Ok.pos (by rw [e5, nI_leI (by omega) (by omega)]; exact c1) (last _ (by rw [e4, if_neg c0, e5, show max z.2.2.2 j = z.2.2.2 by omega]))
      · exact Ok.neg (by rw [e5, nI_leI (by omega) (by omega)]; exact c1) (last _ (by rw [e4, if_neg c0, show max z.2.2.2 j = j by omega]))
def hout (x : Int32) (z : Nat × Nat × Nat × Nat) : Int32 := if x = 3 then nI z.1 else if z.1 = 0 then -1 else if x = 0 then nI z.2.1 else if x = 1 then nI z.2.2.1 else nI z.2.2.2
theorem r_home35 {A : AbT} {x : Int32} {h0 : abJ} (hW : WF A) : ∀ (k n a : Nat) (z : Nat × Nat × Nat × Nat) (h : abJ), a + k = 729 → k < n → RR A h → (z.1 ≤ a ∧ (0 < z.1 → z.2.1 < 4374 ∧ z.2.2.2 < 4374)) → frR sk1 sc1 [80, 81] h0 h → Ok (fX12_homing_L35 n x (hr2 z) (hr3 z) (hr4 z) (nI z.1) (nI a) h) (fun r => r.1 = hout x (hfo (hva (aM A) (sF (aS A)) (sW (aS A))) k a z) ∧ frR sk1 sc1 [80, 81] h0 r.2) := by
  have hO := hW.1
  intro k
  induction k with
  | zero =>
    intro n a z h ha hn hR hz hfr
    obtain ⟨n, rfl⟩ : ∃ n0, n = n0 + 1 := ⟨n - 1, by omega⟩
    rw [fX12_homing_L35]
    refine Ok.pos (by rw [show (729 : Int32) = nI 729 from rfl, nI_leI (by omega) (by omega)]; omega) ?_
    rw [hfo]
    unfold hout
    by_cases c3 : x = 3
    · rw [if_pos c3, if_pos c3]; exact Ok.some ⟨rfl, hfr⟩
    rw [if_neg c3, if_neg c3]
    by_cases cz : z.1 = 0
    · rw [if_pos cz]
      exact Ok.pos (by rw [cz]; rfl) (Ok.some ⟨rfl, hfr⟩)
    rw [if_neg cz]
    refine Ok.neg (by rw [show (0 : Int32) = nI 0 from rfl, nI_eq (by omega) (by omega)]; exact cz) ?_
    unfold hr2 hr3 hr4
    rw [if_neg cz, if_neg cz, if_neg cz]
    by_cases c0 : x = 0
    · rw [if_pos c0, if_pos c0]; exact Ok.some ⟨rfl, hfr⟩
    rw [if_neg c0, if_neg c0]
    by_cases c1 : x = 1
    · rw [if_pos c1, if_pos c1]; exact Ok.some ⟨rfl, hfr⟩
    rw [if_neg c1, if_neg c1]; exact Ok.some ⟨rfl, hfr⟩
  | succ k ih =>
    intro n a z h ha hn hR hz hfr
    obtain ⟨n, rfl⟩ : ∃ n0, n = n0 + 1 := ⟨n - 1, by omega⟩
    have hw := hW.2.1.1
    rw [fX12_homing_L35, r_areArmsB hO hR.1 (by omega), ab_bindS]
    refine Ok.neg (by rw [show (729 : Int32) = nI 729 from rfl, nI_leI (by omega) (by omega)]; omega) ?_
    by_cases c : avb (aM A) a = true
    · rw [c]
      refine Ok.neg (by decide) ?_
      unfold fX12_standOf
      rw [ab_bindS, show h.1 65 33 = nI (sW (aS A)) from hR.2.1.1, show (6 : Int32) = nI 6 from rfl, pk_mul, nI_add]
      refine Ok.bind (r_homeFrom hO hW.2.1.2.2 (lnl_a hO (avb_t.mp c) hw) hR.1 hR.2.1.2.2.1) (fun r hr => ?_)
      have ev : hva (aM A) (sF (aS A)) (sW (aS A)) a = hsO (aM A) (sF (aS A)) (6 * a + sW (aS A)) := by unfold hva; rw [if_pos c]
      rw [hr.1, ← ev]
      have f1 : frR sk1 sc1 [80, 81] h r.2 := frR_m hr.2 (by decide) (by decide) (by simp)
      refine r_home72 (by omega) (fun j hj => hva_b hO hw hj) hz (fun hz' => ?_)
      rw [hfo]
      exact ih n (a + 1) _ r.2 (by omega) (by omega) (RR_sc hR f1).1 hz' (frR_t hfr f1)
    · have ev : hva (aM A) (sF (aS A)) (sW (aS A)) a = none := by unfold hva; rw [if_neg c]
      rw [show avb (aM A) a = false by simpa using c]
      refine Ok.pos rfl ?_
      rw [show (-1 : Int32) = oI (hva (aM A) (sF (aS A)) (sW (aS A)) a) by rw [ev]; rfl]
      refine r_home72 (by omega) (fun j hj => hva_b hO hw hj) hz (fun hz' => ?_)
      rw [hfo]
      exact ih n (a + 1) _ h (by omega) (by omega) hR hz' hfr
theorem call_homing (x : Int32) : call2 (fX11_homing x) (fX12_homing x) := by
  refine call2_ro (fun A hW => ?_)
  by_cases cx : x < nI 0 ∨ nI 3 < x
  · refine ⟨-2, fun h hR => ?_, fun h hR => ?_⟩
    · unfold fX11_homing
      by_cases c1 : x < 0
      · exact Ok.pos c1 (Ok.some ⟨rfl, fr_r _ _ _⟩)
      · exact Ok.neg c1 (Ok.neg (by rw [Int32.not_le]; exact cx.resolve_left c1) (Ok.some ⟨rfl, fr_r _ _ _⟩))
    · unfold fX12_homing
      generalize e0 : ab_wI h 64 0 0 = h0; have f0 : frR sk1 sc1 [80, 81] h h0 := (by subst e0; exact frR_64 (frR_r _ _ _ _) (by decide)); have hR0 : RR A h0 := (RR_sc hR f0).1
      rw [r_win h0 (a := nI 0) (b := nI 3) (A := 0) (B := 3) rfl rfl, ab_bindS, decide_eq_true cx]
      exact Ok.pos rfl (Ok.some ⟨rfl, f0⟩)
  have c0 : ¬ x < 0 := fun q => cx (Or.inl q)
  have c1 : x ≤ 3 := Int32.not_lt.mp (fun q => cx (Or.inr q))
  have hO := hW.1
  have h7 := MO_729 hO
  have hw := hW.2.1.1
  have eh : hfo (hva (aM A) (sF (aS A)) (sW (aS A))) 729 0 (0, 0, 0, 0) = hfo (hva (aM A) (sF (aS A)) (sW (aS A))) (3 ^ mP (aM A)) 0 (0, 0, 0, 0) := by
    rw [show 729 = 3 ^ mP (aM A) + (729 - 3 ^ mP (aM A)) by omega, hfo_add, hfo_n (N := 3 ^ mP (aM A)) (fun a ha => by unfold hva; rw [avb_hi hO ha]; rfl) _ _ _ (by omega)]
  refine ⟨hout x (hfo (hva (aM A) (sF (aS A)) (sW (aS A))) (3 ^ mP (aM A)) 0 (0, 0, 0, 0)), fun h hR => ?_, fun h hR => ?_⟩
  · unfold fX11_homing
    refine Ok.neg c0 (Ok.pos c1 ?_)
    have key : Ok (fX8_home h) (fun h' => hcs (hfo (hva (aM A) (sF (aS A)) (sW (aS A))) (3 ^ mP (aM A)) 0 (0, 0, 0, 0)) (3 ^ mP (aM A)) h' ∧ fr [30, 31, 35] [] h h') := by
      unfold fX8_home fX8_clearSeen
      rw [c_armLimit hO hR.1, ab_bindS, show (6 : Int32) = nI 6 from rfl, pk_mul, show (0 : Int32) = nI 0 from rfl]
      refine Ok.bind (Ok.bind (c_fillS h (by omega)) (fun r hr => Ok.some hr)) (fun h1 hr => ?_)
      have f1 : fr [30, 31, 35] [] h (ab_wI h1 35 5 (nI 0)) := fr_w (fr_m hr.2 (by simp) (by simp)) (by simp)
      rw [c_armLimit hO (cM_fr hR.1 f1 (by decide) (by decide) (by decide) (by decide)), ab_bindS]
      refine c_home20 hO hw hW.2.1.2.2 hR.1 hR.2.2.1 hR.2.2.2.1 hR.2.1.2.2.1 hR.2.1.1 (3 ^ mP (aM A)) ab_N 0 (0, 0, 0, 0) _ (by omega) (by unfold ab_N; omega) ⟨by rw [ab_w1e], Nat.le_refl _, fun q => absurd q (by decide)⟩ (fun x hx => Or.inl ?_) f1
      rw [ab_w1n (by decide)]
      exact hr.1 x (SV_N hO hx)
    refine Ok.bind key (fun h' hr => ?_)
    obtain ⟨⟨q1, q2, q3⟩, q4⟩ := hr
    have f2 : fr sc0 [41] h h' := fr_m q4 (by decide) (by simp)
    generalize hfo (hva (aM A) (sF (aS A)) (sW (aS A))) (3 ^ mP (aM A)) 0 (0, 0, 0, 0) = z at *
    unfold hout
    rw [q1]
    by_cases c3 : x = 3
    · rw [if_pos c3, if_pos c3]; exact Ok.some ⟨rfl, f2⟩
    rw [if_neg c3, if_neg c3]
    by_cases cz : z.1 = 0
    · rw [if_pos cz]
      exact Ok.pos (by rw [cz]; rfl) (Ok.some ⟨rfl, f2⟩)
    rw [if_neg cz]
    refine Ok.neg (by rw [show (0 : Int32) = nI 0 from rfl, nI_eq (by omega) (by omega)]; exact cz) ?_
    obtain ⟨e6, e7, e8, _⟩ := q3 (by omega)
    rw [e6, e7, e8]
    by_cases c0 : x = 0
    · rw [if_pos c0, if_pos c0]; exact Ok.some ⟨rfl, f2⟩
    rw [if_neg c0, if_neg c0]
    by_cases c1 : x = 1
    · rw [if_pos c1, if_pos c1]; exact Ok.some ⟨rfl, f2⟩
    rw [if_neg c1, if_neg c1]; exact Ok.some ⟨rfl, f2⟩
  · unfold fX12_homing
    generalize e0 : ab_wI h 64 0 0 = h0; have f0 : frR sk1 sc1 [80, 81] h h0 := (by subst e0; exact frR_64 (frR_r _ _ _ _) (by decide)); have hR0 : RR A h0 := (RR_sc hR f0).1
    rw [r_win h0 (a := nI 0) (b := nI 3) (A := 0) (B := 3) rfl rfl, ab_bindS, decide_eq_false cx, ← eh]
    refine Ok.neg (by decide) ?_
    exact r_home35 hW 729 ab_N 0 (0, 0, 0, 0) h0 (by omega) (by unfold ab_N; omega) hR0 ⟨Nat.le_refl _, fun q => absurd q (by decide)⟩ f0
