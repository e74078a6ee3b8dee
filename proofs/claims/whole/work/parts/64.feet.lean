/-! Footprints. -/
noncomputable def avb (m : MoT) (a : Nat) : Bool := @decide (AV m a) (Classical.propDecidable _)
theorem avb_t {m : MoT} {a : Nat} : avb m a = true ↔ AV m a := by unfold avb; exact @decide_eq_true_iff _ (Classical.propDecidable _)
theorem r_areArmsB {m : MoT} {h : abJ} {a : Nat} (hO : MO m) (hM : rM m (h.1 65)) (ha : a < 729) : fX12_areArms (nI a) h = some (bI (avb m a)) := by
  obtain ⟨b, e, hb⟩ := r_areArms hO hM ha
  have : b = avb m a := by
    cases c : avb m a with
    | true => exact hb.mpr (avb_t.mp c)
    | false =>
      cases b with
      | false => rfl
      | true => rw [avb_t.mpr (hb.mp rfl)] at c; cases c
  rw [e, this]
theorem c_canShow_L {m : MoT} {h : abJ} {a : Nat} (hO : MO m) (hM : cM m 1 h) (ha : a < 729) : ∀ (k n j : Nat), j + k = mP m → k < n → ∃ b : Bool, fX3_canShow_L2 h n (nI a) (nI j) = some (bI b) ∧ (b = true ↔ ∀ q, j ≤ q → q < mP m → dg a q < max 1 (mR m q)) := by
  have h6 := hO.2.1
  intro k
  induction k with
  | zero =>
    intro n j hj hn
    obtain ⟨n, rfl⟩ : ∃ n0, n = n0 + 1 := ⟨n - 1, by omega⟩
    refine ⟨true, ?_, ⟨fun _ q h1 h2 => by omega, fun _ => rfl⟩⟩
    rw [fX3_canShow_L2, hM.1, if_pos (by rw [nI_leI (by omega) (by omega)]; omega)]; rfl
  | succ k ih =>
    intro n j hj hn
    obtain ⟨n, rfl⟩ : ∃ n0, n = n0 + 1 := ⟨n - 1, by omega⟩
    obtain ⟨b, e, hb⟩ := ih n (j + 1) (by omega) (by omega)
    have hd := dg_lt a j
    have h3 := hO.2.2.2.2.1 j
    have hmx : fJ9_max_7cf53 1 (nI (mR m j)) h = some (nI (max 1 (mR m j))) := by
      unfold fJ9_max_7cf53
      by_cases c : 1 < mR m j
      · rw [if_pos (by rw [show (1 : Int32) = nI 1 from rfl, nI_ltI (by omega) (by omega)]; exact c), show max 1 (mR m j) = mR m j by omega]
      · rw [if_neg (by rw [show (1 : Int32) = nI 1 from rfl, nI_ltI (by omega) (by omega)]; exact c), show max 1 (mR m j) = 1 by omega]; rfl
    rw [fX3_canShow_L2, hM.1, if_neg (by rw [nI_leI (by omega) (by omega)]; omega), c_armOf h (by omega) (by omega), ab_bindS, c_roadsOf hO hM (by omega), ab_bindS, hmx, ab_bindS, nI_1]
    by_cases c : dg a j < max 1 (mR m j)
    · refine ⟨b, by rw [if_pos (by rw [nI_ltI (by omega) (by omega)]; exact c)]; exact e, hb.trans ⟨fun hh q h1 h2 => ?_, fun hh q h1 h2 => hh q (by omega) h2⟩⟩
      by_cases eq : q = j
      · subst eq; exact c
      · exact hh q (by omega) h2
    · refine ⟨false, by rw [if_neg (by rw [nI_ltI (by omega) (by omega)]; exact c)]; rfl, ⟨fun q => (by cases q), fun hh => absurd (hh j (Nat.le_refl _) (by omega)) c⟩⟩
theorem dg_hi {a n p : Nat} (ha : a < 3 ^ n) (hp : n ≤ p) : dg a p = 0 := by
  unfold dg
  rw [Nat.div_eq_of_lt (Nat.lt_of_lt_of_le ha (Nat.pow_le_pow_right (by omega) hp))]
theorem c_canShow {m : MoT} {h : abJ} {a : Nat} (hO : MO m) (hM : cM m 1 h) (ha : a < 3 ^ mP m) : fX3_canShow (nI a) h = some (bI (avb m a)) := by
  have h7 := MO_729 hO
  have h6 := hO.2.1
  obtain ⟨b, e, hb⟩ := c_canShow_L hO hM (a := a) (by omega) (mP m) ab_N 0 (by omega) (by unfold ab_N; omega)
  have hAV : (b = true ↔ AV m a) := hb.trans ⟨fun hh p => by
      by_cases hp : p < mP m
      · exact hh p (by omega) hp
      · rw [dg_hi ha (by omega)]; omega, fun hh q _ _ => hh q⟩
  have : b = avb m a := by
    cases c : avb m a with
    | true => exact hAV.mpr (avb_t.mp c)
    | false =>
      cases b with
      | false => rfl
      | true => rw [avb_t.mpr (hAV.mp rfl)] at c; cases c
  unfold fX3_canShow
  rw [← this]
  exact e
theorem avb_hi {m : MoT} (hO : MO m) {a : Nat} (ha : 3 ^ mP m ≤ a) : avb m a = false := by
  cases c : avb m a with
  | false => rfl
  | true => have := AV_lt hO (avb_t.mp c); omega
/-- whether footprints fit -/
def ft (m : MoT) (f : Nat) (v : Nat → Int64) : Nat → Nat → Nat → Bool
  | 0, _, _ => true
  | k + 1, i, s => match nx m f s with
    | none => false
    | some t => if lN (t % 6) = v i then ft m f v k (i + 1) t else false
theorem c_fits {m : MoT} {f j : Nat} {h : abJ} {t : Nat × Nat × (Nat → Int64)} (hO : MO m) (hf : f < 10) (hM : cM m 1 h) (hK : cK m h) (hR : rdy m f h) (ht : cY (some t) j h) (hn : t.2.1 ≤ 40) : ∀ (k n i s : Nat), i + k = t.2.1 → k < n → SV m s → fX5_fits_L6 (44 + 2 * j) h n (nI f) (nI s) (nI i) = some (bI (ft m f t.2.2 k i s)) := by
  intro k
  induction k with
  | zero =>
    intro n i s hi hn2 hs
    obtain ⟨n, rfl⟩ : ∃ n0, n = n0 + 1 := ⟨n - 1, by omega⟩
    rw [fX5_fits_L6, ht.2.2.1, if_pos (by rw [nI_leI (by omega) (by omega)]; omega)]; rfl
  | succ k ih =>
    intro n i s hi hn2 hs
    obtain ⟨n, rfl⟩ : ∃ n0, n = n0 + 1 := ⟨n - 1, by omega⟩
    rw [fX5_fits_L6, ht.2.2.1, if_neg (by rw [nI_leI (by omega) (by omega)]; omega), c_nextStand hO hM hK hR hf hs, ab_bindS, c_value ht hn (by omega), ft, nI_1]
    cases e : nx m f s with
    | none => rfl
    | some x =>
      have hx := nx_SV hO hs e
      have hx4 := SV_lt hO hx
      rw [show oI (some x) = nI x from rfl, if_neg (oI_ne (by omega)), ab_bindS, show (6 : Int32) = nI 6 from rfl, pk_rem (by omega) (by omega) (by omega), nI_l (by omega)]
      simp only [lg_cmp_eq]
      by_cases c : lN (x % 6) = t.2.2 i
      · rw [if_pos c, if_pos c]; exact ih n (i + 1) x (by omega) (by omega) hx
      · rw [if_neg c, if_neg c]; rfl
theorem r_areFeet_L {m : MoT} {f j : Nat} {h0 : abJ} {t : Nat × Nat × (Nat → Int64)} (hO : MO m) (hf : f < 10) (hj : j < 4) (hM : rM m (h0.1 65)) (ht : rY (some t) j h0) (hn : t.2.1 ≤ 40) : ∀ (k n i s : Nat) (h : abJ), i + k = t.2.1 → k < n → SV m s → fr [69, 70] [] h0 h → Ok (fX12_areFeet_L16 n (nI j) (nI f) (nI s) (nI i) h) (fun r => r.1 = bI (ft m f t.2.2 k i s) ∧ fr [69, 70] [] h0 r.2) := by
  intro k
  induction k with
  | zero =>
    intro n i s h hi hn2 hs hfr
    obtain ⟨n, rfl⟩ : ∃ n0, n = n0 + 1 := ⟨n - 1, by omega⟩
    rw [fX12_areFeet_L16, nI_clamp (by omega), hfr.1 86 (by decide), ht.2.1]
    exact Ok.ask (ixN (by omega) (by omega)) (Ok.pos (by rw [nI_leI (by omega) (by omega)]; omega) (Ok.some ⟨rfl, hfr⟩))
  | succ k ih =>
    intro n i s h hi hn2 hs hfr
    obtain ⟨n, rfl⟩ : ∃ n0, n = n0 + 1 := ⟨n - 1, by omega⟩
    have hs4 := SV_lt hO hs
    have hM1 : rM m (h.1 65) := by rw [hfr.1 65 (by decide)]; exact hM
    rw [fX12_areFeet_L16, nI_clamp (by omega), hfr.1 86 (by decide), ht.2.1, show (6 : Int32) = nI 6 from rfl, pk_rem (show s < 2 ^ 31 by omega) (by omega) (by omega), r_isRest hO hM1 (by omega), ab_bindS, ft]
    refine Ok.ask (ixN (by omega) (by omega)) (Ok.neg (by rw [nI_leI (by omega) (by omega)]; omega) ?_)
    unfold nx
    by_cases c : rs m (s % 6) = true
    · rw [c, if_pos rfl]
      exact Ok.neg (by decide) (Ok.some ⟨rfl, hfr⟩)
    · have hr0 : 0 < mR m (s % 6) := by simp [rs] at c; omega
      rw [if_neg c]
      refine Ok.pos (by rw [show rs m (s % 6) = false by simpa using c]; rfl) ?_
      refine Ok.bind (r_stepTo hO hM1 hf hs hr0) (fun r hr => ?_)
      have hx := sT_SV hO hs (f := f) hr0
      have hx4 := SV_lt hO hx
      have f2 := fr_t hfr hr.2
      rw [hr.1, pk_rem (by omega) (by omega) (by omega), nI_l (by omega), show (40 : Int32) = nI 40 from rfl, pk_mul, nI_add, nI_clamp (by omega), f2.2 87 (by simp), ht.2.2 i (by omega), nI_1]
      refine Ok.ask (ixN (by omega) (by omega)) ?_
      dsimp only
      by_cases c2 : lN (sT m f s % 6) = t.2.2 i
      · rw [if_pos c2]
        exact Ok.pos ((lg_cmp_eq _ _).mpr c2) (ih n (i + 1) _ r.2 (by omega) (by omega) hx f2)
      · rw [if_neg c2]
        exact Ok.neg (fun q => c2 ((lg_cmp_eq _ _).mp q)) (Ok.some ⟨rfl, f2⟩)
/-- whether all are posts -/
def ap (P : Nat) (v : Nat → Int64) : Nat → Nat → Bool
  | 0, _ => true
  | k + 1, i => if v i < 0 ∨ lN P ≤ v i then false else ap P v k (i + 1)
/-- why footprints are refused; 0 -/
def rf (P : Nat) (t : Nat × Nat × (Nat → Int64)) : Int32 := if t.2.1 < 1 ∨ 8 < t.2.1 then -4 else if ap P t.2.2 t.2.1 0 then 0 else -3
theorem c_refused {A : AbT} {j : Nat} {h : abJ} {t : Nat × Nat × (Nat → Int64)} (hW : WF A) (hR : RC A h) (hj : j < 4) (e : aY A j = some t) : fX11_printsRefused (nI j) h = some (rf (mP (aM A)) t) := by
  obtain ⟨ht3, hn⟩ := hW.2.2.2.2.2 j t hj e
  have h6 := hW.1.2.1
  have ht := hR.2.2.2.2.2.2.2.2 j hj
  rw [e] at ht
  have key : ∀ (k n i : Nat), i + k = t.2.1 → k < n → fX11_printsRefused_L49 (44 + 2 * j) h n (nI i) = some (if ap (mP (aM A)) t.2.2 k i then 0 else -3) := by
    intro k
    induction k with
    | zero =>
      intro n i hi hn2
      obtain ⟨n, rfl⟩ : ∃ n0, n = n0 + 1 := ⟨n - 1, by omega⟩
      rw [fX11_printsRefused_L49, ht.2.2.1, if_pos (by rw [nI_leI (by omega) (by omega)]; omega)]; rfl
    | succ k ih =>
      intro n i hi hn2
      obtain ⟨n, rfl⟩ : ∃ n0, n = n0 + 1 := ⟨n - 1, by omega⟩
      rw [fX11_printsRefused_L49, ht.2.2.1, if_neg (by rw [nI_leI (by omega) (by omega)]; omega), c_value ht hn (by omega), ab_bindS, ab_bindS, hR.1.1, nI_l (by omega), nI_1, ap]
      simp only [lg_cmp_lt]
      by_cases c1 : t.2.2 i < 0
      · rw [if_pos c1, if_pos (Or.inl c1)]; rfl
      · rw [if_neg c1]
        by_cases c2 : lN (mP (aM A)) ≤ t.2.2 i
        · rw [if_pos (Or.inr c2), if_neg (by rw [Int64.not_lt]; exact c2)]; rfl
        · rw [if_pos (Int64.not_le.mp c2), if_neg (show ¬ (t.2.2 i < 0 ∨ lN (mP (aM A)) ≤ t.2.2 i) from fun q => q.elim c1 c2)]
          exact ih n (i + 1) (by omega) (by omega)
  unfold fX11_printsRefused rf
  rw [c_noTray h hj, ab_bindS, nI_clamp (by omega), ab_tr_n (by omega), ht.1, ht.2.2.1, if_pos (show nI 0 = 0 from rfl), ab_askP (ixN (by omega) (by omega)), if_pos (show nI 0 = 0 from rfl)]
  by_cases c1 : t.2.1 < 1
  · rw [if_pos (by rw [show (1 : Int32) = nI 1 from rfl, nI_ltI (by omega) (by omega)]; exact c1), if_pos (Or.inl c1)]
  rw [if_neg (by rw [show (1 : Int32) = nI 1 from rfl, nI_ltI (by omega) (by omega)]; exact c1)]
  by_cases c2 : 8 < t.2.1
  · rw [if_neg (by rw [show (8 : Int32) = nI 8 from rfl, nI_leI (by omega) (by omega)]; omega), if_pos (Or.inr c2)]
  · rw [if_pos (by rw [show (8 : Int32) = nI 8 from rfl, nI_leI (by omega) (by omega)]; omega), if_neg (by omega)]
    exact key t.2.1 ab_N 0 (by omega) (by unfold ab_N; omega)
theorem r_isPostL {m : MoT} {h : abJ} {v : Int64} (hO : MO m) (hM : rM m (h.1 65)) : fX12_isPost v h = some (if v < 0 ∨ lN (mP m) ≤ v then nI 0 else nI 1) := by
  have h6 := hO.2.1
  have h1 := hO.1
  unfold fX12_isPost
  rw [hM.2.1, pk_s1 h1, nI_l (by omega), r_winL, ab_bindS, ab_askP (bI_okL _)]
  have e0 : (0 : Int64).toInt = 0 := by decide
  have key : (v < 0 ∨ lN (mP m - 1) < v) ↔ (v < 0 ∨ lN (mP m) ≤ v) := by
    rw [Int64.lt_iff_toInt_lt, Int64.lt_iff_toInt_lt, Int64.le_iff_toInt_le, L_T (by omega), L_T (by omega)]
    omega
  by_cases c : v < 0 ∨ lN (mP m) ≤ v
  · rw [if_pos c, decide_eq_true (key.mpr c)]; rfl
  · rw [if_neg c, decide_eq_false (fun q => c (key.mp q))]; rfl
theorem r_noFeet {A : AbT} {j : Nat} {h : abJ} {t : Nat × Nat × (Nat → Int64)} (hW : WF A) (hR : RR A h) (hj : j < 4) (e : aY A j = some t) : fX12_noFeet (nI j) h = some (rf (mP (aM A)) t) := by
  obtain ⟨ht3, hn⟩ := hW.2.2.2.2.2 j t hj e
  have h6 := hW.1.2.1
  have ht := hR.2.2.2.2.2.2 j hj
  rw [e] at ht
  have key : ∀ (k n i : Nat), i + k = t.2.1 → k < n → fX12_noFeet_L34 h n (nI j) (nI i) = some (if ap (mP (aM A)) t.2.2 k i then 0 else -3) := by
    intro k
    induction k with
    | zero =>
      intro n i hi hn2
      obtain ⟨n, rfl⟩ : ∃ n0, n = n0 + 1 := ⟨n - 1, by omega⟩
      rw [fX12_noFeet_L34, nI_clamp (by omega), ab_askP (ixN (by omega) (by omega)), ht.2.1, if_pos (by rw [nI_leI (by omega) (by omega)]; omega)]; rfl
    | succ k ih =>
      intro n i hi hn2
      obtain ⟨n, rfl⟩ : ∃ n0, n = n0 + 1 := ⟨n - 1, by omega⟩
      rw [fX12_noFeet_L34, nI_clamp (by omega), ab_askP (ixN (by omega) (by omega)), ht.2.1, if_neg (by rw [nI_leI (by omega) (by omega)]; omega), show (40 : Int32) = nI 40 from rfl, pk_mul, nI_add, nI_clamp (by omega), ab_askP (ixN (by omega) (by omega)), ht.2.2 i (by omega), r_isPostL hW.1 hR.1, ab_bindS, nI_1, ap]
      by_cases c : t.2.2 i < 0 ∨ lN (mP (aM A)) ≤ t.2.2 i
      · rw [if_pos c, if_pos c]; rfl
      · rw [if_neg c, if_neg c, if_neg (by decide)]
        exact ih n (i + 1) (by omega) (by omega)
  unfold fX12_noFeet rf
  rw [r_noTray_s hR hW hj e, ab_bindS, if_pos (show nI 0 = 0 from rfl), nI_clamp (by omega), ab_askP (ixN (by omega) (by omega)), ht.2.1, r_win h (a := nI 1) (b := nI 8) (A := 1) (B := 8) rfl rfl, ab_bindS]
  by_cases c1 : t.2.1 < 1 ∨ 8 < t.2.1
  · rw [if_pos c1, decide_eq_true (show nI t.2.1 < nI 1 ∨ nI 8 < nI t.2.1 by rw [nI_ltI (by omega) (by omega), nI_ltI (by omega) (by omega)]; exact c1)]; rfl
  · rw [if_neg c1, decide_eq_false (show ¬ (nI t.2.1 < nI 1 ∨ nI 8 < nI t.2.1) by rw [nI_ltI (by omega) (by omega), nI_ltI (by omega) (by omega)]; exact c1), if_neg (by decide)]
    exact key t.2.1 ab_N 0 (by omega) (by unfold ab_N; omega)
/-- arms that fit: 1, else 0 -/
noncomputable def fe (m : MoT) (f w : Nat) (t : Nat × Nat × (Nat → Int64)) (a : Nat) : Nat := if avb m a && ft m f t.2.2 t.2.1 0 (6 * a + w) then 1 else 0
noncomputable def fs (m : MoT) (f w : Nat) (t : Nat × Nat × (Nat → Int64)) (p r a : Nat) : Nat := if dg a p = r then fe m f w t a else 0
theorem fe_1 {m : MoT} {f w a : Nat} {t : Nat × Nat × (Nat → Int64)} (h1 : avb m a = true) (h2 : ft m f t.2.2 t.2.1 0 (6 * a + w) = true) : fe m f w t a = 1 := by unfold fe; rw [h1, h2]; rfl
theorem fe_0 {m : MoT} {f w a : Nat} {t : Nat × Nat × (Nat → Int64)} (h1 : avb m a = false) : fe m f w t a = 0 := by unfold fe; rw [h1]; rfl
theorem fe_0' {m : MoT} {f w a : Nat} {t : Nat × Nat × (Nat → Int64)} (h2 : ft m f t.2.2 t.2.1 0 (6 * a + w) = false) : fe m f w t a = 0 := by unfold fe; rw [h2, Bool.and_false]; rfl
theorem c_tally77 {x1 a : Nat} {k24 : Int32 → Int32 → abJ → Option abJ} {Q : abJ → Prop} {y3 : Int32} {h0 : abJ} {S : Nat → Nat → Nat} (ha : a < 729) (hk : ∀ h, (∀ p r, p < 6 → r < 3 → h.1 38 (p * 3 + r) = nI (S p r + if dg a p = r then 1 else 0)) → fr [38] [] h0 h → Ok (k24 y3 (nI (a + 1)) h) Q) : ∀ (k n j : Nat) (h : abJ), j + k = 6 → k < n → (∀ p r, p < 6 → r < 3 → h.1 38 (p * 3 + r) = nI (S p r + if p < j ∧ dg a p = r then 1 else 0)) → fr [38] [] h0 h → Ok (fX5_tally_L77 x1 k24 n y3 (nI a) (nI j) h) Q := by
  intro k
  induction k with
  | zero =>
    intro n j h hj hn hS hfr
    obtain ⟨n, rfl⟩ : ∃ n0, n = n0 + 1 := ⟨n - 1, by omega⟩
    rw [fX5_tally_L77]
    refine Ok.pos (by rw [show (6 : Int32) = nI 6 from rfl, nI_leI (by omega) (by omega)]; omega) ?_
    unfold fX5_tally_J111
    rw [nI_1]
    refine hk h (fun p r hp hr => ?_) hfr
    rw [hS p r hp hr]
    by_cases c : dg a p = r
    · rw [if_pos c, if_pos ⟨by omega, c⟩]
    · rw [if_neg c, if_neg (fun q => c q.2)]
  | succ k ih =>
    intro n j h hj hn hS hfr
    obtain ⟨n, rfl⟩ : ∃ n0, n = n0 + 1 := ⟨n - 1, by omega⟩
    have hd := dg_lt a j
    rw [fX5_tally_L77, c_armOf h (by omega) (by omega), ab_bindS, show (3 : Int32) = nI 3 from rfl, pk_mul, nI_add, nI_clamp (by omega), hS j (dg a j) (by omega) hd, nI_1, nI_1]
    refine Ok.neg (by rw [show (6 : Int32) = nI 6 from rfl, nI_leI (by omega) (by omega)]; omega) (Ok.ask (ixN (by omega) (by omega)) (Ok.ask (ixN (by omega) (by omega)) ?_))
    refine ih n (j + 1) _ (by omega) (by omega) (fun p r hp hr => ?_) (fr_w hfr (by simp))
    by_cases c : p = j ∧ r = dg a j
    · obtain ⟨rfl, rfl⟩ := c
      rw [ab_w1e, if_neg (by omega), if_pos ⟨by omega, rfl⟩]
    · rw [ab_w1k (by omega), hS p r hp hr]
      congr 2
      by_cases c2 : p < j ∧ dg a p = r
      · rw [if_pos c2, if_pos ⟨by omega, c2.2⟩]
      · rw [if_neg c2, if_neg (fun q => c2 ⟨by
          apply Decidable.byContradiction
          intro q2
          have : p = j := by omega
          subst this
          exact c ⟨rfl, q.2.symm⟩, q.2⟩)]
theorem c_tally {A : AbT} {j : Nat} {h0 : abJ} {t : Nat × Nat × (Nat → Int64)} (hW : WF A) (hR : RC A h0) (hj : j < 4) (e : aY A j = some t) : Ok (fX5_tally (44 + 2 * j) h0) (fun h' => h'.1 37 3 = nI (sg (fe (aM A) (sF (aS A)) (sW (aS A)) t) (3 ^ mP (aM A))) ∧ (∀ p r, p < 6 → r < 3 → h'.1 38 (p * 3 + r) = nI (sg (fs (aM A) (sF (aS A)) (sW (aS A)) t p r) (3 ^ mP (aM A)))) ∧ fr [37, 38] [] h0 h') := by
  obtain ⟨ht3, hn⟩ := hW.2.2.2.2.2 j t hj e
  have hO := hW.1
  have h7 := MO_729 hO
  have ht := hR.2.2.2.2.2.2.2.2 j hj
  rw [e] at ht
  have key : ∀ (k n a : Nat) (h : abJ), a + k = 3 ^ mP (aM A) → k < n → h.1 37 3 = nI (sg (fe (aM A) (sF (aS A)) (sW (aS A)) t) a) → (∀ p r, p < 6 → r < 3 → h.1 38 (p * 3 + r) = nI (sg (fs (aM A) (sF (aS A)) (sW (aS A)) t p r) a)) → fr [37, 38] [] h0 h → Ok (fX5_tally_L24 (44 + 2 * j) n (nI (3 ^ mP (aM A))) (nI a) h) (fun h' => h'.1 37 3 = nI (sg (fe (aM A) (sF (aS A)) (sW (aS A)) t) (3 ^ mP (aM A))) ∧ (∀ p r, p < 6 → r < 3 → h'.1 38 (p * 3 + r) = nI (sg (fs (aM A) (sF (aS A)) (sW (aS A)) t p r) (3 ^ mP (aM A)))) ∧ fr [37, 38] [] h0 h') := by
    intro k
    induction k with
    | zero =>
      intro n a h ha hn2 h3 hS hfr
      obtain ⟨n, rfl⟩ : ∃ n0, n = n0 + 1 := ⟨n - 1, by omega⟩
      rw [fX5_tally_L24]
      have ea : a = 3 ^ mP (aM A) := by omega
      rw [← ea]
      exact Ok.pos (Int32.le_refl _) (Ok.some ⟨h3, hS, hfr⟩)
    | succ k ih =>
      intro n a h ha hn2 h3 hS hfr
      obtain ⟨n, rfl⟩ : ∃ n0, n = n0 + 1 := ⟨n - 1, by omega⟩
      have hM1 := cM_fr hR.1 hfr (by decide) (by decide) (by decide) (by decide)
      have hK1 := cK_fr hR.2.2.1 hfr (by decide) (by decide)
      have hR1 := rdy_fr hR.2.2.2.1 hfr (by decide)
      have e12 := hfr.1 12 (by decide)
      have ht1 : cY (some t) j h := by
        obtain ⟨t0, t1, t2, t3⟩ := ht
        have e : h.1 (44 + 2 * j) = h0.1 (44 + 2 * j) := hfr.1 _ (by simp; omega)
        exact ⟨by rw [e]; exact t0, by rw [e]; exact t1, by rw [e]; exact t2, fun q hq => by rw [hfr.2 _ (by simp)]; exact t3 q hq⟩
      have skip : fe (aM A) (sF (aS A)) (sW (aS A)) t a = 0 → Ok (fX5_tally_J111 (44 + 2 * j) (fun y3 y4 h => fX5_tally_L24 (44 + 2 * j) n y3 y4 h) (nI (3 ^ mP (aM A))) (nI a) h) (fun h' => h'.1 37 3 = nI (sg (fe (aM A) (sF (aS A)) (sW (aS A)) t) (3 ^ mP (aM A))) ∧ (∀ p r, p < 6 → r < 3 → h'.1 38 (p * 3 + r) = nI (sg (fs (aM A) (sF (aS A)) (sW (aS A)) t p r) (3 ^ mP (aM A)))) ∧ fr [37, 38] [] h0 h') := by
        intro hz
        unfold fX5_tally_J111
        rw [nI_1]
        refine ih n (a + 1) h (by omega) (by omega) (by rw [sg, hz]; exact h3) (fun p r hp hr => ?_) hfr
        rw [sg, hS p r hp hr]
        unfold fs
        rw [hz]
        split <;> rfl
      rw [fX5_tally_L24, c_canShow hO hM1 (by omega), ab_bindS]
      refine Ok.neg (by rw [nI_leI (by omega) (by omega)]; omega) ?_
      cases ca : avb (aM A) a with
      | false => exact Ok.pos rfl (skip (fe_0 ca))
      | true =>
        refine Ok.neg (by decide) ?_
        unfold fX5_fits
        rw [e12, hR.2.1.1, hR.2.1.2.2.1, show (6 : Int32) = nI 6 from rfl, pk_mul, nI_add, Nat.mul_comm a 6, show (0 : Int32) = nI 0 from rfl, c_fits hO hW.2.1.2.2 hM1 hK1 hR1 ht1 hn t.2.1 ab_N 0 (6 * a + sW (aS A)) (by omega) (by unfold ab_N; omega) (lnl_a hO (avb_t.mp ca) hW.2.1.1), ab_bindS]
        cases cf : ft (aM A) (sF (aS A)) t.2.2 t.2.1 0 (6 * a + sW (aS A)) with
        | false => exact Ok.pos rfl (skip (fe_0' cf))
        | true =>
          have h1 := fe_1 (t := t) (f := sF (aS A)) (w := sW (aS A)) ca cf
          refine Ok.neg (by decide) ?_
          rw [h3, nI_1]
          refine c_tally77 (h0 := ab_wI h 37 3 (nI (sg (fe (aM A) (sF (aS A)) (sW (aS A)) t) a + 1))) (S := fun p r => sg (fs (aM A) (sF (aS A)) (sW (aS A)) t p r) a) (by omega) (fun h2 hS2 hf2 => ?_) 6 ab_N 0 _ (by omega) (by unfold ab_N; omega) (fun p r hp hr => ?_) (fr_r _ _ _)
          · refine ih n (a + 1) h2 (by omega) (by omega) ?_ (fun p r hp hr => ?_) (fr_t (fr_w hfr (by simp)) (fr_m hf2 (by simp) (by simp)))
            · rw [hf2.1 37 (by decide), ab_w1e, sg, h1]
            · rw [hS2 p r hp hr, sg]
              congr 2
              unfold fs
              rw [h1]
          · rw [ab_w1n (by decide), hS p r hp hr, if_neg (by omega)]; rfl
  unfold fX5_tally
  refine Ok.bind (c_fillA h0 (o := 38) (N := 18) (x := 0) (by decide) (by omega)) (fun h1 hr => ?_)
  have f1 : fr [37, 38] [] h0 (ab_wI h1 37 3 0) := fr_w (fr_m hr.2 (by simp) (by simp)) (by simp)
  rw [c_armLimit hO (cM_fr hR.1 f1 (by decide) (by decide) (by decide) (by decide)), ab_bindS]
  exact key (3 ^ mP (aM A)) ab_N 0 _ (by omega) (by unfold ab_N; omega) (ab_w1e _ _ _ _) (fun p r hp hr2 => by rw [ab_w1n (by decide), hr.1 _ (by omega)]; rfl) f1
