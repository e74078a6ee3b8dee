/-! Calls, class against reference: fault, post, by, count. -/
def call2 {α : Type} (c r : abJ → Option (α × abJ)) : Prop := ∀ A, WF A → ∃ (v : α) (A' : AbT), WF A' ∧ (∀ h, RC A h → Ok (c h) (fun x => x.1 = v ∧ RC A' x.2 ∧ abv h x.2)) ∧ (∀ h, RR A h → Ok (r h) (fun x => x.1 = v ∧ RR A' x.2 ∧ blw h x.2))
def pure1 {α : Type} (f : abJ → Option α) : abJ → Option (α × abJ) := fun h => (f h).bind (fun v => some (v, h))
theorem call2_ro {α : Type} {c r : abJ → Option (α × abJ)} (k : ∀ A, WF A → ∃ v, (∀ h, RC A h → Ok (c h) (fun x => x.1 = v ∧ fr sc0 [41] h x.2)) ∧ (∀ h, RR A h → Ok (r h) (fun x => x.1 = v ∧ frR sk1 sc1 [80, 81] h x.2))) : call2 c r := by
  intro A hW
  obtain ⟨v, h1, h2⟩ := k A hW
  refine ⟨v, A, hW, fun h hR => (h1 h hR).mono (fun x hx => ?_), fun h hR => (h2 h hR).mono (fun x hx => ?_)⟩
  · obtain ⟨a, b⟩ := RC_sc hW hR hx.2
    exact ⟨hx.1, a, b⟩
  · obtain ⟨a, b⟩ := RR_sc hR hx.2
    exact ⟨hx.1, a, b⟩
theorem Ok_p1 {α : Type} {f : abJ → Option α} {h : abJ} {v : α} (e : f h = some v) : Ok (pure1 f h) (fun x => x.1 = v ∧ fr sc0 [41] h x.2) := by
  unfold pure1
  rw [e, ab_bindS]
  exact Ok.some ⟨rfl, fr_r _ _ _⟩
theorem call_fault (x : Int32) : call2 (pure1 (fX11_fault x)) (fX12_fault x) := by
  refine call2_ro (fun A hW => ⟨if x = 0 then (aF A).1 else if x = 1 then (aF A).2 else -1, fun h hR => Ok_p1 ?_, fun h hR => ?_⟩)
  · unfold fX11_fault
    rw [hR.2.2.2.2.2.2.2.1.1, hR.2.2.2.2.2.2.2.1.2]
    split
    · rfl
    · split <;> rfl
  · unfold fX12_fault
    generalize e0 : ab_wI h 64 0 0 = h0; have f0 : frR sk1 sc1 [80, 81] h h0 := (by subst e0; exact frR_64 (frR_r _ _ _ _) (by decide)); have hR0 : RR A h0 := (RR_sc hR f0).1
    rw [hR0.2.2.2.2.2.1.1, hR0.2.2.2.2.2.1.2]
    split
    · exact Ok.some ⟨rfl, f0⟩
    · split <;> exact Ok.some ⟨rfl, f0⟩
theorem c_has_in {m : MoT} {h : abJ} {p : Nat} (hO : MO m) (hM : cM m 1 h) (hp : p < mP m) : fX3_has 1 (nI p) h = some (nI 1) := by
  have h6 := hO.2.1
  unfold fX3_has
  simp (disch := omega) only [ab_lits, nI_add, pk_mul, pk_sub, pk_div, nI_clamp, nI_ltI, nI_leI, hM.1]
  rw [if_neg (by omega), if_neg (by omega), if_neg (by omega)]
theorem c_has_out {m : MoT} {h : abJ} {x : Int32} (hM : cM m 1 h) (hx : x < 0 ∨ nI (mP m) ≤ x) : fX3_has 1 x h = some (nI 0) := by
  unfold fX3_has
  rw [hM.1]
  rcases hx with hx | hx
  · rw [if_pos hx]; rfl
  · by_cases c : x < 0
    · rw [if_pos c]; rfl
    · rw [if_neg c, if_pos hx]; rfl
theorem r_isPost_in {m : MoT} {h : abJ} {p : Nat} (hO : MO m) (hM : rM m (h.1 65)) (hp : p < mP m) : fX12_isPost ((nI p).toInt64) h = some (nI 1) := by
  have h6 := hO.2.1
  unfold fX12_isPost
  rw [hM.2.1, pk_s1 (by omega), r_win h (a := nI 0) (b := nI (mP m - 1)) (A := 0) rfl rfl, ab_bindS, ab_askP (bI_okL _)]
  rw [decide_eq_false (by rw [nI_ltI (by omega) (by omega), nI_ltI (by omega) (by omega)]; omega)]
  rfl
theorem r_isPost_out {m : MoT} {h : abJ} {x : Int32} (hO : MO m) (hM : rM m (h.1 65)) (hx : x < 0 ∨ nI (mP m) ≤ x) : fX12_isPost (x.toInt64) h = some (nI 0) := by
  have h6 := hO.2.1
  have h1 := hO.1
  unfold fX12_isPost
  rw [hM.2.1, pk_s1 (by omega), r_win h (a := nI 0) (b := nI (mP m - 1)) (A := 0) rfl rfl, ab_bindS, ab_askP (bI_okL _)]
  rw [decide_eq_true ?_]
  · rfl
  · rcases hx with hx | hx
    · exact Or.inl hx
    · refine Or.inr (Int32.lt_of_lt_of_le ?_ hx)
      rw [nI_ltI (by omega) (by omega)]; omega
theorem r_isRoad {m : MoT} {h : abJ} {p k : Nat} (hO : MO m) (hM : rM m (h.1 65)) (hp : p < 6) (hk : k < 2 ^ 31) : fX12_isRoad (nI p) ((nI k).toInt64) h = some (bI (decide (k < mR m p))) := by
  have h3 := hO.2.2.2.2.1 p
  unfold fX12_isRoad
  rw [show (9 : Int32) = nI 9 from rfl, nI_add, nI_clamp (by omega), ab_askP (ixN (by omega) (by omega)), hM.2.2.2.1 p hp, r_win h (a := nI 0) (b := nI (mR m p) - 1) (A := 0) rfl rfl, ab_bindS, ab_askP (bI_okL _)]
  congr 1
  by_cases e : mR m p = 0
  · rw [e, show nI 0 - 1 = -nI 1 from rfl]
    rw [decide_eq_true (Or.inr ((ab_n_lt' hk (by omega) (by omega)).mpr trivial)), decide_eq_false (by omega)]
    rfl
  · rw [show (1 : Int32) = nI 1 from rfl, pk_sub (by omega)]
    by_cases c : k < mR m p
    · rw [decide_eq_true c, decide_eq_false (by rw [nI_ltI (by omega) (by omega), nI_ltI (by omega) (by omega)]; omega)]
      rfl
    · rw [decide_eq_false c, decide_eq_true (by rw [nI_ltI (by omega) (by omega), nI_ltI (by omega) (by omega)]; omega)]
      rfl
theorem r_isRoad_n {m : MoT} {h : abJ} {p : Nat} {x : Int32} (hM : rM m (h.1 65)) (hp : p < 6) (hx : x < 0) : fX12_isRoad (nI p) (x.toInt64) h = some (nI 0) := by
  unfold fX12_isRoad
  rw [show (9 : Int32) = nI 9 from rfl, nI_add, nI_clamp (by omega), ab_askP (ixN (by omega) (by omega)), hM.2.2.2.1 p hp, r_win h (a := nI 0) (b := nI (mR m p) - 1) (A := 0) rfl rfl, ab_bindS, ab_askP (bI_okL _), decide_eq_true (show x < nI 0 ∨ nI (mR m p) - 1 < x from Or.inl hx)]
  rfl
/-- a number of some sort: below 0, or as a natural one -/
theorem i_cs (x : Int32) : x < 0 ∨ ∃ k, k < 2 ^ 31 ∧ x = nI k := by
  by_cases h : x < 0
  · exact Or.inl h
  · exact Or.inr (nI_of h)
theorem WF_a {A : AbT} (hW : WF A) : sA (aS A) < 3 ^ mP (aM A) ∧ sA (aS A) < 729 := by
  have h1 := AV_lt hW.1 hW.2.1.2.1
  have h2 := MO_729 hW.1
  exact ⟨h1, by omega⟩
theorem call_post (x y : Int32) : call2 (pure1 (fX11_post x y)) (fX12_post x y) := by
  refine call2_ro (fun A hW => ?_)
  have hO := hW.1
  have h6 := hO.2.1
  have ha := (WF_a hW).2
  have out : (x < 0 ∨ nI (mP (aM A)) ≤ x) → ∃ v, (∀ h, RC A h → Ok (pure1 (fX11_post x y) h) (fun x => x.1 = v ∧ fr sc0 [41] h x.2)) ∧ (∀ h, RR A h → Ok (fX12_post x y h) (fun x => x.1 = v ∧ frR sk1 sc1 [80, 81] h x.2)) := by
    intro hx
    refine ⟨-2, fun h hR => Ok_p1 ?_, fun h hR => ?_⟩
    · unfold fX11_post
      rw [c_has_out hR.1 hx, ab_bindS]
      rfl
    · unfold fX12_post
      generalize e0 : ab_wI h 64 0 0 = h0; have f0 : frR sk1 sc1 [80, 81] h h0 := (by subst e0; exact frR_64 (frR_r _ _ _ _) (by decide)); have hR0 : RR A h0 := (RR_sc hR f0).1
      rw [r_isPost_out hO hR0.1 hx, ab_bindS]
      exact Ok.pos rfl (Ok.some ⟨rfl, f0⟩)
  rcases pk_ix x (n := mP (aM A)) (by omega) with hx | hx | ⟨p, hp, rfl⟩
  · exact out (Or.inl hx)
  · exact out (Or.inr hx)
  have h3 := hO.2.2.2.2.1 p
  refine ⟨if y = 0 then nI (dg (sA (aS A)) p) else if y = 1 then nI (mR (aM A) p) else if y = 2 then bI (hm (aM A) p) else if y < 10 then -2 else if y.toInt < 10 + mR (aM A) p then nI (mL (aM A) p (y.toInt - 10).toNat) else -2, fun h hR => Ok_p1 ?_, fun h hR => ?_⟩
  · unfold fX11_post
    rw [c_has_in hO hR.1 hp, ab_bindS, if_neg (by decide), hR.2.1.2.1, c_armOf h (by omega) (by omega), c_roadsOf hO hR.1 (by omega), c_isHome hO hR.1 (by omega)]
    simp only [ab_bindS]
    by_cases c0 : y = 0
    · rw [if_pos c0, if_pos c0]
    rw [if_neg c0, if_neg c0]
    by_cases c1 : y = 1
    · rw [if_pos c1, if_pos c1]
    rw [if_neg c1, if_neg c1]
    by_cases c2 : y = 2
    · rw [if_pos c2, if_pos c2]
      cases hm (aM A) p <;> rfl
    rw [if_neg c2, if_neg c2]
    by_cases c3 : y < 10
    · rw [if_pos c3, if_pos c3]
    rw [if_neg c3, if_neg c3]
    rcases i_cs y with hy | ⟨k, hk, rfl⟩
    · exact absurd (Int32.lt_trans hy (by decide)) c3
    · rw [show (10 : Int32) = nI 10 from rfl, nI_ltI (by omega) (by omega)] at c3
      rw [show (10 : Int32) = nI 10 from rfl, nI_add, pk_sub (by omega), nI_toInt hk]
      by_cases c4 : k < 10 + mR (aM A) p
      · rw [if_pos (by rw [nI_ltI (by omega) (by omega)]; exact c4), if_pos (by omega), c_leadsTo hO hR.1 (by omega) (by omega), ab_bindS]
        congr 3
        omega
      · rw [if_neg (by rw [nI_ltI (by omega) (by omega)]; exact c4), if_neg (by omega)]
  · unfold fX12_post
    generalize e0 : ab_wI h 64 0 0 = h0; have f0 : frR sk1 sc1 [80, 81] h h0 := (by subst e0; exact frR_64 (frR_r _ _ _ _) (by decide)); have hR0 : RR A h0 := (RR_sc hR f0).1
    have e34 : h0.1 65 (34 + p) = nI (dg (sA (aS A)) p) := by
      have := hR0.2.1.2.1 p (by omega)
      rw [show 34 + p = 33 + (1 + p) by omega]; exact this
    have eH := hR0.1.2.2.1
    have hH := MO_H hO
    rw [r_isPost_in hO hR0.1 hp, ab_bindS]
    refine Ok.neg (by decide) ?_
    rw [eH, show (31 : Int32) = nI 31 from rfl, show nI (mH (aM A)) >>> (nI p &&& nI 31) &&& 1 = bI (hm (aM A) p) from b_test (by omega) (by omega)]
    by_cases c0 : y = 0
    · rw [if_pos c0, if_pos c0]
      rw [show (34 : Int32) = nI 34 from rfl, nI_add, nI_clamp (by omega)]
      exact Ok.ask (ixN (by omega) (by omega)) (Ok.some ⟨e34, f0⟩)
    rw [if_neg c0, if_neg c0]
    by_cases c1 : y = 1
    · rw [if_pos c1, if_pos c1]
      rw [show (9 : Int32) = nI 9 from rfl, nI_add, nI_clamp (by omega)]
      exact Ok.ask (ixN (by omega) (by omega)) (Ok.some ⟨hR0.1.2.2.2.1 p (by omega), f0⟩)
    rw [if_neg c1, if_neg c1]
    by_cases c2 : y = 2
    · rw [if_pos c2, if_pos c2]
      exact Ok.some ⟨rfl, f0⟩
    rw [if_neg c2, if_neg c2]
    by_cases c3 : y < 10
    · rw [if_pos c3, if_pos c3]
      exact Ok.some ⟨rfl, f0⟩
    rw [if_neg c3, if_neg c3]
    rcases i_cs y with hy | ⟨k, hk, rfl⟩
    · exact absurd (Int32.lt_trans hy (by decide)) c3
    · rw [show (10 : Int32) = nI 10 from rfl, nI_ltI (by omega) (by omega)] at c3
      rw [show (10 : Int32) = nI 10 from rfl, pk_sub (by omega), nI_toInt hk, r_isRoad hO hR0.1 (by omega) (by omega), ab_bindS]
      by_cases c4 : k < 10 + mR (aM A) p
      · rw [decide_eq_true (show k - 10 < mR (aM A) p by omega), if_pos (show (k : Int) < 10 + (mR (aM A) p : Int) by omega)]
        refine Ok.neg (by decide) ?_
        rw [r_roadOf hR0.1 (by omega) (show k - 10 < mR (aM A) p by omega) h3, ab_bindS]
        refine Ok.some ⟨?_, f0⟩
        show nI _ = nI _
        congr 2
        omega
      · rw [decide_eq_false (show ¬ k - 10 < mR (aM A) p by omega), if_neg (show ¬ (k : Int) < 10 + (mR (aM A) p : Int) by omega)]
        exact Ok.pos (by decide) (Ok.some ⟨rfl, f0⟩)
theorem call_by (x y : Int32) : call2 (pure1 (fX11_by x y)) (fX12_by x y) := by
  refine call2_ro (fun A hW => ?_)
  have hO := hW.1
  have h6 := hO.2.1
  have ha := WF_a hW
  have out : (x < 0 ∨ nI (mP (aM A)) ≤ x) → ∃ v, (∀ h, RC A h → Ok (pure1 (fX11_by x y) h) (fun x => x.1 = v ∧ fr sc0 [41] h x.2)) ∧ (∀ h, RR A h → Ok (fX12_by x y h) (fun x => x.1 = v ∧ frR sk1 sc1 [80, 81] h x.2)) := by
    intro hx
    refine ⟨-2, fun h hR => Ok_p1 ?_, fun h hR => ?_⟩
    · unfold fX11_by
      rw [c_has_out hR.1 hx, ab_bindS]
      rfl
    · unfold fX12_by
      generalize e0 : ab_wI h 64 0 0 = h0; have f0 : frR sk1 sc1 [80, 81] h h0 := (by subst e0; exact frR_64 (frR_r _ _ _ _) (by decide)); have hR0 : RR A h0 := (RR_sc hR f0).1
      rw [r_isPost_out hO hR0.1 hx, ab_bindS]
      exact Ok.pos rfl (Ok.some ⟨rfl, f0⟩)
  rcases pk_ix x (n := mP (aM A)) (by omega) with hx | hx | ⟨p, hp, rfl⟩
  · exact out (Or.inl hx)
  · exact out (Or.inr hx)
  have h3 := hO.2.2.2.2.1 p
  have hav := hW.2.1.2.1 p
  by_cases cy : y < nI 0 ∨ nI 1 < y
  · refine ⟨-2, fun h hR => Ok_p1 ?_, fun h hR => ?_⟩
    · unfold fX11_by
      rw [c_has_in hO hR.1 hp, ab_bindS, if_neg (by decide)]
      by_cases c1 : y < 0
      · rw [if_pos c1]
      · rw [if_neg c1, if_neg (by rw [Int32.not_le]; exact cy.resolve_left c1)]
    · unfold fX12_by
      generalize e0 : ab_wI h 64 0 0 = h0; have f0 : frR sk1 sc1 [80, 81] h h0 := (by subst e0; exact frR_64 (frR_r _ _ _ _) (by decide)); have hR0 : RR A h0 := (RR_sc hR f0).1
      rw [r_isPost_in hO hR0.1 hp, ab_bindS]
      refine Ok.neg (by decide) ?_
      rw [r_win h0 (a := nI 0) (b := nI 1) (A := 0) (B := 1) rfl rfl, ab_bindS, decide_eq_true cy]
      exact Ok.pos rfl (Ok.some ⟨rfl, f0⟩)
  · have cy0 : ¬ y < 0 := fun q => cy (Or.inl q)
    have cy1 : y ≤ 1 := Int32.not_lt.mp (fun q => cy (Or.inr q))
    refine ⟨if mR (aM A) p = 0 then -5 else if y = 0 then nI (to (aM A) (sF (aS A)) p (dg (sA (aS A)) p)) else nI (ar (aM A) (sF (aS A)) p (dg (sA (aS A)) p)), fun h hR => Ok_p1 ?_, fun h hR => ?_⟩
    · unfold fX11_by
      rw [c_has_in hO hR.1 hp, ab_bindS, if_neg (by decide), if_neg cy0, if_pos cy1, hR.2.1.2.1, c_armOf h (by omega) (by omega), ab_bindS, hR.2.1.2.2.1, c_behind h hW.2.1.2.2 (by omega) (dg_lt _ _), ab_bindS]
      by_cases c : mR (aM A) p = 0
      · rw [hR.2.2.1.2 _ p _ hW.2.1.2.2 (by omega) (dg_lt _ _) (by omega), if_pos (show -nI 1 = -1 from rfl), if_pos c]
      · have h4 := ar_lt (m := aM A) (f := sF (aS A)) (p := p) (a := dg (sA (aS A)) p) (by omega)
        have h5 := to_lt hO (f := sF (aS A)) (a := dg (sA (aS A)) p) hp
        rw [hR.2.2.2.1 p _ (by omega), if_neg c]
        generalize to (aM A) (sF (aS A)) p (dg (sA (aS A)) p) = t at *
        generalize ar (aM A) (sF (aS A)) p (dg (sA (aS A)) p) = u at *
        rw [if_neg (show ¬ nI (t * 3 + u) = -1 from fun q => (ab_n_eq (b := 1) (by omega) (by omega) (by omega)).mp q)]
        rw [show (3 : Int32) = nI 3 from rfl, pk_rem (by omega) (by omega) (by omega), pk_div (by omega) (by omega) (by omega), show (t * 3 + u) / 3 = t by omega, show (t * 3 + u) % 3 = u by omega]
        by_cases cz : y = 0
        · rw [if_pos cz, if_pos cz]
        · rw [if_neg cz, if_neg cz]
    · unfold fX12_by
      generalize e0 : ab_wI h 64 0 0 = h0; have f0 : frR sk1 sc1 [80, 81] h h0 := (by subst e0; exact frR_64 (frR_r _ _ _ _) (by decide)); have hR0 : RR A h0 := (RR_sc hR f0).1
      have e34 : ∀ p, p < 6 → h0.1 65 (34 + p) = nI (dg (sA (aS A)) p) := fun p hp => by
        have := hR0.2.1.2.1 p hp
        rw [show 34 + p = 33 + (1 + p) by omega]; exact this
      have e40 : h0.1 65 40 = nI (sF (aS A)) := hR0.2.1.2.2.1
      rw [r_isPost_in hO hR0.1 hp, ab_bindS]
      refine Ok.neg (by decide) ?_
      rw [r_win h0 (a := nI 0) (b := nI 1) (A := 0) (B := 1) rfl rfl, ab_bindS, decide_eq_false cy]
      refine Ok.neg (by decide) ?_
      rw [show (9 : Int32) = nI 9 from rfl, nI_add, nI_clamp (by omega)]
      refine Ok.ask (ixN (by omega) (by omega)) ?_
      rw [hR0.1.2.2.2.1 p (by omega)]
      by_cases c : mR (aM A) p = 0
      · rw [if_pos c]
        exact Ok.pos (by rw [c]; rfl) (Ok.some ⟨rfl, f0⟩)
      · rw [if_neg c]
        refine Ok.neg (by rw [show (0 : Int32) = nI 0 from rfl, nI_eq (by omega) (by omega)]; exact c) ?_
        rw [r_armsNow hR0.1 h6 ha.1 e34, ab_bindS]
        unfold fX12_standOf
        rw [ab_bindS, show (6 : Int32) = nI 6 from rfl, pk_mul, nI_add, e40]
        have hs : SV (aM A) (6 * sA (aS A) + p) := ⟨by rw [show (6 * sA (aS A) + p) % 6 = p by omega]; exact hp, by rw [show (6 * sA (aS A) + p) / 6 = sA (aS A) by omega]; exact hW.2.1.2.1⟩
        refine Ok.bind (r_stepTo hO hR0.1 hW.2.1.2.2 hs (by rw [show (6 * sA (aS A) + p) % 6 = p by omega]; omega)) (fun r hr => ?_)
        have f1 : frR sk1 sc1 [80, 81] h r.2 := frR_t f0 (frR_m (frR_o (K := []) hr.2 (by decide)) (by decide) (by decide) (by decide))
        have h4 := ar_lt (m := aM A) (f := sF (aS A)) (p := p) (a := dg (sA (aS A)) p) (by omega)
        have h5 := to_lt hO (f := sF (aS A)) (a := dg (sA (aS A)) p) hp
        have hv := SV_lt hO (sT_SV hO hs (f := sF (aS A)) (by rw [show (6 * sA (aS A) + p) % 6 = p by omega]; omega))
        rw [hr.1]
        rw [sT_eq, show (6 * sA (aS A) + p) % 6 = p by omega, show (6 * sA (aS A) + p) / 6 = sA (aS A) by omega] at hv ⊢
        generalize to (aM A) (sF (aS A)) p (dg (sA (aS A)) p) = t at *
        generalize ar (aM A) (sF (aS A)) p (dg (sA (aS A)) p) = u at *
        rw [pk_rem (by omega) (by omega) (by omega), pk_div (by omega) (by omega) (by omega), show (6 * pt (sA (aS A)) p u + t) / 6 = pt (sA (aS A)) p u by omega, show (6 * pt (sA (aS A)) p u + t) % 6 = t by omega]
        by_cases cz : y = 0
        · rw [if_pos cz, if_pos cz]
          exact Ok.some ⟨rfl, f1⟩
        · rw [if_neg cz, if_neg cz]
          rw [r_armIn r.2 (by omega) (by omega), ab_bindS, pt_same (by omega)]
          exact Ok.some ⟨rfl, f1⟩
