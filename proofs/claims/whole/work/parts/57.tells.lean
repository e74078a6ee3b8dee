/-! perform, judge, year. -/
/-- the deeds of a tray from one on, till one can't be: how many, the stand then, why -/
def tel (m : MoT) (f : Nat → Int64) : Nat → Nat → StT → Nat × StT × Nat
  | 0, j, s => (j, s, 0)
  | k + 1, j, s => if (dd m s (dv (f j))).1 = 0 then tel m f k (j + 1) (dd m s (dv (f j))).2 else (j, s, (dd m s (dv (f j))).1)
theorem dd_le {m : MoT} {s : StT} (k : Nat) : (dd m s k).1 ≤ 2 := by
  unfold dd
  split
  · split
    · exact Nat.le_refl _
    · exact Nat.zero_le _
  · split
    · exact Nat.le_succ _
    · split
      · exact Nat.zero_le _
      · split
        · split
          · exact Nat.zero_le _
          · exact Nat.le_succ _
        · split
          · exact Nat.le_succ _
          · split
            · split
              · exact Nat.zero_le _
              · exact Nat.le_succ _
            · exact Nat.le_succ _
theorem tel_SO {m : MoT} (hO : MO m) (f : Nat → Int64) : ∀ (k j : Nat) (s : StT), SO m s → SO m (tel m f k j s).2.1
  | 0, j, s, h => h
  | k + 1, j, s, h => by
    rw [tel]
    split
    · exact tel_SO hO f k (j + 1) _ (dd_SO hO h _)
    · exact h
theorem tel_b {m : MoT} (f : Nat → Int64) : ∀ (k j : Nat) (s : StT), j ≤ (tel m f k j s).1 ∧ (tel m f k j s).1 ≤ j + k ∧ (tel m f k j s).2.2 ≤ 2 ∧ ((tel m f k j s).2.2 = 0 ↔ (tel m f k j s).1 = j + k) ∧ ((tel m f k j s).1 < j + k → (tel m f k j s).2.2 = (dd m (tel m f k j s).2.1 (dv (f (tel m f k j s).1))).1)
  | 0, j, s => ⟨Nat.le_refl _, Nat.le_refl _, Nat.zero_le _, ⟨fun _ => rfl, fun _ => rfl⟩, fun h => absurd h (Nat.lt_irrefl _)⟩
  | k + 1, j, s => by
    rw [tel]
    by_cases c : (dd m s (dv (f j))).1 = 0
    · rw [if_pos c]
      obtain ⟨a, b, d, e, g⟩ := tel_b f k (j + 1) (dd m s (dv (f j))).2
      refine ⟨by omega, by omega, d, ?_, fun h => g (by omega)⟩
      rw [e]; omega
    · rw [if_neg c]
      refine ⟨Nat.le_refl _, by show j ≤ j + (k + 1); omega, dd_le _, ⟨fun h => absurd h c, fun h => ?_⟩, fun _ => rfl⟩
      have h : j = j + (k + 1) := h
      omega
theorem tel_0 {m : MoT} {f : Nat → Int64} {k j : Nat} {s : StT} (h : (tel m f k j s).1 = j) : (tel m f k j s).2.1 = s := by
  cases k with
  | zero => rfl
  | succ k =>
    rw [tel] at h ⊢
    by_cases c : (dd m s (dv (f j))).1 = 0
    · rw [if_pos c] at h
      have := (tel_b (m := m) f k (j + 1) (dd m s (dv (f j))).2).1
      omega
    · rw [if_neg c]
theorem cD_t2 {m : MoT} {o : Nat} {s1 s2 : StT} {h h1 h2 : abJ} (a : cD m o s1 h h1) (b : cD m o s2 h1 h2) : cD m o s2 h h2 := ⟨b.1, b.2.1, b.2.2.1, fun g hg hr => b.2.2.2.1 g hg (a.2.2.2.1 g hg hr), fr_t a.2.2.2.2 b.2.2.2.2⟩
theorem c_doAll {m : MoT} {o j : Nat} {t : Nat × Nat × (Nat → Int64)} {h0 : abJ} (hO : MO m) (ho : o = 12 ∨ o = 18) (hj : j < 4) (hn : t.2.1 ≤ 40) (hM : cM m 1 h0) (ht : cY (some t) j h0) : ∀ (k n i : Nat) (s : StT) (h : abJ), i + k = t.2.1 → k < n → SO m s → cD m o s h0 h → Ok (fX0_doAll_L2 o (44 + 2 * j) n (nI i) h) (fun r => r.1 = nI (tel m t.2.2 k i s).1 ∧ cD m o (tel m t.2.2 k i s).2.1 h0 r.2) := by
  have ft : ∀ {s : StT} {h : abJ}, cD m o s h0 h → cY (some t) j h := by
    intro s h hd
    obtain ⟨t0, t1, t2, t3⟩ := ht
    have e : h.1 (44 + 2 * j) = h0.1 (44 + 2 * j) := hd.2.2.2.2.1 _ (by simp; omega)
    exact ⟨by rw [e]; exact t0, by rw [e]; exact t1, by rw [e]; exact t2, fun q hq => by rw [hd.2.2.2.2.2 _ (by simp)]; exact t3 q hq⟩
  intro k
  induction k with
  | zero =>
    intro n i s h hi hn2 hs hd
    obtain ⟨n, rfl⟩ : ∃ n0, n = n0 + 1 := ⟨n - 1, by omega⟩
    rw [fX0_doAll_L2, (ft hd).2.2.1]
    exact Ok.pos (by rw [nI_leI (by omega) (by omega)]; omega) (Ok.some ⟨rfl, hd⟩)
  | succ k ih =>
    intro n i s h hi hn2 hs hd
    obtain ⟨n, rfl⟩ : ∃ n0, n = n0 + 1 := ⟨n - 1, by omega⟩
    rw [fX0_doAll_L2, (ft hd).2.2.1]
    refine Ok.neg (by rw [nI_leI (by omega) (by omega)]; omega) ?_
    rw [c_value (ft hd) hn (by omega), ab_bindS]
    have hM1 : cM m 1 h := cM_fr hM hd.2.2.2.2 (by simp; omega) (by simp; omega) (by simp; omega) (by simp; omega)
    refine Ok.bind (c_doOne hO ho hM1 hd.2.1 hs hd.1 hd.2.2.1) (fun r hr => ?_)
    rw [hr.1, tel]
    have hle := dd_le (m := m) (s := s) (dv (t.2.2 i))
    by_cases c : (dd m s (dv (t.2.2 i))).1 = 0
    · rw [c, if_pos rfl]
      refine Ok.pos rfl ?_
      rw [nI_1]
      exact ih n (i + 1) _ r.2 (by omega) (by omega) (dd_SO hO hs _) (cD_t2 hd hr.2)
    · rw [if_neg c]
      rw [dd_n c] at hr
      exact Ok.neg (by rw [show (0 : Int32) = nI 0 from rfl, nI_eq (by omega) (by omega)]; exact c) (Ok.some ⟨rfl, cD_t2 hd hr.2⟩)
/-- what a deed leaves, with words of cell 64 -/
def rD2 (K : List Nat) (s' : StT) (h h' : abJ) : Prop := rS s' (fun k => h'.1 65 (33 + k)) ∧ (∀ q, q < 33 ∨ 41 < q → h'.1 65 q = h.1 65 q) ∧ frR K [65, 69, 70] [] h h'
theorem rD2_of {K : List Nat} {s' : StT} {h h' : abJ} (d : rD s' h h') : rD2 K s' h h' := ⟨d.1, d.2.1, frR_m d.2.2 (by simp) (by simp) (by simp)⟩
theorem rD2_t {K : List Nat} {s1 s2 : StT} {h h1 h2 : abJ} (a : rD2 K s1 h h1) (b : rD2 K s2 h1 h2) : rD2 K s2 h h2 := ⟨b.1, fun q hq => (b.2.1 q hq).trans (a.2.1 q hq), frR_t a.2.2 b.2.2⟩
theorem rD2_64 {K : List Nat} {s1 : StT} {h h1 : abJ} {k : Nat} {v : Int32} (a : rD2 K s1 h h1) (hk : k ∈ K) : rD2 K s1 h (ab_wI h1 64 k v) := ⟨by rw [ab_w1n (by decide)]; exact a.1, fun q hq => by rw [ab_w1n (by decide)]; exact a.2.1 q hq, frR_64 a.2.2 hk⟩
theorem r_tells {m : MoT} {j : Nat} {t : Nat × Nat × (Nat → Int64)} {h0 : abJ} (hO : MO m) (hj : j < 4) (hn : t.2.1 ≤ 40) (hM : rM m (h0.1 65)) (ht : rY (some t) j h0) : ∀ (k n i : Nat) (s : StT) (h : abJ), i + k = t.2.1 → k < n → SO m s → rD2 [18] s h0 h → h.1 64 18 = nI 0 → Ok (fX12_tells_L7 n (nI j) (nI i) h) (fun r => r.1 = nI (tel m t.2.2 k i s).1 ∧ r.2.1 64 18 = nI (tel m t.2.2 k i s).2.2 ∧ rD2 [18] (tel m t.2.2 k i s).2.1 h0 r.2) := by
  have ft : ∀ {s : StT} {h : abJ}, rD2 [18] s h0 h → h.1 86 j = nI t.2.1 ∧ ∀ k, k < t.2.1 → h.2 87 (40 * j + k) = t.2.2 k := by
    intro s h hd
    obtain ⟨t0, t1, t2⟩ := ht
    exact ⟨by rw [hd.2.2.1 86 (by decide) (by decide)]; exact t1, fun q hq => by rw [hd.2.2.2.2 87 (by simp)]; exact t2 q hq⟩
  intro k
  induction k with
  | zero =>
    intro n i s h hi hn2 hs hd h18
    obtain ⟨n, rfl⟩ : ∃ n0, n = n0 + 1 := ⟨n - 1, by omega⟩
    rw [fX12_tells_L7, nI_clamp (by omega), (ft hd).1]
    exact Ok.ask (ixN (by omega) (by omega)) (Ok.pos (by rw [nI_leI (by omega) (by omega)]; omega) (Ok.ask (ixN (by omega) (by omega)) (Ok.some ⟨show nI t.2.1 = nI i by rw [show t.2.1 = i by omega], h18, hd⟩)))
  | succ k ih =>
    intro n i s h hi hn2 hs hd h18
    obtain ⟨n, rfl⟩ : ∃ n0, n = n0 + 1 := ⟨n - 1, by omega⟩
    have hM1 : rM m (h.1 65) := rM_eq hO hM (fun q hq => hd.2.1 q (by omega))
    rw [fX12_tells_L7, nI_clamp (by omega), (ft hd).1, show (40 : Int32) = nI 40 from rfl, pk_mul, nI_add, nI_clamp (by omega), (ft hd).2 i (by omega)]
    refine Ok.ask (ixN (by omega) (by omega)) (Ok.neg (by rw [nI_leI (by omega) (by omega)]; omega) (Ok.ask (ixN (by omega) (by omega)) ?_))
    rw [r_whyNot hO hs hM1 hd.1, ab_bindS, ab_w1e, nI_1, show (ab_wI h 64 18 (nI (dd m s (dv (t.2.2 i))).1)).2 87 (40 * j + i) = t.2.2 i from (ft hd).2 i (by omega)]
    have hle := dd_le (m := m) (s := s) (dv (t.2.2 i))
    have hd1 := rD2_64 (k := 18) (v := nI (dd m s (dv (t.2.2 i))).1) hd (by simp)
    rw [tel]
    by_cases c : (dd m s (dv (t.2.2 i))).1 = 0
    · rw [if_pos c]
      have hv : (t.2.2 i).toInt32 = nI (dv (t.2.2 i)) := by
        rcases dv_cs (t.2.2 i) with ⟨_, e⟩ | ⟨k, _, e1, e2⟩
        · rw [e] at c
          have ed : dd m s 200 = (1, s) := by simp [dd]
          rw [ed] at c; cases c
        · rw [e2, e1, lN_i]
      refine Ok.pos (by rw [c]; rfl) (Ok.ask (ixN (by omega) (by omega)) ?_)
      rw [hv]
      refine Ok.bind (r_does hO hs (by rw [ab_w1n (by decide)]; exact hM1) hd1.1 c) (fun h2 hr => ?_)
      refine ih n (i + 1) _ h2 (by omega) (by omega) (dd_SO hO hs _) (rD2_t hd1 (rD2_of hr)) ?_
      rw [hr.2.2.2.1 18 (by simp), ab_w1e, c]
    · rw [if_neg c]
      exact Ok.neg (by rw [show (0 : Int32) = nI 0 from rfl, nI_eq (by omega) (by omega)]; exact c) (Ok.some ⟨rfl, ab_w1e _ _ _ _, hd1⟩)
theorem fD2 {K : List Nat} {s' : StT} {h h' : abJ} (d : rD2 K s' h h') (hK : ∀ k, k ∈ K → k ∈ sk1) : frR sk1 sc65 [80, 81] h h' := frR_m d.2.2 hK (by decide) (by simp)
theorem r_push2 {A : AbT} {K : List Nat} {s' : StT} {h h1 : abJ} (hW : WF A) (hs' : SO (aM A) s') (hR : RR A h) (h71 : rS (aS A) (h.1 71)) (hd : rD2 K s' h h1) (hK : ∀ k, k ∈ K → k ∈ sk1) : Ok (fX12_notes h1) (fun h' => RR (upU (upS A s') (pU (aU A) (aS A))) h' ∧ blw h h') := by
  obtain ⟨a, b⟩ := RR_S hW hR hd.1 hd.2.1 (fD2 hd hK)
  have e71 : h1.1 71 = h.1 71 := hd.2.2.1 71 (by decide) (by decide)
  exact (r_notes (A := upS A s') (s0 := aS A) (WF_S hW hs') a (by rw [e71]; exact h71)).mono (fun h' hr => ⟨hr.1, blw_t b hr.2.1⟩)
/-- calls on a tray: none such, missing -/
theorem tray2 {α : Type} {c r : Int32 → abJ → Option (α × abJ)} (x : Int32) {v2 v6 : α} {A : AbT} (hW : WF A) (hc2 : ∀ h x, (x < 0 ∨ nI 4 ≤ x) → c x h = some (v2, h)) (hr2 : ∀ h x, (x < 0 ∨ nI 4 ≤ x) → r x h = some (v2, ab_wI h 64 0 0)) (hc6 : ∀ h j, j < 4 → h.1 (44 + 2 * j) 0 = nI 1 → c (nI j) h = some (v6, h)) (hr6 : ∀ h j, j < 4 → RR A h → aY A j = none → r (nI j) h = some (v6, ab_wI h 64 0 0)) (k : ∀ j t, j < 4 → aY A j = some t → ∃ (v : α) (A' : AbT), WF A' ∧ (∀ h, RC A h → Ok (c (nI j) h) (fun x => x.1 = v ∧ RC A' x.2 ∧ abv h x.2)) ∧ (∀ h, RR A h → Ok (r (nI j) h) (fun x => x.1 = v ∧ RR A' x.2 ∧ blw h x.2))) : ∃ (v : α) (A' : AbT), WF A' ∧ (∀ h, RC A h → Ok (c x h) (fun x => x.1 = v ∧ RC A' x.2 ∧ abv h x.2)) ∧ (∀ h, RR A h → Ok (r x h) (fun x => x.1 = v ∧ RR A' x.2 ∧ blw h x.2)) := by
  have out : (x < 0 ∨ nI 4 ≤ x) → ∃ (v : α) (A' : AbT), WF A' ∧ (∀ h, RC A h → Ok (c x h) (fun x => x.1 = v ∧ RC A' x.2 ∧ abv h x.2)) ∧ (∀ h, RR A h → Ok (r x h) (fun x => x.1 = v ∧ RR A' x.2 ∧ blw h x.2)) := fun hx => call2_no (v := v2) hW (fun h hR => by rw [hc2 h x hx]; exact Ok.some ⟨rfl, hR, abv_r _⟩) (fun h hR => by
    obtain ⟨hR0, b0⟩ := RR0 hR
    rw [hr2 h x hx]; exact Ok.some ⟨rfl, hR0, b0⟩)
  rcases pk_ix x (n := 4) (by omega) with hx | hx | ⟨j, hj, rfl⟩
  · exact out (Or.inl hx)
  · exact out (Or.inr hx)
  cases e : aY A j with
  | none =>
    refine call2_no (v := v6) hW (fun h hR => ?_) (fun h hR => ?_)
    · have ht := hR.2.2.2.2.2.2.2.2 j hj
      rw [e] at ht
      rw [hc6 h j hj ht]; exact Ok.some ⟨rfl, hR, abv_r _⟩
    · obtain ⟨hR0, b0⟩ := RR0 hR
      rw [hr6 h j hj hR e]; exact Ok.some ⟨rfl, hR0, b0⟩
  | some t => exact k j t hj e
theorem call_perform (x : Int32) : call2 (fX11_perform x) (fX12_perform x) := by
  intro A hW
  have hO := hW.1
  have hs := hW.2.1
  refine tray2 (v2 := -2) (v6 := -6) x hW (fun h x hx => by unfold fX11_perform; rw [c_noTray_n h hx]; rfl) (fun h x hx => by unfold fX12_perform; rw [r_noTray_o _ hx]; rfl) (fun h j hj ht => by unfold fX11_perform; rw [c_noTray h hj, ab_bindS, nI_clamp (by omega), ab_tr_n (by omega), ht, if_pos (show nI 0 = 0 from rfl), ab_askP (ixN (by omega) (by omega))]; rfl) (fun h j hj hR e => by unfold fX12_perform; rw [r_noTray_n (RR0 hR).1 hj e]; rfl) (fun j t hj e => ?_)
  obtain ⟨ht3, hn⟩ := hW.2.2.2.2.2 j t hj e
  have hb := tel_b (m := aM A) t.2.2 t.2.1 0 (aS A)
  have hs2 := tel_SO hO t.2.2 t.2.1 0 (aS A) hs
  have h0 := tel_0 (m := aM A) (f := t.2.2) (k := t.2.1) (j := 0) (s := aS A)
  generalize hT : tel (aM A) t.2.2 t.2.1 0 (aS A) = T at *
  refine ⟨nI T.1, if T.1 = 0 then A else upU (upS A T.2.1) (pU (aU A) (aS A)), ?_, fun h hR => ?_, fun h hR => ?_⟩
  · split
    · exact hW
    · exact WF_U (A := upS A T.2.1) (WF_S hW hs2) hs
  · have ht := hR.2.2.2.2.2.2.2.2 j hj
    rw [e] at ht
    unfold fX11_perform
    rw [c_noTray h hj, ab_bindS, nI_clamp (by omega), ab_tr_n (by omega), ht.1]
    refine Ok.pos rfl (Ok.ask (ixN (by omega) (by omega)) (Ok.pos rfl (Ok.bind (c_begin hW hR) (fun h1 hr => Ok.ask (ixN (by omega) (by omega)) ?_))))
    have ht1 := hr.2.1.2.2.2.2.2.2.2.2 j hj
    rw [e] at ht1
    unfold fX0_doAll
    refine Ok.bind (c_doAll hO (Or.inl rfl) hj hn hr.2.1.1 ht1 t.2.1 ab_N 0 (aS A) h1 (by omega) (by unfold ab_N; omega) hs (cD_r hr.2.1.2.2.1 hr.2.1.2.1 hr.2.1.2.2.2.1)) (fun r hr2 => ?_)
    rw [hT] at hr2
    rw [hr2.1]
    by_cases c : T.1 = 0
    · rw [if_pos c]
      rw [h0 c] at hr2
      obtain ⟨a, b⟩ := RC_S hW hr.2.1 hr2.2
      unfold fX0_end
      rw [c, if_pos (show nI 0 = 0 from rfl), ab_bindS]
      exact Ok.some ⟨rfl, a, abv_t hr.2.2 b⟩
    · rw [if_neg c]
      exact Ok.bind (c_push hW hs2 hr.2.1 hr.1 hr2.2 (by omega) (by omega)) (fun z hz => Ok.some ⟨rfl, hz.1, abv_t hr.2.2 hz.2.1⟩)
  · obtain ⟨hR0, b0⟩ := RR0 hR
    unfold fX12_perform
    rw [r_noTray_s hR0 hW hj e, ab_bindS]
    refine Ok.pos rfl (Ok.bind (r_stA hW hR0) (fun h1 hr => ?_))
    have ht := hr.2.1.2.2.2.2.2.2 j hj
    rw [e] at ht
    unfold fX12_tells
    refine Ok.bind (r_tells hO hj hn hr.2.1.1 ht t.2.1 ab_N 0 (aS A) (ab_wI h1 64 18 0) (by omega) (by unfold ab_N; omega) hs (rD2_64 (rD2_of (rD_r hr.2.1.2.1)) (by simp)) (ab_w1e _ _ _ _)) (fun r hr2 => ?_)
    rw [hT] at hr2
    rw [hr2.1]
    by_cases c : T.1 = 0
    · rw [if_pos c, c]
      rw [h0 c] at hr2
      obtain ⟨a, b⟩ := RR_S hW hr.2.1 hr2.2.2.1 hr2.2.2.2.1 (fD2 hr2.2.2 (by decide))
      exact Ok.pos (by decide) (Ok.some ⟨rfl, a, blw_t b0 (blw_t hr.2.2.1 b)⟩)
    · rw [if_neg c]
      refine Ok.neg (by rw [show (0 : Int32) = nI 0 from rfl, nI_leI (by omega) (by omega)]; omega) ?_
      exact Ok.bind (r_push2 hW hs2 hr.2.1 hr.1 hr2.2.2 (by decide)) (fun z hz => Ok.some ⟨rfl, hz.1, blw_t b0 (blw_t hr.2.2.1 hz.2)⟩)

theorem call_judge (x y : Int32) : call2 (fX11_judge x y) (fX12_judge x y) := by
  intro A hW
  have hO := hW.1
  have h6 := hO.2.1
  have hs := hW.2.1
  by_cases cy : y < nI 0 ∨ nI 3 < y
  · refine call2_no (v := -2) hW (fun h hR => ?_) (fun h hR => ?_)
    · unfold fX11_judge
      rcases pk_ix x (n := 4) (by omega) with hx | hx | ⟨j, hj, rfl⟩
      · rw [c_noTray_n h (Or.inl hx), ab_bindS]
        exact Ok.neg (by decide) (Ok.some ⟨rfl, hR, abv_r _⟩)
      · rw [c_noTray_n h (Or.inr hx), ab_bindS]
        exact Ok.neg (by decide) (Ok.some ⟨rfl, hR, abv_r _⟩)
      · rw [c_noTray h hj, ab_bindS]
        refine Ok.pos rfl ?_
        by_cases c1 : y < 0
        · exact Ok.pos c1 (Ok.some ⟨rfl, hR, abv_r _⟩)
        · exact Ok.neg c1 (Ok.neg (by rw [Int32.not_le]; exact cy.resolve_left c1) (Ok.some ⟨rfl, hR, abv_r _⟩))
    · obtain ⟨hR0, b0⟩ := RR0 hR
      unfold fX12_judge
      rw [r_win _ (a := nI 0) (b := nI 3) (A := 0) (B := 3) rfl rfl, ab_bindS, decide_eq_true cy]
      exact Ok.pos rfl (Ok.some ⟨rfl, hR0, b0⟩)
  have y0 : ¬ y < 0 := fun q => cy (Or.inl q)
  have y3 : y ≤ 3 := Int32.not_lt.mp (fun q => cy (Or.inr q))
  have ew : ∀ h, fX12_within y.toInt64 0 3 h = some (nI 1) := fun h => by rw [r_win h (a := nI 0) (b := nI 3) (A := 0) (B := 3) rfl rfl, decide_eq_false cy]; rfl
  refine tray2 (c := fun x => fX11_judge x y) (r := fun x => fX12_judge x y) (v2 := -2) (v6 := -6) x hW (fun h x hx => by unfold fX11_judge; rw [c_noTray_n h hx]; rfl) (fun h x hx => by unfold fX12_judge; rw [ew, ab_bindS, if_neg (by decide), r_noTray_o _ hx]; rfl) (fun h j hj ht => by unfold fX11_judge; rw [c_noTray h hj, ab_bindS, nI_clamp (by omega), ab_tr_n (by omega), ht, if_pos (show nI 0 = 0 from rfl), if_neg y0, if_pos y3, ab_askP (ixN (by omega) (by omega))]; rfl) (fun h j hj hR e => by unfold fX12_judge; rw [ew, ab_bindS, if_neg (by decide), r_noTray_n (RR0 hR).1 hj e]; rfl) (fun j t hj e => ?_)
  obtain ⟨ht3, hn⟩ := hW.2.2.2.2.2 j t hj e
  have hb := tel_b (m := aM A) t.2.2 t.2.1 0 (aS A)
  have hs2 := tel_SO hO t.2.2 t.2.1 0 (aS A) hs
  generalize hT : tel (aM A) t.2.2 t.2.1 0 (aS A) = T at *
  obtain ⟨b1, b2, b3, b4, b5⟩ := hb
  rw [Nat.zero_add] at b2 b4 b5
  refine ⟨if y = 0 then (if T.2.2 = 0 then -1 else nI T.1) else if y = 1 then nI T.2.2 else if y = 2 then nI (sW T.2.1) else nI (sA T.2.1), A, hW, fun h hR => ?_, fun h hR => ?_⟩
  · have ht := hR.2.2.2.2.2.2.2.2 j hj
    rw [e] at ht
    unfold fX11_judge
    rw [c_noTray h hj, ab_bindS, nI_clamp (by omega), ab_tr_n (by omega), ht.1]
    refine Ok.pos rfl (Ok.neg y0 (Ok.pos y3 (Ok.ask (ixN (by omega) (by omega)) (Ok.pos rfl ?_))))
    refine Ok.bind (c_copy (o := 18) (x0 := 12) (by decide) hR.2.1) (fun h1 hr => Ok.ask (ixN (by omega) (by omega)) ?_)
    obtain ⟨hR1, a1⟩ := RC_sc hW hR (fr_m hr.2 (by decide) (by simp))
    have ht1 := hR1.2.2.2.2.2.2.2.2 j hj
    rw [e] at ht1
    unfold fX0_doAll
    refine Ok.bind (c_doAll hO (Or.inr rfl) hj hn hR1.1 ht1 t.2.1 ab_N 0 (aS A) h1 (by omega) (by unfold ab_N; omega) hs (cD_r hR1.2.2.1 hr.1 hR1.2.2.2.1)) (fun r hr2 => Ok.ask (ixN (by omega) (by omega)) ?_)
    rw [hT] at hr2
    have fin : ∀ {s' : StT} {h2 : abJ}, cD (aM A) 18 s' h1 h2 → RC A h2 ∧ abv h h2 := by
      intro s' h2 hd
      obtain ⟨d1, d2, d3, d4, d5⟩ := hd
      refine ⟨⟨cM_fr hR1.1 d5 (by decide) (by decide) (by decide) (by decide), cS_fr hR1.2.1 d5 (by decide), d2, d4 _ hs.2.2 hR1.2.2.2.1, ⟨by rw [d5.1 16 (by decide)]; exact hR1.2.2.2.2.1.1, fun i hi => ⟨?_, d4 _ (hW.2.2.1.2 i hi).2.2 (hR1.2.2.2.2.1.2 i hi).2⟩⟩, cRest_eq (A := A) (RC_rest hR1) (fun o ho => d5.1 o (by revert ho; revert o; decide)) (fun o ho => d5.2 o (by simp))⟩, abv_t a1 (abv_fr d5 (by decide) (by simp))⟩
      have h10 := hW.2.2.1.1
      exact cS_fr (hR1.2.2.2.2.1.2 i hi).1 d5 (by simp; omega)
    obtain ⟨hR2, a2⟩ := fin hr2.2
    have ht2 := hR2.2.2.2.2.2.2.2.2 j hj
    rw [e] at ht2
    rw [hr2.1, ht2.2.2.1]
    have key : ∀ (b : Bool), (b = true ↔ T.2.2 = 0) → Ok (fX11_judge_J85 (nI j) y (nI T.1) (bI b) r.2) (fun x => x.1 = (if y = 0 then (if T.2.2 = 0 then -1 else nI T.1) else if y = 1 then nI T.2.2 else if y = 2 then nI (sW T.2.1) else nI (sA T.2.1)) ∧ RC A x.2 ∧ abv h x.2) := by
      intro b hb
      unfold fX11_judge_J85
      by_cases c0 : y = 0
      · rw [if_pos c0, if_pos c0]
        cases b with
        | true => rw [if_pos (hb.mp rfl)]; exact Ok.neg (by decide) (Ok.some ⟨rfl, hR2, a2⟩)
        | false =>
          rw [if_neg (show ¬ T.2.2 = 0 from fun q => by cases hb.mpr q)]
          exact Ok.pos rfl (Ok.some ⟨rfl, hR2, a2⟩)
      rw [if_neg c0, if_neg c0]
      by_cases c1 : y = 1
      · rw [if_pos c1, if_pos c1]
        cases b with
        | true => rw [hb.mp rfl]; exact Ok.neg (by decide) (Ok.some ⟨rfl, hR2, a2⟩)
        | false =>
          have nT : ¬ T.2.2 = 0 := fun q => by cases hb.mpr q
          have lt : T.1 < t.2.1 := Nat.lt_of_le_of_ne b2 (fun q => nT (b4.mpr q))
          refine Ok.pos rfl ?_
          rw [nI_clamp (by omega), ab_tr_n (by omega), c_value ht2 hn lt, ab_bindS]
          refine Ok.ask (ixN (by omega) (by omega)) (Ok.bind (c_doOne hO (Or.inr rfl) hR2.1 hR2.2.2.1 hs2 hr2.2.1 hr2.2.2.2.1) (fun z hz => ?_))
          obtain ⟨hR3, a3⟩ := fin (cD_t2 hr2.2 hz.2)
          exact Ok.some ⟨by rw [b5 lt]; exact hz.1, hR3, a3⟩
      rw [if_neg c1, if_neg c1]
      by_cases c2 : y = 2
      · rw [if_pos c2, if_pos c2]; exact Ok.some ⟨hr2.2.1.1, hR2, a2⟩
      · rw [if_neg c2, if_neg c2]; exact Ok.some ⟨hr2.2.1.2.1, hR2, a2⟩
    by_cases c : T.1 < t.2.1
    · refine Ok.pos (by rw [nI_ltI (by omega) (by omega)]; exact c) (key false ⟨fun q => (by cases q), fun q => (by have := b4.mp q; omega)⟩)
    · refine Ok.neg (by rw [nI_ltI (by omega) (by omega)]; exact c) (key true ⟨fun _ => b4.mpr (by omega), fun _ => rfl⟩)
  · obtain ⟨hR0, b0⟩ := RR0 hR
    unfold fX12_judge
    rw [ew, ab_bindS]
    refine Ok.neg (by decide) ?_
    rw [r_noTray_s hR0 hW hj e, ab_bindS]
    refine Ok.pos rfl (Ok.bind (r_stA hW hR0) (fun h1 hr => ?_))
    have ht := hr.2.1.2.2.2.2.2.2 j hj
    rw [e] at ht
    unfold fX12_tells
    refine Ok.bind (r_tells hO hj hn hr.2.1.1 ht t.2.1 ab_N 0 (aS A) (ab_wI h1 64 18 0) (by omega) (by unfold ab_N; omega) hs (rD2_64 (rD2_of (rD_r hr.2.1.2.1)) (by simp)) (ab_w1e _ _ _ _)) (fun r hr2 => ?_)
    rw [hT] at hr2
    obtain ⟨q1, q2, q3⟩ := hr2
    have hM2 := rM_eq hO hr.2.1.1 (fun q hq => q3.2.1 q (by omega))
    have hw2 := hs2.1
    have ha2 := AV_lt hO hs2.2.1
    have h7 := MO_729 hO
    rw [r_standNow hM2 h6 ha2 q3.1, ab_bindS]
    refine Ok.bind (r_isAgain r.2) (fun h3 hr3 => ?_)
    have e71 : r.2.1 71 = h1.1 71 := q3.2.2.1 71 (by decide) (by decide)
    have e18 : h3.1 64 18 = nI T.2.2 := by rw [hr3.2.2.1 64 (by decide)]; exact q2
    have hS3 : rS (aS A) (fun k => h3.1 65 (33 + k)) := rS_eq hr.1 (fun q hq => by rw [hr3.1 q hq, e71])
    obtain ⟨hR3, a3⟩ := RR_S (s' := aS A) hW hr.2.1 hS3 (fun q hq => by rw [hr3.2.1 q hq]; exact q3.2.1 q hq) (frR_t (fD2 q3 (by decide)) (frR_m (frR_o (K := []) hr3.2.2 (by decide)) (by simp) (by decide) (by simp)))
    have fA : blw h h3 := blw_t b0 (blw_t hr.2.2.1 a3)
    rw [e18, q1, show (6 : Int32) = nI 6 from rfl, pk_rem (by omega) (by omega) (by omega), pk_div (by omega) (by omega) (by omega), show (6 * sA T.2.1 + sW T.2.1) % 6 = sW T.2.1 by omega, show (6 * sA T.2.1 + sW T.2.1) / 6 = sA T.2.1 by omega]
    by_cases c0 : y = 0
    · rw [if_pos c0, if_pos c0]
      by_cases c1 : T.2.2 = 0
      · rw [if_pos c1, c1]; exact Ok.pos rfl (Ok.some ⟨rfl, hR3, fA⟩)
      · rw [if_neg c1]; exact Ok.neg (by rw [show (0 : Int32) = nI 0 from rfl, nI_eq (by omega) (by omega)]; exact c1) (Ok.some ⟨rfl, hR3, fA⟩)
    rw [if_neg c0, if_neg c0]
    by_cases c1 : y = 1
    · rw [if_pos c1, if_pos c1]; exact Ok.some ⟨rfl, hR3, fA⟩
    rw [if_neg c1, if_neg c1]
    by_cases c2 : y = 2
    · rw [if_pos c2, if_pos c2]; exact Ok.some ⟨rfl, hR3, fA⟩
    · rw [if_neg c2, if_neg c2]; exact Ok.some ⟨rfl, hR3, fA⟩
/-! Draws. -/
def dx (x : Int32) : Int32 := 1103515245 * x + 12345
def dq (x n : Int32) : Int32 := (x.toUInt32 >>> ((16 : Int32).toUInt32 &&& Int32.toUInt32 31)).toInt32 - (x.toUInt32 >>> ((16 : Int32).toUInt32 &&& Int32.toUInt32 31)).toInt32 / n * n
/-- a drawn deed, and what is drawn from behind it -/
def dw (x : Int32) : Int32 × Int32 := if 3 ≤ dq (dx x) 6 then (if dq (dx x) 6 = 3 then (10 + dq (dx (dx x)) 10, dx (dx x)) else if dq (dx x) 6 = 4 then (20 + dq (dx (dx x)) 6, dx (dx x)) else (100 + 10 * dq (dx (dx x)) 6 + dq (dx (dx (dx x))) 3, dx (dx (dx x)))) else (0, dx x)
theorem c_draw {n : Int32} (h : abJ) (hn : n = 3 ∨ n = 6 ∨ n = 10) : fX0_draw n h = some (dq (dx (h.1 16 7)) n, ab_wI h 16 7 (dx (h.1 16 7))) := by
  unfold fX0_draw
  rw [ab_w1e]
  rcases hn with e | e | e <;> subst e <;> rw [if_pos (by decide), ab_askP (by decide)] <;> rfl
theorem r_draw {n : Int32} (h : abJ) (hn : n = 3 ∨ n = 6 ∨ n = 10) : fX12_draw n h = some (dq (dx (h.1 64 19)) n, ab_wI h 64 19 (dx (h.1 64 19))) := by
  unfold fX12_draw
  rw [ab_w1e]
  rcases hn with e | e | e <;> subst e <;> rw [ab_askP (by decide)] <;> rfl
theorem dw_1 {x : Int32} (c3 : ¬ 3 ≤ dq (dx x) 6) : dw x = (0, dx x) := by unfold dw; rw [if_neg c3]
theorem dw_2 {x : Int32} (c3 : 3 ≤ dq (dx x) 6) (c4 : dq (dx x) 6 = 3) : dw x = (10 + dq (dx (dx x)) 10, dx (dx x)) := by unfold dw; rw [if_pos c3, if_pos c4]
theorem dw_3 {x : Int32} (c3 : 3 ≤ dq (dx x) 6) (c4 : ¬ dq (dx x) 6 = 3) (c5 : dq (dx x) 6 = 4) : dw x = (20 + dq (dx (dx x)) 6, dx (dx x)) := by unfold dw; rw [if_pos c3, if_neg c4, if_pos c5]
theorem dw_4 {x : Int32} (c3 : 3 ≤ dq (dx x) 6) (c4 : ¬ dq (dx x) 6 = 3) (c5 : ¬ dq (dx x) 6 = 4) : dw x = (100 + 10 * dq (dx (dx x)) 6 + dq (dx (dx (dx x))) 3, dx (dx (dx x))) := by unfold dw; rw [if_pos c3, if_neg c4, if_neg c5]
theorem c_drawDeed (h : abJ) : Ok (fX0_drawDeed h) (fun r => r.1 = (dw (h.1 16 7)).1 ∧ r.2.1 16 7 = (dw (h.1 16 7)).2 ∧ (∀ o, o ≠ 16 → r.2.1 o = h.1 o) ∧ (∀ k, k ≠ 7 → r.2.1 16 k = h.1 16 k) ∧ r.2.2 = h.2) := by
  unfold fX0_drawDeed
  rw [c_draw h (by simp), ab_bindS]
  generalize hX : h.1 16 7 = x
  have w1 : ∀ o, o ≠ 16 → (ab_wI h 16 7 (dx x)).1 o = h.1 o := fun o ho => ab_w1n ho
  have w2 : ∀ k, k ≠ 7 → (ab_wI h 16 7 (dx x)).1 16 k = h.1 16 k := fun k hk => ab_w1k hk
  by_cases c3 : 3 ≤ dq (dx x) 6
  · refine Ok.pos c3 ?_
    by_cases c4 : dq (dx x) 6 = 3
    · rw [dw_2 c3 c4]
      refine Ok.pos c4 ?_
      rw [c_draw _ (by simp), ab_bindS, ab_w1e]
      exact Ok.some ⟨rfl, ab_w1e _ _ _ _, fun o ho => by rw [ab_w1n ho]; exact w1 o ho, fun k hk => by rw [ab_w1k hk]; exact w2 k hk, rfl⟩
    refine Ok.neg c4 ?_
    by_cases c5 : dq (dx x) 6 = 4
    · rw [dw_3 c3 c4 c5]
      refine Ok.pos c5 ?_
      rw [c_draw _ (by simp), ab_bindS, ab_w1e]
      exact Ok.some ⟨rfl, ab_w1e _ _ _ _, fun o ho => by rw [ab_w1n ho]; exact w1 o ho, fun k hk => by rw [ab_w1k hk]; exact w2 k hk, rfl⟩
    · rw [dw_4 c3 c4 c5]
      refine Ok.neg c5 ?_
      rw [c_draw _ (by simp), ab_bindS, ab_w1e, c_draw _ (by simp), ab_bindS, ab_w1e]
      exact Ok.some ⟨rfl, ab_w1e _ _ _ _, fun o ho => by rw [ab_w1n ho, ab_w1n ho]; exact w1 o ho, fun k hk => by rw [ab_w1k hk, ab_w1k hk]; exact w2 k hk, rfl⟩
  · rw [dw_1 c3]
    exact Ok.neg c3 (Ok.some ⟨rfl, ab_w1e _ _ _ _, w1, w2, rfl⟩)
theorem r_drawn (h : abJ) : Ok (fX12_drawn h) (fun r => r.1 = (dw (h.1 64 19)).1 ∧ r.2.1 64 19 = (dw (h.1 64 19)).2 ∧ frR [19] [] [] h r.2) := by
  unfold fX12_drawn
  rw [r_draw h (by simp), ab_bindS]
  generalize hX : h.1 64 19 = x
  have f1 : frR [19] [] [] h (ab_wI h 64 19 (dx x)) := frR_64 (frR_r _ _ _ _) (by simp)
  by_cases c3 : 3 ≤ dq (dx x) 6
  · by_cases c4 : dq (dx x) 6 = 3
    · rw [dw_2 c3 c4]
      refine Ok.neg (show ¬ 4 ≤ dq (dx x) 6 by rw [c4]; decide) (Ok.pos c3 ?_)
      rw [r_draw _ (by simp), ab_bindS, ab_w1e]
      exact Ok.some ⟨rfl, ab_w1e _ _ _ _, frR_64 f1 (by simp)⟩
    have c4' : 4 ≤ dq (dx x) 6 := by
      rw [Int32.le_iff_toInt_le] at c3 ⊢
      rw [← Int32.toInt_inj] at c4
      have e3 : (3 : Int32).toInt = 3 := by decide
      have e4 : (4 : Int32).toInt = 4 := by decide
      omega
    refine Ok.pos c4' ?_
    rw [r_draw _ (by simp), ab_bindS, ab_w1e]
    by_cases c5 : dq (dx x) 6 = 4
    · rw [dw_3 c3 c4 c5]
      exact Ok.pos c5 (Ok.some ⟨rfl, ab_w1e _ _ _ _, frR_64 f1 (by simp)⟩)
    · rw [dw_4 c3 c4 c5]
      refine Ok.neg c5 ?_
      rw [r_draw _ (by simp), ab_bindS, ab_w1e]
      exact Ok.some ⟨rfl, ab_w1e _ _ _ _, frR_64 (frR_64 f1 (by simp)) (by simp)⟩
  · rw [dw_1 c3]
    refine Ok.neg (show ¬ 4 ≤ dq (dx x) 6 from fun q => c3 (Int32.le_trans (by decide) q)) (Ok.neg c3 (Ok.some ⟨rfl, ab_w1e _ _ _ _, f1⟩))
/-- a year: so many draws; how many could be, the stand then -/
def yr (m : MoT) : Nat → Int32 → Nat → StT → Nat × StT
  | 0, _, j, s => (j, s)
  | k + 1, x, j, s => if (dd m s (dv (dw x).1.toInt64)).1 = 0 then yr m k (dw x).2 (j + 1) (dd m s (dv (dw x).1.toInt64)).2 else yr m k (dw x).2 j s
theorem yr_SO {m : MoT} (hO : MO m) : ∀ (k : Nat) (x : Int32) (j : Nat) (s : StT), SO m s → SO m (yr m k x j s).2
  | 0, _, _, _, h => h
  | k + 1, x, j, s, h => by
    rw [yr]
    split
    · exact yr_SO hO k _ _ _ (dd_SO hO h _)
    · exact yr_SO hO k _ _ _ h
theorem yr_b {m : MoT} : ∀ (k : Nat) (x : Int32) (j : Nat) (s : StT), j ≤ (yr m k x j s).1 ∧ (yr m k x j s).1 ≤ j + k ∧ ((yr m k x j s).1 = j → (yr m k x j s).2 = s)
  | 0, _, _, _ => ⟨Nat.le_refl _, Nat.le_refl _, fun _ => rfl⟩
  | k + 1, x, j, s => by
    rw [yr]
    split
    · obtain ⟨a, b, c⟩ := yr_b (m := m) k (dw x).2 (j + 1) (dd m s (dv (dw x).1.toInt64)).2
      exact ⟨by omega, by omega, fun q => by omega⟩
    · obtain ⟨a, b, c⟩ := yr_b (m := m) k (dw x).2 j s
      exact ⟨a, by omega, c⟩
/-- as cD, but the draws of cell 16 -/
def cD3 (m : MoT) (s' : StT) (h h' : abJ) : Prop := cS s' 12 h' ∧ cK m h' ∧ rdy m (sF s') h' ∧ (∀ g, g < 10 → rdy m g h → rdy m g h') ∧ (∀ k, k ≠ 7 → h'.1 16 k = h.1 16 k) ∧ fr [12, 13, 14, 15, 16] [] h h'
theorem c_year_L {m : MoT} {h0 : abJ} (hO : MO m) (hM : cM m 1 h0) {N : Nat} (hN : N ≤ 40) : ∀ (k n i j : Nat) (x : Int32) (s : StT) (h : abJ), i + k = N → j ≤ i → k < n → SO m s → cD3 m s h0 h → h.1 16 7 = x → Ok (fX0_liveYear_L11 n (nI N) (nI j) (nI i) h) (fun r => r.1 = nI (yr m k x j s).1 ∧ cD3 m (yr m k x j s).2 h0 r.2) := by
  intro k
  induction k with
  | zero =>
    intro n i j x s h hi hj hn hs hd hx
    obtain ⟨n, rfl⟩ : ∃ n0, n = n0 + 1 := ⟨n - 1, by omega⟩
    rw [fX0_liveYear_L11]
    exact Ok.pos (by rw [nI_leI (by omega) (by omega)]; omega) (Ok.some ⟨rfl, hd⟩)
  | succ k ih =>
    intro n i j x s h hi hj hn hs hd hx
    obtain ⟨n, rfl⟩ : ∃ n0, n = n0 + 1 := ⟨n - 1, by omega⟩
    rw [fX0_liveYear_L11]
    refine Ok.neg (by rw [nI_leI (by omega) (by omega)]; omega) (Ok.bind (c_drawDeed h) (fun r hr => ?_))
    rw [hx] at hr
    obtain ⟨q1, q2, q3, q4, q5⟩ := hr
    obtain ⟨d1, d2, d3, d4, d5, d6⟩ := hd
    have e12 := q3 12 (by decide)
    have e13 := q3 13 (by decide)
    have e14 := q3 14 (by decide)
    have hM1 : cM m 1 r.2 := by
      have := cM_fr hM d6 (by decide) (by decide) (by decide) (by decide)
      unfold cM at this ⊢
      rw [q3 1 (by decide), q3 (1 + 1) (by decide), q3 (1 + 2) (by decide), q3 (1 + 3) (by decide)]; exact this
    have k1 : cK m r.2 := by unfold cK rdy; rw [e13, e14]; exact d2
    have s1 : cS s 12 r.2 := by unfold cS; rw [e12]; exact d1
    have y1 : rdy m (sF s) r.2 := by unfold rdy; rw [e14]; exact d3
    have fq : fr [12, 13, 14, 15, 16] [] h r.2 := ⟨fun o ho => q3 o (by simp at ho; omega), fun o _ => by rw [q5]⟩
    rw [q1]
    refine Ok.bind (c_doOne hO (Or.inl rfl) hM1 k1 hs s1 y1) (fun z hz => ?_)
    obtain ⟨z1, z2⟩ := hz
    have hd2 : cD3 m (dd m s (dv (dw x).1.toInt64)).2 h0 z.2 := by
      refine ⟨z2.1, z2.2.1, z2.2.2.1, fun g hg hr => z2.2.2.2.1 g hg ?_, fun k hk => ?_, fr_t d6 (fr_t fq (fr_m z2.2.2.2.2 (by simp) (by simp)))⟩
      · unfold rdy; rw [e14]; exact d4 g hg hr
      · rw [z2.2.2.2.2.1 16 (by decide), q4 k hk]; exact d5 k hk
    have hx2 : z.2.1 16 7 = (dw x).2 := by rw [z2.2.2.2.2.1 16 (by decide)]; exact q2
    rw [z1, yr, nI_1]
    have hle := dd_le (m := m) (s := s) (dv (dw x).1.toInt64)
    by_cases c : (dd m s (dv (dw x).1.toInt64)).1 = 0
    · rw [c, if_pos rfl, nI_1]
      exact Ok.pos rfl (ih n (i + 1) (j + 1) _ _ z.2 (by omega) (by omega) (by omega) (dd_SO hO hs _) hd2 hx2)
    · rw [if_neg c, nI_1]
      rw [dd_n c] at hd2
      exact Ok.neg (by rw [show (0 : Int32) = nI 0 from rfl, nI_eq (by omega) (by omega)]; exact c) (ih n (i + 1) j _ _ z.2 (by omega) (by omega) (by omega) hs hd2 hx2)
theorem RC_S3 {A : AbT} {s' : StT} {h h' : abJ} (hW : WF A) (hR : RC A h) (d : cD3 (aM A) s' h h') : RC (upS A s') h' ∧ abv h h' := by
  obtain ⟨d1, d2, d3, d4, d5, d6⟩ := d
  refine ⟨⟨cM_fr hR.1 d6 (by decide) (by decide) (by decide) (by decide), d1, d2, d3, ⟨?_, fun i hi => ⟨?_, ?_⟩⟩, ?_⟩, abv_fr d6 (by decide) (by simp)⟩
  · rw [d5 6 (by decide)]; exact hR.2.2.2.2.1.1
  · have h10 := hW.2.2.1.1
    have hi : i < (aU A).length := hi
    exact cS_fr (hR.2.2.2.2.1.2 i hi).1 d6 (by simp; omega)
  · exact d4 _ (hW.2.2.1.2 i hi).2.2 (hR.2.2.2.2.1.2 i hi).2
  · exact cRest_eq (A := A) (RC_rest hR) (fun o ho => d6.1 o (by revert ho; revert o; decide)) (fun o ho => d6.2 o (by simp))
theorem r_year_L {A : AbT} {h0 : abJ} (hW : WF A) (hR : RR A h0) (h71 : rS (aS A) (h0.1 71)) {N : Nat} (hN : N ≤ 40) : ∀ (k n i j : Nat) (x : Int32) (s : StT) (h : abJ), i + k = N → j ≤ i → k < n → SO (aM A) s → rD2 [19] s h0 h → h.1 64 19 = x → (j = 0 → s = aS A) → Ok (fX12_year_L34 n (nI N) (nI j) (nI i) h) (fun r => r.1 = nI (yr (aM A) k x j s).1 ∧ RR (if (yr (aM A) k x j s).1 = 0 then A else upU (upS A (yr (aM A) k x j s).2) (pU (aU A) (aS A))) r.2 ∧ blw h0 r.2) := by
  have hO := hW.1
  intro k
  induction k with
  | zero =>
    intro n i j x s h hi hj hn hs hd hx h0j
    obtain ⟨n, rfl⟩ : ∃ n0, n = n0 + 1 := ⟨n - 1, by omega⟩
    rw [fX12_year_L34, yr]
    refine Ok.pos (by rw [nI_leI (by omega) (by omega)]; omega) ?_
    by_cases c : j = 0
    · rw [if_pos c, c]
      have e := h0j c
      subst e
      obtain ⟨a, b⟩ := RR_S hW hR hd.1 hd.2.1 (fD2 hd (by decide))
      exact Ok.pos (by decide) (Ok.some ⟨rfl, a, b⟩)
    · rw [if_neg c]
      refine Ok.neg (by rw [show (0 : Int32) = nI 0 from rfl, nI_leI (by omega) (by omega)]; omega) ?_
      exact Ok.bind (r_push2 hW hs hR h71 hd (by decide)) (fun z hz => Ok.some ⟨rfl, hz.1, hz.2⟩)
  | succ k ih =>
    intro n i j x s h hi hj hn hs hd hx h0j
    obtain ⟨n, rfl⟩ : ∃ n0, n = n0 + 1 := ⟨n - 1, by omega⟩
    rw [fX12_year_L34]
    refine Ok.neg (by rw [nI_leI (by omega) (by omega)]; omega) (Ok.bind (r_drawn h) (fun r hr => ?_))
    rw [hx] at hr
    obtain ⟨q1, q2, q3⟩ := hr
    have e65 : r.2.1 65 = h.1 65 := q3.1 65 (by simp) (by decide)
    have hd1 : rD2 [19] s h0 r.2 := ⟨by rw [e65]; exact hd.1, fun q hq => by rw [e65]; exact hd.2.1 q hq, frR_t hd.2.2 (frR_m q3 (by simp) (by simp) (by simp))⟩
    have hM1 : rM (aM A) (r.2.1 65) := rM_eq hO hR.1 (fun q hq => hd1.2.1 q (by omega))
    rw [q1, r_whyNot hO hs hM1 hd1.1, ab_bindS, yr]
    unfold fX12_year_J68
    rw [nI_1]
    have hle := dd_le (m := aM A) (s := s) (dv (dw x).1.toInt64)
    by_cases c : (dd (aM A) s (dv (dw x).1.toInt64)).1 = 0
    · have hv : (dw x).1 = nI (dv (dw x).1.toInt64) := by
        rcases dv_cs (dw x).1.toInt64 with ⟨_, e⟩ | ⟨k, hk, e1, e2⟩
        · rw [e] at c
          have ed : dd (aM A) s 200 = (1, s) := by simp [dd]
          rw [ed] at c; cases c
        · rw [e2]
          have := congrArg Int64.toInt32 e1
          rw [lN_i, lg_l2i_i2l] at this
          exact this
      rw [if_pos c, c, nI_1]
      refine Ok.pos rfl ?_
      rw [hv]
      refine Ok.bind (r_does hO hs hM1 hd1.1 c) (fun h2 hr2 => ?_)
      rw [← hv]
      refine ih n (i + 1) (j + 1) _ _ h2 (by omega) (by omega) (by omega) (dd_SO hO hs _) (rD2_t hd1 (rD2_of hr2)) ?_ (fun q => by omega)
      rw [hr2.2.2.2.1 19 (by simp)]; exact q2
    · rw [if_neg c, nI_1]
      exact Ok.neg (by rw [show (0 : Int32) = nI 0 from rfl, nI_eq (by omega) (by omega)]; exact c) (ih n (i + 1) j _ _ r.2 (by omega) (by omega) (by omega) hs hd1 q2 h0j)
theorem call_year (x y : Int32) : call2 (fX11_year x y) (fX12_year x y) := by
  intro A hW
  have hO := hW.1
  have hs := hW.2.1
  by_cases cy : y < nI 1 ∨ nI 40 < y
  · refine call2_no (v := -3) hW (fun h hR => ?_) (fun h hR => ?_)
    · unfold fX11_year
      by_cases c1 : y < 1
      · exact Ok.pos c1 (Ok.some ⟨rfl, hR, abv_r _⟩)
      · exact Ok.neg c1 (Ok.neg (by rw [Int32.not_le]; exact cy.resolve_left c1) (Ok.some ⟨rfl, hR, abv_r _⟩))
    · obtain ⟨hR0, b0⟩ := RR0 hR
      unfold fX12_year
      rw [r_win _ (a := nI 1) (b := nI 40) (A := 1) (B := 40) rfl rfl, ab_bindS, decide_eq_true cy]
      exact Ok.pos rfl (Ok.some ⟨rfl, hR0, b0⟩)
  obtain ⟨N, hN, rfl⟩ : ∃ N, N < 2 ^ 31 ∧ y = nI N := nI_of (fun q => cy (Or.inl (Int32.lt_trans q (by decide))))
  have cy' := cy
  rw [nI_ltI (by omega) (by omega), nI_ltI (by omega) (by omega)] at cy'
  have hb := yr_b (m := aM A) N x 0 (aS A)
  have hs2 := yr_SO hO N x 0 (aS A) hs
  refine ⟨nI (yr (aM A) N x 0 (aS A)).1, if (yr (aM A) N x 0 (aS A)).1 = 0 then A else upU (upS A (yr (aM A) N x 0 (aS A)).2) (pU (aU A) (aS A)), ?_, fun h hR => ?_, fun h hR => ?_⟩
  · split
    · exact hW
    · exact WF_U (A := upS A (yr (aM A) N x 0 (aS A)).2) (WF_S hW hs2) hs
  · unfold fX11_year
    refine Ok.neg (by rw [show (1 : Int32) = nI 1 from rfl, nI_ltI (by omega) (by omega)]; omega) (Ok.pos (by rw [show (40 : Int32) = nI 40 from rfl, nI_leI (by omega) (by omega)]; omega) (Ok.bind (c_begin hW hR) (fun h1 hr => ?_)))
    unfold fX0_liveYear
    have hd0 : cD3 (aM A) (aS A) h1 (ab_wI h1 16 7 x) := by
      have e : ∀ o, o ≠ 16 → (ab_wI h1 16 7 x).1 o = h1.1 o := fun o ho => ab_w1n ho
      refine ⟨?_, ?_, ?_, fun g hg hr => ?_, fun k hk => ab_w1k hk, fr_w (fr_r _ _ _) (by simp)⟩
      · unfold cS; rw [e 12 (by decide)]; exact hr.2.1.2.1
      · unfold cK rdy; rw [e 13 (by decide), e 14 (by decide)]; exact hr.2.1.2.2.1
      · unfold rdy; rw [e 14 (by decide)]; exact hr.2.1.2.2.2.1
      · unfold rdy; rw [e 14 (by decide)]; exact hr
    refine Ok.bind (c_year_L hO hr.2.1.1 (show N ≤ 40 by omega) N ab_N 0 0 x (aS A) _ (by omega) (by omega) (by unfold ab_N; omega) hs hd0 (ab_w1e _ _ _ _)) (fun r hr2 => ?_)
    rw [hr2.1]
    obtain ⟨a, b⟩ := RC_S3 hW hr.2.1 hr2.2
    by_cases c : (yr (aM A) N x 0 (aS A)).1 = 0
    · rw [if_pos c, c]
      rw [hb.2.2 c] at a
      unfold fX0_end
      rw [if_pos (show nI 0 = 0 from rfl), ab_bindS]
      exact Ok.some ⟨rfl, a, abv_t hr.2.2 b⟩
    · rw [if_neg c]
      refine Ok.bind (c_end (A := upS A (yr (aM A) N x 0 (aS A)).2) (s0 := aS A) (d := (yr (aM A) N x 0 (aS A)).1) (WF_S hW hs2) a (cS_fr hr.1 hr2.2.2.2.2.2.2 (by decide)) (hr2.2.2.2.2.1 _ hs.2.2 hr.2.1.2.2.2.1) (by omega) (by omega)) (fun z hz => Ok.some ⟨rfl, hz.1, abv_t hr.2.2 (abv_t b hz.2.1)⟩)
  · obtain ⟨hR0, b0⟩ := RR0 hR
    unfold fX12_year
    rw [r_win _ (a := nI 1) (b := nI 40) (A := 1) (B := 40) rfl rfl, ab_bindS, decide_eq_false cy]
    refine Ok.neg (by decide) (Ok.bind (r_stA hW hR0) (fun h1 hr => ?_))
    refine (r_year_L hW hr.2.1 hr.1 (show N ≤ 40 by omega) N ab_N 0 0 x (aS A) (ab_wI h1 64 19 x) (by omega) (by omega) (by unfold ab_N; omega) hs (rD2_64 (rD2_of (rD_r hr.2.1.2.1)) (by simp)) (ab_w1e _ _ _ _) (fun _ => rfl)).mono (fun z hz => ⟨hz.1, hz.2.1, blw_t b0 (blw_t hr.2.2.1 hz.2.2)⟩)
