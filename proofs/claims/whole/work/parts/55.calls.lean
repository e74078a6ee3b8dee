/-! Calls: step, steps, turn, setsOut, fog. -/
theorem c_begin {A : AbT} {h : abJ} (hW : WF A) (hR : RC A h) : Ok (fX0_begin h) (fun h' => cS (aS A) 17 h' ∧ RC A h' ∧ abv h h') := by
  unfold fX0_begin
  refine Ok.bind (c_copy (by decide) hR.2.1) (fun r hr => Ok.some ?_)
  obtain ⟨a, b⟩ := RC_sc hW hR (fr_m hr.2 (by decide) (by simp))
  exact ⟨hr.1, a, b⟩
theorem abv_t {h h1 h2 : abJ} (a : abv h h1) (b : abv h1 h2) : abv h h2 := fun o ho => ⟨(b o ho).1.trans (a o ho).1, (b o ho).2.trans (a o ho).2⟩
theorem blw_t {h h1 h2 : abJ} (a : blw h h1) (b : blw h1 h2) : blw h h2 := fun o ho => ⟨(b o ho).1.trans (a o ho).1, (b o ho).2.trans (a o ho).2⟩
theorem abv_r (h : abJ) : abv h h := fun _ _ => ⟨rfl, rfl⟩
theorem blw_r (h : abJ) : blw h h := fun _ _ => ⟨rfl, rfl⟩
theorem c_push {A : AbT} {s' : StT} {h h1 : abJ} {d : Nat} (hW : WF A) (hs' : SO (aM A) s') (hR : RC A h) (h17 : cS (aS A) 17 h) (hd : cD (aM A) 12 s' h h1) (h0 : 0 < d) (hd2 : d < 2 ^ 31) : Ok (fX0_end (nI d) h1) (fun h' => RC (upU (upS A s') (pU (aU A) (aS A))) h' ∧ abv h h' ∧ h'.1 12 = h1.1 12) := by
  obtain ⟨a, b⟩ := RC_S hW hR hd
  refine (c_end (A := upS A s') (s0 := aS A) (WF_S hW hs') a (cS_fr h17 hd.2.2.2.2 (by decide)) (hd.2.2.2.1 _ hW.2.1.2.2 hR.2.2.2.1) h0 hd2).mono (fun h' hr => ⟨hr.1, abv_t b hr.2.1, hr.2.2⟩)
theorem c_ended {A : AbT} {s' : StT} {h h1 : abJ} {x : Int32} (hW : WF A) (hs' : SO (aM A) s') (hR : RC A h) (h17 : cS (aS A) 17 h) (hd : cD (aM A) 12 s' h h1) : Ok (fX11_ended (nI 0) x h1) (fun r => r.1 = x ∧ RC (upU (upS A s') (pU (aU A) (aS A))) r.2 ∧ abv h r.2) := by
  unfold fX11_ended
  refine Ok.pos rfl (Ok.bind (c_push hW hs' hR h17 hd (d := 1) (by omega) (by omega)) (fun r hr => Ok.some ⟨rfl, hr.1, hr.2.1⟩))
theorem c_ended_n {A : AbT} {h h1 : abJ} {x : Int32} {w : Nat} (hW : WF A) (hR : RC A h) (hd : cD (aM A) 12 (aS A) h h1) (h0 : 0 < w) (hw : w < 3) : Ok (fX11_ended (nI w) x h1) (fun r => r.1 = -nI (10 + w) ∧ RC A r.2 ∧ abv h r.2) := by
  obtain ⟨a, b⟩ := RC_S hW hR hd
  unfold fX11_ended
  refine Ok.neg (by rw [show (0 : Int32) = nI 0 from rfl, nI_eq (by omega) (by omega)]; omega) (Ok.some ⟨?_, a, b⟩)
  have : w = 1 ∨ w = 2 := by omega
  rcases this with e | e <;> subst e
  · exact (show (-10 : Int32) - nI 1 = -nI (10 + 1) from by decide)
  · exact (show (-10 : Int32) - nI 2 = -nI (10 + 2) from by decide)
theorem r_stA {A : AbT} {h : abJ} (hW : WF A) (hR : RR A h) : Ok (fX12_stores h) (fun h' => rS (aS A) (h'.1 71) ∧ RR A h' ∧ blw h h' ∧ h'.1 65 = h.1 65) := by
  refine (r_stores h).mono (fun h' hr => ?_)
  obtain ⟨a, b⟩ := RR_sc hR (frR_m (frR_o (K := []) hr.2 (by decide)) (by simp) (by decide) (by simp))
  exact ⟨rS_eq hR.2.1 (fun q hq => hr.1 q hq), a, b, hr.2.1 65 (by decide)⟩
theorem fD {s' : StT} {h h' : abJ} (d : rD s' h h') : frR sk1 sc65 [80, 81] h h' := frR_m d.2.2 (by simp) (by decide) (by simp)
theorem r_push {A : AbT} {s' : StT} {h h1 : abJ} (hW : WF A) (hs' : SO (aM A) s') (hR : RR A h) (h71 : rS (aS A) (h.1 71)) (hd : rD s' h h1) : Ok (fX12_notes h1) (fun h' => RR (upU (upS A s') (pU (aU A) (aS A))) h' ∧ blw h h' ∧ (∀ q, q < 42 → h'.1 65 q = h1.1 65 q) ∧ h'.1 71 = h.1 71) := by
  obtain ⟨a, b⟩ := RR_S hW hR hd.1 hd.2.1 (fD hd)
  have e71 : h1.1 71 = h.1 71 := hd.2.2.1 71 (by decide) (by decide)
  refine (r_notes (A := upS A s') (s0 := aS A) (WF_S hW hs') a (by rw [e71]; exact h71)).mono (fun h' hr => ⟨hr.1, blw_t b hr.2.1, hr.2.2.1, hr.2.2.2.trans e71⟩)
theorem dd_n {m : MoT} {s : StT} {k : Nat} (h : (dd m s k).1 ≠ 0) : (dd m s k).2 = s := by
  revert h
  unfold dd
  split
  · split
    · intro _; rfl
    · intro h; exact absurd rfl h
  · split
    · intro _; rfl
    · split
      · intro h; exact absurd rfl h
      · split
        · split
          · intro h; exact absurd rfl h
          · intro _; rfl
        · split
          · intro _; rfl
          · split
            · split
              · intro h; exact absurd rfl h
              · intro _; rfl
            · intro _; rfl
theorem dd_0 {m : MoT} {s : StT} (hs : SO m s) (h6 : mP m ≤ 6) : (dd m s 0).1 = if rs m (sW s) then 2 else 0 := by
  unfold dd
  rw [if_pos rfl]
  cases c : rs m (sW s) with
  | true => rw [(rs_nx hs h6).mpr c]; rfl
  | false =>
    cases e2 : nx m (sF s) (6 * sA s + sW s) with
    | none => rw [(rs_nx hs h6).mp e2] at c; cases c
    | some t => rfl
theorem RR0 {A : AbT} {h : abJ} (hR : RR A h) : RR A (ab_wI h 64 0 0) ∧ blw h (ab_wI h 64 0 0) := RR_sc hR (frR_64 (frR_r sk1 sc1 [80, 81] h) (by decide))
/-- both refuse, and all stays -/
theorem call2_no {α : Type} {c r : abJ → Option (α × abJ)} {A : AbT} {v : α} (hW : WF A) (hc : ∀ h, RC A h → Ok (c h) (fun x => x.1 = v ∧ RC A x.2 ∧ abv h x.2)) (hr : ∀ h, RR A h → Ok (r h) (fun x => x.1 = v ∧ RR A x.2 ∧ blw h x.2)) : ∃ (v : α) (A' : AbT), WF A' ∧ (∀ h, RC A h → Ok (c h) (fun x => x.1 = v ∧ RC A' x.2 ∧ abv h x.2)) ∧ (∀ h, RR A h → Ok (r h) (fun x => x.1 = v ∧ RR A' x.2 ∧ blw h x.2)) := ⟨v, A, hW, hc, hr⟩
theorem call_step : call2 fX11_step fX12_step := by
  intro A hW
  have hO := hW.1
  have h6 := hO.2.1
  have hs := hW.2.1
  have hw := hs.1
  have ed := dd_0 hs h6
  cases c : rs (aM A) (sW (aS A)) with
  | true =>
    rw [c, if_pos rfl] at ed
    have e2 := dd_n (m := aM A) (s := aS A) (k := 0) (by omega)
    refine call2_no (v := -12) hW (fun h hR => ?_) (fun h hR => ?_)
    · unfold fX11_step
      refine Ok.bind (c_begin hW hR) (fun h1 hr => ?_)
      refine Ok.bind (c_goOn hO (by decide) hr.2.1.1 hr.2.1.2.2.1 hs hr.2.1.2.1 hr.2.1.2.2.2.1) (fun r hr2 => ?_)
      rw [hr2.1, ed]
      rw [e2] at hr2
      refine Ok.bind (c_ended_n hW hr.2.1 hr2.2 (by omega) (by omega)) (fun z hz => Ok.some ⟨?_, hz.2.1, abv_t hr.2.2 hz.2.2⟩)
      rw [hz.1]; decide
    · obtain ⟨hR0, b0⟩ := RR0 hR
      unfold fX12_step
      rw [show (ab_wI h 64 0 0).1 65 33 = nI (sW (aS A)) from hR0.2.1.1, r_isRest hO hR0.1 (by omega), ab_bindS, c]
      exact Ok.neg (by decide) (Ok.some ⟨rfl, hR0, b0⟩)
  | false =>
    rw [c, if_neg (by decide)] at ed
    have hs2 := dd_SO hO hs 0
    refine ⟨nI (sW (dd (aM A) (aS A) 0).2), upU (upS A (dd (aM A) (aS A) 0).2) (pU (aU A) (aS A)), WF_U (A := upS A (dd (aM A) (aS A) 0).2) (WF_S hW hs2) hs, fun h hR => ?_, fun h hR => ?_⟩
    · unfold fX11_step
      refine Ok.bind (c_begin hW hR) (fun h1 hr => ?_)
      refine Ok.bind (c_goOn hO (by decide) hr.2.1.1 hr.2.1.2.2.1 hs hr.2.1.2.1 hr.2.1.2.2.2.1) (fun r hr2 => ?_)
      rw [hr2.1, ed, hr2.2.1.1]
      exact Ok.bind (c_ended hW hs2 hr.2.1 hr.1 hr2.2) (fun z hz => Ok.some ⟨hz.1, hz.2.1, abv_t hr.2.2 hz.2.2⟩)
    · obtain ⟨hR0, b0⟩ := RR0 hR
      unfold fX12_step
      rw [show (ab_wI h 64 0 0).1 65 33 = nI (sW (aS A)) from hR0.2.1.1, r_isRest hO hR0.1 (by omega), ab_bindS, c]
      refine Ok.pos (by decide) ?_
      refine Ok.bind (r_stA hW hR0) (fun h1 hr => ?_)
      refine Ok.bind (r_goesStep hO hs hr.2.1.1 hr.2.1.2.1 c) (fun h2 hr2 => ?_)
      refine Ok.bind (r_push hW hs2 hr.2.1 hr.1 hr2) (fun h3 hr3 => Ok.some ⟨?_, hr3.1, blw_t b0 (blw_t hr.2.2.1 hr3.2.1)⟩)
      show h3.1 65 33 = _
      rw [hr3.2.2.1 33 (by omega)]
      exact hr2.1.1
/-- some steps, till it rests -/
def stp (m : MoT) : Nat → StT → Nat × StT
  | 0, s => (0, s)
  | n + 1, s => if (dd m s 0).1 = 0 then ((stp m n (dd m s 0).2).1 + 1, (stp m n (dd m s 0).2).2) else (0, s)
theorem stp_SO {m : MoT} (hO : MO m) : ∀ (n : Nat) (s : StT), SO m s → SO m (stp m n s).2
  | 0, s, h => h
  | n + 1, s, h => by
    rw [stp]
    split
    · exact stp_SO hO n _ (dd_SO hO h 0)
    · exact h
theorem stp_le {m : MoT} : ∀ (n : Nat) (s : StT), (stp m n s).1 ≤ n
  | 0, s => Nat.le_refl _
  | n + 1, s => by
    rw [stp]
    split
    · have := stp_le (m := m) n (dd m s 0).2
      show (stp m n (dd m s 0).2).1 + 1 ≤ n + 1
      omega
    · exact Nat.zero_le _
theorem dd_N {m : MoT} {s : StT} (h : (dd m s 0).1 = 0) : sN (dd m s 0).2 = sN s + 1 := by
  revert h
  unfold dd
  rw [if_pos rfl]
  split
  · intro h; cases h
  · intro _; rfl
theorem stp_N {m : MoT} : ∀ (n : Nat) (s : StT), sN (stp m n s).2 = sN s + (stp m n s).1
  | 0, s => rfl
  | n + 1, s => by
    rw [stp]
    split
    · rename_i h
      show sN (stp m n (dd m s 0).2).2 = sN s + ((stp m n (dd m s 0).2).1 + 1)
      rw [stp_N n, dd_N h]; omega
    · rfl
theorem stp_0 {m : MoT} {n : Nat} {s : StT} (h : (stp m n s).1 = 0) : (stp m n s).2 = s := by
  cases n with
  | zero => rfl
  | succ n =>
    rw [stp] at h ⊢
    split at h
    · cases h
    · rename_i c; rw [if_neg c]
theorem cD_t {m : MoT} {s1 s2 : StT} {h h1 h2 : abJ} (a : cD m 12 s1 h h1) (b : cD m 12 s2 h1 h2) : cD m 12 s2 h h2 := ⟨b.1, b.2.1, b.2.2.1, fun g hg hr => b.2.2.2.1 g hg (a.2.2.2.1 g hg hr), fr_t a.2.2.2.2 b.2.2.2.2⟩
theorem rD_t {s1 s2 : StT} {h h1 h2 : abJ} (a : rD s1 h h1) (b : rD s2 h1 h2) : rD s2 h h2 := ⟨b.1, fun q hq => (b.2.1 q hq).trans (a.2.1 q hq), frR_t a.2.2 b.2.2⟩
theorem c_steps_L {A : AbT} {h0 : abJ} (hW : WF A) (hR : RC A h0) (h17 : cS (aS A) 17 h0) {N : Nat} (hN : N ≤ 99) : ∀ (k n j : Nat) (s : StT) (h : abJ), j + k = N → k < n → SO (aM A) s → cD (aM A) 12 s h0 h → (j = 0 → s = aS A) → Ok (fX11_steps_L23 n (nI N) (nI j) h) (fun r => r.1 = nI (j + (stp (aM A) k s).1) ∧ RC (if j + (stp (aM A) k s).1 = 0 then A else upU (upS A (stp (aM A) k s).2) (pU (aU A) (aS A))) r.2 ∧ abv h0 r.2) := by
  have hO := hW.1
  have fin : ∀ (j : Nat) (s : StT) (h : abJ), j ≤ 99 → SO (aM A) s → cD (aM A) 12 s h0 h → (j = 0 → s = aS A) → Ok ((fX0_end (nI j) h).bind (fun r5 => some (nI j, r5))) (fun r => r.1 = nI j ∧ RC (if j = 0 then A else upU (upS A s) (pU (aU A) (aS A))) r.2 ∧ abv h0 r.2) := by
    intro j s h hj hs hd h0j
    by_cases c : j = 0
    · subst c
      have e := h0j rfl
      subst e
      obtain ⟨a, b⟩ := RC_S hW hR hd
      unfold fX0_end
      rw [if_pos (show nI 0 = 0 from rfl), ab_bindS, if_pos rfl]
      exact Ok.some ⟨rfl, a, b⟩
    · rw [if_neg c]
      exact Ok.bind (c_push hW hs hR h17 hd (by omega) (by omega)) (fun r hr => Ok.some ⟨rfl, hr.1, hr.2.1⟩)
  intro k
  induction k with
  | zero =>
    intro n j s h hj hn hs hd h0j
    obtain ⟨n, rfl⟩ : ∃ n0, n = n0 + 1 := ⟨n - 1, by omega⟩
    rw [fX11_steps_L23]
    refine Ok.pos (by rw [nI_leI (by omega) (by omega)]; omega) ?_
    exact fin j s h (by omega) hs hd h0j
  | succ k ih =>
    intro n j s h hj hn hs hd h0j
    obtain ⟨n, rfl⟩ : ∃ n0, n = n0 + 1 := ⟨n - 1, by omega⟩
    rw [fX11_steps_L23]
    refine Ok.neg (by rw [nI_leI (by omega) (by omega)]; omega) ?_
    have hM := cM_fr hR.1 hd.2.2.2.2 (by decide) (by decide) (by decide) (by decide)
    refine Ok.bind (c_goOn hO (by decide) hM hd.2.1 hs hd.1 hd.2.2.1) (fun r hr => ?_)
    rw [hr.1, stp]
    by_cases c : (dd (aM A) s 0).1 = 0
    · rw [c, if_pos rfl]
      refine Ok.pos rfl ?_
      rw [nI_1]
      refine (ih n (j + 1) _ r.2 (by omega) (by omega) (dd_SO hO hs 0) (cD_t hd hr.2) (fun q => by omega)).mono (fun z hz => ?_)
      rw [show j + ((stp (aM A) k (dd (aM A) s 0).2).1 + 1) = j + 1 + (stp (aM A) k (dd (aM A) s 0).2).1 by omega]
      exact hz
    · have e2 := dd_n c
      rw [if_neg c]
      have h3 : (dd (aM A) s 0).1 ≤ 2 := by rw [dd_0 hs hO.2.1]; split <;> omega
      refine Ok.neg (by rw [show (0 : Int32) = nI 0 from rfl, nI_eq (by omega) (by omega)]; exact c) ?_
      rw [e2] at hr
      exact fin j s r.2 (by omega) hs (cD_t hd hr.2) h0j
theorem r_steps_L {A : AbT} {h0 : abJ} (hW : WF A) (hR : RR A h0) (h71 : rS (aS A) (h0.1 71)) {N : Nat} (hN : N ≤ 99) : ∀ (k n j : Nat) (s : StT) (h : abJ), j + k = N → k < n → SO (aM A) s → rD s h0 h → sN s = sN (aS A) + j → Ok (fX12_steps_L42 n (nI N) (nI j) h) (fun r => r.1 = nI (j + (stp (aM A) k s).1) ∧ RR (upU (upS A (stp (aM A) k s).2) (pU (aU A) (aS A))) r.2 ∧ blw h0 r.2) := by
  have hO := hW.1
  have h6 := hO.2.1
  have fin : ∀ (j : Nat) (s : StT) (h : abJ), SO (aM A) s → rD s h0 h → sN s = sN (aS A) + j → Ok ((fX12_notes h).bind (fun r7 => some ((r7.1 65 41) - (r7.1 71 8), r7))) (fun r => r.1 = nI j ∧ RR (upU (upS A s) (pU (aU A) (aS A))) r.2 ∧ blw h0 r.2) := by
    intro j s h hs hd hn
    refine Ok.bind (r_push hW hs hR h71 hd) (fun h' hr => Ok.some ⟨?_, hr.1, hr.2.1⟩)
    show h'.1 65 41 - h'.1 71 8 = nI j
    rw [hr.2.2.1 41 (by omega), hr.2.2.2, show h.1 65 41 = nI (sN s) from hd.1.2.2.2, h71.2.2.2, hn, pk_sub (by omega)]
    congr 1
    omega
  intro k
  induction k with
  | zero =>
    intro n j s h hj hn hs hd hN2
    obtain ⟨n, rfl⟩ : ∃ n0, n = n0 + 1 := ⟨n - 1, by omega⟩
    rw [fX12_steps_L42]
    exact Ok.pos (by rw [nI_leI (by omega) (by omega)]; omega) (fin j s h hs hd hN2)
  | succ k ih =>
    intro n j s h hj hn hs hd hN2
    obtain ⟨n, rfl⟩ : ∃ n0, n = n0 + 1 := ⟨n - 1, by omega⟩
    have hM := rM_eq hO hR.1 (fun q hq => hd.2.1 q (by omega))
    have hw := hs.1
    rw [fX12_steps_L42]
    refine Ok.neg (by rw [nI_leI (by omega) (by omega)]; omega) ?_
    rw [show h.1 65 33 = nI (sW s) from hd.1.1, r_isRest hO hM (by omega), ab_bindS, stp]
    cases c : rs (aM A) (sW s) with
    | true =>
      rw [if_neg (show ¬ (dd (aM A) s 0).1 = 0 by rw [dd_0 hs h6, c]; decide)]
      exact Ok.neg (by decide) (fin j s h hs hd hN2)
    | false =>
      rw [if_pos (show (dd (aM A) s 0).1 = 0 by rw [dd_0 hs h6, c]; rfl)]
      refine Ok.pos (by decide) (Ok.bind (r_goesStep hO hs hM hd.1 c) (fun h1 hr => ?_))
      rw [nI_1]
      refine (ih n (j + 1) _ h1 (by omega) (by omega) (dd_SO hO hs 0) (rD_t hd hr) ?_).mono (fun z hz => ?_)
      · rw [dd_N (by rw [dd_0 hs h6, c]; rfl)]; omega
      · rw [show j + ((stp (aM A) k (dd (aM A) s 0).2).1 + 1) = j + 1 + (stp (aM A) k (dd (aM A) s 0).2).1 by omega]
        exact hz
theorem call_steps (x : Int32) : call2 (fX11_steps x) (fX12_steps x) := by
  intro A hW
  have hO := hW.1
  have h6 := hO.2.1
  have hs := hW.2.1
  have hw := hs.1
  have out : (x < nI 1 ∨ nI 99 < x) → ∃ (v : Int32) (A' : AbT), WF A' ∧ (∀ h, RC A h → Ok (fX11_steps x h) (fun x => x.1 = v ∧ RC A' x.2 ∧ abv h x.2)) ∧ (∀ h, RR A h → Ok (fX12_steps x h) (fun x => x.1 = v ∧ RR A' x.2 ∧ blw h x.2)) := by
    intro hx
    refine call2_no (v := -3) hW (fun h hR => ?_) (fun h hR => ?_)
    · unfold fX11_steps
      by_cases c1 : x < 1
      · exact Ok.pos c1 (Ok.some ⟨rfl, hR, abv_r _⟩)
      · exact Ok.neg c1 (Ok.neg (by rw [Int32.not_le]; exact hx.resolve_left c1) (Ok.some ⟨rfl, hR, abv_r _⟩))
    · obtain ⟨hR0, b0⟩ := RR0 hR
      unfold fX12_steps
      rw [r_win _ (a := nI 1) (b := nI 99) (A := 1) (B := 99) rfl rfl, ab_bindS, decide_eq_true hx]
      exact Ok.pos rfl (Ok.some ⟨rfl, hR0, b0⟩)
  by_cases cx : x < nI 1 ∨ nI 99 < x
  · exact out cx
  have c0 : ¬ x < 1 := fun q => cx (Or.inl q)
  have c1 : x ≤ 99 := Int32.not_lt.mp (fun q => cx (Or.inr q))
  obtain ⟨N, hN, rfl⟩ : ∃ N, N < 2 ^ 31 ∧ x = nI N := nI_of (fun q => c0 (Int32.lt_trans q (by decide)))
  rw [show (1 : Int32) = nI 1 from rfl, nI_ltI (by omega) (by omega)] at c0
  rw [show (99 : Int32) = nI 99 from rfl, nI_leI (by omega) (by omega)] at c1
  have hs2 := stp_SO hO N (aS A) hs
  have hle := stp_le (m := aM A) N (aS A)
  refine ⟨nI (stp (aM A) N (aS A)).1, if (stp (aM A) N (aS A)).1 = 0 then A else upU (upS A (stp (aM A) N (aS A)).2) (pU (aU A) (aS A)), ?_, fun h hR => ?_, fun h hR => ?_⟩
  · split
    · exact hW
    · exact WF_U (A := upS A (stp (aM A) N (aS A)).2) (WF_S hW hs2) hs
  · unfold fX11_steps
    refine Ok.neg (by rw [show (1 : Int32) = nI 1 from rfl, nI_ltI (by omega) (by omega)]; omega) (Ok.pos (by rw [show (99 : Int32) = nI 99 from rfl, nI_leI (by omega) (by omega)]; omega) ?_)
    refine Ok.bind (c_begin hW hR) (fun h1 hr => ?_)
    refine (c_steps_L hW hr.2.1 hr.1 c1 N ab_N 0 (aS A) h1 (by omega) (by unfold ab_N; omega) hs (cD_r hr.2.1.2.2.1 hr.2.1.2.1 hr.2.1.2.2.2.1) (fun _ => rfl)).mono (fun z hz => ?_)
    rw [Nat.zero_add] at hz
    exact ⟨hz.1, hz.2.1, abv_t hr.2.2 hz.2.2⟩
  · obtain ⟨hR0, b0⟩ := RR0 hR
    unfold fX12_steps
    rw [r_win _ (a := nI 1) (b := nI 99) (A := 1) (B := 99) rfl rfl, ab_bindS, decide_eq_false cx]
    refine Ok.neg (by decide) ?_
    rw [show (ab_wI h 64 0 0).1 65 33 = nI (sW (aS A)) from hR0.2.1.1, r_isRest hO hR0.1 (by omega), ab_bindS]
    cases c : rs (aM A) (sW (aS A)) with
    | true =>
      have e0 : (stp (aM A) N (aS A)).1 = 0 := by
        cases N with
        | zero => rfl
        | succ N => rw [stp, if_neg (show ¬ (dd (aM A) (aS A) 0).1 = 0 by rw [dd_0 hs h6, c]; decide)]
      rw [e0, if_pos rfl]
      exact Ok.neg (by decide) (Ok.some ⟨rfl, hR0, b0⟩)
    | false =>
      have e0 : ¬ (stp (aM A) N (aS A)).1 = 0 := by
        cases N with
        | zero => omega
        | succ N => rw [stp, if_pos (show (dd (aM A) (aS A) 0).1 = 0 by rw [dd_0 hs h6, c]; rfl)]; exact Nat.succ_ne_zero _
      rw [if_neg e0]
      refine Ok.pos (by decide) (Ok.bind (r_stA hW hR0) (fun h1 hr => ?_))
      refine (r_steps_L hW hr.2.1 hr.1 c1 N ab_N 0 (aS A) h1 (by omega) (by unfold ab_N; omega) hs (rD_r hr.2.1.2.1) rfl).mono (fun z hz => ?_)
      rw [Nat.zero_add] at hz
      exact ⟨hz.1, hz.2.1, blw_t b0 (blw_t hr.2.2.1 hz.2.2)⟩
theorem call_turn (x y : Int32) : call2 (fX11_turn x y) (fX12_turn x y) := by
  intro A hW
  have hO := hW.1
  have h6 := hO.2.1
  have hs := hW.2.1
  have ha := (WF_a hW).2
  by_cases cc : ∃ p r, x = nI p ∧ y = nI r ∧ r < mR (aM A) p
  · obtain ⟨p, r, rfl, rfl, hr⟩ := cc
    obtain ⟨hp, hp6⟩ := mR_p hO hr
    have h3 := hO.2.2.2.2.1 p
    have hs2 : SO (aM A) (mkS (sW (aS A)) (pt (sA (aS A)) p r) (sF (aS A)) (sN (aS A))) := ⟨hs.1, AV_pt hO hs.2.1 (by omega), hs.2.2⟩
    refine ⟨nI (dg (sA (aS A)) p), upU (upS A (mkS (sW (aS A)) (pt (sA (aS A)) p r) (sF (aS A)) (sN (aS A)))) (pU (aU A) (aS A)), WF_U (A := upS A _) (WF_S hW hs2) hs, fun h hR => ?_, fun h hR => ?_⟩
    · unfold fX11_turn
      refine Ok.bind (c_begin hW hR) (fun h1 hr1 => ?_)
      rw [hr1.2.1.2.1.2.1, c_armOf h1 hp6 (by omega), ab_bindS]
      refine Ok.bind (c_turnArm hO (by decide) hr1.2.1.1 hr1.2.1.2.2.1 hs hr1.2.1.2.1 hr1.2.1.2.2.2.1 hr) (fun z hz => ?_)
      rw [hz.1]
      exact Ok.bind (c_ended hW hs2 hr1.2.1 hr1.1 hz.2) (fun w hw => Ok.some ⟨hw.1, hw.2.1, abv_t hr1.2.2 hw.2.2⟩)
    · obtain ⟨hR0, b0⟩ := RR0 hR
      unfold fX12_turn
      rw [r_isPost_in hO hR0.1 hp, ab_bindS]
      refine Ok.neg (by decide) ?_
      rw [r_isRoad hO hR0.1 hp6 (by omega), ab_bindS, decide_eq_true hr]
      refine Ok.neg (by decide) (Ok.bind (r_stA hW hR0) (fun h1 hr1 => ?_))
      rw [show (34 : Int32) = nI 34 from rfl, show (1 : Int32) = nI 1 from rfl, nI_add, nI_add, nI_clamp (by omega), nI_clamp (by omega)]
      refine Ok.ask (ixN (by omega) (by omega)) ?_
      have hS1 := hr1.2.1.2.1
      have hd : rD (mkS (sW (aS A)) (pt (sA (aS A)) p r) (sF (aS A)) (sN (aS A))) h1 (ab_wI h1 65 (34 + p) (nI r)) := by
        refine ⟨rS_mk ?_ (fun q hq => ?_) ?_ ?_, fun q hq => ?_, frR_w (frR_r _ _ _ _) (by simp) (by decide)⟩
        · rw [ab_w1k (by omega)]; exact hS1.1
        · by_cases e : q = p
          · subst e
            rw [ab_w1e]
            show _ = nI (dg (pt _ _ _) _)
            rw [pt_same (by omega)]
          · rw [ab_w1k (by omega), rS_a hS1 hq]
            show _ = nI (dg (pt _ _ _) _)
            rw [pt_other (by omega) e]
        · rw [ab_w1k (by omega)]; exact hS1.2.2.1
        · rw [ab_w1k (by omega)]; exact hS1.2.2.2
        · rw [ab_w1k (by omega)]
      refine Ok.bind (r_push hW hs2 hr1.2.1 hr1.1 hd) (fun h2 hr2 => Ok.ask (ixN (by omega) (by omega)) (Ok.some ⟨?_, hr2.1, blw_t b0 (blw_t hr1.2.2.1 hr2.2.1)⟩))
      show h2.1 71 (1 + p) = _
      rw [hr2.2.2.2]
      exact hr1.1.2.1 p hp6
  · refine call2_no (v := -11) hW (fun h hR => ?_) (fun h hR => ?_)
    · unfold fX11_turn
      refine Ok.bind (c_begin hW hR) (fun h1 hr1 => ?_)
      have ea : ∃ a, fX11_armOf (h1.1 12 1) x h1 = some a := by
        rw [hr1.2.1.2.1.2.1]
        rcases pk_ix x (n := 6) (by omega) with hx | hx | ⟨p, hp, rfl⟩
        · exact ⟨0, by unfold fX11_armOf; rw [if_pos hx]⟩
        · refine ⟨0, ?_⟩
          unfold fX11_armOf
          by_cases c1 : x < 0
          · rw [if_pos c1]
          · rw [if_neg c1, if_neg (by rw [Int32.not_lt]; exact hx)]
        · exact ⟨_, c_armOf h1 hp (by omega)⟩
      obtain ⟨a, ea⟩ := ea
      rw [ea, ab_bindS, c_turnArm_n hO hr1.2.1.1 (fun p r e1 e2 _ _ e3 => cc ⟨p, r, e1, e2, e3⟩), ab_bindS]
      refine Ok.bind (c_ended_n hW hr1.2.1 (cD_r hr1.2.1.2.2.1 hr1.2.1.2.1 hr1.2.1.2.2.2.1) (w := 1) (by omega) (by omega)) (fun z hz => Ok.some ⟨?_, hz.2.1, abv_t hr1.2.2 hz.2.2⟩)
      rw [hz.1]; decide
    · obtain ⟨hR0, b0⟩ := RR0 hR
      unfold fX12_turn
      rcases pk_ix x (n := mP (aM A)) (by omega) with hx | hx | ⟨p, hp, rfl⟩
      · rw [r_isPost_out hO hR0.1 (Or.inl hx), ab_bindS]
        exact Ok.pos rfl (Ok.some ⟨rfl, hR0, b0⟩)
      · rw [r_isPost_out hO hR0.1 (Or.inr hx), ab_bindS]
        exact Ok.pos rfl (Ok.some ⟨rfl, hR0, b0⟩)
      · rw [r_isPost_in hO hR0.1 hp, ab_bindS]
        refine Ok.neg (by decide) ?_
        rcases i_cs y with hy | ⟨k, hk, rfl⟩
        · rw [r_isRoad_n hR0.1 (by omega) hy, ab_bindS]
          exact Ok.pos rfl (Ok.some ⟨rfl, hR0, b0⟩)
        · rw [r_isRoad hO hR0.1 (by omega) hk, ab_bindS, decide_eq_false (fun q => cc ⟨p, k, rfl, rfl, q⟩)]
          exact Ok.pos rfl (Ok.some ⟨rfl, hR0, b0⟩)
theorem call_setsOut (x : Int32) : call2 (fX11_setsOut x) (fX12_setsOut x) := by
  intro A hW
  have hO := hW.1
  have h6 := hO.2.1
  have hs := hW.2.1
  have out : (x < 0 ∨ nI (mP (aM A)) ≤ x) → ∃ (v : Int32) (A' : AbT), WF A' ∧ (∀ h, RC A h → Ok (fX11_setsOut x h) (fun x => x.1 = v ∧ RC A' x.2 ∧ abv h x.2)) ∧ (∀ h, RR A h → Ok (fX12_setsOut x h) (fun x => x.1 = v ∧ RR A' x.2 ∧ blw h x.2)) := by
    intro hx
    refine call2_no (v := -11) hW (fun h hR => ?_) (fun h hR => ?_)
    · unfold fX11_setsOut
      refine Ok.bind (c_begin hW hR) (fun h1 hr1 => ?_)
      unfold fX0_setOut
      rw [c_has_out hr1.2.1.1 hx, ab_bindS, if_pos (show nI 0 = 0 from rfl), ab_bindS]
      refine Ok.bind (c_ended_n hW hr1.2.1 (cD_r hr1.2.1.2.2.1 hr1.2.1.2.1 hr1.2.1.2.2.2.1) (w := 1) (by omega) (by omega)) (fun z hz => Ok.some ⟨?_, hz.2.1, abv_t hr1.2.2 hz.2.2⟩)
      rw [hz.1]; decide
    · obtain ⟨hR0, b0⟩ := RR0 hR
      unfold fX12_setsOut
      rw [r_isPost_out hO hR0.1 hx, ab_bindS]
      exact Ok.pos rfl (Ok.some ⟨rfl, hR0, b0⟩)
  rcases pk_ix x (n := mP (aM A)) (by omega) with hx | hx | ⟨p, hp, rfl⟩
  · exact out (Or.inl hx)
  · exact out (Or.inr hx)
  have hs2 : SO (aM A) (mkS p (sA (aS A)) (sF (aS A)) (sN (aS A))) := ⟨hp, hs.2⟩
  refine ⟨nI (sW (aS A)), upU (upS A (mkS p (sA (aS A)) (sF (aS A)) (sN (aS A)))) (pU (aU A) (aS A)), WF_U (A := upS A _) (WF_S hW hs2) hs, fun h hR => ?_, fun h hR => ?_⟩
  · unfold fX11_setsOut
    refine Ok.bind (c_begin hW hR) (fun h1 hr1 => ?_)
    refine Ok.bind (c_setOut hO (by decide) hr1.2.1.1 hr1.2.1.2.2.1 hr1.2.1.2.1 hr1.2.1.2.2.2.1 hp) (fun z hz => ?_)
    rw [hz.1, hr1.2.1.2.1.1]
    exact Ok.bind (c_ended hW hs2 hr1.2.1 hr1.1 hz.2) (fun w hw => Ok.some ⟨hw.1, hw.2.1, abv_t hr1.2.2 hw.2.2⟩)
  · obtain ⟨hR0, b0⟩ := RR0 hR
    unfold fX12_setsOut
    rw [r_isPost_in hO hR0.1 hp, ab_bindS]
    refine Ok.neg (by decide) (Ok.bind (r_stA hW hR0) (fun h1 hr1 => ?_))
    have hS1 := hr1.2.1.2.1
    have hd : rD (mkS p (sA (aS A)) (sF (aS A)) (sN (aS A))) h1 (ab_wI h1 65 33 (nI p)) := by
      refine ⟨rS_mk ?_ (fun q hq => ?_) ?_ ?_, fun q hq => ?_, frR_w (frR_r _ _ _ _) (by simp) (by decide)⟩
      · rw [ab_w1e]; rfl
      · rw [ab_w1k (by omega)]; exact rS_a hS1 hq
      · rw [ab_w1k (by omega)]; exact hS1.2.2.1
      · rw [ab_w1k (by omega)]; exact hS1.2.2.2
      · rw [ab_w1k (by omega)]
    refine Ok.bind (r_push hW hs2 hr1.2.1 hr1.1 hd) (fun h2 hr2 => Ok.some ⟨?_, hr2.1, blw_t b0 (blw_t hr1.2.2.1 hr2.2.1)⟩)
    show h2.1 71 0 = _
    rw [hr2.2.2.2]
    exact hr1.1.1
theorem call_fog (x : Int32) : call2 (fX11_fog x) (fX12_fog x) := by
  intro A hW
  have hO := hW.1
  have h6 := hO.2.1
  have hs := hW.2.1
  by_cases cx : x < nI 0 ∨ nI 9 < x
  · refine call2_no (v := -11) hW (fun h hR => ?_) (fun h hR => ?_)
    · unfold fX11_fog
      refine Ok.bind (c_begin hW hR) (fun h1 hr1 => ?_)
      have e : fX0_befog 12 x h1 = some (nI 1, h1) := by
        unfold fX0_befog
        by_cases c1 : x < 0
        · rw [if_pos c1]; rfl
        · obtain ⟨k, hk, rfl⟩ := nI_of c1
          have c2 := cx.resolve_left c1
          rw [nI_ltI (by omega) (by omega)] at c2
          rw [if_neg c1, if_neg (by rw [show (10 : Int32) = nI 10 from rfl, nI_ltI (by omega) (by omega)]; omega)]; rfl
      rw [e, ab_bindS]
      refine Ok.bind (c_ended_n hW hr1.2.1 (cD_r hr1.2.1.2.2.1 hr1.2.1.2.1 hr1.2.1.2.2.2.1) (w := 1) (by omega) (by omega)) (fun z hz => Ok.some ⟨?_, hz.2.1, abv_t hr1.2.2 hz.2.2⟩)
      rw [hz.1]; decide
    · obtain ⟨hR0, b0⟩ := RR0 hR
      unfold fX12_fog
      rw [r_win _ (a := nI 0) (b := nI 9) (A := 0) (B := 9) rfl rfl, ab_bindS, decide_eq_true cx]
      exact Ok.pos rfl (Ok.some ⟨rfl, hR0, b0⟩)
  obtain ⟨f, hf, rfl⟩ : ∃ N, N < 2 ^ 31 ∧ x = nI N := nI_of (fun q => cx (Or.inl q))
  have hf9 : f < 10 := by
    apply Nat.lt_of_not_le
    intro hle
    exact cx (Or.inr (by rw [nI_ltI (by omega) (by omega)]; omega))
  have hs2 : SO (aM A) (mkS (sW (aS A)) (sA (aS A)) f (sN (aS A))) := ⟨hs.1, hs.2.1, hf9⟩
  refine ⟨nI (sF (aS A)), upU (upS A (mkS (sW (aS A)) (sA (aS A)) f (sN (aS A)))) (pU (aU A) (aS A)), WF_U (A := upS A _) (WF_S hW hs2) hs, fun h hR => ?_, fun h hR => ?_⟩
  · unfold fX11_fog
    refine Ok.bind (c_begin hW hR) (fun h1 hr1 => ?_)
    refine Ok.bind (c_befog hO (Or.inl rfl) hr1.2.1.1 hr1.2.1.2.2.1 hr1.2.1.2.1 hf9) (fun z hz => ?_)
    rw [hz.1, hr1.2.1.2.1.2.2.1]
    exact Ok.bind (c_ended hW hs2 hr1.2.1 hr1.1 hz.2) (fun w hw => Ok.some ⟨hw.1, hw.2.1, abv_t hr1.2.2 hw.2.2⟩)
  · obtain ⟨hR0, b0⟩ := RR0 hR
    unfold fX12_fog
    rw [r_win _ (a := nI 0) (b := nI 9) (A := 0) (B := 9) rfl rfl, ab_bindS, decide_eq_false cx]
    refine Ok.neg (by decide) (Ok.bind (r_stA hW hR0) (fun h1 hr1 => ?_))
    have hS1 := hr1.2.1.2.1
    have hd : rD (mkS (sW (aS A)) (sA (aS A)) f (sN (aS A))) h1 (ab_wI h1 65 40 (nI f)) := by
      refine ⟨rS_mk ?_ (fun q hq => ?_) ?_ ?_, fun q hq => ?_, frR_w (frR_r _ _ _ _) (by simp) (by decide)⟩
      · rw [ab_w1k (by omega)]; exact hS1.1
      · rw [ab_w1k (by omega)]; exact rS_a hS1 hq
      · rw [ab_w1e]; rfl
      · rw [ab_w1k (by omega)]; exact hS1.2.2.2
      · rw [ab_w1k (by omega)]
    refine Ok.bind (r_push hW hs2 hr1.2.1 hr1.1 hd) (fun h2 hr2 => Ok.some ⟨?_, hr2.1, blw_t b0 (blw_t hr1.2.2.1 hr2.2.1)⟩)
    show h2.1 71 7 = _
    rw [hr2.2.2.2]
    exact hr1.1.2.2.1
