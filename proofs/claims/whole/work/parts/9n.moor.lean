/-! moor: both. -/
theorem cIY_eq {A : AbT} {h h' : abJ} (hR : RC A h) (e1 : ∀ o, 43 < o → o < 64 → h'.1 o = h.1 o ∧ h'.2 o = h.2 o) : (∀ i, i < 2 → cI (aI A i) i h') ∧ ∀ j, j < 4 → cY (aY A j) j h' := by
  obtain ⟨_, _, _, _, _, r6, _, _, r9⟩ := hR
  refine ⟨fun i hi => ?_, fun j hj => ?_⟩
  · have := r6 i hi
    unfold cI cM cS at this ⊢
    rw [(e1 (54 + 5 * i) (by omega) (by omega)).1, (e1 (54 + 5 * i + 1) (by omega) (by omega)).1, (e1 (54 + 5 * i + 2) (by omega) (by omega)).1, (e1 (54 + 5 * i + 3) (by omega) (by omega)).1, (e1 (58 + 5 * i) (by omega) (by omega)).1]; exact this
  · have := r9 j hj
    unfold cY at this ⊢
    rw [(e1 (44 + 2 * j) (by omega) (by omega)).1, (e1 (45 + 2 * j) (by omega) (by omega)).2]; exact this
theorem rIY_eq {A : AbT} {h h' : abJ} (hR : RR A h) (e65 : ∀ q, 1034 ≤ q → h'.1 65 q = h.1 65 q) (c66 : h'.1 66 = h.1 66) (c85 : h'.1 85 = h.1 85) (c86 : h'.1 86 = h.1 86) (e3 : h'.2 87 = h.2 87) : (∀ i, i < 2 → rI (aI A i) i h') ∧ ∀ j, j < 4 → rY (aY A j) j h' := by
  obtain ⟨r4, r5, r6, r7⟩ := RR_rest hR
  refine ⟨fun i hi => ?_, fun j hj => ?_⟩
  · have := r4 i hi
    have eq : ∀ k, h'.1 65 (1034 * (i + 1) + k) = h.1 65 (1034 * (i + 1) + k) := fun k => e65 _ (by omega)
    unfold rI at this ⊢
    simp only [c66, eq]
    exact this
  · have := r7 j hj
    unfold rY at this ⊢
    rw [c85, c86, e3]; exact this
/-- behind a text that is none; behind one that is -/
def upZ (A : AbT) (z : Nat × Nat) : AbT := (A.1, A.2.1, A.2.2.1, A.2.2.2.1, (0, (aT A).2), (nI z.1, nI z.2), A.2.2.2.2.2.2)
def upG (A : AbT) (m : MoT) (s : StT) : AbT := (m, s, [], A.2.2.2.1, (0, (aT A).2), (nI 0, -1), A.2.2.2.2.2.2)
theorem WF_Z {A : AbT} {z : Nat × Nat} (hW : WF A) : WF (upZ A z) := ⟨hW.1, hW.2.1, hW.2.2.1, hW.2.2.2.1, ⟨Nat.zero_le _, fun k hk => absurd hk (Nat.not_lt_zero _)⟩, hW.2.2.2.2.2⟩
theorem WF_G {A : AbT} {m : MoT} {s : StT} (hW : WF A) (hO : MO m) (hs : SO m s) : WF (upG A m s) := ⟨hO, hs, ⟨Nat.zero_le _, fun i hi => absurd hi (Nat.not_lt_zero _)⟩, hW.2.2.2.1, ⟨Nat.zero_le _, fun k hk => absurd hk (Nat.not_lt_zero _)⟩, hW.2.2.2.2.2⟩
theorem c_moor {A : AbT} {h : abJ} {n : Nat} (hW : WF A) (hR : RC A h) (hn : n ≤ (aT A).1) : Ok (fX11_moor (nI n) h) (fun r => abv h r.2 ∧ (∀ z, (mrs (kdP (aT A).2 n) (kN (aT A).2 n) (kVl (aT A).2 n) (atP (aT A).2 n 0)).2.1.1 = some z → r.1 = -30 - nI z.1 ∧ RC (upZ A z) r.2) ∧ ((mrs (kdP (aT A).2 n) (kN (aT A).2 n) (kVl (aT A).2 n) (atP (aT A).2 n 0)).2.1.1 = none → r.1 = nI (dN (mrs (kdP (aT A).2 n) (kN (aT A).2 n) (kVl (aT A).2 n) (atP (aT A).2 n 0)).2.2) ∧ RC (upG A (moM (mrs (kdP (aT A).2 n) (kN (aT A).2 n) (kVl (aT A).2 n) (atP (aT A).2 n 0)).1 (mrs (kdP (aT A).2 n) (kN (aT A).2 n) (kVl (aT A).2 n) (atP (aT A).2 n 0)).2) (moS (mrs (kdP (aT A).2 n) (kN (aT A).2 n) (kVl (aT A).2 n) (atP (aT A).2 n 0)).2)) r.2)) := by
  have hL := hW.2.2.2.2.1
  have h4 := hR.2.2.2.2.2.2.1.1
  have hT : TP (aT A).2 n 11 h := ⟨by omega, fun k hk => ⟨hR.2.2.2.2.2.2.1.2 k (by omega), hL.2 k (by omega)⟩⟩
  have ha : atP (aT A).2 n 0 ≤ n := by
    have := (rnE_b (P := isB) (T := (aT A).2) (k := n - 0) (b := 0)).2
    unfold atP
    omega
  have dI : (mrs (kdP (aT A).2 n) (kN (aT A).2 n) (kVl (aT A).2 n) (atP (aT A).2 n 0)).2.1.1 = none → DI n (mrs (kdP (aT A).2 n) (kN (aT A).2 n) (kVl (aT A).2 n) (atP (aT A).2 n 0)).1 (mrs (kdP (aT A).2 n) (kN (aT A).2 n) (kVl (aT A).2 n) (atP (aT A).2 n 0)).2 := fun w => DI_mrs (kgn (aT A).2 n) ha w
  have cr := c_read hT h4 hn hL.1
  unfold fX11_moor
  refine Ok.neg (show ¬ nI n < 0 from nI_pos (by omega)) (Ok.pos (by rw [h4, nI_leI (by omega) (by omega)]; exact hn) (Ok.bind cr (fun r3 hr3 => ?_)))
  generalize em : mrs (kdP (aT A).2 n) (kN (aT A).2 n) (kVl (aT A).2 n) (atP (aT A).2 n 0) = m at *
  obtain ⟨f3, _, p1, p2⟩ := hr3
  have f4 : fr [5, 6, 7, 8, 9, 10] [] h (ab_wI r3 9 4 0) := fr_w f3 (by simp)
  rw [ab_w1k (show 10 ≠ 4 by decide)]
  cases e : m.2.1.1 with
  | some z =>
    obtain ⟨q1, q2⟩ := p2 z e
    have hR0 := hR
    obtain ⟨r1, r2, r3', r4, r5, r6, r7, r8, r9⟩ := hR0
    obtain ⟨i1, i2⟩ := cIY_eq (h' := ab_wI r3 9 4 0) hR (fun o h1 h2 => ⟨f4.1 o (by simp; omega), f4.2 o (by simp)⟩)
    have zz := mrs_z (z := z) (show n ≤ 900 by omega) (fun k hk => (hT.2 k hk).2) (by rw [em]; exact e)
    have nz : ¬ nI z.1 = 0 := by rw [show (0 : Int32) = nI 0 from rfl, nI_eq (by omega) (by omega)]; omega
    rw [q1]
    refine Ok.neg nz (Ok.some ⟨abv_fr f4 (by decide) (by simp), fun z' hz => ?_, (fun w => by cases w)⟩)
    have hz := Option.some.inj hz
    subst hz
    have h10 := hW.2.2.1.1
    refine ⟨rfl, ⟨cM_fr r1 f4 (by decide) (by decide) (by decide) (by decide), cS_fr r2 f4 (by decide), cK_fr r3' f4 (by decide) (by decide), rdy_fr r4 f4 (by decide), ⟨by rw [f4.1 16 (by decide)]; exact r5.1, fun i hi => ⟨cS_fr (r5.2 i hi).1 f4 (by simp; omega), rdy_fr (r5.2 i hi).2 f4 (by decide)⟩⟩, i1, ⟨?_, fun k hk => absurd hk (Nat.not_lt_zero _)⟩, ⟨?_, ?_⟩, i2⟩⟩
    · rw [ab_w1e]; rfl
    · rw [ab_w1k (by decide)]; exact q1
    · rw [ab_w1k (by decide)]; exact q2
  | none =>
    obtain ⟨q1, q2⟩ := p1 e
    have hI := dI e
    have hO := moM_O (show n ≤ 900 by omega) hI
    obtain ⟨t1, t2⟩ := c_told hI q1 q2
    have f9 : fr [9] [] r3 (ab_wI r3 9 4 0) := fr_w (fr_r _ _ _) (by simp)
    have T1 := cM_fr t1 f9 (by decide) (by decide) (by decide) (by decide)
    have T2 := cS_fr t2 f9 (by decide)
    have z10 := q1.2.2.2.2.2.2.1
    have z11 := q1.2.2.2.2.2.2.2
    rw [z10]
    refine Ok.pos rfl ?_
    refine Ok.bind (c_mcopy hO.1 (by omega) T1) (fun h1 hr1 => ?_)
    refine Ok.bind (c_copy (by decide) (cS_fr T2 hr1.2 (by decide))) (fun h2 hr2 => ?_)
    have f5 : fr [1, 2, 3, 4, 12, 16] [] (ab_wI r3 9 4 0) (ab_wI h2 16 6 0) := fr_w (fr_t (fr_m hr1.2 (by simp) (by simp)) (fr_m hr2.2 (by simp) (by simp))) (by simp)
    have hM2 : cM (moM m.1 m.2) 1 (ab_wI h2 16 6 0) := cM_fr (cM_fr hr1.1 hr2.2 (by decide) (by decide) (by decide) (by decide)) (fr_w (fr_r [16] [] h2) (by simp)) (by decide) (by decide) (by decide) (by decide)
    have hS2 : cS (moS m.2) 12 (ab_wI h2 16 6 0) := cS_fr hr2.1 (fr_w (fr_r [16] [] h2) (by simp)) (by decide)
    obtain ⟨h3, ez, hr3⟩ := c_anew hO.1 hO.2 hM2 hS2
    obtain ⟨w, ew, hw⟩ := ab_bind_s ez
    rw [ew, ab_bindS, hw, ab_bindS]
    have f6 : fr [1, 2, 3, 4, 12, 16, 13, 14, 15] [] (ab_wI r3 9 4 0) h3 := fr_t (fr_m f5 (by simp) (by simp)) (fr_m hr3.2.2 (by simp) (by simp))
    have F : fr [1, 2, 3, 4, 5, 6, 7, 8, 9, 10, 12, 13, 14, 15, 16] [] h h3 := fr_t (fr_m f4 (by simp) (by simp)) (fr_m f6 (by simp) (by simp))
    obtain ⟨i1, i2⟩ := cIY_eq (h' := h3) hR (fun o h1 h2 => ⟨F.1 o (by simp; omega), F.2 o (by simp)⟩)
    have hM3 := cM_fr hM2 hr3.2.2 (by decide) (by decide) (by decide) (by decide)
    refine Ok.some ⟨abv_fr F (by decide) (by simp), (fun z hz => by cases hz), fun _ => ⟨hM3.2.1, ⟨hM3, cS_fr hS2 hr3.2.2 (by decide), hr3.1, hr3.2.1, ⟨?_, fun i hi => absurd hi (Nat.not_lt_zero _)⟩, i1, ⟨?_, fun k hk => absurd hk (Nat.not_lt_zero _)⟩, ⟨?_, ?_⟩, i2⟩⟩⟩
    · rw [hr3.2.2.1 16 (by decide), ab_w1e]; rfl
    · rw [f6.1 9 (by decide), ab_w1e]; rfl
    · rw [f6.1 9 (by decide), ab_w1k (by decide)]; exact z10
    · rw [f6.1 9 (by decide), ab_w1k (by decide)]; exact z11
theorem call_moor (x : Int32) : call2 (fX11_moor x) (fX12_moor x) := by
  intro A hW
  have hL := hW.2.2.2.2.1
  have out : (x < 0 ∨ nI ((aT A).1 + 1) ≤ x) → ∃ (v : Int32) (A' : AbT), WF A' ∧ (∀ h, RC A h → Ok (fX11_moor x h) (fun x => x.1 = v ∧ RC A' x.2 ∧ abv h x.2)) ∧ (∀ h, RR A h → Ok (fX12_moor x h) (fun x => x.1 = v ∧ RR A' x.2 ∧ blw h x.2)) := fun hx => call2_no (v := -3) hW (fun h hR => by
      unfold fX11_moor
      rw [hR.2.2.2.2.2.2.1.1]
      by_cases c : x < 0
      · exact Ok.pos c (Ok.some ⟨rfl, hR, abv_r _⟩)
      · refine Ok.neg c (Ok.neg ?_ (Ok.some ⟨rfl, hR, abv_r _⟩))
        rw [Int32.not_le]
        exact (x_ge (by omega) hx).resolve_left c) (fun h hR => by
      obtain ⟨hR0, b0⟩ := RR0 hR
      unfold fX12_moor
      rw [r_w03n (n := (aT A).1) _ (by rw [hR0.2.2.2.2.1.1]) (x_ge (by omega) hx), ab_bindS]
      exact Ok.pos rfl (Ok.some ⟨rfl, hR0, b0⟩))
  rcases pk_ix x (n := (aT A).1 + 1) (by omega) with hx | hx | ⟨n, hn, rfl⟩
  · exact out (Or.inl hx)
  · exact out (Or.inr hx)
  have hn : n ≤ (aT A).1 := by omega
  have cm : ∀ h, RC A h → _ := fun h hR => c_moor (n := n) hW hR hn
  have rm : ∀ h, RR A h → _ := fun h hR => r_moor (T := (aT A).2) (n := n) (L := (aT A).1) (h := h) ⟨by omega, fun k hk => ⟨hR.2.2.2.2.1.2 k (by omega), hL.2 k (by omega)⟩⟩ hR.2.2.2.2.1.1 hn hL.1
  have ha : atP (aT A).2 n 0 ≤ n := by
    have := (rnE_b (P := isB) (T := (aT A).2) (k := n - 0) (b := 0)).2
    unfold atP
    omega
  have dI : (mrs (kdP (aT A).2 n) (kN (aT A).2 n) (kVl (aT A).2 n) (atP (aT A).2 n 0)).2.1.1 = none → DI n (mrs (kdP (aT A).2 n) (kN (aT A).2 n) (kVl (aT A).2 n) (atP (aT A).2 n 0)).1 (mrs (kdP (aT A).2 n) (kN (aT A).2 n) (kVl (aT A).2 n) (atP (aT A).2 n 0)).2 := fun w => DI_mrs (kgn (aT A).2 n) ha w
  generalize mrs (kdP (aT A).2 n) (kN (aT A).2 n) (kVl (aT A).2 n) (atP (aT A).2 n 0) = m at *
  cases e : m.2.1.1 with
  | some z =>
    refine ⟨-30 - nI z.1, upZ A z, WF_Z hW, fun h hR => (cm h hR).mono (fun r hr => ⟨(hr.2.1 z e).1, (hr.2.1 z e).2, hr.1⟩), fun h hR => (rm h hR).mono (fun r hr => ?_)⟩
    obtain ⟨q1, _, q3, q4⟩ := hr
    obtain ⟨_, u1, u2, u3, u4⟩ := q1 z e
    obtain ⟨i1, i2⟩ := rIY_eq (h' := r.2) hR (fun q _ => by rw [u4]) (q4.1 66 (by decide) (by decide)) (q4.1 85 (by decide) (by decide)) (q4.1 86 (by decide) (by decide)) (q4.2.2 87 (by simp))
    obtain ⟨r1, r2, r3, _⟩ := hR
    exact ⟨u1, ⟨by rw [u4]; exact r1, by rw [u4]; exact r2, by rw [u4]; exact r3, i1, ⟨q3, fun k hk => absurd hk (Nat.not_lt_zero _)⟩, ⟨u2, u3⟩, i2⟩, blw_fr q4 (by decide) (by simp)⟩
  | none =>
    have hO := moM_O (show n ≤ 900 by omega) (dI e)
    refine ⟨nI (dN m.2.2), upG A (moM m.1 m.2) (moS m.2), WF_G hW hO.1 hO.2, fun h hR => (cm h hR).mono (fun r hr => ⟨(hr.2.2 e).1, (hr.2.2 e).2, hr.1⟩), fun h hR => (rm h hR).mono (fun r hr => ?_)⟩
    obtain ⟨_, q2, q3, q4⟩ := hr
    obtain ⟨u1, u2, u3, u4, u5, u6, u7⟩ := q2 e
    obtain ⟨i1, i2⟩ := rIY_eq (h' := r.2) hR u7 (q4.1 66 (by decide) (by decide)) (q4.1 85 (by decide) (by decide)) (q4.1 86 (by decide) (by decide)) (q4.2.2 87 (by simp))
    exact ⟨u1, ⟨u4, u5, ⟨u6, fun i hi => absurd hi (Nat.not_lt_zero _)⟩, i1, ⟨q3, fun k hk => absurd hk (Nat.not_lt_zero _)⟩, ⟨u2, u3⟩, i2⟩, blw_fr q4 (by decide) (by simp)⟩
