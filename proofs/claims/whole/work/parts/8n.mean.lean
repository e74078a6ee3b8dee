/-! mean: the call. -/
theorem call_mean (z : Int32) : call2 (fX11_mean z) (fX12_mean z) := by
  refine call2_ro2 (fun A hW => ?_)
  have hO := hW.1
  have h6 := hO.2.1
  by_cases cz : z < nI 0 ∨ nI 1 < z
  · refine ⟨-2, fun h hR => ?_, fun h hR => ?_⟩
    · unfold fX11_mean
      by_cases c1 : z < 0
      · exact Ok.pos c1 (Ok.some ⟨rfl, fr_r _ _ _⟩)
      · exact Ok.neg c1 (Ok.neg (by rw [Int32.not_le]; exact cz.resolve_left c1) (Ok.some ⟨rfl, fr_r _ _ _⟩))
    · unfold fX12_mean
      generalize e0 : ab_wI h 64 0 0 = h0; have f0 : frR sk1 sc1 [80, 81] h h0 := (by subst e0; exact frR_64 (frR_r _ _ _ _) (by decide)); have hR0 : RR A h0 := (RR_sc hR f0).1
      rw [r_win h0 (a := nI 0) (b := nI 1) (A := 0) (B := 1) rfl rfl, ab_bindS, decide_eq_true cz]
      exact Ok.pos rfl (Ok.some ⟨rfl, f0⟩)
  have c0 : ¬ z < 0 := fun q => cz (Or.inl q)
  have c1 : z ≤ 1 := Int32.not_lt.mp (fun q => cz (Or.inr q))
  have hw := hW.2.1.1
  have w6 : sW (aS A) < 6 := by omega
  have hal := (allP' (mP (aM A)) (by omega)).2
  have hC : meC (aM A) (sW (aS A)) < 64 := lvB_lt
  have hL : meL (aM A) < 64 := lvB_lt
  have hB : meB (aM A) (sW (aS A)) < 64 := meB_lt
  have hz : z = 0 ∨ z = 1 := by
    rcases i_cs z with q | ⟨n, hn, e⟩
    · exact absurd q c0
    · subst e
      rw [show (1 : Int32) = nI 1 from rfl, nI_leI (by omega) (by omega)] at c1
      have : n = 0 ∨ n = 1 := by omega
      rcases this with e | e <;> subst e
      · exact Or.inl rfl
      · exact Or.inr rfl
  -- the class up to where it asks
  have cl : ∀ h, RC A h → fX4_lasts (nI (sW (aS A))) h = if anx (meB (aM A) (sW (aS A))) (meL (aM A)) = 0 then (if meB (aM A) (sW (aS A)) = 0 then (fX4_answer 0 1 h).bind (fun r7 => some (1, r7)) else (fX4_number (nI (meB (aM A) (sW (aS A)))) h).bind (fun r8 => fX4_lasts_L64 ab_N (nI (sW (aS A))) (nI (meB (aM A) (sW (aS A)))) 0 r8)) else some (0, h) := by
    intro h hR
    unfold fX4_lasts
    have e1 : nI (meC (aM A) (sW (aS A))) &&& nI (anx (2 ^ mP (aM A) - 1) (rsB (aM A))) = nI (meB (aM A) (sW (aS A))) := b_and _ _
    rw [c_resting hO hR.1, ab_bindS, c_all hO hR.1, ab_bindS, c_from hO hR.1 w6, ab_bindS, anx_i hal (rsB_lt hO), c_me_lead hO hR.1, ab_bindS, show lvB (stF (aM A) (sW (aS A))) 6 = meC (aM A) (sW (aS A)) from rfl, e1, anx_i hB hL]
    by_cases q1 : anx (meB (aM A) (sW (aS A))) (meL (aM A)) = 0
    · rw [if_pos q1, if_pos (by rw [q1]; rfl)]
      by_cases q2 : meB (aM A) (sW (aS A)) = 0
      · rw [if_pos q2, if_pos (by rw [q2]; rfl)]
      · rw [if_neg q2, if_neg (by rw [show (0 : Int32) = nI 0 from rfl, nI_eq (by omega) (by omega)]; exact q2)]
    · have := anx_lt (b := meL (aM A)) hB
      rw [if_neg q1, if_neg (by rw [show (0 : Int32) = nI 0 from rfl, nI_eq (by omega) (by omega)]; exact q1)]
  -- the reference up to where it asks
  have rl : ∀ h, RR A h → fX12_mean_L23 ab_N z 0 0 h = if anx (meC (aM A) (sW (aS A))) (rsB (aM A) ||| meL (aM A)) = 0 then (if rs (aM A) (sW (aS A)) = true then some (z.toInt64, h) else (fX12_beginsRows h).bind (fun r9 => fX12_mean_L103 ab_N z (nI (meC (aM A) (sW (aS A)))) 0 r9)) else some (-1, h) := by
    intro h hR
    have hM := hR.1
    have e33 : h.1 65 33 = nI (sW (aS A)) := hR.2.1.1
    have key : ∀ (k n p acc : Nat), p + k = mP (aM A) → k < n → fgb (rs (aM A)) k p acc = rsB (aM A) → fX12_mean_L23 n z (nI acc) (nI p) h = if anx (meC (aM A) (sW (aS A))) (rsB (aM A) ||| meL (aM A)) = 0 then (if rs (aM A) (sW (aS A)) = true then some (z.toInt64, h) else (fX12_beginsRows h).bind (fun r9 => fX12_mean_L103 ab_N z (nI (meC (aM A) (sW (aS A)))) 0 r9)) else some (-1, h) := by
      intro k
      induction k with
      | zero =>
        intro n p acc hp hn he
        obtain ⟨n, rfl⟩ : ∃ n0, n = n0 + 1 := ⟨n - 1, by omega⟩
        have he : acc = rsB (aM A) := he
        subst he
        have hge : ∀ p, sR (aM A) (rsB (aM A)) p = true → (rsB (aM A)).testBit p = false := fun p hp => by
          unfold sR at hp
          cases c : (rsB (aM A)).testBit p with
          | false => rfl
          | true => rw [c] at hp; simp at hp
        have hor : rsB (aM A) ||| meL (aM A) < 64 := Nat.or_lt_two_pow (n := 6) (rsB_lt hO) hL
        rw [fX12_mean_L23, hM.2.1, if_pos (by rw [nI_leI (by omega) (by omega)]; omega), r_strays hO hM w6 e33, ab_bindS, r_come hO hM (rsB_lt hO) (rsB_lt hO) hge, ab_bindS, show lvB (stF (aM A) (sW (aS A))) 6 = meC (aM A) (sW (aS A)) from rfl, show lvB (stL (aM A) (rsB (aM A)).testBit (sR (aM A) (rsB (aM A)))) 6 = meL (aM A) from rfl, anx_i hC hor, e33, r_isRest hO hM w6, ab_bindS]
        by_cases q1 : anx (meC (aM A) (sW (aS A))) (rsB (aM A) ||| meL (aM A)) = 0
        · rw [if_pos q1, if_pos (by rw [q1]; rfl)]
          cases q2 : rs (aM A) (sW (aS A)) with
          | true => rw [if_neg (by decide), if_pos rfl]
          | false => rw [if_pos (by decide), if_neg (by decide)]
        · have := anx_lt (b := rsB (aM A) ||| meL (aM A)) hC
          rw [if_neg q1, if_neg (by rw [show (0 : Int32) = nI 0 from rfl, nI_eq (by omega) (by omega)]; exact q1)]
      | succ k ih =>
        intro n p acc hp hn he
        obtain ⟨n, rfl⟩ : ∃ n0, n = n0 + 1 := ⟨n - 1, by omega⟩
        rw [fgb] at he
        rw [fX12_mean_L23, hM.2.1, if_neg (by rw [nI_leI (by omega) (by omega)]; omega), r_isRest hO hM (by omega), ab_bindS]
        unfold fX12_mean_J49
        rw [nI_1, shl1 (by omega), b_or]
        cases c : rs (aM A) p with
        | true =>
          rw [c, if_pos rfl] at he
          rw [if_neg (by decide)]
          exact ih n (p + 1) _ (by omega) (by omega) he
        | false =>
          rw [c, if_neg (by decide)] at he
          rw [if_pos (by decide), show (0 : Int32) = nI 0 from rfl, b_or, Nat.or_zero]
          exact ih n (p + 1) _ (by omega) (by omega) he
    exact key (mP (aM A)) ab_N 0 0 (by omega) (by unfold ab_N; omega) rfl
  by_cases hs : sur (aM A) (sW (aS A))
  · have s1 := (sur_c hO).mpr hs
    have s2 := (sur_r hO hw).mpr hs
    by_cases hr : rs (aM A) (sW (aS A)) = true
    · have m0 := (me_0 hO hw).mpr hr
      refine ⟨if z = 0 then 0 else 1, fun h hR => ?_, fun h hR => ?_⟩
      · unfold fX11_mean
        refine Ok.neg c0 (Ok.pos c1 ?_)
        rw [hR.2.1.1, cl h hR, if_pos s1, if_pos m0, show (0 : Int64) = iL 0 from rfl, show (1 : Int64) = iL 1 from rfl, c_answer ⟨by omega, by omega⟩ ⟨by omega, by omega⟩, ab_bindS, ab_bindS]
        refine Ok.neg (show ¬ (1 : Int32) = 0 by decide) ?_
        have f1 : ∀ v w : Int64, fr sc0 [40, 41] h (ab_wL (ab_wL h 40 4 v) 40 5 w) := fun v w => fr_v (fr_v (fr_r _ _ _) (by simp)) (by simp)
        by_cases e : z = 0
        · rw [if_pos e, if_pos e]
          refine Ok.some ⟨?_, f1 _ _⟩
          rw [ab_v2k (by decide), ab_v2e]; rfl
        · rw [if_neg e, if_neg e]
          refine Ok.some ⟨?_, f1 _ _⟩
          rw [ab_v2e]; rfl
      · unfold fX12_mean
        generalize e0 : ab_wI h 64 0 0 = h0; have f0 : frR sk1 sc1 [80, 81] h h0 := (by subst e0; exact frR_64 (frR_r _ _ _ _) (by decide)); have hR0 : RR A h0 := (RR_sc hR f0).1
        rw [r_win h0 (a := nI 0) (b := nI 1) (A := 0) (B := 1) rfl rfl, ab_bindS, decide_eq_false cz]
        refine Ok.neg (by decide) ?_
        rw [rl h0 hR0, if_pos s2, if_pos hr]
        refine Ok.some ⟨?_, f0⟩
        rcases hz with e | e <;> rw [e] <;> rfl
    · have m0 : ¬ meB (aM A) (sW (aS A)) = 0 := fun q => hr ((me_0 hO hw).mp q)
      have hr' : rs (aM A) (sW (aS A)) = false := by simpa using hr
      obtain ⟨k, hk⟩ := me_rk hO hs
      have hwB : (meB (aM A) (sW (aS A))).testBit (sW (aS A)) = true := (meB_t hO).mpr ⟨lvl_6 (stF_m hO) 1 _ (Or.inl ⟨rfl, w6⟩), hw, hr'⟩
      have hwA := aL_m.mpr ⟨w6, hwB⟩
      refine ⟨if z = 0 then iL (nf ((eRun (aL (meB (aM A) (sW (aS A)))) 1 (M0 (aM A) (meB (aM A) (sW (aS A))) (fun q => (mR (aM A) q : Int)) (wt4 k))).2 (sW (aS A)) 6) (eRun (aL (meB (aM A) (sW (aS A)))) 1 (M0 (aM A) (meB (aM A) (sW (aS A))) (fun q => (mR (aM A) q : Int)) (wt4 k))).1).1 else iL (nf ((eRun (aL (meB (aM A) (sW (aS A)))) 1 (M0 (aM A) (meB (aM A) (sW (aS A))) (fun q => (mR (aM A) q : Int)) (wt4 k))).2 (sW (aS A)) 6) (eRun (aL (meB (aM A) (sW (aS A)))) 1 (M0 (aM A) (meB (aM A) (sW (aS A))) (fun q => (mR (aM A) q : Int)) (wt4 k))).1).2, fun h hR => ?_, fun h hR => ?_⟩
      · unfold fX11_mean
        refine Ok.neg c0 (Ok.pos c1 ?_)
        rw [hR.2.1.1, cl h hR, if_pos s1, if_neg m0]
        refine Ok.bind (P := fun r => r.1 = 1 ∧ r.2.2 40 4 = iL (nf ((eRun (aL (meB (aM A) (sW (aS A)))) 1 (M0 (aM A) (meB (aM A) (sW (aS A))) (fun q => (mR (aM A) q : Int)) (wt4 k))).2 (sW (aS A)) 6) (eRun (aL (meB (aM A) (sW (aS A)))) 1 (M0 (aM A) (meB (aM A) (sW (aS A))) (fun q => (mR (aM A) q : Int)) (wt4 k))).1).1 ∧ r.2.2 40 5 = iL (nf ((eRun (aL (meB (aM A) (sW (aS A)))) 1 (M0 (aM A) (meB (aM A) (sW (aS A))) (fun q => (mR (aM A) q : Int)) (wt4 k))).2 (sW (aS A)) 6) (eRun (aL (meB (aM A) (sW (aS A)))) 1 (M0 (aM A) (meB (aM A) (sW (aS A))) (fun q => (mR (aM A) q : Int)) (wt4 k))).1).2 ∧ fr [40, 42] [40, 41] h r.2) ?_ (fun r hq => ?_)
        · refine Ok.bind (c_number hB) (fun h1 hq => ?_)
          have hM1 := cM_fr hR.1 hq.2 (by decide) (by decide) (by decide) (by decide)
          exact (c_me64 hO hM1 hB hk hwA hq.1 6 ab_N 0 h1 (by omega) (by unfold ab_N; omega) (fun q hq => by omega) (fr_r _ _ _)).mono (fun r hs => ⟨hs.1, hs.2.1, hs.2.2.1, fr_t (fr_m hq.2 (by simp) (by simp)) (fr_m hs.2.2.2 (by simp) (by simp))⟩)
        · have f1 : fr sc0 [40, 41] h r.2 := fr_m hq.2.2.2 (by decide) (by simp)
          rw [hq.1, hq.2.1, hq.2.2.1]
          refine Ok.neg (show ¬ (1 : Int32) = 0 by decide) ?_
          by_cases e : z = 0
          · rw [if_pos e, if_pos e]; exact Ok.some ⟨rfl, f1⟩
          · rw [if_neg e, if_neg e]; exact Ok.some ⟨rfl, f1⟩
      · unfold fX12_mean
        generalize e0 : ab_wI h 64 0 0 = h0; have f0 : frR sk1 sc1 [80, 81] h h0 := (by subst e0; exact frR_64 (frR_r _ _ _ _) (by decide)); have hR0 : RR A h0 := (RR_sc hR f0).1
        rw [r_win h0 (a := nI 0) (b := nI 1) (A := 0) (B := 1) rfl rfl, ab_bindS, decide_eq_false cz]
        refine Ok.neg (by decide) ?_
        rw [rl h0 hR0, if_pos s2, if_neg hr]
        refine Ok.bind r_begins (fun h1 hq => ?_)
        have hM1 : rM (aM A) (h1.1 65) := by rw [hq.2.1 65 (by simp) (by decide)]; exact hR0.1
        have e33 : h1.1 65 33 = nI (sW (aS A)) := by rw [hq.2.1 65 (by simp) (by decide)]; exact hR0.2.1.1
        refine (r_me103 (x := z) hO hM1 e33 hk hwA 6 ab_N 0 h1 (by omega) (by unfold ab_N; omega) (fun q hq => by omega) (fun p' q' w1 w2 => ?_) (frR_r _ _ _ _)).mono (fun r hs => ⟨hs.1, frR_t f0 (frR_t (frR_m hq.2 (by simp) (by simp) (by simp)) (frR_m hs.2 (by simp) (by decide) (by simp)))⟩)
        dsimp only
        rw [if_neg (fun w => by omega)]
        exact hq.1 p' q' w1 w2
  · have s1 : ¬ anx (meB (aM A) (sW (aS A))) (meL (aM A)) = 0 := fun q => hs ((sur_c hO).mp q)
    have s2 : ¬ anx (meC (aM A) (sW (aS A))) (rsB (aM A) ||| meL (aM A)) = 0 := fun q => hs ((sur_r hO hw).mp q)
    refine ⟨-1, fun h hR => ?_, fun h hR => ?_⟩
    · unfold fX11_mean
      refine Ok.neg c0 (Ok.pos c1 ?_)
      rw [hR.2.1.1, cl h hR, if_neg s1, ab_bindS]
      exact Ok.pos rfl (Ok.some ⟨rfl, fr_r _ _ _⟩)
    · unfold fX12_mean
      generalize e0 : ab_wI h 64 0 0 = h0; have f0 : frR sk1 sc1 [80, 81] h h0 := (by subst e0; exact frR_64 (frR_r _ _ _ _) (by decide)); have hR0 : RR A h0 := (RR_sc hR f0).1
      rw [r_win h0 (a := nI 0) (b := nI 1) (A := 0) (B := 1) rfl rfl, ab_bindS, decide_eq_false cz]
      refine Ok.neg (by decide) ?_
      rw [rl h0 hR0, if_neg s2]
      exact Ok.some ⟨rfl, f0⟩
