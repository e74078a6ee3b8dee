/-! chance: the call. -/
theorem c_comes {m : MoT} {wk a b : Nat} {h : abJ} {k : Nat → Nat} (hO : MO m) (hM : cM m 1 h) (hw : wk < 6) (ha : a < 6) (hb : b < 6) (hk : rkd m (aL (chB m a b)) k) : Ok (fX4_comesTo (nI wk) (nI a) (nI b) h) (fun h' => (if (chB m a b).testBit wk = true then h'.2 40 4 = iL (nf ((eRun (aL (chB m a b)) 1 (M0 m (chB m a b) (fun q => (rto m q a (mR m q) : Int)) (wt4 k))).2 wk 6) (eRun (aL (chB m a b)) 1 (M0 m (chB m a b) (fun q => (rto m q a (mR m q) : Int)) (wt4 k))).1).1 ∧ h'.2 40 5 = iL (nf ((eRun (aL (chB m a b)) 1 (M0 m (chB m a b) (fun q => (rto m q a (mR m q) : Int)) (wt4 k))).2 wk 6) (eRun (aL (chB m a b)) 1 (M0 m (chB m a b) (fun q => (rto m q a (mR m q) : Int)) (wt4 k))).1).2 else h'.2 40 4 = (if wk = a then 1 else 0) ∧ h'.2 40 5 = 1) ∧ fr [40, 42] [40, 41] h h') := by
  have hB : chB m a b < 64 := lvB_lt
  unfold fX4_comesTo
  rw [c_all hO hM, ab_bindS, c_resting hO hM, ab_bindS, c_ch_lead hO hM ha hb, ab_bindS, c_isIn h (by omega) hw, ab_bindS]
  by_cases c : (chB m a b).testBit wk = true
  · simp only [if_pos c]
    rw [c]
    refine Ok.neg (by decide) (Ok.bind (c_number hB) (fun h1 hr => ?_))
    have hM1 := cM_fr hM hr.2 (by decide) (by decide) (by decide) (by decide)
    exact (c_ch73 hO hM1 ha hB hk (aL_m.mpr ⟨hw, c⟩) hr.1 6 ab_N 0 h1 (by omega) (by unfold ab_N; omega) (fun q hq => by omega) (fr_r _ _ _)).mono (fun h' hs => ⟨⟨hs.1, hs.2.1⟩, fr_t (fr_m hr.2 (by simp) (by simp)) (fr_m hs.2.2 (by simp) (by simp))⟩)
  · simp only [if_neg c]
    rw [show (chB m a b).testBit wk = false by simpa using c]
    refine Ok.pos (by decide) ?_
    have fa : ∀ v w : Int64, fr [40, 42] [40, 41] h (ab_wL (ab_wL h 40 4 v) 40 5 w) := fun v w => fr_v (fr_v (fr_r _ _ _) (by simp)) (by simp)
    by_cases e : wk = a
    · refine Ok.pos (by rw [e]) ?_
      rw [show (1 : Int64) = iL 1 from rfl, c_answer ⟨by omega, by omega⟩ ⟨by omega, by omega⟩, ab_bindS, if_pos e]
      refine Ok.some ⟨⟨?_, ?_⟩, fa _ _⟩
      · rw [ab_v2k (by decide), ab_v2e]; rfl
      · rw [ab_v2e]; rfl
    · refine Ok.neg (by rw [nI_eq (by omega) (by omega)]; exact e) ?_
      rw [show (0 : Int64) = iL 0 from rfl, show (1 : Int64) = iL 1 from rfl, c_answer ⟨by omega, by omega⟩ ⟨by omega, by omega⟩, ab_bindS, if_neg e]
      refine Ok.some ⟨⟨?_, ?_⟩, fa _ _⟩
      · rw [ab_v2k (by decide), ab_v2e]; rfl
      · rw [ab_v2e]; rfl
theorem call_chance (x y z : Int32) : call2 (fX11_chance x y z) (fX12_chance x y z) := by
  refine call2_ro2 (fun A hW => ?_)
  have hO := hW.1
  have h6 := hO.2.1
  have nos : ∀ h : abJ, Ok (some ((-2 : Int64), h)) (fun x => x.1 = -2 ∧ fr sc0 [40, 41] h x.2) := fun h => Ok.some ⟨rfl, fr_r _ _ _⟩
  by_cases hx : x < 0 ∨ nI (mP (aM A)) ≤ x
  · refine ⟨-2, fun h hR => ?_, fun h hR => ?_⟩
    · unfold fX11_chance
      rw [c_has_out hR.1 hx, ab_bindS]
      exact Ok.pos rfl (nos h)
    · unfold fX12_chance
      generalize e0 : ab_wI h 64 0 0 = h0; have f0 : frR sk1 sc1 [80, 81] h h0 := (by subst e0; exact frR_64 (frR_r _ _ _ _) (by decide)); have hR0 : RR A h0 := (RR_sc hR f0).1
      rw [r_isPost_out hO hR0.1 hx, ab_bindS]
      exact Ok.pos rfl (Ok.some ⟨rfl, f0⟩)
  obtain ⟨a, ha, rfl⟩ : ∃ a, a < mP (aM A) ∧ x = nI a := by
    rcases pk_ix x (n := mP (aM A)) (by omega) with w | w | w
    · exact absurd (Or.inl w) hx
    · exact absurd (Or.inr w) hx
    · obtain ⟨p, hp, e⟩ := w; exact ⟨p, hp, e⟩
  by_cases hy : y < 0 ∨ nI (mP (aM A)) ≤ y
  · refine ⟨-2, fun h hR => ?_, fun h hR => ?_⟩
    · unfold fX11_chance
      rw [c_has_in hO hR.1 ha, ab_bindS]
      refine Ok.neg (by decide) ?_
      rw [c_has_out hR.1 hy, ab_bindS]
      exact Ok.pos rfl (nos h)
    · unfold fX12_chance
      generalize e0 : ab_wI h 64 0 0 = h0; have f0 : frR sk1 sc1 [80, 81] h h0 := (by subst e0; exact frR_64 (frR_r _ _ _ _) (by decide)); have hR0 : RR A h0 := (RR_sc hR f0).1
      rw [r_isPost_in hO hR0.1 ha, ab_bindS]
      refine Ok.neg (by decide) ?_
      rw [r_isPost_out hO hR0.1 hy, ab_bindS]
      exact Ok.pos rfl (Ok.some ⟨rfl, f0⟩)
  obtain ⟨b, hb, rfl⟩ : ∃ a, a < mP (aM A) ∧ y = nI a := by
    rcases pk_ix y (n := mP (aM A)) (by omega) with w | w | w
    · exact absurd (Or.inl w) hy
    · exact absurd (Or.inr w) hy
    · obtain ⟨p, hp, e⟩ := w; exact ⟨p, hp, e⟩
  by_cases hab : a = b
  · refine ⟨-2, fun h hR => ?_, fun h hR => ?_⟩
    · unfold fX11_chance
      rw [c_has_in hO hR.1 ha, ab_bindS]
      refine Ok.neg (by decide) ?_
      rw [c_has_in hO hR.1 hb, ab_bindS]
      exact Ok.neg (by decide) (Ok.pos (by rw [hab]) (nos h))
    · unfold fX12_chance
      generalize e0 : ab_wI h 64 0 0 = h0; have f0 : frR sk1 sc1 [80, 81] h h0 := (by subst e0; exact frR_64 (frR_r _ _ _ _) (by decide)); have hR0 : RR A h0 := (RR_sc hR f0).1
      rw [r_isPost_in hO hR0.1 ha, ab_bindS]
      refine Ok.neg (by decide) ?_
      rw [r_isPost_in hO hR0.1 hb, ab_bindS]
      exact Ok.neg (by decide) (Ok.pos (by rw [hab]) (Ok.some ⟨rfl, f0⟩))
  have nab : ¬ nI a = nI b := by rw [nI_eq (by omega) (by omega)]; exact hab
  by_cases cz : z < nI 0 ∨ nI 1 < z
  · refine ⟨-2, fun h hR => ?_, fun h hR => ?_⟩
    · unfold fX11_chance
      rw [c_has_in hO hR.1 ha, ab_bindS]
      refine Ok.neg (by decide) ?_
      rw [c_has_in hO hR.1 hb, ab_bindS]
      refine Ok.neg (by decide) (Ok.neg nab ?_)
      by_cases c1 : z < 0
      · exact Ok.pos c1 (nos h)
      · exact Ok.neg c1 (Ok.neg (by rw [Int32.not_le]; exact cz.resolve_left c1) (nos h))
    · unfold fX12_chance
      generalize e0 : ab_wI h 64 0 0 = h0; have f0 : frR sk1 sc1 [80, 81] h h0 := (by subst e0; exact frR_64 (frR_r _ _ _ _) (by decide)); have hR0 : RR A h0 := (RR_sc hR f0).1
      rw [r_isPost_in hO hR0.1 ha, ab_bindS]
      refine Ok.neg (by decide) ?_
      rw [r_isPost_in hO hR0.1 hb, ab_bindS]
      refine Ok.neg (by decide) (Ok.neg nab ?_)
      rw [r_win h0 (a := nI 0) (b := nI 1) (A := 0) (B := 1) rfl rfl, ab_bindS, decide_eq_true cz]
      exact Ok.pos rfl (Ok.some ⟨rfl, f0⟩)
  have c0 : ¬ z < 0 := fun q => cz (Or.inl q)
  have c1 : z ≤ 1 := Int32.not_lt.mp (fun q => cz (Or.inr q))
  have hw := hW.2.1.1
  have a6 : a < 6 := by omega
  have b6 : b < 6 := by omega
  have w6 : sW (aS A) < 6 := by omega
  obtain ⟨k, hk⟩ := chB_rk (b := b) hO a6
  have hB : chB (aM A) a b < 64 := lvB_lt
  have haB : (chB (aM A) a b).testBit a = false := by
    cases c : (chB (aM A) a b).testBit a with
    | false => rfl
    | true => exact absurd rfl (chB_p hO a6 c).2.2.1
  refine ⟨if (chB (aM A) a b).testBit (sW (aS A)) = true then (if z = 0 then iL (nf ((eRun (aL (chB (aM A) a b)) 1 (M0 (aM A) (chB (aM A) a b) (fun q => (rto (aM A) q a (mR (aM A) q) : Int)) (wt4 k))).2 (sW (aS A)) 6) (eRun (aL (chB (aM A) a b)) 1 (M0 (aM A) (chB (aM A) a b) (fun q => (rto (aM A) q a (mR (aM A) q) : Int)) (wt4 k))).1).1 else iL (nf ((eRun (aL (chB (aM A) a b)) 1 (M0 (aM A) (chB (aM A) a b) (fun q => (rto (aM A) q a (mR (aM A) q) : Int)) (wt4 k))).2 (sW (aS A)) 6) (eRun (aL (chB (aM A) a b)) 1 (M0 (aM A) (chB (aM A) a b) (fun q => (rto (aM A) q a (mR (aM A) q) : Int)) (wt4 k))).1).2) else (if z = 0 then (if sW (aS A) = a then 1 else 0) else 1), fun h hR => ?_, fun h hR => ?_⟩
  · unfold fX11_chance
    rw [c_has_in hO hR.1 ha, ab_bindS]
    refine Ok.neg (by decide) ?_
    rw [c_has_in hO hR.1 hb, ab_bindS]
    refine Ok.neg (by decide) (Ok.neg nab (Ok.neg c0 (Ok.pos c1 ?_)))
    rw [hR.2.1.1]
    refine Ok.bind (c_comes hO hR.1 w6 a6 b6 hk) (fun h1 hr => ?_)
    have f1 : fr sc0 [40, 41] h h1 := fr_m hr.2 (by decide) (by simp)
    have hr := hr.1
    by_cases c : (chB (aM A) a b).testBit (sW (aS A)) = true
    · rw [if_pos c] at hr
      rw [if_pos c, hr.1, hr.2]
      by_cases e : z = 0
      · rw [if_pos e, if_pos e]; exact Ok.some ⟨rfl, f1⟩
      · rw [if_neg e, if_neg e]; exact Ok.some ⟨rfl, f1⟩
    · rw [if_neg c] at hr
      rw [if_neg c, hr.1, hr.2]
      by_cases e : z = 0
      · rw [if_pos e, if_pos e]; exact Ok.some ⟨rfl, f1⟩
      · rw [if_neg e, if_neg e]; exact Ok.some ⟨rfl, f1⟩
  · unfold fX12_chance
    generalize e0 : ab_wI h 64 0 0 = h0; have f0 : frR sk1 sc1 [80, 81] h h0 := (by subst e0; exact frR_64 (frR_r _ _ _ _) (by decide)); have hR0 : RR A h0 := (RR_sc hR f0).1
    rw [r_isPost_in hO hR0.1 ha, ab_bindS]
    refine Ok.neg (by decide) ?_
    rw [r_isPost_in hO hR0.1 hb, ab_bindS]
    refine Ok.neg (by decide) (Ok.neg nab ?_)
    rw [r_win h0 (a := nI 0) (b := nI 1) (A := 0) (B := 1) rfl rfl, ab_bindS, decide_eq_false cz]
    refine Ok.neg (by decide) ?_
    have e33 : h0.1 65 33 = nI (sW (aS A)) := hR0.2.1.1
    have hge : ∀ p, sR (aM A) (2 ^ a ||| 2 ^ b) p = true → (2 ^ a).testBit p = false := fun p hp => by
      unfold sR at hp
      rw [Nat.testBit_or] at hp
      cases c : (2 ^ a).testBit p with
      | false => rfl
      | true => rw [c] at hp; simp at hp
    have hab2 : 2 ^ a ||| 2 ^ b < 64 := Nat.or_lt_two_pow (n := 6) (p2_64 a6) (p2_64 b6)
    rw [shl1 (show a < 31 by omega), shl1 (show b < 31 by omega), b_or, r_come hO hR0.1 (p2_64 a6) hab2 hge, ab_bindS, e33]
    show Ok (if nI (sW (aS A)) = nI a then _ else _) _
    have hcB : lvB (stL (aM A) (Nat.testBit (2 ^ a)) (sR (aM A) (2 ^ a ||| 2 ^ b))) 6 = chB (aM A) a b := rfl
    rw [hcB]
    have nob : ∀ p, (p = a ∨ p = b) → (chB (aM A) a b).testBit p = false := fun p hp => by
      cases c : (chB (aM A) a b).testBit p with
      | false => rfl
      | true =>
        have := chB_p hO a6 c
        rcases hp with e | e
        · exact absurd e this.2.2.1
        · exact absurd e this.2.2.2.1
    by_cases ea : sW (aS A) = a
    · rw [if_neg (show ¬ (chB (aM A) a b).testBit (sW (aS A)) = true by rw [nob _ (Or.inl ea)]; decide), if_pos ea]
      have e1 : nI (sW (aS A)) = nI a := by rw [ea]
      refine Ok.pos e1 ?_
      by_cases e : z = 0
      · rw [if_pos e, if_pos e]
        exact Ok.pos e1 (Ok.some ⟨rfl, f0⟩)
      · rw [if_neg e, if_neg e]
        exact Ok.some ⟨rfl, f0⟩
    · have e1 : ¬ nI (sW (aS A)) = nI a := by rw [nI_eq (by omega) (by omega)]; exact ea
      refine Ok.neg e1 ?_
      rw [if_neg ea]
      by_cases eb : sW (aS A) = b
      · rw [if_neg (show ¬ (chB (aM A) a b).testBit (sW (aS A)) = true by rw [nob _ (Or.inr eb)]; decide)]
        refine Ok.pos (by rw [eb]) ?_
        by_cases e : z = 0
        · rw [if_pos e, if_pos e]
          exact Ok.neg e1 (Ok.some ⟨rfl, f0⟩)
        · rw [if_neg e, if_neg e]
          exact Ok.some ⟨rfl, f0⟩
      · refine Ok.neg (by rw [nI_eq (by omega) (by omega)]; exact eb) ?_
        have h2a : 2 ^ a ||| chB (aM A) a b < 64 := Nat.or_lt_two_pow (n := 6) (p2_64 a6) hB
        rw [r_isIn h0 h2a w6, ab_bindS, Nat.testBit_or, p2_t, decide_eq_false (fun w => ea w.symm), Bool.false_or]
        by_cases c : (chB (aM A) a b).testBit (sW (aS A)) = true
        · rw [if_pos c, c]
          refine Ok.neg (by decide) (Ok.bind r_begins (fun h1 hr => ?_))
          have hM1 : rM (aM A) (h1.1 65) := by rw [hr.2.1 65 (by simp) (by decide)]; exact hR0.1
          refine (r_ch117 (x := z) hO hM1 a6 hB haB hk (aL_m.mpr ⟨w6, c⟩) 6 ab_N 0 h1 (by omega) (by unfold ab_N; omega) (fun q hq => by omega) (fun p' q' w1 w2 => ?_) (frR_r _ _ _ _)).mono (fun r hs => ⟨hs.1, frR_t f0 (frR_t (frR_m hr.2 (by simp) (by simp) (by simp)) (frR_m hs.2 (by simp) (by decide) (by simp)))⟩)
          dsimp only
          rw [if_neg (fun w => by omega)]
          exact hr.1 p' q' w1 w2
        · rw [if_neg c, show (chB (aM A) a b).testBit (sW (aS A)) = false by simpa using c]
          refine Ok.pos (by decide) ?_
          by_cases e : z = 0
          · rw [if_pos e, if_pos e]
            exact Ok.neg e1 (Ok.some ⟨rfl, f0⟩)
          · rw [if_neg e, if_neg e]
            exact Ok.some ⟨rfl, f0⟩
