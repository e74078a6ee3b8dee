/-! moor: the reference reads laws, all lines. -/
theorem rLw_3 {c : Option (Nat × Nat)} {g g' : Nat → Int32} {j : Nat} (h : rLw c g j) (e3 : g' (3 + j) = g (3 + j)) (e5 : g' (5 + j) = g (5 + j)) (e7 : g' (7 + j) = g (7 + j)) : rLw c g' j := by
  unfold rLw at h ⊢
  cases c with
  | none => dsimp only at h ⊢; rw [e3]; exact h
  | some y => dsimp only at h ⊢; rw [e3, e5, e7]; exact h
theorem r_rTurns {T : Nat → Nat} {n P : Nat} {s : PsT} {x : DrT} {h : abJ} (hs : s.1 = none) (hP : PR T n s h) (hD : DQ P x h) (hO : DO P x) (hk : kdP T n s.2.1 ≠ 24) : Ok (fX12_readLaw 0 h) (pokR T n P (lnT (kdP T n) (kN T n) (kVl T n) s x) h) := by
  have hR3 := hO.2.2.2.1
  have g := (gr_Lv (kgn T n) 6).1
  have rs : rrd T n (fX12_readSum 0) (pLv (kdP T n) (kN T n) (kVl T n) 6).1 := (r_lv 6 0 54 rfl).1
  unfold fX12_readLaw
  refine Ok.bind (r_nextP hs hP hk) (fun h1 hr1 => ?_)
  refine r_eatsF (k := 31) (by omega) (by omega) hr1.1 hr1.2 (fun h2 hP2 f2 => ?_)
  unfold fX12_readLaw_J18
  refine Ok.pos rfl (Ok.bind (rs _ h2 hP2) (fun h3 hr3 => ?_))
  have F : fM h h3 := fM_t f2.1 hr3.2.1
  have eL : lnT (kdP T n) (kN T n) (kVl T n) s x = ((pLv (kdP T n) (kN T n) (kVl T n) 6).1 (pE (kdP T n) (kN T n) 31 (pN (kN T n) s)), if ((pLv (kdP T n) (kN T n) (kVl T n) 6).1 (pE (kdP T n) (kN T n) 31 (pN (kN T n) s))).1 = none then (dN x, dH x, dR x, dL x, dA x, dW x, dF x, some (s.2.2.length, ((pLv (kdP T n) (kN T n) (kVl T n) 6).1 (pE (kdP T n) (kN T n) 31 (pN (kN T n) s))).2.2.length - s.2.2.length), dK x) else x) := rfl
  rw [eL]
  unfold fX12_readLaw_J44
  by_cases c : ((pLv (kdP T n) (kN T n) (kVl T n) 6).1 (pE (kdP T n) (kN T n) 31 (pN (kN T n) s))).1 = none
  · have n2 : (pE (kdP T n) (kN T n) 31 (pN (kN T n) s)).1 = none := Classical.byContradiction (fun w => by rw [g.1 _ w] at c; exact w c)
    have lc : (pE (kdP T n) (kN T n) 31 (pN (kN T n) s)).2.2 = s.2.2 := by rw [(pE_n n2).2.2]; rfl
    have p2 := PR_n n2 hP2
    have p3 := PR_n c hr3.1
    obtain ⟨_, _, l, b3, _, _⟩ := g.2 _ n2 p2.2.2.1 c
    have y2 : h2.1 68 133 = nI s.2.2.length := by rw [p2.2.2.2.1, lc]
    have y3 := p3.2.2.2.1
    have hle : s.2.2.length ≤ ((pLv (kdP T n) (kN T n) (kVl T n) 6).1 (pE (kdP T n) (kN T n) 31 (pN (kN T n) s))).2.2.length := by rw [b3, lc, List.length_append]; omega
    refine Ok.pos p3.1 ?_
    rw [show (3 : Int32) + 0 = nI (3 + 0) from rfl, show (5 : Int32) + 0 = nI (5 + 0) from rfl, show (7 : Int32) + 0 = nI (7 + 0) from rfl, nI_clamp (show 3 + 0 < 2 ^ 31 by omega), nI_clamp (show 5 + 0 < 2 ^ 31 by omega), nI_clamp (show 7 + 0 < 2 ^ 31 by omega), y2, ab_w1k (show 133 ≠ 5 + 0 by decide), ab_w1k (show 133 ≠ 3 + 0 by decide), y3, pk_sub hle, if_pos c]
    refine Ok.ask (ixN (by omega) (by omega)) (Ok.ask (ixN (by omega) (by omega)) (Ok.ask (ixN (by omega) (by omega)) (Ok.some ⟨fM_w (fM_w (fM_w F)), PR_68 (PR_68 (PR_68 hr3.1 (by omega)) (by omega)) (by omega), fun _ => ?_⟩)))
    obtain ⟨d0, d1, d2, d3, d4, d5, d6, d7, d8, d9, d10, d11⟩ := fQ_DQ hR3 (fQ_DQ hR3 hD f2) hr3.2
    have nw : ∀ q, q ≠ 3 + 0 → q ≠ 5 + 0 → q ≠ 7 + 0 → ∀ v1 v2 v3 : Int32, (ab_wI (ab_wI (ab_wI h3 68 (3 + 0) v1) 68 (5 + 0) v2) 68 (7 + 0) v3).1 68 q = h3.1 68 q := fun q w1 w2 w3 v1 v2 v3 => by rw [ab_w1k w3, ab_w1k w2, ab_w1k w1]
    have new : ∀ (a b : Nat), rLw (some (a, b)) ((ab_wI (ab_wI (ab_wI h3 68 (3 + 0) 1) 68 (5 + 0) (nI a)) 68 (7 + 0) (nI b)).1 68) 0 := fun a b => ⟨by rw [ab_w1k (by decide), ab_w1k (by decide), ab_w1e]; rfl, by rw [ab_w1k (by decide), ab_w1e], by rw [ab_w1e]⟩
    refine ⟨?_, ?_, ?_, fun a ha => ?_, fun a r ha hr => ?_, ?_, ?_, ?_, fun a ha => ?_, ?_, ?_, ?_⟩
    · rw [nw _ (by omega) (by omega) (by omega)]; exact d0
    · rw [nw _ (by omega) (by omega) (by omega)]; exact d1
    · rw [nw _ (by omega) (by omega) (by omega)]; exact d2
    · rw [nw _ (by omega) (by omega) (by omega)]; exact d3 a ha
    · rw [nw _ (by omega) (by omega) (by omega)]; exact d4 a r ha hr
    · exact new _ _
    · exact rLw_3 d6 (nw _ (by omega) (by omega) (by omega) _ _ _) (nw _ (by omega) (by omega) (by omega) _ _ _) (nw _ (by omega) (by omega) (by omega) _ _ _)
    · rw [nw _ (by omega) (by omega) (by omega)]; exact d7
    · rw [nw _ (by omega) (by omega) (by omega)]; exact d8 a ha
    · rw [nw _ (by omega) (by omega) (by omega)]; exact d9
    · rw [nw _ (by omega) (by omega) (by omega)]; exact d10
    · rw [nw _ (by omega) (by omega) (by omega)]; exact d11
  · refine Ok.neg (PR_w c hr3.1) (Ok.some ⟨F, hr3.1, fun w => absurd w c⟩)
theorem r_rSticks {T : Nat → Nat} {n P : Nat} {s : PsT} {x : DrT} {h : abJ} (hs : s.1 = none) (hP : PR T n s h) (hD : DQ P x h) (hO : DO P x) (hk : kdP T n s.2.1 ≠ 24) : Ok (fX12_readLaw 1 h) (pokR T n P (lnK (kdP T n) (kN T n) (kVl T n) s x) h) := by
  have hR3 := hO.2.2.2.1
  have g := (gr_Lv (kgn T n) 6).2.1
  have rs : rrd T n (fX12_readTruth 0) (pLv (kdP T n) (kN T n) (kVl T n) 6).2.1 := (r_lv 6 0 51 rfl).2.1
  unfold fX12_readLaw
  refine Ok.bind (r_nextP hs hP hk) (fun h1 hr1 => ?_)
  refine r_eatsF (k := 31) (by omega) (by omega) hr1.1 hr1.2 (fun h2 hP2 f2 => ?_)
  unfold fX12_readLaw_J18
  refine Ok.neg (by decide) (Ok.bind (rs _ h2 hP2) (fun h3 hr3 => ?_))
  have F : fM h h3 := fM_t f2.1 hr3.2.1
  have eL : lnK (kdP T n) (kN T n) (kVl T n) s x = ((pLv (kdP T n) (kN T n) (kVl T n) 6).2.1 (pE (kdP T n) (kN T n) 31 (pN (kN T n) s)), if ((pLv (kdP T n) (kN T n) (kVl T n) 6).2.1 (pE (kdP T n) (kN T n) 31 (pN (kN T n) s))).1 = none then (dN x, dH x, dR x, dL x, dA x, dW x, dF x, dT x, some (s.2.2.length, ((pLv (kdP T n) (kN T n) (kVl T n) 6).2.1 (pE (kdP T n) (kN T n) 31 (pN (kN T n) s))).2.2.length - s.2.2.length)) else x) := rfl
  rw [eL]
  unfold fX12_readLaw_J44
  by_cases c : ((pLv (kdP T n) (kN T n) (kVl T n) 6).2.1 (pE (kdP T n) (kN T n) 31 (pN (kN T n) s))).1 = none
  · have n2 : (pE (kdP T n) (kN T n) 31 (pN (kN T n) s)).1 = none := Classical.byContradiction (fun w => by rw [g.1 _ w] at c; exact w c)
    have lc : (pE (kdP T n) (kN T n) 31 (pN (kN T n) s)).2.2 = s.2.2 := by rw [(pE_n n2).2.2]; rfl
    have p2 := PR_n n2 hP2
    have p3 := PR_n c hr3.1
    obtain ⟨_, _, l, b3, _, _⟩ := g.2 _ n2 p2.2.2.1 c
    have y2 : h2.1 68 133 = nI s.2.2.length := by rw [p2.2.2.2.1, lc]
    have y3 := p3.2.2.2.1
    have hle : s.2.2.length ≤ ((pLv (kdP T n) (kN T n) (kVl T n) 6).2.1 (pE (kdP T n) (kN T n) 31 (pN (kN T n) s))).2.2.length := by rw [b3, lc, List.length_append]; omega
    refine Ok.pos p3.1 ?_
    rw [show (3 : Int32) + 1 = nI (3 + 1) from rfl, show (5 : Int32) + 1 = nI (5 + 1) from rfl, show (7 : Int32) + 1 = nI (7 + 1) from rfl, nI_clamp (show 3 + 1 < 2 ^ 31 by omega), nI_clamp (show 5 + 1 < 2 ^ 31 by omega), nI_clamp (show 7 + 1 < 2 ^ 31 by omega), y2, ab_w1k (show 133 ≠ 5 + 1 by decide), ab_w1k (show 133 ≠ 3 + 1 by decide), y3, pk_sub hle, if_pos c]
    refine Ok.ask (ixN (by omega) (by omega)) (Ok.ask (ixN (by omega) (by omega)) (Ok.ask (ixN (by omega) (by omega)) (Ok.some ⟨fM_w (fM_w (fM_w F)), PR_68 (PR_68 (PR_68 hr3.1 (by omega)) (by omega)) (by omega), fun _ => ?_⟩)))
    obtain ⟨d0, d1, d2, d3, d4, d5, d6, d7, d8, d9, d10, d11⟩ := fQ_DQ hR3 (fQ_DQ hR3 hD f2) hr3.2
    have nw : ∀ q, q ≠ 3 + 1 → q ≠ 5 + 1 → q ≠ 7 + 1 → ∀ v1 v2 v3 : Int32, (ab_wI (ab_wI (ab_wI h3 68 (3 + 1) v1) 68 (5 + 1) v2) 68 (7 + 1) v3).1 68 q = h3.1 68 q := fun q w1 w2 w3 v1 v2 v3 => by rw [ab_w1k w3, ab_w1k w2, ab_w1k w1]
    have new : ∀ (a b : Nat), rLw (some (a, b)) ((ab_wI (ab_wI (ab_wI h3 68 (3 + 1) 1) 68 (5 + 1) (nI a)) 68 (7 + 1) (nI b)).1 68) 1 := fun a b => ⟨by rw [ab_w1k (by decide), ab_w1k (by decide), ab_w1e]; rfl, by rw [ab_w1k (by decide), ab_w1e], by rw [ab_w1e]⟩
    refine ⟨?_, ?_, ?_, fun a ha => ?_, fun a r ha hr => ?_, ?_, ?_, ?_, fun a ha => ?_, ?_, ?_, ?_⟩
    · rw [nw _ (by omega) (by omega) (by omega)]; exact d0
    · rw [nw _ (by omega) (by omega) (by omega)]; exact d1
    · rw [nw _ (by omega) (by omega) (by omega)]; exact d2
    · rw [nw _ (by omega) (by omega) (by omega)]; exact d3 a ha
    · rw [nw _ (by omega) (by omega) (by omega)]; exact d4 a r ha hr
    · exact rLw_3 d5 (nw _ (by omega) (by omega) (by omega) _ _ _) (nw _ (by omega) (by omega) (by omega) _ _ _) (nw _ (by omega) (by omega) (by omega) _ _ _)
    · exact new _ _
    · rw [nw _ (by omega) (by omega) (by omega)]; exact d7
    · rw [nw _ (by omega) (by omega) (by omega)]; exact d8 a ha
    · rw [nw _ (by omega) (by omega) (by omega)]; exact d9
    · rw [nw _ (by omega) (by omega) (by omega)]; exact d10
    · rw [nw _ (by omega) (by omega) (by omega)]; exact d11
  · refine Ok.neg (PR_w c hr3.1) (Ok.some ⟨F, hr3.1, fun w => absurd w c⟩)
theorem r_eatsN {T : Nat → Nat} {n k : Nat} {s : PsT} {h : abJ} (hk : k < 42) (hP : PR T n s h) (c : ¬ (s.1 = none ∧ kdP T n s.2.1 = k)) : fX12_eats (nI k) h = some (0, h) := by
  unfold fX12_eats
  rw [r_isn hk hP, ab_bindS, decide_eq_false c]
  exact if_pos rfl
theorem r_eatsY {T : Nat → Nat} {n k : Nat} {s : PsT} {h : abJ} (hk : k < 42) (h24 : k ≠ 24) (hP : PR T n s h) (hs : s.1 = none) (c : kdP T n s.2.1 = k) : Ok (fX12_eats (nI k) h) (fun r => r.1 = nI 1 ∧ PR T n (pN (kN T n) s) r.2 ∧ fQ h r.2) := by
  refine (r_eats hk h24 hP).mono (fun r hr => ?_)
  rcases hr.1 with ⟨_, _, q3, q4⟩ | ⟨q1, _, _⟩
  · exact ⟨q3, q4, hr.2⟩
  · exact absurd ⟨hs, c⟩ q1
theorem r_rWalker {T : Nat → Nat} {n P : Nat} {s : PsT} {x : DrT} {h r8 : abJ} (hO : DO P x) (hD : DQ P x h) (hP : PR T n (pN (kN T n) s) r8) (f : fQ h r8) : Ok ((fX12_takesPost r8).bind (fun r20 => some (ab_wI r20.2 68 33 r20.1))) (pokR T n P (lnW (kdP T n) (kN T n) (kVl T n) P s x) h) := by
  have hp6 := hO.2.1
  have hR3 := hO.2.2.2.1
  have D1 := fQ_DQ hR3 hD f
  have eL : lnW (kdP T n) (kN T n) (kVl T n) P s x = (pT (kdP T n) (kN T n) (kVl T n) 0 P (pN (kN T n) s), if (pT (kdP T n) (kN T n) (kVl T n) 0 P (pN (kN T n) s)).1 = none then (dN x, dH x, dR x, dL x, dA x, kVl T n (pN (kN T n) s).2.1, dF x, dT x, dK x) else x) := rfl
  rw [eL]
  refine Ok.bind (r_takeP hP D1.2.1 (by omega)) (fun r2 hr2 => Ok.some ⟨fM_w (fM_t f.1 hr2.2.1.1), PR_68 hr2.1 (by omega), fun w => ?_⟩)
  have w : (pT (kdP T n) (kN T n) (kVl T n) 0 P (pN (kN T n) s)).1 = none := w
  obtain ⟨d0, d1, d2, d3, d4, d5, d6, d7, d8, d9, d10, d11⟩ := fQ_DQ hR3 D1 hr2.2.1
  rw [if_pos w, hr2.2.2 w]
  refine ⟨?_, ?_, ?_, fun a ha => ?_, fun a r ha hr => ?_, ?_, ?_, ab_w1e .., fun a ha => ?_, ?_, ?_, ?_⟩
  · rw [ab_w1k (by omega)]; exact d0
  · rw [ab_w1k (by omega)]; exact d1
  · rw [ab_w1k (by omega)]; exact d2
  · rw [ab_w1k (by omega)]; exact d3 a ha
  · have hr : r < dR x a := hr
    have := hR3 a
    rw [ab_w1k (by omega)]; exact d4 a r ha hr
  · exact rLw_k (by omega) d5 (fun q h1 h2 => by rw [ab_w1k (by omega)])
  · exact rLw_k (by omega) d6 (fun q h1 h2 => by rw [ab_w1k (by omega)])
  · rw [ab_w1k (by omega)]; exact d8 a ha
  · rw [ab_w1k (by omega)]; exact d9
  · rw [ab_w1k (by omega)]; exact d10
  · rw [ab_w1k (by omega)]; exact d11
theorem r_rFog {T : Nat → Nat} {n P : Nat} {s : PsT} {x : DrT} {h r8 : abJ} (hO : DO P x) (hD : DQ P x h) (hP : PR T n (pN (kN T n) s) r8) (f : fQ h r8) : Ok ((fX12_takes 0 9 r8).bind (fun r20 => some (ab_wI r20.2 68 40 r20.1))) (pokR T n P (lnF (kdP T n) (kN T n) (kVl T n) s x) h) := by
  have hR3 := hO.2.2.2.1
  have D1 := fQ_DQ hR3 hD f
  have eL : lnF (kdP T n) (kN T n) (kVl T n) s x = (pT (kdP T n) (kN T n) (kVl T n) 0 10 (pN (kN T n) s), if (pT (kdP T n) (kN T n) (kVl T n) 0 10 (pN (kN T n) s)).1 = none then (dN x, dH x, dR x, dL x, dA x, dW x, kVl T n (pN (kN T n) s).2.1, dT x, dK x) else x) := rfl
  have tk : Ok (fX12_takes 0 9 r8) (fun r => PR T n (pT (kdP T n) (kN T n) (kVl T n) 0 10 (pN (kN T n) s)) r.2 ∧ fQ r8 r.2 ∧ ((pT (kdP T n) (kN T n) (kVl T n) 0 10 (pN (kN T n) s)).1 = none → r.1 = nI (kVl T n (pN (kN T n) s).2.1))) := r_takeN (lo := 0) (hx := 10) hP (by omega) (by omega)
  rw [eL]
  refine Ok.bind tk (fun r2 hr2 => Ok.some ⟨fM_w (fM_t f.1 hr2.2.1.1), PR_68 hr2.1 (by omega), fun w => ?_⟩)
  have w : (pT (kdP T n) (kN T n) (kVl T n) 0 10 (pN (kN T n) s)).1 = none := w
  obtain ⟨d0, d1, d2, d3, d4, d5, d6, d7, d8, d9, d10, d11⟩ := fQ_DQ hR3 D1 hr2.2.1
  rw [if_pos w, hr2.2.2 w]
  refine ⟨?_, ?_, ?_, fun a ha => ?_, fun a r ha hr => ?_, ?_, ?_, ?_, fun a ha => ?_, ab_w1e .., ?_, ?_⟩
  · rw [ab_w1k (by omega)]; exact d0
  · rw [ab_w1k (by omega)]; exact d1
  · rw [ab_w1k (by omega)]; exact d2
  · rw [ab_w1k (by omega)]; exact d3 a ha
  · have hr : r < dR x a := hr
    have := hR3 a
    rw [ab_w1k (by omega)]; exact d4 a r ha hr
  · exact rLw_k (by omega) d5 (fun q h1 h2 => by rw [ab_w1k (by omega)])
  · exact rLw_k (by omega) d6 (fun q h1 h2 => by rw [ab_w1k (by omega)])
  · rw [ab_w1k (by omega)]; exact d7
  · rw [ab_w1k (by omega)]; exact d8 a ha
  · rw [ab_w1k (by omega)]; exact d10
  · rw [ab_w1k (by omega)]; exact d11
theorem Ok_some_b {α : Type} {o : Option α} {Q : α → Prop} (h : Ok o Q) : Ok (o.bind (fun r => some r)) Q := Ok.bind h (fun _ hr => Ok.some hr)
theorem r_rdLine {T : Nat → Nat} {n P : Nat} {s : PsT} {x : DrT} {h : abJ} (hs : s.1 = none) (hP : PR T n s h) (hD : DQ P x h) (hO : DO P x) (hk : kdP T n s.2.1 ≠ 24) : Ok (fX12_readLine h) (pokR T n P (ln1 (kdP T n) (kN T n) (kVl T n) P s x) h) := by
  have i2 : fX12_is 2 h = some (bI (decide (s.1 = none ∧ kdP T n s.2.1 = 2))) := r_isn (k := 2) (by omega) hP
  have i3 : fX12_is 3 h = some (bI (decide (s.1 = none ∧ kdP T n s.2.1 = 3))) := r_isn (k := 3) (by omega) hP
  have i4 : fX12_is 4 h = some (bI (decide (s.1 = none ∧ kdP T n s.2.1 = 4))) := r_isn (k := 4) (by omega) hP
  have i7 : fX12_is 7 h = some (bI (decide (s.1 = none ∧ kdP T n s.2.1 = 7))) := r_isn (k := 7) (by omega) hP
  have i8 : fX12_is 8 h = some (bI (decide (s.1 = none ∧ kdP T n s.2.1 = 8))) := r_isn (k := 8) (by omega) hP
  have e9 : h.1 64 9 = nI (kdP T n s.2.1) := (PR_n hs hP).2.1.2.2.2.1
  unfold fX12_readLine ln1
  refine Ok.pos (PR_n hs hP).1 ?_
  rw [i2, ab_bindS]
  by_cases c2 : kdP T n s.2.1 = 2
  · rw [decide_eq_true ⟨hs, c2⟩, if_pos c2]
    exact Ok.neg (by decide) (Ok_some_b (r_rRoad hs hP hD hO hk))
  rw [decide_eq_false (fun w => c2 w.2), if_neg c2, i3, ab_bindS]
  refine Ok.pos rfl ?_
  by_cases c3 : kdP T n s.2.1 = 3
  · rw [decide_eq_true ⟨hs, c3⟩, if_pos c3]
    exact Ok.neg (by decide) (Ok_some_b (r_rArm hs hP hD hO hk))
  rw [decide_eq_false (fun w => c3 w.2), if_neg c3, i4, ab_bindS]
  refine Ok.pos rfl ?_
  by_cases c4 : kdP T n s.2.1 = 4
  · rw [decide_eq_true ⟨hs, c4⟩, if_pos c4]
    exact Ok.neg (by decide) (Ok_some_b (r_rHome hs hP hD hO hk))
  rw [decide_eq_false (fun w => c4 w.2), if_neg c4]
  refine Ok.pos rfl ?_
  by_cases c5 : kdP T n s.2.1 = 5
  · have y5 : Ok (fX12_eats 5 h) (fun r => r.1 = nI 1 ∧ PR T n (pN (kN T n) s) r.2 ∧ fQ h r.2) := r_eatsY (k := 5) (by omega) (by omega) hP hs c5
    rw [if_pos c5]
    refine Ok.bind y5 (fun r hr => ?_)
    rw [hr.1]
    exact Ok.neg (by decide) (r_rWalker hO hD hr.2.1 hr.2.2)
  have y5 : fX12_eats 5 h = some (0, h) := r_eatsN (k := 5) (by omega) hP (fun w => c5 w.2)
  rw [if_neg c5, y5, ab_bindS]
  refine Ok.pos rfl ?_
  by_cases c6 : kdP T n s.2.1 = 6
  · have y6 : Ok (fX12_eats 6 h) (fun r => r.1 = nI 1 ∧ PR T n (pN (kN T n) s) r.2 ∧ fQ h r.2) := r_eatsY (k := 6) (by omega) (by omega) hP hs c6
    rw [if_pos c6]
    refine Ok.bind y6 (fun r hr => ?_)
    rw [hr.1]
    exact Ok.neg (by decide) (r_rFog hO hD hr.2.1 hr.2.2)
  have y6 : fX12_eats 6 h = some (0, h) := r_eatsN (k := 6) (by omega) hP (fun w => c6 w.2)
  rw [if_neg c6, y6, ab_bindS, i7, ab_bindS, e9]
  refine Ok.pos rfl ?_
  by_cases c7 : kdP T n s.2.1 = 7
  · rw [decide_eq_true ⟨hs, c7⟩, if_pos c7, c7, show nI 7 - 7 = (0 : Int32) from by decide]
    exact Ok.neg (by decide) (Ok_some_b (r_rTurns hs hP hD hO hk))
  rw [decide_eq_false (fun w => c7 w.2), if_neg c7, i8, ab_bindS]
  refine Ok.pos rfl ?_
  by_cases c8 : kdP T n s.2.1 = 8
  · rw [decide_eq_true ⟨hs, c8⟩, if_pos c8, c8, show nI 8 - 7 = (1 : Int32) from by decide]
    exact Ok.neg (by decide) (Ok_some_b (r_rSticks hs hP hD hO hk))
  rw [decide_eq_false (fun w => c8 w.2), if_neg c8]
  exact Ok.pos rfl (Ok.bind (r_fails (f := 2) (by omega) hP) (fun h' hr => Ok.some ⟨hr.2.1, hr.1, fun w => absurd w pF_x⟩))
theorem r_close {T : Nat → Nat} {n P : Nat} {y : PsT × DrT} {h0 h : abJ} (hR : y.1.1 = none → ∀ p, dR y.2 p ≤ 3) (hp : pokR T n P y h0 h) : Ok (fX12_closes h) (pokR T n P (lnE (kdP T n) (kN T n) y) h0) := by
  unfold fX12_closes
  refine r_eatsF (k := 30) (G := fun r3 => some (ab_wI r3 68 0 ((r3.1 68 0) + 1))) (by omega) (by omega) hp.2.1 (fQ_r h) (fun h' hP' f' => Ok.some ⟨fM_w (fM_t hp.1 f'.1), PR_68 hP' (by omega), fun w => ?_⟩)
  have w : (pE (kdP T n) (kN T n) 30 y.1).1 = none := w
  have n1 := (pE_n w).1
  have hR3 := hR n1
  obtain ⟨d0, d1, d2, d3, d4, d5, d6, d7, d8, d9, d10, d11⟩ := fQ_DQ hR3 (hp.2.2 n1) f'
  refine ⟨?_, ?_, ?_, fun a ha => ?_, fun a r ha hr => ?_, ?_, ?_, ?_, fun a ha => ?_, ?_, ?_, ?_⟩
  · rw [ab_w1e, d0, nI_1]; rfl
  · rw [ab_w1k (by omega)]; exact d1
  · rw [ab_w1k (by omega)]; exact d2
  · rw [ab_w1k (by omega)]; exact d3 a ha
  · rw [ab_w1k (by omega)]; exact d4 a r ha hr
  · exact rLw_k (by omega) d5 (fun q h1 h2 => by rw [ab_w1k (by omega)])
  · exact rLw_k (by omega) d6 (fun q h1 h2 => by rw [ab_w1k (by omega)])
  · rw [ab_w1k (by omega)]; exact d7
  · rw [ab_w1k (by omega)]; exact d8 a ha
  · rw [ab_w1k (by omega)]; exact d9
  · rw [ab_w1k (by omega)]; exact d10
  · rw [ab_w1k (by omega)]; exact d11
theorem pokR_t {T : Nat → Nat} {n P : Nat} {y : PsT × DrT} {h0 h h' : abJ} (a : fM h0 h) (b : pokR T n P y h h') : pokR T n P y h0 h' := ⟨fM_t a b.1, b.2⟩
theorem r_lns {T : Nat → Nat} {n P : Nat} {h0 : abJ} {Q : Int32 × abJ → Prop} : ∀ (k N : Nat) (y : PsT × DrT) (h : abJ), pokR T n P y h0 h → (y.1.1 = none → DI n P y ∧ 901 ≤ k + y.1.2.1) → k + 1 < N → (∀ h', pokR T n P (lns (kdP T n) (kN T n) (kVl T n) P k y) h0 h' → Ok (fX12_moor_J111 h') Q) → Ok (fX12_moor_L84 N h) Q := by
  intro k
  induction k with
  | zero =>
    intro N y h hp hI hN hJ
    obtain ⟨N, rfl⟩ : ∃ n0, N = n0 + 1 := ⟨N - 1, by omega⟩
    rw [fX12_moor_L84]
    by_cases e : y.1.1 = none
    · obtain ⟨i1, i2⟩ := hI e
      have := i1.2.1
      have := hp.2.1.1.1
      omega
    · exact Ok.neg (PR_w e hp.2.1) (hJ h (by rw [lns_x e]; exact hp))
  | succ k ih =>
    intro N y h hp hI hN hJ
    obtain ⟨N, rfl⟩ : ∃ n0, N = n0 + 1 := ⟨N - 1, by omega⟩
    rw [fX12_moor_L84]
    by_cases e : y.1.1 = none
    · obtain ⟨i1, i2⟩ := hI e
      obtain ⟨p0, p1, _⟩ := PR_n e hp.2.1
      have kb := kd_b T n y.1.2.1
      rw [p1.2.2.2.1, show (24 : Int32) = nI 24 from rfl]
      refine Ok.pos p0 ?_
      by_cases c : kdP T n y.1.2.1 = 24
      · exact Ok.pos (by rw [c]) (hJ h (by rw [lns_24 e c]; exact hp))
      · refine Ok.neg (by rw [nI_eq (by omega) (by omega)]; exact c) ?_
        refine Ok.bind (r_rdLine (s := y.1) (x := y.2) e hp.2.1 (hp.2.2 e) i1.1 c) (fun h1 hr1 => ?_)
        refine Ok.bind (r_close (fun w => (dJ_1 (kgn T n) e c i1 w).1.2.2.2.1) hr1) (fun h2 hr2 => ?_)
        refine ih N _ h2 (pokR_t hp.1 hr2) (fun w => ?_) (by omega) (fun h' hr => hJ h' (by rw [lns, if_pos e, if_neg c]; exact hr))
        have := DI_ln (kgn T n) e c i1 w
        exact ⟨this.1, by omega⟩
    · exact Ok.neg (PR_w e hp.2.1) (hJ h (by rw [lns_x e]; exact hp))
