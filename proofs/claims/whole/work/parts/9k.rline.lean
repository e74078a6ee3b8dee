/-! moor: the reference reads lines. -/
def fM (h h' : abJ) : Prop := frR [6, 7, 9, 10, 11, 12] [68] [] h h'
theorem fM_r (h : abJ) : fM h h := frR_r _ _ _ _
theorem fM_t {h h1 h2 : abJ} (a : fM h h1) (b : fM h1 h2) : fM h h2 := frR_t a b
theorem fM_w {h h' : abJ} (a : fM h h') {k : Nat} {v : Int32} : fM h (ab_wI h' 68 k v) := frR_w a (by simp) (by decide)
theorem PR_68 {T : Nat → Nat} {n : Nat} {s : PsT} {h : abJ} (hP : PR T n s h) {k : Nat} {v : Int32} (hk : k < 133) : PR T n s (ab_wI h 68 k v) := by
  unfold PR at hP ⊢
  obtain ⟨a, b, c⟩ := hP
  refine ⟨⟨a.1, fun q hq => by rw [ab_w1n (by decide)]; exact a.2 q hq⟩, by rw [ab_w1n (by decide)]; exact b, ?_⟩
  cases e : s.1 with
  | none =>
    rw [e] at c
    obtain ⟨c1, c2, c3, c4, c5, c6⟩ := c
    refine ⟨?_, ?_, c3, ?_, fun i hi => ?_, c6⟩
    · rw [ab_w1n (by decide)]; exact c1
    · unfold TR at c2 ⊢; rw [ab_w1n (by decide)]; exact c2
    · rw [ab_w1k (by omega)]; exact c4
    · rw [ab_w1k (by omega)]; exact c5 i hi
  | some x =>
    rw [e] at c
    dsimp only at c ⊢
    rw [ab_w1n (by decide)]; exact c
theorem r_takeP {T : Nat → Nat} {n P : Nat} {s : PsT} {h : abJ} (hP : PR T n s h) (h1 : h.1 68 1 = nI P) (hp : P < 1000) : Ok (fX12_takesPost h) (fun r => PR T n (pT (kdP T n) (kN T n) (kVl T n) 0 P s) r.2 ∧ fQ h r.2 ∧ ((pT (kdP T n) (kN T n) (kVl T n) 0 P s).1 = none → r.1 = nI (kVl T n s.2.1))) := by
  unfold fX12_takesPost
  rw [h1, show (0 : Int32) = nI 0 from rfl]
  exact Ok.bind (r_takeN hP (by omega) hp) (fun r hr => Ok.some hr)
def pokR (T : Nat → Nat) (n P : Nat) (y : PsT × DrT) (h0 h' : abJ) : Prop := fM h0 h' ∧ PR T n y.1 h' ∧ (y.1.1 = none → DQ P y.2 h')
theorem rLw_k {c : Option (Nat × Nat)} {g g' : Nat → Int32} {j : Nat} (hj : j < 2) (h : rLw c g j) (e : ∀ q, 3 ≤ q → q ≤ 8 → g' q = g q) : rLw c g' j := by
  unfold rLw at h ⊢
  cases c with
  | none => dsimp only at h ⊢; rw [e _ (by omega) (by omega)]; exact h
  | some y => dsimp only at h ⊢; rw [e _ (by omega) (by omega), e _ (by omega) (by omega), e _ (by omega) (by omega)]; exact h
theorem DQ_road {P p q : Nat} {x : DrT} {h : abJ} (hD : DQ P x h) (hO : DO P x) (hp : p < 6) (hr3 : dR x p < 3) : DQ P (dN x, dH x, ups (dR x) p (dR x p + 1), (fun a r => if a = p ∧ r = dR x p then q else dL x a r), dA x, dW x, dF x, dT x, dK x) (ab_wI (ab_wI h 68 (15 + 3 * p + dR x p) (nI q)) 68 (9 + p) (nI (dR x p + 1))) := by
  obtain ⟨d0, d1, d2, d3, d4, d5, d6, d7, d8, d9, d10, d11⟩ := hD
  have h3 := hO.2.2.2.1
  refine ⟨?_, ?_, ?_, fun a ha => ?_, fun a r ha hr => ?_, ?_, ?_, ?_, fun a ha => ?_, ?_, ?_, ?_⟩
  · rw [ab_w1k (by omega), ab_w1k (by omega)]; exact d0
  · rw [ab_w1k (by omega), ab_w1k (by omega)]; exact d1
  · rw [ab_w1k (by omega), ab_w1k (by omega)]; exact d2
  · show _ = nI (ups (dR x) p (dR x p + 1) a)
    by_cases e : a = p
    · subst e; rw [ab_w1e, ups_s]
    · rw [ab_w1k (by omega), ab_w1k (by omega), ups_n e]; exact d3 a ha
  · have hr : r < ups (dR x) p (dR x p + 1) a := hr
    show _ = nI (if a = p ∧ r = dR x p then q else dL x a r)
    rw [ab_w1k (by omega)]
    by_cases e : a = p ∧ r = dR x p
    · rw [if_pos e, e.1, e.2, ab_w1e]
    · have hr2 : r < dR x a := by
        by_cases e2 : a = p
        · have e3 : ¬ r = dR x p := fun w => e ⟨e2, w⟩
          rw [e2, ups_s] at hr; rw [e2]; omega
        · rw [ups_n e2] at hr; exact hr
      have g1 := h3 a
      rw [if_neg e, ab_w1k (fun w => e ⟨by omega, by omega⟩)]
      exact d4 a r ha hr2
  · exact rLw_k (by omega) d5 (fun q h1 h2 => by rw [ab_w1k (by omega), ab_w1k (by omega)])
  · exact rLw_k (by omega) d6 (fun q h1 h2 => by rw [ab_w1k (by omega), ab_w1k (by omega)])
  · rw [ab_w1k (by omega), ab_w1k (by omega)]; exact d7
  · rw [ab_w1k (by omega), ab_w1k (by omega)]; exact d8 a ha
  · rw [ab_w1k (by omega), ab_w1k (by omega)]; exact d9
  · rw [ab_w1k (by omega), ab_w1k (by omega)]; exact d10
  · rw [ab_w1k (by omega), ab_w1k (by omega)]; exact d11
theorem r_rRoad {T : Nat → Nat} {n P : Nat} {s : PsT} {x : DrT} {h : abJ} (hs : s.1 = none) (hP : PR T n s h) (hD : DQ P x h) (hO : DO P x) (hk : kdP T n s.2.1 ≠ 24) : Ok (fX12_readRoad h) (pokR T n P (lnR (kdP T n) (kN T n) (kVl T n) P s x) h) := by
  have hp6 := hO.2.1
  have hR3 := hO.2.2.2.1
  unfold fX12_readRoad
  refine Ok.bind (r_nextP hs hP hk) (fun h1 hr1 => ?_)
  have e23 : fX12_is 23 h1 = some (bI (decide ((pN (kN T n) s).1 = none ∧ kdP T n (pN (kN T n) s).2.1 = 23))) := r_isn (k := 23) (by omega) hr1.1
  have eL : lnR (kdP T n) (kN T n) (kVl T n) P s x = (pT (kdP T n) (kN T n) (kVl T n) 0 P (pT (kdP T n) (kN T n) (kVl T n) 0 P (rdF (kdP T n) (kVl T n) P x (pN (kN T n) s))), if (pT (kdP T n) (kN T n) (kVl T n) 0 P (pT (kdP T n) (kN T n) (kVl T n) 0 P (rdF (kdP T n) (kVl T n) P x (pN (kN T n) s)))).1 = none then (dN x, dH x, ups (dR x) (kVl T n (pN (kN T n) s).2.1) (dR x (kVl T n (pN (kN T n) s).2.1) + 1), (fun p r => if p = kVl T n (pN (kN T n) s).2.1 ∧ r = dR x (kVl T n (pN (kN T n) s).2.1) then kVl T n (pT (kdP T n) (kN T n) (kVl T n) 0 P (rdF (kdP T n) (kVl T n) P x (pN (kN T n) s))).2.1 else dL x p r), dA x, dW x, dF x, dT x, dK x) else x) := rfl
  have h1n : (pN (kN T n) s).1 = none := hs
  generalize pN (kN T n) s = s1 at *
  have D1 := fQ_DQ hR3 hD hr1.2
  have J : ∀ h2, PR T n (rdF (kdP T n) (kVl T n) P x s1) h2 → fQ h h2 → Ok (fX12_readRoad_J47 h2) (pokR T n P (lnR (kdP T n) (kN T n) (kVl T n) P s x) h) := by
    intro h2 hP2 f2
    have D2 := fQ_DQ hR3 hD f2
    unfold fX12_readRoad_J47
    refine Ok.bind (r_takeP hP2 D2.2.1 (by omega)) (fun r4 hr4 => ?_)
    have D4 := fQ_DQ hR3 D2 hr4.2.1
    refine Ok.bind (r_takeP hr4.1 D4.2.1 (by omega)) (fun r5 hr5 => ?_)
    have D5 := fQ_DQ hR3 D4 hr5.2.1
    have F : fM h r5.2 := fM_t f2.1 (fM_t hr4.2.1.1 hr5.2.1.1)
    rw [eL]
    by_cases c : (pT (kdP T n) (kN T n) (kVl T n) 0 P (pT (kdP T n) (kN T n) (kVl T n) 0 P (rdF (kdP T n) (kVl T n) P x s1))).1 = none
    · obtain ⟨n2, k2, _, v2, e2⟩ := pT_n c
      obtain ⟨n1, k1, v1, r1, e1⟩ := rdF_n hO n2
      have q4 := hr4.2.2 n2
      have q5 := hr5.2.2 c
      rw [e1] at q4
      have hv2 := kVl_b T n (pT (kdP T n) (kN T n) (kVl T n) 0 P (rdF (kdP T n) (kVl T n) P x s1)).2.1
      have e9 : (9 : Int32) + nI (kVl T n s1.2.1) = nI (9 + kVl T n s1.2.1) := nI_add 9 _
      have e15 : (15 : Int32) + 3 * nI (kVl T n s1.2.1) = nI (15 + 3 * kVl T n s1.2.1) := by rw [show (15 : Int32) = nI 15 from rfl, show (3 : Int32) = nI 3 from rfl, pk_mul, nI_add]
      have d3 := D5.2.2.2.1 (kVl T n s1.2.1) (by omega)
      refine Ok.pos (PR_n c hr5.1).1 ?_
      rw [q4, q5, e9, e15, nI_clamp (show 9 + kVl T n s1.2.1 < 2 ^ 31 by omega), d3, nI_add, nI_clamp (show 15 + 3 * kVl T n s1.2.1 + dR x (kVl T n s1.2.1) < 2 ^ 31 by omega), ab_w1k (show 9 + kVl T n s1.2.1 ≠ 15 + 3 * kVl T n s1.2.1 + dR x (kVl T n s1.2.1) by omega), d3, nI_1, if_pos c]
      refine Ok.ask (ixN (by omega) (by omega)) (Ok.ask (ixN (by omega) (by omega)) (Ok.ask (ixN (by omega) (by omega)) (Ok.ask (ixN (by omega) (by omega)) (Ok.some ⟨fM_w (fM_w F), PR_68 (PR_68 hr5.1 (by omega)) (by omega), fun _ => DQ_road D5 hO (by omega) r1⟩))))
    · refine Ok.neg (PR_w c hr5.1) (Ok.some ⟨F, hr5.1, fun w => absurd w c⟩)
  rw [e23, ab_bindS]
  by_cases c : kdP T n s1.2.1 = 23
  · rw [decide_eq_true ⟨h1n, c⟩]
    refine Ok.neg (by decide) ?_
    have hv := kVl_b T n s1.2.1
    have e10 : h1.1 64 10 = nI (kVl T n s1.2.1) := by
      rw [(PR_n h1n hr1.1).2.1.2.2.2.2 c]
      unfold kVl
      rw [if_pos c]
    have e9 : (9 : Int32) + nI (kVl T n s1.2.1) = nI (9 + kVl T n s1.2.1) := nI_add 9 _
    rw [e10, D1.2.1, e9, nI_clamp (by omega)]
    by_cases cp : P ≤ kVl T n s1.2.1
    · refine Ok.pos (by rw [nI_leI (by omega) (by omega)]; exact cp) (J h1 ?_ hr1.2)
      unfold rdF
      rw [if_neg (fun w => by have := w.2.2.1; omega)]; exact hr1.1
    · refine Ok.neg (by rw [nI_leI (by omega) (by omega)]; exact cp) (Ok.ask (ixN (by omega) (by omega)) ?_)
      have g3 := hR3 (kVl T n s1.2.1)
      rw [D1.2.2.2.1 _ (by omega), show (3 : Int32) = nI 3 from rfl]
      by_cases c3 : dR x (kVl T n s1.2.1) = 3
      · refine Ok.pos (by rw [c3]) (Ok.bind (r_fails (f := 3) (by omega) hr1.1) (fun h2 hr2 => J h2 ?_ (fQ_t hr1.2 hr2.2)))
        unfold rdF
        rw [if_pos ⟨h1n, c, by omega, c3⟩]; exact hr2.1
      · refine Ok.neg (by rw [nI_eq (by omega) (by omega)]; exact c3) (J h1 ?_ hr1.2)
        unfold rdF
        rw [if_neg (fun w => c3 w.2.2.2)]; exact hr1.1
  · rw [decide_eq_false (fun w => c w.2)]
    refine Ok.pos rfl (J h1 ?_ hr1.2)
    unfold rdF
    rw [if_neg (fun w => c w.2.1)]; exact hr1.1
theorem r_rArm {T : Nat → Nat} {n P : Nat} {s : PsT} {x : DrT} {h : abJ} (hs : s.1 = none) (hP : PR T n s h) (hD : DQ P x h) (hO : DO P x) (hk : kdP T n s.2.1 ≠ 24) : Ok (fX12_readArm h) (pokR T n P (lnA (kdP T n) (kN T n) (kVl T n) P s x) h) := by
  have hp6 := hO.2.1
  have hR3 := hO.2.2.2.1
  unfold fX12_readArm
  refine Ok.bind (r_nextP hs hP hk) (fun h1 hr1 => ?_)
  have eL : lnA (kdP T n) (kN T n) (kVl T n) P s x = (pT (kdP T n) (kN T n) (kVl T n) 0 (dR x (kVl T n (pN (kN T n) s).2.1)) (pT (kdP T n) (kN T n) (kVl T n) 0 P (pN (kN T n) s)), if (pT (kdP T n) (kN T n) (kVl T n) 0 (dR x (kVl T n (pN (kN T n) s).2.1)) (pT (kdP T n) (kN T n) (kVl T n) 0 P (pN (kN T n) s))).1 = none then (dN x, dH x, dR x, dL x, pt (dA x) (kVl T n (pN (kN T n) s).2.1) (kVl T n (pT (kdP T n) (kN T n) (kVl T n) 0 P (pN (kN T n) s)).2.1), dW x, dF x, dT x, dK x) else x) := rfl
  rw [eL]
  generalize pN (kN T n) s = s1 at *
  have D1 := fQ_DQ hR3 hD hr1.2
  have g3 := hR3 (kVl T n s1.2.1)
  refine Ok.bind (r_takeP hr1.1 D1.2.1 (by omega)) (fun r2 hr2 => ?_)
  have D2 := fQ_DQ hR3 D1 hr2.2.1
  have F2 : fM h r2.2 := fM_t hr1.2.1 hr2.2.1.1
  by_cases c : (pT (kdP T n) (kN T n) (kVl T n) 0 P s1).1 = none
  · obtain ⟨n1, k1, _, v1, e1⟩ := pT_n c
    have hv2 := kVl_b T n (pT (kdP T n) (kN T n) (kVl T n) 0 P s1).2.1
    have e9 : (9 : Int32) + nI (kVl T n s1.2.1) = nI (9 + kVl T n s1.2.1) := nI_add 9 _
    have e34 : (34 : Int32) + nI (kVl T n s1.2.1) = nI (34 + kVl T n s1.2.1) := nI_add 34 _
    refine Ok.pos (PR_n c hr2.1).1 ?_
    rw [hr2.2.2 c, e9, e34, nI_clamp (show 9 + kVl T n s1.2.1 < 2 ^ 31 by omega), nI_clamp (show 34 + kVl T n s1.2.1 < 2 ^ 31 by omega), D2.2.2.2.1 _ (by omega), show (0 : Int32) = nI 0 from rfl]
    refine Ok.ask (ixN (by omega) (by omega)) (Ok.bind (r_takeN hr2.1 (by omega) (by omega)) (fun r6 hr6 => Ok.ask (ixN (by omega) (by omega)) (Ok.some ⟨fM_w (fM_t F2 hr6.2.1.1), PR_68 hr6.1 (by omega), fun w => ?_⟩)))
    have w : (pT (kdP T n) (kN T n) (kVl T n) 0 (dR x (kVl T n s1.2.1)) (pT (kdP T n) (kN T n) (kVl T n) 0 P s1)).1 = none := w
    obtain ⟨_, _, _, v2, _⟩ := pT_n w
    obtain ⟨d0, d1, d2, d3, d4, d5, d6, d7, d8, d9, d10, d11⟩ := fQ_DQ hR3 D2 hr6.2.1
    rw [if_pos w, hr6.2.2 w]
    refine ⟨?_, ?_, ?_, fun a ha => ?_, fun a r ha hr => ?_, ?_, ?_, ?_, fun a ha => ?_, ?_, ?_, ?_⟩
    · rw [ab_w1k (by omega)]; exact d0
    · rw [ab_w1k (by omega)]; exact d1
    · rw [ab_w1k (by omega)]; exact d2
    · rw [ab_w1k (by omega)]; exact d3 a ha
    · have hr : r < dR x a := hr
      have := hR3 a
      rw [ab_w1k (by omega)]; exact d4 a r ha hr
    · exact rLw_k (by omega) d5 (fun q h1 h2 => by rw [ab_w1k (by omega)])
    · exact rLw_k (by omega) d6 (fun q h1 h2 => by rw [ab_w1k (by omega)])
    · rw [ab_w1k (by omega)]; exact d7
    · show _ = nI (dg (pt (dA x) (kVl T n s1.2.1) (kVl T n (pT (kdP T n) (kN T n) (kVl T n) 0 P s1).2.1)) a)
      by_cases e : a = kVl T n s1.2.1
      · rw [e, ab_w1e, pt_same (by omega)]
      · rw [ab_w1k (by omega), pt_other (by omega) e]; exact d8 a ha
    · rw [ab_w1k (by omega)]; exact d9
    · rw [ab_w1k (by omega)]; exact d10
    · rw [ab_w1k (by omega)]; exact d11
  · refine Ok.neg (PR_w c hr2.1) (Ok.some ?_)
    rw [pT_x c, if_neg c]
    exact ⟨F2, hr2.1, fun w => absurd w c⟩
theorem r_rHome {T : Nat → Nat} {n P : Nat} {s : PsT} {x : DrT} {h : abJ} (hs : s.1 = none) (hP : PR T n s h) (hD : DQ P x h) (hO : DO P x) (hk : kdP T n s.2.1 ≠ 24) : Ok (fX12_readHome h) (pokR T n P (lnH (kdP T n) (kN T n) (kVl T n) P s x) h) := by
  have hp6 := hO.2.1
  have hR3 := hO.2.2.2.1
  unfold fX12_readHome
  refine Ok.bind (r_nextP hs hP hk) (fun h1 hr1 => ?_)
  have eL : lnH (kdP T n) (kN T n) (kVl T n) P s x = (pT (kdP T n) (kN T n) (kVl T n) 0 P (pN (kN T n) s), if (pT (kdP T n) (kN T n) (kVl T n) 0 P (pN (kN T n) s)).1 = none then (dN x, dH x ||| 2 ^ kVl T n (pN (kN T n) s).2.1, dR x, dL x, dA x, dW x, dF x, dT x, dK x) else x) := rfl
  rw [eL]
  generalize pN (kN T n) s = s1 at *
  have D1 := fQ_DQ hR3 hD hr1.2
  refine Ok.bind (r_takeP hr1.1 D1.2.1 (by omega)) (fun r2 hr2 => ?_)
  have D2 := fQ_DQ hR3 D1 hr2.2.1
  have F2 : fM h r2.2 := fM_t hr1.2.1 hr2.2.1.1
  by_cases c : (pT (kdP T n) (kN T n) (kVl T n) 0 P s1).1 = none
  · obtain ⟨n1, k1, _, v1, e1⟩ := pT_n c
    refine Ok.pos (PR_n c hr2.1).1 ?_
    obtain ⟨d0, d1, d2, d3, d4, d5, d6, d7, d8, d9, d10, d11⟩ := D2
    rw [hr2.2.2 c, shl1 (by omega), d2, b_or, if_pos c]
    refine Ok.some ⟨fM_w F2, PR_68 hr2.1 (by omega), fun _ => ⟨?_, ?_, ab_w1e .., fun a ha => ?_, fun a r ha hr => ?_, ?_, ?_, ?_, fun a ha => ?_, ?_, ?_, ?_⟩⟩
    · rw [ab_w1k (by omega)]; exact d0
    · rw [ab_w1k (by omega)]; exact d1
    · rw [ab_w1k (by omega)]; exact d3 a ha
    · rw [ab_w1k (by omega)]; exact d4 a r ha hr
    · exact rLw_k (by omega) d5 (fun q h1 h2 => by rw [ab_w1k (by omega)])
    · exact rLw_k (by omega) d6 (fun q h1 h2 => by rw [ab_w1k (by omega)])
    · rw [ab_w1k (by omega)]; exact d7
    · rw [ab_w1k (by omega)]; exact d8 a ha
    · rw [ab_w1k (by omega)]; exact d9
    · rw [ab_w1k (by omega)]; exact d10
    · rw [ab_w1k (by omega)]; exact d11
  · refine Ok.neg (PR_w c hr2.1) (Ok.some ?_)
    exact ⟨F2, hr2.1, fun w => absurd w c⟩
