/-! moor: the reference reads laws to their ends. -/
theorem r_leafP {T : Nat → Nat} {n c : Nat} {s : PsT} {h : abJ} (hs : s.1 = none) (hP : PR T n s h) (hk : kdP T n s.2.1 ≠ 24) : Ok ((fX12_codes (nI c) h).bind (fun r => (fX12_next r).bind (fun r2 => some r2))) (fun h' => PR T n (pN (kN T n) (pC c s)) h' ∧ fQ h h') := by
  obtain ⟨p0, p1, p2, p3, p4, p5⟩ := PR_n hs hP
  have hn := hP.1.1
  have ha := kd_24 hk
  have hb := beh_b (T := T) ha
  have hg := (kgn T n).1 _ p2 hk
  rw [pCN hs]
  unfold fX12_codes
  rw [p0, p3, show (134 : Int32) = nI 134 from rfl, nI_add, nI_clamp (by omega), ab_w1k (show 133 ≠ 134 + s.2.2.length by omega), p3, nI_1]
  refine Ok.bind (P := fun h1 => h1 = ab_wI (ab_wI h 68 (134 + s.2.2.length) (nI c)) 68 133 (nI (s.2.2.length + 1))) (Ok.pos rfl (Ok.ask (ixN (by omega) (by omega)) (Ok.some rfl))) (fun h1 e => ?_)
  have g64 : h1.1 64 = h.1 64 := by rw [e, ab_w1n (by decide), ab_w1n (by decide)]
  have g67 : h1.1 67 = h.1 67 := by rw [e, ab_w1n (by decide), ab_w1n (by decide)]
  have f1 : fQ h h1 := by
    rw [e]
    exact ⟨frR_w (frR_w (frR_r _ _ _ _) (by simp) (by decide)) (by simp) (by decide), fun q hq => by rw [ab_w1k (by omega), ab_w1k (by omega)]⟩
  have hT1 : TP T n 67 h1 := ⟨hn, fun k hk => by rw [g67]; exact hP.1.2 k hk⟩
  refine Ok.bind (r_next hT1 (by rw [g64]; exact hP.2.1) (by rw [g64]; exact p1.2.2.1) hb.2) (fun h2 hr => Ok.some ⟨⟨TP_fN hT1 hr.2, ?_, ?_⟩, fQ_t f1 (fQ_N hr.2)⟩)
  · rw [fN_8 hr.2, g64]; exact hP.2.1
  · have en : (pC c (pN (kN T n) s)) = (none, kN T n s.2.1, s.2.2 ++ [c]) := by unfold pC pN; rw [if_pos hs]
    rw [en]
    refine ⟨?_, hr.1, hg.2, ?_, fun i hi => ?_, ?_⟩
    · rw [hr.2.2.1 11 (by decide), g64]; exact p0
    · show h2.1 68 133 = nI (s.2.2 ++ [c]).length
      rw [hr.2.1 68 (by simp) (by decide), e, ab_w1e]; exact congrArg nI ln_a.symm
    · have hi : i < (s.2.2 ++ [c]).length := hi
      rw [ln_a] at hi
      show h2.1 68 (134 + i) = nI ((s.2.2 ++ [c]).getD i 0)
      rw [hr.2.1 68 (by simp) (by decide), e, ab_w1k (by omega)]
      by_cases e2 : i = s.2.2.length
      · rw [e2, ab_w1e, gd_e]
      · rw [ab_w1k (by omega), gd_l (by omega)]; exact p4 i (by omega)
    · show (s.2.2 ++ [c]).length ≤ kN T n s.2.1
      rw [ln_a]
      have : s.2.1 < kN T n s.2.1 := hg.1
      omega
theorem r_goes {T : Nat → Nat} {n d : Nat} {s : PsT} {h : abJ} (hd : d ≤ 6) (hs : s.1 = none) (hP : PR T n s h) (hk : kdP T n s.2.1 ≠ 24) : Ok (fX12_goesIn (nI d) h) (fun r => (if d < 6 then r.1 = nI 1 ∧ PR T n (pN (kN T n) s) r.2 else r.1 = nI 0 ∧ PR T n (pF (kdP T n) 4 s) r.2) ∧ fQ h r.2) := by
  have p0 := (PR_n hs hP).1
  unfold fX12_goesIn
  by_cases c : d < 6
  · simp only [if_pos c]
    refine Ok.neg (by rw [show (6 : Int32) = nI 6 from rfl, nI_eq (by omega) (by omega)]; omega) ?_
    rw [p0]
    refine Ok.pos rfl (Ok.bind (r_nextP hs hP hk) (fun h1 hr => ?_))
    have := (PR_n (s := pN (kN T n) s) hs hr.1).1
    rw [this]
    exact Ok.pos rfl (Ok.some ⟨⟨rfl, hr.1⟩, hr.2⟩)
  · simp only [if_neg c]
    refine Ok.pos (by rw [show d = 6 by omega]; rfl) (Ok.bind (r_fails (f := 4) (by omega) hP) (fun h1 hr => ?_))
    have := PR_w pF_x hr.1
    exact Ok.neg this (Ok.neg this (Ok.some ⟨⟨rfl, hr.1⟩, hr.2⟩))
theorem r_lpSum {T : Nat → Nat} {n d D : Nat} {R : Nat → Int32 → abJ → Option abJ} {B : PsT → PsT} {h0 : abJ} (hB : grd n false D B) (hc : rrd T n (R 1 (nI d)) B) : ∀ (k N : Nat) (s : PsT) (h : abJ), PR T n s h → (s.1 = none → 901 ≤ k + s.2.1) → k + 1 < N → fQ h0 h → Ok (fX12_readSum_L5 R N (nI d) h) (fun h' => PR T n (plp (kdP T n) (kN T n) cdS B k s) h' ∧ fQ h0 h')
  | k, N, s, h, hP, hk, hN, hf => by
    obtain ⟨N, rfl⟩ : ∃ n0, N = n0 + 1 := ⟨N - 1, by omega⟩
    have hn := hP.1.1
    have lp := gr_lp (kgn T n) cdk_S hB
    have e32 : fX12_is 32 h = some (bI (decide (s.1 = none ∧ kdP T n s.2.1 = 32))) := r_isn (k := 32) (by omega) hP
    have e33 : fX12_is 33 h = some (bI (decide (s.1 = none ∧ kdP T n s.2.1 = 33))) := r_isn (k := 33) (by omega) hP
    have go : ∀ code, s.1 = none → kdP T n s.2.1 ≠ 24 → cdS (kdP T n s.2.1) = some code → Ok (fX12_readSum_J41 R (fun y1 h => fX12_readSum_L5 R N y1 h) (nI d) (nI code) h) (fun h' => PR T n (plp (kdP T n) (kN T n) cdS B k s) h' ∧ fQ h0 h') := by
      intro code q1 h24 ec
      obtain ⟨p0, p1, p2, p3, p4, p5⟩ := PR_n q1 hP
      have ha : s.2.1 < n := kd_24 h24
      have hk1 := hk q1
      have hk2 := pK_N (s := s) (kgn T n) p2 h24
      obtain ⟨k, rfl⟩ : ∃ k0, k = k0 + 1 := ⟨k - 1, by omega⟩
      rw [plp, if_pos q1, ec]
      unfold fX12_readSum_J41
      refine Ok.bind (r_nextP q1 hP h24) (fun h3 hr3 => Ok.bind (hc _ h3 hr3.1) (fun h1 hr1 => ?_))
      have gl : (B (pN (kN T n) s)).1 = none → (B (pN (kN T n) s)).2.2.length < (B (pN (kN T n) s)).2.1 ∧ (B (pN (kN T n) s)).2.1 ≤ n ∧ s.2.1 < (B (pN (kN T n) s)).2.1 := fun w => by
        have g := slk_g (hB.2 (pN (kN T n) s) q1 hk2.2.1 w)
        have e3 : (pN (kN T n) s).2.2 = s.2.2 := rfl
        unfold slk at g
        rw [e3] at g
        have := hk2.1
        omega
      refine Ok.bind (r_codes (c := code) hr1.1 (fun w => by have := gl w; omega) (fun w => (gl w).1)) (fun h2 hr2 => ?_)
      refine r_lpSum hB hc k N _ h2 hr2.1 (fun w => ?_) (by omega) (fQ_t hf (fQ_t hr3.2 (fQ_t hr1.2 hr2.2)))
      have w2 := pC_n w
      have ea : (pC code (B (pN (kN T n) s))).2.1 = (B (pN (kN T n) s)).2.1 := by unfold pC; rw [if_pos w2]
      have := gl w2
      rw [ea]; omega
    rw [fX12_readSum_L5, e32, ab_bindS, e33, ab_bindS]
    unfold fX12_readSum_J23
    by_cases c1 : s.1 = none ∧ kdP T n s.2.1 = 32
    · rw [decide_eq_true c1, (PR_n c1.1 hP).2.1.2.2.2.1, c1.2]
      exact Ok.neg (by decide) (Ok.pos rfl (go 3000 c1.1 (by omega) (by rw [c1.2]; rfl)))
    · rw [decide_eq_false c1]
      refine Ok.pos (by decide) ?_
      by_cases c2 : s.1 = none ∧ kdP T n s.2.1 = 33
      · rw [decide_eq_true c2, (PR_n c2.1 hP).2.1.2.2.2.1, c2.2]
        exact Ok.neg (by decide) (Ok.neg (by decide) (go 3001 c2.1 (by omega) (by rw [c2.2]; rfl)))
      · rw [decide_eq_false c2]
        refine Ok.pos (by decide) (Ok.some ⟨?_, hf⟩)
        by_cases hs : s.1 = none
        · have ep : plp (kdP T n) (kN T n) cdS B k s = s := by
            cases k with
            | zero => rfl
            | succ k => rw [plp, if_pos hs, show cdS (kdP T n s.2.1) = none by unfold cdS; rw [if_neg (fun w => c1 ⟨hs, w⟩), if_neg (fun w => c2 ⟨hs, w⟩)]]
          rw [ep]; exact hP
        · rw [(lp k s).1 hs]; exact hP
theorem r_rdSum {T : Nat → Nat} {n d D : Nat} {R : Nat → Int32 → abJ → Option abJ} {B : PsT → PsT} (hB : grd n false D B) (hc : rrd T n (R 1 (nI d)) B) : rrd T n (bX12_readSum R (nI d)) (fun s => plp (kdP T n) (kN T n) cdS B 901 (B s)) := by
  intro s h hP
  unfold bX12_readSum
  refine Ok.bind (hc s h hP) (fun h1 hr => ?_)
  exact r_lpSum (h0 := h) hB hc 901 ab_N (B s) h1 hr.1 (fun _ => by omega) (by unfold ab_N; omega) hr.2
/-- a choice -/
def pIf (K N : Nat → Nat) (op : Bool) (S0 R0 : PsT → PsT) (s : PsT) : PsT := if op = true then pC 3009 (pE K N 12 (S0 (pE K N 11 (S0 (pE K N 10 (R0 (pN N s))))))) else pF K 4 s
theorem r_rdIf {T : Nat → Nat} {n d D : Nat} {R : Nat → Int32 → abJ → Option abJ} {S0 R0 : PsT → PsT} (hd : d ≤ 6) (hS : d < 6 → grd n false D S0 ∧ rrd T n (R 0 (nI (d + 1))) S0) (hR : d < 6 → grd n true D R0 ∧ rrd T n (R 3 (nI (d + 1))) R0) : ∀ s h, s.1 = none → kdP T n s.2.1 ≠ 24 → PR T n s h → Ok (bX12_readIf R (nI d) h) (fun h' => PR T n (pIf (kdP T n) (kN T n) (decide (d < 6)) S0 R0 s) h' ∧ fQ h h') := by
  intro s h hs hk hP
  obtain ⟨p0, p1, p2, p3, p4, p5⟩ := PR_n hs hP
  have hk2 := pK_N (s := s) (kgn T n) p2 hk
  unfold bX12_readIf pIf
  refine Ok.bind (r_goes hd hs hP hk) (fun r hr => ?_)
  by_cases co : d < 6
  · rw [if_pos co] at hr
    obtain ⟨g1, g2⟩ := hS co
    obtain ⟨r1, r2⟩ := hR co
    rw [decide_eq_true co, if_pos rfl, hr.1.1, nI_1]
    refine Ok.neg (by decide) (Ok.bind (r2 _ r.2 hr.1.2) (fun h1 q1 => ?_))
    refine r_eatsF (k := 10) (h0 := h) (G := fun h => fX12_readIf_J30 R (nI d) h) (by omega) (by omega) q1.1 (fQ_t hr.2 q1.2) (fun h2 q2 f2 => ?_)
    show Ok (fX12_readIf_J30 R (nI d) h2) _
    unfold fX12_readIf_J30
    rw [nI_1]
    refine Ok.bind (g2 _ h2 q2) (fun h3 q3 => ?_)
    refine r_eatsF (k := 11) (h0 := h) (G := fun h => fX12_readIf_J51 R (nI d) h) (by omega) (by omega) q3.1 (fQ_t f2 q3.2) (fun h4 q4 f4 => ?_)
    show Ok (fX12_readIf_J51 R (nI d) h4) _
    unfold fX12_readIf_J51
    rw [nI_1]
    refine Ok.bind (g2 _ h4 q4) (fun h5 q5 => ?_)
    refine r_eatsF (k := 12) (h0 := h) (G := fun h => (fX12_codes 3009 h).bind (fun r15 => some r15)) (by omega) (by omega) q5.1 (fQ_t f4 q5.2) (fun h6 q6 f6 => ?_)
    have sl : (pE (kdP T n) (kN T n) 12 (S0 (pE (kdP T n) (kN T n) 11 (S0 (pE (kdP T n) (kN T n) 10 (R0 (pN (kN T n) s))))))).1 = none → (pE (kdP T n) (kN T n) 12 (S0 (pE (kdP T n) (kN T n) 11 (S0 (pE (kdP T n) (kN T n) 10 (R0 (pN (kN T n) s))))))).2.2.length < (pE (kdP T n) (kN T n) 12 (S0 (pE (kdP T n) (kN T n) 11 (S0 (pE (kdP T n) (kN T n) 10 (R0 (pN (kN T n) s))))))).2.1 ∧ (pE (kdP T n) (kN T n) 12 (S0 (pE (kdP T n) (kN T n) 11 (S0 (pE (kdP T n) (kN T n) 10 (R0 (pN (kN T n) s))))))).2.1 ≤ n := by
      intro w8
      have w7 := (pE_n w8).1
      have w6 : (pE (kdP T n) (kN T n) 11 (S0 (pE (kdP T n) (kN T n) 10 (R0 (pN (kN T n) s))))).1 = none := Classical.byContradiction (fun w => by rw [g1.1 _ w] at w7; exact w w7)
      have w5 := (pE_n w6).1
      have w4 : (pE (kdP T n) (kN T n) 10 (R0 (pN (kN T n) s))).1 = none := Classical.byContradiction (fun w => by rw [g1.1 _ w] at w5; exact w w5)
      have w3 := (pE_n w4).1
      have k3 := slk_g (r1.2 (pN (kN T n) s) hs hk2.2.1 w3)
      have k4 := slk_E (T := T) (k := 10) (by omega) k3.2.2 w4
      have k5 := slk_g (g1.2 _ w4 k4.2.2 w5)
      have k6 := slk_E (T := T) (k := 11) (by omega) k5.2.2 w6
      have k7 := slk_g (g1.2 _ w6 k6.2.2 w7)
      have k8 := slk_E (T := T) (k := 12) (by omega) k7.2.2 w8
      have k1 := hk2.1
      have ec : (pN (kN T n) s).2.2 = s.2.2 := rfl
      unfold slk at k3 k4 k5 k6 k7 k8
      rw [ec] at k3
      omega
    exact Ok.bind (r_codes (c := 3009) q6 (fun w => by have := sl w; omega) (fun w => (sl w).1)) (fun h7 q7 => Ok.some ⟨q7.1, fQ_t f6 q7.2⟩)
  · rw [if_neg co] at hr
    rw [decide_eq_false co, if_neg (show ¬ false = true by decide), hr.1.1]
    exact Ok.pos (by decide) (Ok.some ⟨hr.1.2, hr.2⟩)
theorem r_word {T : Nat → Nat} {n a : Nat} {h : abJ} : fX12_wordOf (nI (kdP T n a)) h = some (match lfc (kdP T n a) with | some c => nI (c - 1000) | none => -1) := by
  have kb := kd_b T n a
  have ne : ∀ k, k < 42 → kdP T n a ≠ k → ¬ nI (kdP T n a) = nI k := fun k hk w => by rw [nI_eq (by omega) (by omega)]; exact w
  unfold fX12_wordOf lfc
  by_cases c1 : kdP T n a = 13
  · rw [c1]; rfl
  by_cases c2 : kdP T n a = 3
  · rw [c2]; rfl
  by_cases c3 : kdP T n a = 14
  · rw [c3]; rfl
  by_cases c4 : kdP T n a = 6
  · rw [c4]; rfl
  rw [show (3 : Int32) = nI 3 from rfl, show (6 : Int32) = nI 6 from rfl, show (13 : Int32) = nI 13 from rfl, show (14 : Int32) = nI 14 from rfl, if_neg (ne 3 (by omega) c2), if_neg (ne 6 (by omega) c4), if_neg (ne 13 (by omega) c1), if_neg (ne 14 (by omega) c3), if_neg c1, if_neg c2, if_neg c3, if_neg c4]
theorem r_rdAtom {T : Nat → Nat} {n d D : Nat} {R : Nat → Int32 → abJ → Option abJ} {S0 R0 : PsT → PsT} (hd : d ≤ 6) (hS : d < 6 → grd n false D S0 ∧ rrd T n (R 0 (nI (d + 1))) S0) (hI : ∀ s h, s.1 = none → kdP T n s.2.1 ≠ 24 → PR T n s h → Ok (R 6 (nI d) h) (fun h' => PR T n (pIf (kdP T n) (kN T n) (decide (d < 6)) S0 R0 s) h' ∧ fQ h h')) : rrd T n (bX12_readAtom R (nI d)) (pA (kdP T n) (kN T n) (kVl T n) (decide (d < 6)) S0 R0) := by
  intro s h hP
  have e23 : fX12_is 23 h = some (bI (decide (s.1 = none ∧ kdP T n s.2.1 = 23))) := r_isn (k := 23) (by omega) hP
  have e35 : fX12_is 35 h = some (bI (decide (s.1 = none ∧ kdP T n s.2.1 = 35))) := r_isn (k := 35) (by omega) hP
  have e9 : fX12_is 9 h = some (bI (decide (s.1 = none ∧ kdP T n s.2.1 = 9))) := r_isn (k := 9) (by omega) hP
  unfold bX12_readAtom pA
  rw [e23, ab_bindS]
  by_cases hs : s.1 = none
  · obtain ⟨p0, p1, p2, p3, p4, p5⟩ := PR_n hs hP
    rw [if_pos hs, p0, p1.2.2.2.1, r_word, ab_bindS, ab_bindS]
    by_cases c1 : kdP T n s.2.1 = 23
    · rw [if_pos c1, decide_eq_true ⟨hs, c1⟩, p1.2.2.2.2 c1]
      have ev : nvl T s.2.1 (behP T n s.2.1 - s.2.1) = kVl T n s.2.1 := by unfold kVl; rw [if_pos c1]
      rw [ev]
      exact Ok.neg (by decide) (r_leafP hs hP (by omega))
    rw [if_neg c1, decide_eq_false (fun w => c1 w.2)]
    refine Ok.pos (by decide) (Ok.pos rfl ?_)
    cases e : lfc (kdP T n s.2.1) with
    | some c =>
      obtain ⟨b1, b2⟩ := lfc_b e
      have b3 : 1000 ≤ c := by
        unfold lfc at e
        split at e
        · cases e; omega
        · split at e
          · cases e; omega
          · split at e
            · cases e; omega
            · split at e
              · cases e; omega
              · cases e
      dsimp only
      rw [show (1000 : Int32) = nI 1000 from rfl, nI_add, show 1000 + (c - 1000) = c by omega]
      exact Ok.neg (fun q => (ab_n_eq (b := 1) (by omega) (by omega) (by omega)).mp q) (r_leafP hs hP b2)
    | none =>
      dsimp only
      refine Ok.pos rfl ?_
      unfold fX12_readAtom_J66
      rw [e35, ab_bindS, e9, ab_bindS]
      by_cases c2 : kdP T n s.2.1 = 35
      · rw [if_pos c2, decide_eq_true ⟨hs, c2⟩]
        refine Ok.neg (by decide) (Ok.bind (r_goes hd hs hP (by omega)) (fun r hr => ?_))
        by_cases co : d < 6
        · rw [if_pos co] at hr
          rw [decide_eq_true co, if_pos rfl, hr.1.1, nI_1]
          obtain ⟨g1, g2⟩ := hS co
          refine Ok.neg (by decide) (Ok.bind (g2 _ r.2 hr.1.2) (fun h1 q1 => ?_))
          exact r_eatsF (k := 36) (h0 := h) (G := fun h => some h) (by omega) (by omega) q1.1 (fQ_t hr.2 q1.2) (fun h2 q2 f2 => Ok.some ⟨q2, f2⟩)
        · rw [if_neg co] at hr
          rw [decide_eq_false co, if_neg (show ¬ false = true by decide), hr.1.1]
          exact Ok.pos (by decide) (Ok.some ⟨hr.1.2, hr.2⟩)
      · rw [if_neg c2, decide_eq_false (fun w => c2 w.2)]
        refine Ok.pos (by decide) ?_
        by_cases c3 : kdP T n s.2.1 = 9
        · rw [if_pos c3, decide_eq_true ⟨hs, c3⟩]
          refine Ok.neg (by decide) (Ok.bind (hI s h hs (by omega) hP) (fun h1 q1 => Ok.some ?_))
          unfold pIf at q1
          exact q1
        · rw [if_neg c3, decide_eq_false (fun w => c3 w.2)]
          exact Ok.pos (by decide) (Ok.bind (r_fails (f := 2) (by omega) hP) (fun h1 q1 => Ok.some q1))
  · have pf : pF (kdP T n) 2 s = s := by unfold pF; rw [if_neg hs]
    rw [if_neg hs, decide_eq_false (fun w => hs w.1)]
    refine Ok.pos (by decide) (Ok.neg (PR_w hs hP) ?_)
    unfold fX12_readAtom_J66
    rw [e35, ab_bindS, e9, ab_bindS, decide_eq_false (fun w => hs w.1), decide_eq_false (fun w => hs w.1)]
    refine Ok.pos (by decide) (Ok.pos (by decide) (Ok.bind (r_fails (f := 2) (by omega) hP) (fun h1 q1 => Ok.some ?_)))
    rw [pf] at q1
    exact q1
theorem r_rdUnit {T : Nat → Nat} {n d D : Nat} {R : Nat → Int32 → abJ → Option abJ} {S R0 U0 : PsT → PsT} (hd : d ≤ 6) (hS : grd n false D S ∧ rrd T n (R 0 (nI d)) S) (hR : d < 6 → grd n true D R0 ∧ rrd T n (R 3 (nI (d + 1))) R0) (hU : d < 6 → grd n true D U0 ∧ rrd T n (R 5 (nI (d + 1))) U0) : rrd T n (bX12_readUnit R (nI d)) (pUn (kdP T n) (kN T n) (decide (d < 6)) S R0 U0) := by
  intro s h hP
  have e17 : fX12_is 17 h = some (bI (decide (s.1 = none ∧ kdP T n s.2.1 = 17))) := r_isn (k := 17) (by omega) hP
  have e37 : fX12_is 37 h = some (bI (decide (s.1 = none ∧ kdP T n s.2.1 = 37))) := r_isn (k := 37) (by omega) hP
  unfold bX12_readUnit pUn
  rw [e17, ab_bindS, e37, ab_bindS]
  -- a comparison
  have cmp : Ok ((R 0 (nI d) h).bind (fun r5 => (fX12_is 39 r5).bind (fun r6 => if r6 = 0 then (fX12_is 40 r5).bind (fun r8 => if r8 = 0 then fX12_readUnit_J111 R (nI d) 3005 r5 else fX12_readUnit_J111 R (nI d) 3004 r5) else fX12_readUnit_J111 R (nI d) 3003 r5))) (fun h' => PR T n (pQ (kdP T n) (kN T n) S (S s)) h' ∧ fQ h h') := by
    refine Ok.bind (hS.2 s h hP) (fun h1 hr => ?_)
    obtain ⟨q1, f1⟩ := hr
    generalize eu : S s = u at q1
    have e39 : fX12_is 39 h1 = some (bI (decide (u.1 = none ∧ kdP T n u.2.1 = 39))) := r_isn (k := 39) (by omega) q1
    have e40 : fX12_is 40 h1 = some (bI (decide (u.1 = none ∧ kdP T n u.2.1 = 40))) := r_isn (k := 40) (by omega) q1
    have e41 : fX12_is 41 h1 = some (bI (decide (u.1 = none ∧ kdP T n u.2.1 = 41))) := r_isn (k := 41) (by omega) q1
    have go : ∀ code, u.1 = none → kdP T n u.2.1 ≠ 24 → cdC (kdP T n u.2.1) = some code → Ok ((fX12_next h1).bind (fun r19 => (R 0 (nI d) r19).bind (fun r20 => (fX12_codes (nI code) r20).bind (fun r21 => some r21)))) (fun h' => PR T n (pQ (kdP T n) (kN T n) S u) h' ∧ fQ h h') := by
      intro code hu hk ec
      obtain ⟨p0, p1, p2, p3, p4, p5⟩ := PR_n hu q1
      have hk2 := pK_N (s := u) (kgn T n) p2 hk
      unfold pQ
      rw [if_pos hu, ec]
      refine Ok.bind (r_nextP hu q1 hk) (fun h2 hr2 => Ok.bind (hS.2 _ h2 hr2.1) (fun h3 hr3 => ?_))
      have gl : (S (pN (kN T n) u)).1 = none → (S (pN (kN T n) u)).2.2.length < (S (pN (kN T n) u)).2.1 ∧ (S (pN (kN T n) u)).2.1 ≤ n := fun w => by
        have g := slk_g (hS.1.2 (pN (kN T n) u) hu hk2.2.1 w)
        have e3 : (pN (kN T n) u).2.2 = u.2.2 := rfl
        unfold slk at g
        rw [e3] at g
        have := hk2.1
        omega
      exact Ok.bind (r_codes (c := code) hr3.1 (fun w => by have := gl w; omega) (fun w => (gl w).1)) (fun h4 hr4 => Ok.some ⟨hr4.1, fQ_t f1 (fQ_t hr2.2 (fQ_t hr3.2 hr4.2))⟩)
    have bad : ∀ code, (u.1 = none → cdC (kdP T n u.2.1) = none) → Ok ((fX12_fails 2 h1).bind (fun r16 => (R 0 (nI d) r16).bind (fun r17 => (fX12_codes (nI code) r17).bind (fun r18 => some r18)))) (fun h' => PR T n (pQ (kdP T n) (kN T n) S u) h' ∧ fQ h h') := by
      intro code hc
      have eq : pQ (kdP T n) (kN T n) S u = pF (kdP T n) 2 u := by
        unfold pQ
        by_cases hu : u.1 = none
        · rw [if_pos hu, hc hu]
        · rw [if_neg hu]; unfold pF; rw [if_neg hu]
      rw [eq]
      refine Ok.bind (r_fails (f := 2) (by omega) q1) (fun h2 hr2 => Ok.bind (hS.2 _ h2 hr2.1) (fun h3 hr3 => ?_))
      rw [hS.1.1 _ pF_x] at hr3
      refine Ok.bind (r_codes (c := code) hr3.1 (fun w => absurd w pF_x) (fun w => absurd w pF_x)) (fun h4 hr4 => Ok.some ⟨?_, fQ_t f1 (fQ_t hr2.2 (fQ_t hr3.2 hr4.2))⟩)
      rw [pC_x pF_x] at hr4
      exact hr4.1
    rw [e39, ab_bindS, e40, ab_bindS]
    unfold fX12_readUnit_J111
    rw [e39, e40, e41]
    simp only [ab_bindS]
    by_cases c1 : u.1 = none ∧ kdP T n u.2.1 = 39
    · rw [decide_eq_true c1]
      exact Ok.neg (by decide) (Ok.neg (by decide) (go 3003 c1.1 (by omega) (by rw [c1.2]; rfl)))
    rw [decide_eq_false c1]
    refine Ok.pos (by decide) ?_
    by_cases c2 : u.1 = none ∧ kdP T n u.2.1 = 40
    · rw [decide_eq_true c2]
      exact Ok.neg (by decide) (Ok.pos (by decide) (Ok.neg (by decide) (go 3004 c2.1 (by omega) (by rw [c2.2]; rfl))))
    rw [decide_eq_false c2]
    refine Ok.pos (by decide) (Ok.pos (by decide) (Ok.pos (by decide) ?_))
    by_cases c3 : u.1 = none ∧ kdP T n u.2.1 = 41
    · rw [decide_eq_true c3]
      exact Ok.neg (by decide) (go 3005 c3.1 (by omega) (by rw [c3.2]; rfl))
    · rw [decide_eq_false c3]
      exact Ok.pos (by decide) (bad 3005 (fun hu => by unfold cdC; rw [if_neg (fun w => c1 ⟨hu, w⟩), if_neg (fun w => c2 ⟨hu, w⟩), if_neg (fun w => c3 ⟨hu, w⟩)]))
  by_cases hs : s.1 = none
  · obtain ⟨p0, p1, p2, p3, p4, p5⟩ := PR_n hs hP
    rw [if_pos hs]
    by_cases c1 : kdP T n s.2.1 = 17
    · rw [if_pos c1, decide_eq_true ⟨hs, c1⟩]
      have hk2 := pK_N (s := s) (kgn T n) p2 (by omega)
      refine Ok.neg (by decide) (Ok.bind (r_goes hd hs hP (by omega)) (fun r hr => ?_))
      by_cases co : d < 6
      · rw [if_pos co] at hr
        rw [decide_eq_true co, if_pos rfl, hr.1.1, nI_1]
        obtain ⟨g1, g2⟩ := hU co
        refine Ok.neg (by decide) (Ok.bind (g2 _ r.2 hr.1.2) (fun h1 q1 => ?_))
        have gl : (U0 (pN (kN T n) s)).1 = none → (U0 (pN (kN T n) s)).2.2.length < (U0 (pN (kN T n) s)).2.1 ∧ (U0 (pN (kN T n) s)).2.1 ≤ n := fun w => by
          have g := slk_g (g1.2 (pN (kN T n) s) hs hk2.2.1 w)
          have e3 : (pN (kN T n) s).2.2 = s.2.2 := rfl
          unfold slk at g
          rw [e3] at g
          have := hk2.1
          omega
        exact Ok.bind (r_codes (c := 3006) q1.1 (fun w => by have := gl w; omega) (fun w => (gl w).1)) (fun h2 q2 => Ok.some ⟨q2.1, fQ_t hr.2 (fQ_t q1.2 q2.2)⟩)
      · rw [if_neg co] at hr
        rw [decide_eq_false co, if_neg (show ¬ false = true by decide), hr.1.1]
        exact Ok.pos (by decide) (Ok.some ⟨hr.1.2, hr.2⟩)
    rw [if_neg c1, decide_eq_false (fun w => c1 w.2)]
    refine Ok.pos (by decide) ?_
    by_cases c2 : kdP T n s.2.1 = 37
    · rw [if_pos c2, decide_eq_true ⟨hs, c2⟩]
      refine Ok.neg (by decide) (Ok.bind (r_goes hd hs hP (by omega)) (fun r hr => ?_))
      by_cases co : d < 6
      · rw [if_pos co] at hr
        rw [decide_eq_true co, if_pos rfl, hr.1.1, nI_1]
        obtain ⟨g1, g2⟩ := hR co
        refine Ok.neg (by decide) (Ok.bind (g2 _ r.2 hr.1.2) (fun h1 q1 => ?_))
        exact r_eatsF (k := 38) (h0 := h) (G := fun h => some h) (by omega) (by omega) q1.1 (fQ_t hr.2 q1.2) (fun h2 q2 f2 => Ok.some ⟨q2, f2⟩)
      · rw [if_neg co] at hr
        rw [decide_eq_false co, if_neg (show ¬ false = true by decide), hr.1.1]
        exact Ok.pos (by decide) (Ok.some ⟨hr.1.2, hr.2⟩)
    rw [if_neg c2, decide_eq_false (fun w => c2 w.2)]
    exact Ok.pos (by decide) cmp
  · rw [if_neg hs, decide_eq_false (fun w => hs w.1), decide_eq_false (fun w => hs w.1)]
    rw [hS.1.1 s hs, pQ_x hs] at cmp
    exact Ok.pos (by decide) (Ok.pos (by decide) cmp)
