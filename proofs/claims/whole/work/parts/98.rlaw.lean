/-! moor: the reference reads laws. -/
/-- the reference as it reads: the fault, the token, the codes -/
def PR (T : Nat → Nat) (n : Nat) (s : PsT) (h : abJ) : Prop := TP T n 67 h ∧ h.1 64 8 = nI n ∧ (match s.1 with | none => h.1 64 11 = nI 0 ∧ TR T n s.2.1 h ∧ s.2.1 ≤ n ∧ h.1 68 133 = nI s.2.2.length ∧ (∀ i, i < s.2.2.length → h.1 68 (134 + i) = nI (s.2.2.getD i 0)) ∧ s.2.2.length ≤ s.2.1 | some x => h.1 64 11 = nI x.1 ∧ h.1 64 12 = nI x.2 ∧ 0 < x.1 ∧ x.1 < 5)
/-- but for the token, the fault and the codes all is as it was -/
def fQ (h h' : abJ) : Prop := frR [6, 7, 9, 10, 11, 12] [68] [] h h' ∧ ∀ q, q < 133 → h'.1 68 q = h.1 68 q
theorem fQ_r (h : abJ) : fQ h h := ⟨frR_r _ _ _ _, fun _ _ => rfl⟩
theorem fQ_t {h h1 h2 : abJ} (a : fQ h h1) (b : fQ h1 h2) : fQ h h2 := ⟨frR_t a.1 b.1, fun q w => (b.2 q w).trans (a.2 q w)⟩
theorem fQ_N {h h' : abJ} (a : fN h h') : fQ h h' := ⟨frR_m a (by decide) (by simp) (by simp), fun q _ => by rw [a.1 68 (by simp) (by decide)]⟩
def rrd (T : Nat → Nat) (n : Nat) (g : abJ → Option abJ) (f : PsT → PsT) : Prop := ∀ s h, PR T n s h → Ok (g h) (fun h' => PR T n (f s) h' ∧ fQ h h')
theorem PR_n {T : Nat → Nat} {n : Nat} {s : PsT} {h : abJ} (hs : s.1 = none) (hP : PR T n s h) : h.1 64 11 = nI 0 ∧ TR T n s.2.1 h ∧ s.2.1 ≤ n ∧ h.1 68 133 = nI s.2.2.length ∧ (∀ i, i < s.2.2.length → h.1 68 (134 + i) = nI (s.2.2.getD i 0)) ∧ s.2.2.length ≤ s.2.1 := by
  have := hP.2.2
  rw [hs] at this
  exact this
theorem PR_w {T : Nat → Nat} {n : Nat} {s : PsT} {h : abJ} (hs : s.1 ≠ none) (hP : PR T n s h) : ¬ h.1 64 11 = 0 := by
  cases e : s.1 with
  | none => exact absurd e hs
  | some x =>
    have := hP.2.2
    rw [e] at this
    obtain ⟨q1, _, q3, q4⟩ := (show h.1 64 11 = nI x.1 ∧ h.1 64 12 = nI x.2 ∧ 0 < x.1 ∧ x.1 < 5 from this)
    rw [q1, show (0 : Int32) = nI 0 from rfl, nI_eq (by omega) (by omega)]; omega
theorem r_nextP {T : Nat → Nat} {n : Nat} {s : PsT} {h : abJ} (hs : s.1 = none) (hP : PR T n s h) (hk : kdP T n s.2.1 ≠ 24) : Ok (fX12_next h) (fun h' => PR T n (pN (kN T n) s) h' ∧ fQ h h') := by
  obtain ⟨p0, p1, p2, p3, p4, p5⟩ := PR_n hs hP
  have hb := beh_b (T := T) (kd_24 hk)
  have hg := (kgn T n).1 _ p2 hk
  refine (r_next hP.1 hP.2.1 p1.2.2.1 hb.2).mono (fun h' hr => ⟨⟨TP_fN hP.1 hr.2, by rw [fN_8 hr.2]; exact hP.2.1, ?_⟩, fQ_N hr.2⟩)
  show (match s.1 with | none => _ | some x => _)
  rw [hs]
  refine ⟨?_, hr.1, hg.2, ?_, fun i hi => ?_, ?_⟩
  · rw [hr.2.2.1 11 (by decide)]; exact p0
  · rw [hr.2.1 68 (by simp) (by decide)]; exact p3
  · rw [hr.2.1 68 (by simp) (by decide)]; exact p4 i hi
  · have : s.2.1 < kN T n s.2.1 := hg.1
    show s.2.2.length ≤ kN T n s.2.1
    omega
theorem r_fails {T : Nat → Nat} {n f : Nat} {s : PsT} {h : abJ} (hf : 0 < f ∧ f < 5) (hP : PR T n s h) : Ok (fX12_fails (nI f) h) (fun h' => PR T n (pF (kdP T n) f s) h' ∧ fQ h h') := by
  unfold fX12_fails pF
  by_cases hs : s.1 = none
  · obtain ⟨p0, p1, p2, p3, p4, p5⟩ := PR_n hs hP
    rw [p0, p1.2.2.2.1, ab_w1k (show 6 ≠ 11 by decide), ab_w1k (show 6 ≠ 11 by decide), p1.2.1, if_pos hs]
    have kb : kdP T n s.2.1 < 2 ^ 31 := by
      unfold kdP
      split
      · split
        · have := kwf_b (w := txt T s.2.1 (behP T n s.2.1 - s.2.1)) (z := 22) (xs := kwt) (i := 0)
          rw [kwt_n.2] at this
          omega
        · split
          · split <;> omega
          · have := kwf_b (w := txt T s.2.1 1) (z := 25) (xs := sgt) (i := 30)
            rw [sgt_n.2] at this
            omega
      · omega
    have fw : ∀ v w : Int32, fQ h (ab_wI (ab_wI h 64 11 v) 64 12 w) := fun v w => ⟨frR_64 (frR_64 (frR_r _ _ _ _) (by simp)) (by simp), fun q _ => by rw [ab_w1n (by decide), ab_w1n (by decide)]⟩
    have mk : ∀ v : Nat, 0 < v ∧ v < 5 → PR T n (some (v, s.2.1), s.2.1, s.2.2) (ab_wI (ab_wI h 64 11 (nI v)) 64 12 (nI s.2.1)) := fun v hv => by
      refine ⟨⟨hP.1.1, fun k hk => ?_⟩, ?_, ?_, ?_, hv.1, hv.2⟩
      · rw [ab_w1n (by decide), ab_w1n (by decide)]; exact hP.1.2 k hk
      · rw [ab_w1k (by decide), ab_w1k (by decide)]; exact hP.2.1
      · show (ab_wI (ab_wI h 64 11 (nI v)) 64 12 (nI s.2.1)).1 64 11 = nI v
        rw [ab_w1k (by decide), ab_w1e]
      · show (ab_wI (ab_wI h 64 11 (nI v)) 64 12 (nI s.2.1)).1 64 12 = nI s.2.1
        rw [ab_w1e]
    refine Ok.pos rfl ?_
    by_cases c : kdP T n s.2.1 = 25
    · rw [if_pos c]
      exact Ok.pos (by rw [c]; rfl) (Ok.some ⟨mk 1 (by omega), fw _ _⟩)
    · rw [if_neg c]
      exact Ok.neg (by rw [show (25 : Int32) = nI 25 from rfl, nI_eq kb (by omega)]; exact c) (Ok.some ⟨mk f hf, fw _ _⟩)
  · rw [if_neg hs]
    exact Ok.neg (PR_w hs hP) (Ok.some ⟨hP, fQ_r h⟩)
theorem kd_b (T : Nat → Nat) (n a : Nat) : kdP T n a < 42 := by
  unfold kdP
  split
  · split
    · have := kwf_b (w := txt T a (behP T n a - a)) (z := 22) (xs := kwt) (i := 0)
      rw [kwt_n.2] at this
      omega
    · split
      · split <;> omega
      · have := kwf_b (w := txt T a 1) (z := 25) (xs := sgt) (i := 30)
        rw [sgt_n.2] at this
        omega
  · omega
theorem r_isn {T : Nat → Nat} {n k : Nat} {s : PsT} {h : abJ} (hk : k < 42) (hP : PR T n s h) : fX12_is (nI k) h = some (bI (decide (s.1 = none ∧ kdP T n s.2.1 = k))) := by
  have kb := kd_b T n s.2.1
  unfold fX12_is
  by_cases hs : s.1 = none
  · obtain ⟨p0, p1, _⟩ := PR_n hs hP
    rw [p0, p1.2.2.2.1, if_pos (show nI 0 = 0 from rfl)]
    by_cases c : kdP T n s.2.1 = k
    · rw [if_pos (by rw [c]), decide_eq_true ⟨hs, c⟩]; rfl
    · rw [if_neg (by rw [nI_eq (by omega) (by omega)]; exact c), decide_eq_false (fun w => c w.2)]; rfl
  · rw [if_neg (PR_w hs hP), decide_eq_false (fun w => hs w.1)]; rfl
theorem r_codes {T : Nat → Nat} {n c : Nat} {s : PsT} {h : abJ} (hP : PR T n s h) (hl : s.1 = none → s.2.2.length < n) (hl2 : s.1 = none → s.2.2.length < s.2.1) : Ok (fX12_codes (nI c) h) (fun h' => PR T n (pC c s) h' ∧ fQ h h') := by
  unfold fX12_codes pC
  have hn := hP.1.1
  by_cases hs : s.1 = none
  · obtain ⟨p0, p1, p2, p3, p4, p5⟩ := PR_n hs hP
    have h1 := hl hs
    have h2 := hl2 hs
    rw [p0, p3, show (134 : Int32) = nI 134 from rfl, nI_add, nI_clamp (by omega), ab_w1k (show 133 ≠ 134 + s.2.2.length by omega), p3, nI_1, if_pos hs]
    refine Ok.pos rfl (Ok.ask (ixN (by omega) (by omega)) (Ok.some ⟨⟨⟨hP.1.1, fun k hk => ?_⟩, ?_, ?_, ⟨?_, ?_, ?_, ?_, fun q => ?_⟩, p2, ?_, fun i hi => ?_, ?_⟩, frR_w (frR_w (frR_r _ _ _ _) (by simp) (by decide)) (by simp) (by decide), fun q hq => ?_⟩))
    · rw [ab_w1n (by decide), ab_w1n (by decide)]; exact hP.1.2 k hk
    · rw [ab_w1n (by decide), ab_w1n (by decide)]; exact hP.2.1
    · rw [ab_w1n (by decide), ab_w1n (by decide)]; exact p0
    · rw [ab_w1n (by decide), ab_w1n (by decide)]; exact p1.1
    · rw [ab_w1n (by decide), ab_w1n (by decide)]; exact p1.2.1
    · rw [ab_w1n (by decide), ab_w1n (by decide)]; exact p1.2.2.1
    · rw [ab_w1n (by decide), ab_w1n (by decide)]; exact p1.2.2.2.1
    · rw [ab_w1n (by decide), ab_w1n (by decide)]; exact p1.2.2.2.2 q
    · show (ab_wI _ 68 133 _).1 68 133 = nI (s.2.2 ++ [c]).length
      rw [ab_w1e]; exact congrArg nI ln_a.symm
    · have hi : i < (s.2.2 ++ [c]).length := hi
      rw [ln_a] at hi
      rw [ab_w1k (by omega)]
      show (ab_wI h 68 (134 + s.2.2.length) (nI c)).1 68 (134 + i) = nI ((s.2.2 ++ [c]).getD i 0)
      by_cases e : i = s.2.2.length
      · rw [e, ab_w1e, gd_e]
      · rw [ab_w1k (by omega), gd_l (by omega)]; exact p4 i (by omega)
    · show (s.2.2 ++ [c]).length ≤ s.2.1
      rw [ln_a]; omega
    · rw [ab_w1k (by omega), ab_w1k (by omega)]
  · rw [if_neg hs]
    exact Ok.neg (PR_w hs hP) (Ok.some ⟨hP, fQ_r h⟩)
/-- one token is eaten, or nothing is -/
theorem r_eats {T : Nat → Nat} {n k : Nat} {s : PsT} {h : abJ} (hk : k < 42) (h24 : k ≠ 24) (hP : PR T n s h) : Ok (fX12_eats (nI k) h) (fun r => (s.1 = none ∧ kdP T n s.2.1 = k ∧ r.1 = nI 1 ∧ PR T n (pN (kN T n) s) r.2 ∨ ¬ (s.1 = none ∧ kdP T n s.2.1 = k) ∧ r.1 = nI 0 ∧ PR T n s r.2) ∧ fQ h r.2) := by
  unfold fX12_eats
  rw [r_isn hk hP, ab_bindS]
  by_cases c : s.1 = none ∧ kdP T n s.2.1 = k
  · rw [decide_eq_true c]
    exact Ok.neg (by decide) (Ok.bind (r_nextP c.1 hP (by omega)) (fun h' hr => Ok.some ⟨Or.inl ⟨c.1, c.2, rfl, hr.1⟩, hr.2⟩))
  · rw [decide_eq_false c]
    exact Ok.pos (by decide) (Ok.some ⟨Or.inr ⟨c, rfl, hP⟩, fQ_r h⟩)
/-- one token is eaten, or that is a fault; then one goes on -/
theorem r_eatsF {T : Nat → Nat} {n k : Nat} {s : PsT} {h h0 : abJ} {α : Type} {G : abJ → Option α} {Q : α → Prop} (hk : k < 42) (h24 : k ≠ 24) (hP : PR T n s h) (hf : fQ h0 h) (hG : ∀ h', PR T n (pE (kdP T n) (kN T n) k s) h' → fQ h0 h' → Ok (G h') Q) : Ok ((fX12_eats (nI k) h).bind (fun r => if r.1 = 0 then (fX12_fails 2 r.2).bind (fun r3 => G r3) else G r.2)) Q := by
  refine Ok.bind (r_eats hk h24 hP) (fun r hr => ?_)
  obtain ⟨q, qf⟩ := hr
  rcases q with ⟨q1, q2, q3, q4⟩ | ⟨q1, q3, q4⟩
  · rw [q3]
    refine Ok.neg (by decide) (hG r.2 ?_ (fQ_t hf qf))
    unfold pE
    rw [if_pos q1, if_pos q2]; exact q4
  · rw [q3]
    refine Ok.pos (by decide) (Ok.bind (r_fails (f := 2) (by omega) q4) (fun h' hr' => hG h' ?_ (fQ_t hf (fQ_t qf hr'.2))))
    unfold pE
    by_cases hs : s.1 = none
    · rw [if_pos hs, if_neg (fun w => q1 ⟨hs, w⟩)]; exact hr'.1
    · rw [if_neg hs]
      have := hr'.1
      unfold pF at this
      rw [if_neg hs] at this
      exact this
theorem r_lpTerm {T : Nat → Nat} {n d D : Nat} {R : Nat → Int32 → abJ → Option abJ} {B : PsT → PsT} {h0 : abJ} (hB : grd n false D B) (hc : rrd T n (R 2 (nI d)) B) : ∀ (k N : Nat) (s : PsT) (h : abJ), PR T n s h → (s.1 = none → 901 ≤ k + s.2.1) → k + 1 < N → fQ h0 h → Ok (fX12_readTerm_L5 R N (nI d) h) (fun h' => PR T n (plp (kdP T n) (kN T n) cdT B k s) h' ∧ fQ h0 h')
  | k, N, s, h, hP, hk, hN, hf => by
    obtain ⟨N, rfl⟩ : ∃ n0, N = n0 + 1 := ⟨N - 1, by omega⟩
    have hn := hP.1.1
    have lp := gr_lp (kgn T n) cdk_T hB
    rw [fX12_readTerm_L5]
    refine Ok.bind (r_eats (k := 34) (by omega) (by omega) hP) (fun r hr => ?_)
    obtain ⟨q, qf⟩ := hr
    rcases q with ⟨q1, q2, q3, q4⟩ | ⟨q1, q3, q4⟩
    · obtain ⟨p0, p1, p2, p3, p4, p5⟩ := PR_n q1 hP
      have h24 : kdP T n s.2.1 ≠ 24 := by omega
      have ha : s.2.1 < n := kd_24 h24
      have hk1 := hk q1
      have hk2 := pK_N (s := s) (kgn T n) p2 h24
      obtain ⟨k, rfl⟩ : ∃ k0, k = k0 + 1 := ⟨k - 1, by omega⟩
      rw [q3, plp, if_pos q1, show cdT (kdP T n s.2.1) = some 3002 by rw [q2]; rfl]
      refine Ok.neg (by decide) (Ok.bind (hc _ r.2 q4) (fun h1 hr1 => ?_))
      have gl : (B (pN (kN T n) s)).1 = none → (B (pN (kN T n) s)).2.2.length < (B (pN (kN T n) s)).2.1 ∧ (B (pN (kN T n) s)).2.1 ≤ n ∧ s.2.1 < (B (pN (kN T n) s)).2.1 := fun w => by
        have g := slk_g (hB.2 (pN (kN T n) s) q1 hk2.2.1 w)
        have e3 : (pN (kN T n) s).2.2 = s.2.2 := rfl
        unfold slk at g
        rw [e3] at g
        have := hk2.1
        omega
      refine Ok.bind (r_codes (c := 3002) hr1.1 (fun w => by have := gl w; omega) (fun w => (gl w).1)) (fun h2 hr2 => ?_)
      refine r_lpTerm hB hc k N _ h2 hr2.1 (fun w => ?_) (by omega) (fQ_t hf (fQ_t qf (fQ_t hr1.2 hr2.2)))
      have w2 := pC_n w
      have ea : (pC 3002 (B (pN (kN T n) s))).2.1 = (B (pN (kN T n) s)).2.1 := by unfold pC; rw [if_pos w2]
      have := gl w2
      rw [ea]; omega
    · rw [q3]
      refine Ok.pos (by decide) (Ok.some ⟨?_, fQ_t hf qf⟩)
      by_cases hs : s.1 = none
      · have ep : plp (kdP T n) (kN T n) cdT B k s = s := by
          cases k with
          | zero => rfl
          | succ k => rw [plp, if_pos hs, show cdT (kdP T n s.2.1) = none by unfold cdT; rw [if_neg (fun w => q1 ⟨hs, w⟩)]]
        rw [ep]; exact q4
      · rw [(lp k s).1 hs]; exact q4
theorem r_rdTerm {T : Nat → Nat} {n d D : Nat} {R : Nat → Int32 → abJ → Option abJ} {B : PsT → PsT} (hB : grd n false D B) (hc : rrd T n (R 2 (nI d)) B) : rrd T n (bX12_readTerm R (nI d)) (fun s => plp (kdP T n) (kN T n) cdT B 901 (B s)) := by
  intro s h hP
  unfold bX12_readTerm
  refine Ok.bind (hc s h hP) (fun h1 hr => ?_)
  exact r_lpTerm (h0 := h) hB hc 901 ab_N (B s) h1 hr.1 (fun _ => by omega) (by unfold ab_N; omega) hr.2
theorem r_lpBoth {T : Nat → Nat} {n d D : Nat} {R : Nat → Int32 → abJ → Option abJ} {B : PsT → PsT} {h0 : abJ} (hB : grd n true D B) (hc : rrd T n (R 5 (nI d)) B) : ∀ (k N : Nat) (s : PsT) (h : abJ), PR T n s h → (s.1 = none → 901 ≤ k + s.2.1) → k + 1 < N → fQ h0 h → Ok (fX12_readBoth_L5 R N (nI d) h) (fun h' => PR T n (plp (kdP T n) (kN T n) cdB B k s) h' ∧ fQ h0 h')
  | k, N, s, h, hP, hk, hN, hf => by
    obtain ⟨N, rfl⟩ : ∃ n0, N = n0 + 1 := ⟨N - 1, by omega⟩
    have hn := hP.1.1
    have lp := gr_lp (kgn T n) cdk_B hB
    rw [fX12_readBoth_L5]
    refine Ok.bind (r_eats (k := 15) (by omega) (by omega) hP) (fun r hr => ?_)
    obtain ⟨q, qf⟩ := hr
    rcases q with ⟨q1, q2, q3, q4⟩ | ⟨q1, q3, q4⟩
    · obtain ⟨p0, p1, p2, p3, p4, p5⟩ := PR_n q1 hP
      have h24 : kdP T n s.2.1 ≠ 24 := by omega
      have ha : s.2.1 < n := kd_24 h24
      have hk1 := hk q1
      have hk2 := pK_N (s := s) (kgn T n) p2 h24
      obtain ⟨k, rfl⟩ : ∃ k0, k = k0 + 1 := ⟨k - 1, by omega⟩
      rw [q3, plp, if_pos q1, show cdB (kdP T n s.2.1) = some 3007 by rw [q2]; rfl]
      refine Ok.neg (by decide) (Ok.bind (hc _ r.2 q4) (fun h1 hr1 => ?_))
      have gl : (B (pN (kN T n) s)).1 = none → (B (pN (kN T n) s)).2.2.length < (B (pN (kN T n) s)).2.1 ∧ (B (pN (kN T n) s)).2.1 ≤ n ∧ s.2.1 < (B (pN (kN T n) s)).2.1 := fun w => by
        have g := slk_g (hB.2 (pN (kN T n) s) q1 hk2.2.1 w)
        have e3 : (pN (kN T n) s).2.2 = s.2.2 := rfl
        unfold slk at g
        rw [e3] at g
        have := hk2.1
        omega
      refine Ok.bind (r_codes (c := 3007) hr1.1 (fun w => by have := gl w; omega) (fun w => (gl w).1)) (fun h2 hr2 => ?_)
      refine r_lpBoth hB hc k N _ h2 hr2.1 (fun w => ?_) (by omega) (fQ_t hf (fQ_t qf (fQ_t hr1.2 hr2.2)))
      have w2 := pC_n w
      have ea : (pC 3007 (B (pN (kN T n) s))).2.1 = (B (pN (kN T n) s)).2.1 := by unfold pC; rw [if_pos w2]
      have := gl w2
      rw [ea]; omega
    · rw [q3]
      refine Ok.pos (by decide) (Ok.some ⟨?_, fQ_t hf qf⟩)
      by_cases hs : s.1 = none
      · have ep : plp (kdP T n) (kN T n) cdB B k s = s := by
          cases k with
          | zero => rfl
          | succ k => rw [plp, if_pos hs, show cdB (kdP T n s.2.1) = none by unfold cdB; rw [if_neg (fun w => q1 ⟨hs, w⟩)]]
        rw [ep]; exact q4
      · rw [(lp k s).1 hs]; exact q4
theorem r_rdBoth {T : Nat → Nat} {n d D : Nat} {R : Nat → Int32 → abJ → Option abJ} {B : PsT → PsT} (hB : grd n true D B) (hc : rrd T n (R 5 (nI d)) B) : rrd T n (bX12_readBoth R (nI d)) (fun s => plp (kdP T n) (kN T n) cdB B 901 (B s)) := by
  intro s h hP
  unfold bX12_readBoth
  refine Ok.bind (hc s h hP) (fun h1 hr => ?_)
  exact r_lpBoth (h0 := h) hB hc 901 ab_N (B s) h1 hr.1 (fun _ => by omega) (by unfold ab_N; omega) hr.2
theorem r_lpTruth {T : Nat → Nat} {n d D : Nat} {R : Nat → Int32 → abJ → Option abJ} {B : PsT → PsT} {h0 : abJ} (hB : grd n true D B) (hc : rrd T n (R 4 (nI d)) B) : ∀ (k N : Nat) (s : PsT) (h : abJ), PR T n s h → (s.1 = none → 901 ≤ k + s.2.1) → k + 1 < N → fQ h0 h → Ok (fX12_readTruth_L5 R N (nI d) h) (fun h' => PR T n (plp (kdP T n) (kN T n) cdR B k s) h' ∧ fQ h0 h')
  | k, N, s, h, hP, hk, hN, hf => by
    obtain ⟨N, rfl⟩ : ∃ n0, N = n0 + 1 := ⟨N - 1, by omega⟩
    have hn := hP.1.1
    have lp := gr_lp (kgn T n) cdk_R hB
    rw [fX12_readTruth_L5]
    refine Ok.bind (r_eats (k := 16) (by omega) (by omega) hP) (fun r hr => ?_)
    obtain ⟨q, qf⟩ := hr
    rcases q with ⟨q1, q2, q3, q4⟩ | ⟨q1, q3, q4⟩
    · obtain ⟨p0, p1, p2, p3, p4, p5⟩ := PR_n q1 hP
      have h24 : kdP T n s.2.1 ≠ 24 := by omega
      have ha : s.2.1 < n := kd_24 h24
      have hk1 := hk q1
      have hk2 := pK_N (s := s) (kgn T n) p2 h24
      obtain ⟨k, rfl⟩ : ∃ k0, k = k0 + 1 := ⟨k - 1, by omega⟩
      rw [q3, plp, if_pos q1, show cdR (kdP T n s.2.1) = some 3008 by rw [q2]; rfl]
      refine Ok.neg (by decide) (Ok.bind (hc _ r.2 q4) (fun h1 hr1 => ?_))
      have gl : (B (pN (kN T n) s)).1 = none → (B (pN (kN T n) s)).2.2.length < (B (pN (kN T n) s)).2.1 ∧ (B (pN (kN T n) s)).2.1 ≤ n ∧ s.2.1 < (B (pN (kN T n) s)).2.1 := fun w => by
        have g := slk_g (hB.2 (pN (kN T n) s) q1 hk2.2.1 w)
        have e3 : (pN (kN T n) s).2.2 = s.2.2 := rfl
        unfold slk at g
        rw [e3] at g
        have := hk2.1
        omega
      refine Ok.bind (r_codes (c := 3008) hr1.1 (fun w => by have := gl w; omega) (fun w => (gl w).1)) (fun h2 hr2 => ?_)
      refine r_lpTruth hB hc k N _ h2 hr2.1 (fun w => ?_) (by omega) (fQ_t hf (fQ_t qf (fQ_t hr1.2 hr2.2)))
      have w2 := pC_n w
      have ea : (pC 3008 (B (pN (kN T n) s))).2.1 = (B (pN (kN T n) s)).2.1 := by unfold pC; rw [if_pos w2]
      have := gl w2
      rw [ea]; omega
    · rw [q3]
      refine Ok.pos (by decide) (Ok.some ⟨?_, fQ_t hf qf⟩)
      by_cases hs : s.1 = none
      · have ep : plp (kdP T n) (kN T n) cdR B k s = s := by
          cases k with
          | zero => rfl
          | succ k => rw [plp, if_pos hs, show cdR (kdP T n s.2.1) = none by unfold cdR; rw [if_neg (fun w => q1 ⟨hs, w⟩)]]
        rw [ep]; exact q4
      · rw [(lp k s).1 hs]; exact q4
theorem r_rdTruth {T : Nat → Nat} {n d D : Nat} {R : Nat → Int32 → abJ → Option abJ} {B : PsT → PsT} (hB : grd n true D B) (hc : rrd T n (R 4 (nI d)) B) : rrd T n (bX12_readTruth R (nI d)) (fun s => plp (kdP T n) (kN T n) cdR B 901 (B s)) := by
  intro s h hP
  unfold bX12_readTruth
  refine Ok.bind (hc s h hP) (fun h1 hr => ?_)
  exact r_lpTruth (h0 := h) hB hc 901 ab_N (B s) h1 hr.1 (fun _ => by omega) (by unfold ab_N; omega) hr.2
