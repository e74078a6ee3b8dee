/-! moor: numbers are taken. -/
def pT (K N V : Nat → Nat) (lo hx : Nat) (s : PsT) : PsT := if s.1 = none then (if K s.2.1 = 23 then (if lo ≤ V s.2.1 ∧ V s.2.1 < hx then pN N s else pF K 3 s) else pF K 2 s) else s
theorem pT_n {K N V : Nat → Nat} {lo hx : Nat} {s : PsT} (h : (pT K N V lo hx s).1 = none) : s.1 = none ∧ K s.2.1 = 23 ∧ lo ≤ V s.2.1 ∧ V s.2.1 < hx ∧ pT K N V lo hx s = pN N s := by
  unfold pT at h ⊢
  by_cases c : s.1 = none
  · rw [if_pos c] at h ⊢
    by_cases c1 : K s.2.1 = 23
    · rw [if_pos c1] at h ⊢
      by_cases c2 : lo ≤ V s.2.1 ∧ V s.2.1 < hx
      · rw [if_pos c2]; exact ⟨c, c1, c2.1, c2.2, rfl⟩
      · rw [if_neg c2] at h; exact (pF_n h).elim
    · rw [if_neg c1] at h; exact (pF_n h).elim
  · rw [if_neg c] at h; contradiction
theorem pT_x {K N V : Nat → Nat} {lo hx : Nat} {s : PsT} (h : s.1 ≠ none) : pT K N V lo hx s = s := by unfold pT; rw [if_neg h]
/-- below a bound that may be nothing -/
theorem lt_hx {v hx : Nat} (hv : v < 1000) (hh : hx < 1000) : nI v ≤ nI hx - 1 ↔ v < hx := by
  by_cases c : hx = 0
  · subst c
    rw [show nI 0 - 1 = -nI 1 from rfl, ab_n_le (by omega) (by omega) (by omega)]
    exact iff_of_false not_false (Nat.not_lt_zero _)
  · rw [pk_s1 (by omega), nI_leI (by omega) (by omega)]
    omega
def pokN (T : Nat → Nat) (n v : Nat) (s : PsT) (h0 : abJ) (r : Int32 × abJ) : Prop := fL h0 r.2 ∧ (s.1 = none → r.1 = nI v ∧ PC T n s r.2) ∧ ∀ x, s.1 = some x → r.1 = -1 ∧ r.2.1 9 10 = nI x.1 ∧ r.2.1 9 11 = nI x.2
theorem c_takeN {T : Nat → Nat} {n lo hx : Nat} {s : PsT} {h : abJ} (hs : s.1 = none) (hP : PC T n s h) (hl : lo < 1000) (hh : hx < 1000) : Ok (fX6_takeNumber (nI lo) (nI hx - 1) h) (pokN T n (kVl T n s.2.1) (pT (kdP T n) (kN T n) (kVl T n) lo hx s) h) := by
  have hv := kVl_b T n s.2.1
  obtain ⟨p1, p2, p3, p4, p5, p6⟩ := hP
  have bad : ∀ f, Ok ((fX6_wrong (nI f) h).bind (fun r3 => some ((-1 : Int32), r3.2))) (pokN T n (kVl T n s.2.1) (pF (kdP T n) f s) h) := fun f => Ok.bind (c_wrong (f := f) hs ⟨p1, p2, p3, p4, p5, p6⟩) (fun r hr => Ok.some ⟨hr.1, fun w => absurd w pF_x, fun x hx => ⟨rfl, (hr.2.2 x hx).2⟩⟩)
  unfold fX6_takeNumber pT
  rw [p2.2.2.2.1, if_pos hs]
  by_cases c : kdP T n s.2.1 = 23
  · have e9 : h.1 9 9 = nI (kVl T n s.2.1) := by
      rw [p2.2.2.2.2 c]
      unfold kVl
      rw [if_pos c]
    rw [c, if_pos rfl, e9]
    refine Ok.pos (by decide) ?_
    by_cases c1 : kVl T n s.2.1 < lo
    · rw [if_neg (show ¬ (lo ≤ kVl T n s.2.1 ∧ kVl T n s.2.1 < hx) by omega)]
      exact Ok.pos (by rw [nI_ltI (by omega) (by omega)]; exact c1) (bad 3)
    · refine Ok.neg (by rw [nI_ltI (by omega) (by omega)]; exact c1) ?_
      by_cases c2 : kVl T n s.2.1 < hx
      · rw [if_pos (show lo ≤ kVl T n s.2.1 ∧ kVl T n s.2.1 < hx from ⟨by omega, c2⟩)]
        refine Ok.pos ((lt_hx hv hh).mpr c2) (Ok.bind (c_next ⟨p1, p2, p3, p4, p5, p6⟩ (by omega)) (fun h' hr => Ok.some ⟨hr.2, fun _ => ⟨rfl, hr.1⟩, fun x hx => ?_⟩))
        rw [show (pN (kN T n) s).1 = s.1 from rfl, hs] at hx; cases hx
      · rw [if_neg (show ¬ (lo ≤ kVl T n s.2.1 ∧ kVl T n s.2.1 < hx) from fun w => c2 w.2)]
        exact Ok.neg (fun w => c2 ((lt_hx hv hh).mp w)) (bad 3)
  · have ec : ¬ nI (ck (kdP T n s.2.1)) = 2 := by
      unfold ck
      split
      · decide
      · split
        · decide
        · decide
    rw [if_neg c]
    exact Ok.neg ec (bad 2)
theorem r_takeN {T : Nat → Nat} {n lo hx : Nat} {s : PsT} {h : abJ} (hP : PR T n s h) (hl : lo < 1000) (hh : hx < 1000) : Ok (fX12_takes (nI lo) (nI hx - 1) h) (fun r => PR T n (pT (kdP T n) (kN T n) (kVl T n) lo hx s) r.2 ∧ fQ h r.2 ∧ ((pT (kdP T n) (kN T n) (kVl T n) lo hx s).1 = none → r.1 = nI (kVl T n s.2.1))) := by
  have hv := kVl_b T n s.2.1
  have e23 : fX12_is 23 h = some (bI (decide (s.1 = none ∧ kdP T n s.2.1 = 23))) := r_isn (k := 23) (by omega) hP
  unfold fX12_takes pT
  rw [e23, ab_bindS]
  by_cases hs : s.1 = none
  · obtain ⟨p0, p1, p2, p3, p4, p5⟩ := PR_n hs hP
    rw [if_pos hs]
    by_cases c : kdP T n s.2.1 = 23
    · have e10 : h.1 64 10 = nI (kVl T n s.2.1) := by
        rw [p1.2.2.2.2 c]
        unfold kVl
        rw [if_pos c]
      rw [decide_eq_true ⟨hs, c⟩, if_pos c, e10, r_win h (a := nI lo) (b := nI hx - 1) rfl rfl, ab_bindS, p0]
      refine Ok.neg (by decide) ?_
      by_cases c2 : lo ≤ kVl T n s.2.1 ∧ kVl T n s.2.1 < hx
      · have e : ¬ (nI (kVl T n s.2.1) < nI lo ∨ nI hx - 1 < nI (kVl T n s.2.1)) := by
          rintro (w | w)
          · rw [nI_ltI (by omega) (by omega)] at w; omega
          · exact (Int32.not_le.mpr w) ((lt_hx hv hh).mpr c2.2)
        rw [decide_eq_false e, if_pos c2]
        exact Ok.neg (by decide) (Ok.pos rfl (Ok.bind (r_nextP hs hP (by omega)) (fun h' hr => Ok.some ⟨hr.1, hr.2, fun _ => rfl⟩)))
      · have e : nI (kVl T n s.2.1) < nI lo ∨ nI hx - 1 < nI (kVl T n s.2.1) := by
          by_cases c3 : lo ≤ kVl T n s.2.1
          · exact Or.inr (Int32.not_le.mp (fun w => c2 ⟨c3, (lt_hx hv hh).mp w⟩))
          · exact Or.inl (by rw [nI_ltI (by omega) (by omega)]; omega)
        rw [decide_eq_true e, if_neg c2]
        refine Ok.pos (by decide) (Ok.bind (r_fails (f := 3) (by omega) hP) (fun h' hr => ?_))
        exact Ok.neg (PR_w pF_x hr.1) (Ok.some ⟨hr.1, hr.2, fun w => absurd w pF_x⟩)
    · rw [decide_eq_false (fun w => c w.2), if_neg c]
      refine Ok.pos (by decide) (Ok.bind (r_fails (f := 2) (by omega) hP) (fun h' hr => ?_))
      exact Ok.neg (PR_w pF_x hr.1) (Ok.some ⟨hr.1, hr.2, fun w => absurd w pF_x⟩)
  · have pf : pF (kdP T n) 2 s = s := by unfold pF; rw [if_neg hs]
    rw [if_neg hs, decide_eq_false (fun w => hs w.1)]
    refine Ok.pos (by decide) (Ok.bind (r_fails (f := 2) (by omega) hP) (fun h' hr => ?_))
    rw [pf] at hr
    exact Ok.neg (PR_w hs hr.1) (Ok.some ⟨hr.1, hr.2, fun w => absurd w hs⟩)
