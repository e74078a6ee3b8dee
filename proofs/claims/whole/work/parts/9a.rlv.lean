/-! moor: the reference's laws, all levels. -/
theorem r_lv {T : Nat → Nat} {n : Nat} : ∀ (e d f : Nat), d + e = 6 → rrd T n (fPX12 (f + 7 * e + 4) 0 (nI d)) (pLv (kdP T n) (kN T n) (kVl T n) e).1 ∧ rrd T n (fPX12 (f + 7 * e + 7) 3 (nI d)) (pLv (kdP T n) (kN T n) (kVl T n) e).2.1 ∧ rrd T n (fPX12 (f + 7 * e + 5) 5 (nI d)) (pLv (kdP T n) (kN T n) (kVl T n) e).2.2 := by
  intro e
  induction e with
  | zero =>
    intro d f hd
    have ed : d = 6 := by omega
    subst ed
    have hA : grd n false 1 (pA (kdP T n) (kN T n) (kVl T n) false id id) := gr_A (kgn T n) (by omega) (fun q => by cases q) (fun q => by cases q)
    have hT : grd n false 2 (fun s => plp (kdP T n) (kN T n) cdT (pA (kdP T n) (kN T n) (kVl T n) false id id) 901 (pA (kdP T n) (kN T n) (kVl T n) false id id s)) := gr_l (kgn T n) cdk_T hA 901
    have hS : grd n false 3 (pS (kdP T n) (kN T n) (kVl T n) false id id) := gr_S (kgn T n) hA
    have hU : grd n true 4 (pUn (kdP T n) (kN T n) false (pS (kdP T n) (kN T n) (kVl T n) false id id) id id) := gr_U (kgn T n) hS (by omega) (fun q => by cases q) (fun q => by cases q)
    have hB : grd n true 5 (fun s => plp (kdP T n) (kN T n) cdB (pUn (kdP T n) (kN T n) false (pS (kdP T n) (kN T n) (kVl T n) false id id) id id) 901 (pUn (kdP T n) (kN T n) false (pS (kdP T n) (kN T n) (kVl T n) false id id) id id s)) := gr_l (kgn T n) cdk_B hU 901
    have cI : ∀ f, ∀ s h, s.1 = none → kdP T n s.2.1 ≠ 24 → PR T n s h → Ok (fPX12 (f + 1) 6 (nI 6) h) (fun h' => PR T n (pIf (kdP T n) (kN T n) (decide (6 < 6)) id id s) h' ∧ fQ h h') := fun f => r_rdIf (D := 1) (R := fPX12 f) (by omega) (fun q => by omega) (fun q => by omega)
    have cA : ∀ f, rrd T n (fPX12 (f + 2) 2 (nI 6)) (pA (kdP T n) (kN T n) (kVl T n) false id id) := fun f => r_rdAtom (D := 1) (R := fPX12 (f + 1)) (S0 := id) (R0 := id) (by omega) (fun q => by omega) (cI f)
    have cT : ∀ f, rrd T n (fPX12 (f + 3) 1 (nI 6)) (fun s => plp (kdP T n) (kN T n) cdT (pA (kdP T n) (kN T n) (kVl T n) false id id) 901 (pA (kdP T n) (kN T n) (kVl T n) false id id s)) := fun f => r_rdTerm (R := fPX12 (f + 2)) hA (cA f)
    have cS : ∀ f, rrd T n (fPX12 (f + 4) 0 (nI 6)) (pS (kdP T n) (kN T n) (kVl T n) false id id) := fun f => r_rdSum (R := fPX12 (f + 3)) hT (cT f)
    have cU : ∀ f, rrd T n (fPX12 (f + 5) 5 (nI 6)) (pUn (kdP T n) (kN T n) false (pS (kdP T n) (kN T n) (kVl T n) false id id) id id) := fun f => r_rdUnit (D := 3) (R := fPX12 (f + 4)) (R0 := id) (U0 := id) (by omega) ⟨hS, cS f⟩ (fun q => by omega) (fun q => by omega)
    have cB : ∀ f, rrd T n (fPX12 (f + 6) 4 (nI 6)) (fun s => plp (kdP T n) (kN T n) cdB (pUn (kdP T n) (kN T n) false (pS (kdP T n) (kN T n) (kVl T n) false id id) id id) 901 (pUn (kdP T n) (kN T n) false (pS (kdP T n) (kN T n) (kVl T n) false id id) id id s)) := fun f => r_rdBoth (R := fPX12 (f + 5)) hU (cU f)
    exact ⟨cS f, r_rdTruth (R := fPX12 (f + 6)) hB (cB f), cU f⟩
  | succ e ih =>
    intro d f hd
    have op : decide (d < 6) = true := decide_eq_true (by omega)
    obtain ⟨l1, l2, l3⟩ := gr_Lv (kgn T n) e
    have i1 : ∀ f, rrd T n (fPX12 (f + 7 * e + 4) 0 (nI (d + 1))) (pLv (kdP T n) (kN T n) (kVl T n) e).1 := fun f => (ih (d + 1) f (by omega)).1
    have i2 : ∀ f, rrd T n (fPX12 (f + 7 * e + 7) 3 (nI (d + 1))) (pLv (kdP T n) (kN T n) (kVl T n) e).2.1 := fun f => (ih (d + 1) f (by omega)).2.1
    have i3 : ∀ f, rrd T n (fPX12 (f + 7 * e + 5) 5 (nI (d + 1))) (pLv (kdP T n) (kN T n) (kVl T n) e).2.2 := fun f => (ih (d + 1) f (by omega)).2.2
    have hA : grd n false (6 + 5 * e) (pA (kdP T n) (kN T n) (kVl T n) true (pLv (kdP T n) (kN T n) (kVl T n) e).1 (pLv (kdP T n) (kN T n) (kVl T n) e).2.1) := gr_A (kgn T n) (by omega) (fun _ => ⟨grd_m l1 (by omega), by omega⟩) (fun _ => grd_m l2 (by omega))
    have cI : ∀ f, ∀ s h, s.1 = none → kdP T n s.2.1 ≠ 24 → PR T n s h → Ok (fPX12 (f + 7 * e + 8) 6 (nI d) h) (fun h' => PR T n (pIf (kdP T n) (kN T n) (decide (d < 6)) (pLv (kdP T n) (kN T n) (kVl T n) e).1 (pLv (kdP T n) (kN T n) (kVl T n) e).2.1 s) h' ∧ fQ h h') := fun f => r_rdIf (D := 6 + 5 * e) (R := fPX12 (f + 7 * e + 7)) (by omega) (fun _ => ⟨grd_m l1 (by omega), by have := i1 (f + 3); rwa [show f + 3 + 7 * e + 4 = f + 7 * e + 7 by omega] at this⟩) (fun _ => ⟨l2, i2 f⟩)
    have cA : ∀ f, rrd T n (fPX12 (f + 7 * e + 9) 2 (nI d)) (pA (kdP T n) (kN T n) (kVl T n) true (pLv (kdP T n) (kN T n) (kVl T n) e).1 (pLv (kdP T n) (kN T n) (kVl T n) e).2.1) := fun f => by
      have := r_rdAtom (d := d) (D := 6 + 5 * e) (R := fPX12 (f + 7 * e + 8)) (S0 := (pLv (kdP T n) (kN T n) (kVl T n) e).1) (R0 := (pLv (kdP T n) (kN T n) (kVl T n) e).2.1) (by omega) (fun _ => ⟨grd_m l1 (by omega), by have := i1 (f + 4); rwa [show f + 4 + 7 * e + 4 = f + 7 * e + 8 by omega] at this⟩) (cI f)
      rw [op] at this
      exact this
    generalize eA : pA (kdP T n) (kN T n) (kVl T n) true (pLv (kdP T n) (kN T n) (kVl T n) e).1 (pLv (kdP T n) (kN T n) (kVl T n) e).2.1 = A at hA cA
    have eS : pS (kdP T n) (kN T n) (kVl T n) true (pLv (kdP T n) (kN T n) (kVl T n) e).1 (pLv (kdP T n) (kN T n) (kVl T n) e).2.1 = fun s => plp (kdP T n) (kN T n) cdS (fun s => plp (kdP T n) (kN T n) cdT A 901 (A s)) 901 (plp (kdP T n) (kN T n) cdT A 901 (A s)) := by unfold pS; rw [eA]
    have hT := gr_l (kgn T n) cdk_T hA 901
    have cT : ∀ f, rrd T n (fPX12 (f + 7 * e + 10) 1 (nI d)) (fun s => plp (kdP T n) (kN T n) cdT A 901 (A s)) := fun f => r_rdTerm (R := fPX12 (f + 7 * e + 9)) hA (cA f)
    have hS := gr_l (kgn T n) cdk_S hT 901
    have cS : ∀ f, rrd T n (fPX12 (f + 7 * e + 11) 0 (nI d)) (fun s => plp (kdP T n) (kN T n) cdS (fun s => plp (kdP T n) (kN T n) cdT A 901 (A s)) 901 (plp (kdP T n) (kN T n) cdT A 901 (A s))) := fun f => r_rdSum (R := fPX12 (f + 7 * e + 10)) hT (cT f)
    rw [← eS] at hS
    simp only [← eS] at cS
    generalize eS2 : pS (kdP T n) (kN T n) (kVl T n) true (pLv (kdP T n) (kN T n) (kVl T n) e).1 (pLv (kdP T n) (kN T n) (kVl T n) e).2.1 = S at hS cS
    have hU : grd n true (9 + 5 * e) (pUn (kdP T n) (kN T n) true S (pLv (kdP T n) (kN T n) (kVl T n) e).2.1 (pLv (kdP T n) (kN T n) (kVl T n) e).2.2) := gr_U (kgn T n) (grd_m hS (by omega)) (by omega) (fun _ => grd_m l2 (by omega)) (fun _ => grd_m l3 (by omega))
    have cU : ∀ f, rrd T n (fPX12 (f + 7 * e + 12) 5 (nI d)) (pUn (kdP T n) (kN T n) true S (pLv (kdP T n) (kN T n) (kVl T n) e).2.1 (pLv (kdP T n) (kN T n) (kVl T n) e).2.2) := fun f => by
      have := r_rdUnit (d := d) (D := 9 + 5 * e) (R := fPX12 (f + 7 * e + 11)) (R0 := (pLv (kdP T n) (kN T n) (kVl T n) e).2.1) (U0 := (pLv (kdP T n) (kN T n) (kVl T n) e).2.2) (by omega) ⟨grd_m hS (by omega), cS f⟩ (fun _ => ⟨grd_m l2 (by omega), by have := i2 (f + 4); rwa [show f + 4 + 7 * e + 7 = f + 7 * e + 11 by omega] at this⟩) (fun _ => ⟨grd_m l3 (by omega), by have := i3 (f + 6); rwa [show f + 6 + 7 * e + 5 = f + 7 * e + 11 by omega] at this⟩)
      rw [op] at this
      exact this
    have hB := gr_l (kgn T n) cdk_B hU 901
    have cB : ∀ f, rrd T n (fPX12 (f + 7 * e + 13) 4 (nI d)) (fun s => plp (kdP T n) (kN T n) cdB (pUn (kdP T n) (kN T n) true S (pLv (kdP T n) (kN T n) (kVl T n) e).2.1 (pLv (kdP T n) (kN T n) (kVl T n) e).2.2) 901 (pUn (kdP T n) (kN T n) true S (pLv (kdP T n) (kN T n) (kVl T n) e).2.1 (pLv (kdP T n) (kN T n) (kVl T n) e).2.2 s)) := fun f => r_rdBoth (R := fPX12 (f + 7 * e + 12)) hU (cU f)
    have cR : ∀ f, rrd T n (fPX12 (f + 7 * e + 14) 3 (nI d)) (pR (kdP T n) (kN T n) (pUn (kdP T n) (kN T n) true S (pLv (kdP T n) (kN T n) (kVl T n) e).2.1 (pLv (kdP T n) (kN T n) (kVl T n) e).2.2)) := fun f => r_rdTruth (R := fPX12 (f + 7 * e + 13)) hB (cB f)
    have z := cS f
    have z2 := cR f
    have z3 := cU f
    rw [← eS2] at z z2 z3
    refine ⟨?_, ?_, ?_⟩
    · rw [show f + 7 * (e + 1) + 4 = f + 7 * e + 11 by omega]; exact z
    · rw [show f + 7 * (e + 1) + 7 = f + 7 * e + 14 by omega]; exact z2
    · rw [show f + 7 * (e + 1) + 5 = f + 7 * e + 12 by omega]; exact z3
