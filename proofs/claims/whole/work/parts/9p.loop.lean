/-! The law: its calls, its loop. Written by wip/whole/gen_loop.py. -/
def ab_I (h : abJ) : Prop := ∃ A, WF A ∧ RC A h ∧ RR A h
theorem law_call {α : Type} {c r : abJ → Option (α × abJ)} (hc : call2 c r) {h : abJ} (hI : ab_I h) : ∃ v h1 h2, c h = some (v, h1) ∧ r h1 = some (v, h2) ∧ ab_I h2 := by
  obtain ⟨A, hW, hR, hQ⟩ := hI
  obtain ⟨v, A', hW', g1, g2⟩ := hc A hW
  obtain ⟨⟨v1, x1⟩, e1, q1, q2, q3⟩ := g1 h hR
  obtain ⟨⟨v2, x2⟩, e2, u1, u2, u3⟩ := g2 x1 (RR_abv hQ q3)
  have q1 : v1 = v := q1
  have u1 : v2 = v := u1
  subst q1
  subst u1
  exact ⟨_, x1, x2, e1, e2, A', hW', RC_blw hW' q2 u3, u2⟩
theorem pure1_s {α : Type} {f : abJ → Option α} {h h1 : abJ} {v : α} (e : pure1 f h = some (v, h1)) : f h = some v ∧ h1 = h := by
  unfold pure1 at e
  cases q : f h with
  | none => rw [q] at e; cases e
  | some w =>
    rw [q, ab_bindS] at e
    have e := Option.some.inj e
    have e1 : w = v := congrArg Prod.fst e
    have e2 : h = h1 := congrArg Prod.snd e
    exact ⟨congrArg some e1, e2.symm⟩
/-- the script's cells from here on are there -/
def ab_y (X : abX) (y : Int32) : Prop := ¬ (y < 0 ∨ X.1 ≤ y.toNatClampNeg) ∧ ¬ (y + 1 < 0 ∨ X.1 ≤ (y + 1).toNatClampNeg) ∧ ¬ (y + 2 < 0 ∨ X.1 ≤ (y + 2).toNatClampNeg) ∧ ¬ (y + 3 < 0 ∨ X.1 ≤ (y + 3).toNatClampNeg) ∧ ¬ (y + 4 < 0 ∨ X.1 ≤ (y + 4).toNatClampNeg) ∧ ¬ (y + 5 < 0 ∨ X.1 ≤ (y + 5).toNatClampNeg)
theorem cmp_vv (v : Int64) : lg_cmp v v = 0 := (lg_cmp_eq v v).mpr rfl
set_option maxRecDepth 20000 in
theorem law_0 (X : abX) (y : Int32) (h : abJ) {R : abR → Prop} (hy : ab_y X y) (hI : ab_I h) (g : ∀ h', ab_I h' → ab_Ex X 1000 320 1503 [(0, .ref 3000001), (1, .ref 0), (2, .ref 64), (3, .int y)] [] ab_SH (ab_dD h') R) : ab_Ex X 1000 320 220 [(0, .ref 3000001), (1, .ref 0), (2, .ref 64), (3, .int y)] [] ab_SH (ab_dD h) R := by
  obtain ⟨v, h1, h2, e1, e2, hI2⟩ := law_call (call_feed ((X.2 (y + 1).toNatClampNeg)) ((X.2 (y + 2).toNatClampNeg)) ((X.2 (y + 3).toNatClampNeg)) ((X.2 (y + 4).toNatClampNeg)) ((X.2 (y + 5).toNatClampNeg))) hI
  refine ab_Ex.blk (k := 5) (pc' := 225) (lv' := [(0, .ref 3000001), (1, .ref 0), (2, .ref 64), (3, .int y)]) (st' := [.int (y + 1), .ref 3000001, .ref 0]) (sh' := ab_SH) (D' := ab_dD h) (fun n => rfl) ?_
  refine ab_Ex.grd (c := (y + 1) < 0 ∨ X.1 ≤ (y + 1).toNatClampNeg) (S := (226, [(0, .ref 3000001), (1, .ref 0), (2, .ref 64), (3, .int y)], [.int (X.2 (y + 1).toNatClampNeg), .ref 0], ab_dD h)) (fun n => rfl) hy.2.1 ?_
  refine ab_Ex.blk (k := 4) (pc' := 230) (lv' := [(0, .ref 3000001), (1, .ref 0), (2, .ref 64), (3, .int y)]) (st' := [.int (y + 2), .ref 3000001, .int (X.2 (y + 1).toNatClampNeg), .ref 0]) (sh' := ab_SH) (D' := ab_dD h) (fun n => rfl) ?_
  refine ab_Ex.grd (c := (y + 2) < 0 ∨ X.1 ≤ (y + 2).toNatClampNeg) (S := (231, [(0, .ref 3000001), (1, .ref 0), (2, .ref 64), (3, .int y)], [.int (X.2 (y + 2).toNatClampNeg), .int (X.2 (y + 1).toNatClampNeg), .ref 0], ab_dD h)) (fun n => rfl) hy.2.2.1 ?_
  refine ab_Ex.blk (k := 4) (pc' := 235) (lv' := [(0, .ref 3000001), (1, .ref 0), (2, .ref 64), (3, .int y)]) (st' := [.int (y + 3), .ref 3000001, .int (X.2 (y + 2).toNatClampNeg), .int (X.2 (y + 1).toNatClampNeg), .ref 0]) (sh' := ab_SH) (D' := ab_dD h) (fun n => rfl) ?_
  refine ab_Ex.grd (c := (y + 3) < 0 ∨ X.1 ≤ (y + 3).toNatClampNeg) (S := (236, [(0, .ref 3000001), (1, .ref 0), (2, .ref 64), (3, .int y)], [.int (X.2 (y + 3).toNatClampNeg), .int (X.2 (y + 2).toNatClampNeg), .int (X.2 (y + 1).toNatClampNeg), .ref 0], ab_dD h)) (fun n => rfl) hy.2.2.2.1 ?_
  refine ab_Ex.blk (k := 4) (pc' := 240) (lv' := [(0, .ref 3000001), (1, .ref 0), (2, .ref 64), (3, .int y)]) (st' := [.int (y + 4), .ref 3000001, .int (X.2 (y + 3).toNatClampNeg), .int (X.2 (y + 2).toNatClampNeg), .int (X.2 (y + 1).toNatClampNeg), .ref 0]) (sh' := ab_SH) (D' := ab_dD h) (fun n => rfl) ?_
  refine ab_Ex.grd (c := (y + 4) < 0 ∨ X.1 ≤ (y + 4).toNatClampNeg) (S := (241, [(0, .ref 3000001), (1, .ref 0), (2, .ref 64), (3, .int y)], [.int (X.2 (y + 4).toNatClampNeg), .int (X.2 (y + 3).toNatClampNeg), .int (X.2 (y + 2).toNatClampNeg), .int (X.2 (y + 1).toNatClampNeg), .ref 0], ab_dD h)) (fun n => rfl) hy.2.2.2.2.1 ?_
  refine ab_Ex.blk (k := 4) (pc' := 245) (lv' := [(0, .ref 3000001), (1, .ref 0), (2, .ref 64), (3, .int y)]) (st' := [.int (y + 5), .ref 3000001, .int (X.2 (y + 4).toNatClampNeg), .int (X.2 (y + 3).toNatClampNeg), .int (X.2 (y + 2).toNatClampNeg), .int (X.2 (y + 1).toNatClampNeg), .ref 0]) (sh' := ab_SH) (D' := ab_dD h) (fun n => rfl) ?_
  refine ab_Ex.grd (c := (y + 5) < 0 ∨ X.1 ≤ (y + 5).toNatClampNeg) (S := (246, [(0, .ref 3000001), (1, .ref 0), (2, .ref 64), (3, .int y)], [.int (X.2 (y + 5).toNatClampNeg), .int (X.2 (y + 4).toNatClampNeg), .int (X.2 (y + 3).toNatClampNeg), .int (X.2 (y + 2).toNatClampNeg), .int (X.2 (y + 1).toNatClampNeg), .ref 0], ab_dD h)) (fun n => rfl) hy.2.2.2.2.2 ?_
  refine ab_Ex.call (d := 999) (M2 := 126) (as := [.ref 0, .int (X.2 (y + 1).toNatClampNeg), .int (X.2 (y + 2).toNatClampNeg), .int (X.2 (y + 3).toNatClampNeg), .int (X.2 (y + 4).toNatClampNeg), .int (X.2 (y + 5).toNatClampNeg)]) (rest := []) (fun n => rfl) rfl (Nat.not_lt.mpr (Nat.le_of_ble_eq_true rfl)) (sX11_feed 998 X ((X.2 (y + 1).toNatClampNeg)) ((X.2 (y + 2).toNatClampNeg)) ((X.2 (y + 3).toNatClampNeg)) ((X.2 (y + 4).toNatClampNeg)) ((X.2 (y + 5).toNatClampNeg)) h (v, h1) e1) (fun r hr => ?_)
  subst hr
  refine ab_Ex.blk (k := 5) (pc' := 254) (lv' := [(0, .ref 3000001), (1, .ref 0), (2, .ref 64), (3, .int y)]) (st' := [.int (y + 1), .ref 3000001, .ref 64, .int v]) (sh' := ab_SH) (D' := ab_dD h1) (fun n => rfl) ?_
  refine ab_Ex.grd (c := (y + 1) < 0 ∨ X.1 ≤ (y + 1).toNatClampNeg) (S := (255, [(0, .ref 3000001), (1, .ref 0), (2, .ref 64), (3, .int y)], [.int (X.2 (y + 1).toNatClampNeg), .ref 64, .int v], ab_dD h1)) (fun n => rfl) hy.2.1 ?_
  refine ab_Ex.blk (k := 4) (pc' := 259) (lv' := [(0, .ref 3000001), (1, .ref 0), (2, .ref 64), (3, .int y)]) (st' := [.int (y + 2), .ref 3000001, .int (X.2 (y + 1).toNatClampNeg), .ref 64, .int v]) (sh' := ab_SH) (D' := ab_dD h1) (fun n => rfl) ?_
  refine ab_Ex.grd (c := (y + 2) < 0 ∨ X.1 ≤ (y + 2).toNatClampNeg) (S := (260, [(0, .ref 3000001), (1, .ref 0), (2, .ref 64), (3, .int y)], [.int (X.2 (y + 2).toNatClampNeg), .int (X.2 (y + 1).toNatClampNeg), .ref 64, .int v], ab_dD h1)) (fun n => rfl) hy.2.2.1 ?_
  refine ab_Ex.blk (k := 4) (pc' := 264) (lv' := [(0, .ref 3000001), (1, .ref 0), (2, .ref 64), (3, .int y)]) (st' := [.int (y + 3), .ref 3000001, .int (X.2 (y + 2).toNatClampNeg), .int (X.2 (y + 1).toNatClampNeg), .ref 64, .int v]) (sh' := ab_SH) (D' := ab_dD h1) (fun n => rfl) ?_
  refine ab_Ex.grd (c := (y + 3) < 0 ∨ X.1 ≤ (y + 3).toNatClampNeg) (S := (265, [(0, .ref 3000001), (1, .ref 0), (2, .ref 64), (3, .int y)], [.int (X.2 (y + 3).toNatClampNeg), .int (X.2 (y + 2).toNatClampNeg), .int (X.2 (y + 1).toNatClampNeg), .ref 64, .int v], ab_dD h1)) (fun n => rfl) hy.2.2.2.1 ?_
  refine ab_Ex.blk (k := 4) (pc' := 269) (lv' := [(0, .ref 3000001), (1, .ref 0), (2, .ref 64), (3, .int y)]) (st' := [.int (y + 4), .ref 3000001, .int (X.2 (y + 3).toNatClampNeg), .int (X.2 (y + 2).toNatClampNeg), .int (X.2 (y + 1).toNatClampNeg), .ref 64, .int v]) (sh' := ab_SH) (D' := ab_dD h1) (fun n => rfl) ?_
  refine ab_Ex.grd (c := (y + 4) < 0 ∨ X.1 ≤ (y + 4).toNatClampNeg) (S := (270, [(0, .ref 3000001), (1, .ref 0), (2, .ref 64), (3, .int y)], [.int (X.2 (y + 4).toNatClampNeg), .int (X.2 (y + 3).toNatClampNeg), .int (X.2 (y + 2).toNatClampNeg), .int (X.2 (y + 1).toNatClampNeg), .ref 64, .int v], ab_dD h1)) (fun n => rfl) hy.2.2.2.2.1 ?_
  refine ab_Ex.blk (k := 4) (pc' := 274) (lv' := [(0, .ref 3000001), (1, .ref 0), (2, .ref 64), (3, .int y)]) (st' := [.int (y + 5), .ref 3000001, .int (X.2 (y + 4).toNatClampNeg), .int (X.2 (y + 3).toNatClampNeg), .int (X.2 (y + 2).toNatClampNeg), .int (X.2 (y + 1).toNatClampNeg), .ref 64, .int v]) (sh' := ab_SH) (D' := ab_dD h1) (fun n => rfl) ?_
  refine ab_Ex.grd (c := (y + 5) < 0 ∨ X.1 ≤ (y + 5).toNatClampNeg) (S := (275, [(0, .ref 3000001), (1, .ref 0), (2, .ref 64), (3, .int y)], [.int (X.2 (y + 5).toNatClampNeg), .int (X.2 (y + 4).toNatClampNeg), .int (X.2 (y + 3).toNatClampNeg), .int (X.2 (y + 2).toNatClampNeg), .int (X.2 (y + 1).toNatClampNeg), .ref 64, .int v], ab_dD h1)) (fun n => rfl) hy.2.2.2.2.2 ?_
  refine ab_Ex.call (d := 999) (M2 := 178) (as := [.ref 64, .int (X.2 (y + 1).toNatClampNeg), .int (X.2 (y + 2).toNatClampNeg), .int (X.2 (y + 3).toNatClampNeg), .int (X.2 (y + 4).toNatClampNeg), .int (X.2 (y + 5).toNatClampNeg)]) (rest := [.int v]) (fun n => rfl) rfl (Nat.not_lt.mpr (Nat.le_of_ble_eq_true rfl)) (sX12_feed 999 X ((X.2 (y + 1).toNatClampNeg)) ((X.2 (y + 2).toNatClampNeg)) ((X.2 (y + 3).toNatClampNeg)) ((X.2 (y + 4).toNatClampNeg)) ((X.2 (y + 5).toNatClampNeg)) h1 (v, h2) e2) (fun r hr => ?_)
  subst hr
  exact ab_Ex.ifc (c := v = v) (SA := (1503, [(0, .ref 3000001), (1, .ref 0), (2, .ref 64), (3, .int y)], [], ab_dD h2)) (SB := (281, [(0, .ref 3000001), (1, .ref 0), (2, .ref 64), (3, .int y)], [], ab_dD h2)) (fun n => rfl) (fun _ => g h2 hI2) (fun c => absurd rfl c)
set_option maxRecDepth 20000 in
theorem law_1 (X : abX) (y : Int32) (h : abJ) {R : abR → Prop} (hy : ab_y X y) (hI : ab_I h) (g : ∀ h', ab_I h' → ab_Ex X 1000 320 1503 [(0, .ref 3000001), (1, .ref 0), (2, .ref 64), (3, .int y)] [] ab_SH (ab_dD h') R) : ab_Ex X 1000 320 283 [(0, .ref 3000001), (1, .ref 0), (2, .ref 64), (3, .int y)] [] ab_SH (ab_dD h) R := by
  obtain ⟨v, h1, h2, e1, e2, hI2⟩ := law_call (call_moor ((X.2 (y + 1).toNatClampNeg))) hI
  refine ab_Ex.blk (k := 5) (pc' := 288) (lv' := [(0, .ref 3000001), (1, .ref 0), (2, .ref 64), (3, .int y)]) (st' := [.int (y + 1), .ref 3000001, .ref 0]) (sh' := ab_SH) (D' := ab_dD h) (fun n => rfl) ?_
  refine ab_Ex.grd (c := (y + 1) < 0 ∨ X.1 ≤ (y + 1).toNatClampNeg) (S := (289, [(0, .ref 3000001), (1, .ref 0), (2, .ref 64), (3, .int y)], [.int (X.2 (y + 1).toNatClampNeg), .ref 0], ab_dD h)) (fun n => rfl) hy.2.1 ?_
  refine ab_Ex.call (d := 999) (M2 := 127) (as := [.ref 0, .int (X.2 (y + 1).toNatClampNeg)]) (rest := []) (fun n => rfl) rfl (Nat.not_lt.mpr (Nat.le_of_ble_eq_true rfl)) (sX11_moor 889 X ((X.2 (y + 1).toNatClampNeg)) h (v, h1) e1) (fun r hr => ?_)
  subst hr
  refine ab_Ex.blk (k := 5) (pc' := 297) (lv' := [(0, .ref 3000001), (1, .ref 0), (2, .ref 64), (3, .int y)]) (st' := [.int (y + 1), .ref 3000001, .ref 64, .int v]) (sh' := ab_SH) (D' := ab_dD h1) (fun n => rfl) ?_
  refine ab_Ex.grd (c := (y + 1) < 0 ∨ X.1 ≤ (y + 1).toNatClampNeg) (S := (298, [(0, .ref 3000001), (1, .ref 0), (2, .ref 64), (3, .int y)], [.int (X.2 (y + 1).toNatClampNeg), .ref 64, .int v], ab_dD h1)) (fun n => rfl) hy.2.1 ?_
  refine ab_Ex.call (d := 999) (M2 := 207) (as := [.ref 64, .int (X.2 (y + 1).toNatClampNeg)]) (rest := [.int v]) (fun n => rfl) rfl (Nat.not_lt.mpr (Nat.le_of_ble_eq_true rfl)) (sX12_moor 889 X ((X.2 (y + 1).toNatClampNeg)) h1 (v, h2) e2) (fun r hr => ?_)
  subst hr
  exact ab_Ex.ifc (c := v = v) (SA := (1503, [(0, .ref 3000001), (1, .ref 0), (2, .ref 64), (3, .int y)], [], ab_dD h2)) (SB := (304, [(0, .ref 3000001), (1, .ref 0), (2, .ref 64), (3, .int y)], [], ab_dD h2)) (fun n => rfl) (fun _ => g h2 hI2) (fun c => absurd rfl c)
set_option maxRecDepth 20000 in
theorem law_2 (X : abX) (y : Int32) (h : abJ) {R : abR → Prop} (hy : ab_y X y) (hI : ab_I h) (g : ∀ h', ab_I h' → ab_Ex X 1000 320 1503 [(0, .ref 3000001), (1, .ref 0), (2, .ref 64), (3, .int y)] [] ab_SH (ab_dD h') R) : ab_Ex X 1000 320 306 [(0, .ref 3000001), (1, .ref 0), (2, .ref 64), (3, .int y)] [] ab_SH (ab_dD h) R := by
  obtain ⟨v, h1, h2, e1, e2, hI2⟩ := law_call (call_fault ((X.2 (y + 1).toNatClampNeg))) hI
  obtain ⟨e1, e3⟩ := pure1_s e1
  rw [e3] at e2
  refine ab_Ex.blk (k := 5) (pc' := 311) (lv' := [(0, .ref 3000001), (1, .ref 0), (2, .ref 64), (3, .int y)]) (st' := [.int (y + 1), .ref 3000001, .ref 0]) (sh' := ab_SH) (D' := ab_dD h) (fun n => rfl) ?_
  refine ab_Ex.grd (c := (y + 1) < 0 ∨ X.1 ≤ (y + 1).toNatClampNeg) (S := (312, [(0, .ref 3000001), (1, .ref 0), (2, .ref 64), (3, .int y)], [.int (X.2 (y + 1).toNatClampNeg), .ref 0], ab_dD h)) (fun n => rfl) hy.2.1 ?_
  refine ab_Ex.call (d := 999) (M2 := 128) (as := [.ref 0, .int (X.2 (y + 1).toNatClampNeg)]) (rest := []) (fun n => rfl) rfl (Nat.not_lt.mpr (Nat.le_of_ble_eq_true rfl)) (sX11_fault 999 X ((X.2 (y + 1).toNatClampNeg)) h v e1) (fun r hr => ?_)
  subst hr
  refine ab_Ex.blk (k := 5) (pc' := 320) (lv' := [(0, .ref 3000001), (1, .ref 0), (2, .ref 64), (3, .int y)]) (st' := [.int (y + 1), .ref 3000001, .ref 64, .int v]) (sh' := ab_SH) (D' := ab_dD h) (fun n => rfl) ?_
  refine ab_Ex.grd (c := (y + 1) < 0 ∨ X.1 ≤ (y + 1).toNatClampNeg) (S := (321, [(0, .ref 3000001), (1, .ref 0), (2, .ref 64), (3, .int y)], [.int (X.2 (y + 1).toNatClampNeg), .ref 64, .int v], ab_dD h)) (fun n => rfl) hy.2.1 ?_
  refine ab_Ex.call (d := 999) (M2 := 208) (as := [.ref 64, .int (X.2 (y + 1).toNatClampNeg)]) (rest := [.int v]) (fun n => rfl) rfl (Nat.not_lt.mpr (Nat.le_of_ble_eq_true rfl)) (sX12_fault 999 X ((X.2 (y + 1).toNatClampNeg)) h (v, h2) e2) (fun r hr => ?_)
  subst hr
  exact ab_Ex.ifc (c := v = v) (SA := (1503, [(0, .ref 3000001), (1, .ref 0), (2, .ref 64), (3, .int y)], [], ab_dD h2)) (SB := (327, [(0, .ref 3000001), (1, .ref 0), (2, .ref 64), (3, .int y)], [], ab_dD h2)) (fun n => rfl) (fun _ => g h2 hI2) (fun c => absurd rfl c)
set_option maxRecDepth 20000 in
theorem law_3 (X : abX) (y : Int32) (h : abJ) {R : abR → Prop} (hy : ab_y X y) (hI : ab_I h) (g : ∀ h', ab_I h' → ab_Ex X 1000 320 1503 [(0, .ref 3000001), (1, .ref 0), (2, .ref 64), (3, .int y)] [] ab_SH (ab_dD h') R) : ab_Ex X 1000 320 329 [(0, .ref 3000001), (1, .ref 0), (2, .ref 64), (3, .int y)] [] ab_SH (ab_dD h) R := by
  obtain ⟨v, h1, h2, e1, e2, hI2⟩ := law_call (call_post ((X.2 (y + 1).toNatClampNeg)) ((X.2 (y + 2).toNatClampNeg))) hI
  obtain ⟨e1, e3⟩ := pure1_s e1
  rw [e3] at e2
  refine ab_Ex.blk (k := 5) (pc' := 334) (lv' := [(0, .ref 3000001), (1, .ref 0), (2, .ref 64), (3, .int y)]) (st' := [.int (y + 1), .ref 3000001, .ref 0]) (sh' := ab_SH) (D' := ab_dD h) (fun n => rfl) ?_
  refine ab_Ex.grd (c := (y + 1) < 0 ∨ X.1 ≤ (y + 1).toNatClampNeg) (S := (335, [(0, .ref 3000001), (1, .ref 0), (2, .ref 64), (3, .int y)], [.int (X.2 (y + 1).toNatClampNeg), .ref 0], ab_dD h)) (fun n => rfl) hy.2.1 ?_
  refine ab_Ex.blk (k := 4) (pc' := 339) (lv' := [(0, .ref 3000001), (1, .ref 0), (2, .ref 64), (3, .int y)]) (st' := [.int (y + 2), .ref 3000001, .int (X.2 (y + 1).toNatClampNeg), .ref 0]) (sh' := ab_SH) (D' := ab_dD h) (fun n => rfl) ?_
  refine ab_Ex.grd (c := (y + 2) < 0 ∨ X.1 ≤ (y + 2).toNatClampNeg) (S := (340, [(0, .ref 3000001), (1, .ref 0), (2, .ref 64), (3, .int y)], [.int (X.2 (y + 2).toNatClampNeg), .int (X.2 (y + 1).toNatClampNeg), .ref 0], ab_dD h)) (fun n => rfl) hy.2.2.1 ?_
  refine ab_Ex.call (d := 999) (M2 := 129) (as := [.ref 0, .int (X.2 (y + 1).toNatClampNeg), .int (X.2 (y + 2).toNatClampNeg)]) (rest := []) (fun n => rfl) rfl (Nat.not_lt.mpr (Nat.le_of_ble_eq_true rfl)) (sX11_post 997 X ((X.2 (y + 1).toNatClampNeg)) ((X.2 (y + 2).toNatClampNeg)) h v e1) (fun r hr => ?_)
  subst hr
  refine ab_Ex.blk (k := 5) (pc' := 348) (lv' := [(0, .ref 3000001), (1, .ref 0), (2, .ref 64), (3, .int y)]) (st' := [.int (y + 1), .ref 3000001, .ref 64, .int v]) (sh' := ab_SH) (D' := ab_dD h) (fun n => rfl) ?_
  refine ab_Ex.grd (c := (y + 1) < 0 ∨ X.1 ≤ (y + 1).toNatClampNeg) (S := (349, [(0, .ref 3000001), (1, .ref 0), (2, .ref 64), (3, .int y)], [.int (X.2 (y + 1).toNatClampNeg), .ref 64, .int v], ab_dD h)) (fun n => rfl) hy.2.1 ?_
  refine ab_Ex.blk (k := 4) (pc' := 353) (lv' := [(0, .ref 3000001), (1, .ref 0), (2, .ref 64), (3, .int y)]) (st' := [.int (y + 2), .ref 3000001, .int (X.2 (y + 1).toNatClampNeg), .ref 64, .int v]) (sh' := ab_SH) (D' := ab_dD h) (fun n => rfl) ?_
  refine ab_Ex.grd (c := (y + 2) < 0 ∨ X.1 ≤ (y + 2).toNatClampNeg) (S := (354, [(0, .ref 3000001), (1, .ref 0), (2, .ref 64), (3, .int y)], [.int (X.2 (y + 2).toNatClampNeg), .int (X.2 (y + 1).toNatClampNeg), .ref 64, .int v], ab_dD h)) (fun n => rfl) hy.2.2.1 ?_
  refine ab_Ex.call (d := 999) (M2 := 226) (as := [.ref 64, .int (X.2 (y + 1).toNatClampNeg), .int (X.2 (y + 2).toNatClampNeg)]) (rest := [.int v]) (fun n => rfl) rfl (Nat.not_lt.mpr (Nat.le_of_ble_eq_true rfl)) (sX12_post 997 X ((X.2 (y + 1).toNatClampNeg)) ((X.2 (y + 2).toNatClampNeg)) h (v, h2) e2) (fun r hr => ?_)
  subst hr
  exact ab_Ex.ifc (c := v = v) (SA := (1503, [(0, .ref 3000001), (1, .ref 0), (2, .ref 64), (3, .int y)], [], ab_dD h2)) (SB := (360, [(0, .ref 3000001), (1, .ref 0), (2, .ref 64), (3, .int y)], [], ab_dD h2)) (fun n => rfl) (fun _ => g h2 hI2) (fun c => absurd rfl c)
set_option maxRecDepth 20000 in
theorem law_4 (X : abX) (y : Int32) (h : abJ) {R : abR → Prop} (hy : ab_y X y) (hI : ab_I h) (g : ∀ h', ab_I h' → ab_Ex X 1000 320 1503 [(0, .ref 3000001), (1, .ref 0), (2, .ref 64), (3, .int y)] [] ab_SH (ab_dD h') R) : ab_Ex X 1000 320 362 [(0, .ref 3000001), (1, .ref 0), (2, .ref 64), (3, .int y)] [] ab_SH (ab_dD h) R := by
  obtain ⟨v, h1, h2, e1, e2, hI2⟩ := law_call (call_by ((X.2 (y + 1).toNatClampNeg)) ((X.2 (y + 2).toNatClampNeg))) hI
  obtain ⟨e1, e3⟩ := pure1_s e1
  rw [e3] at e2
  refine ab_Ex.blk (k := 5) (pc' := 367) (lv' := [(0, .ref 3000001), (1, .ref 0), (2, .ref 64), (3, .int y)]) (st' := [.int (y + 1), .ref 3000001, .ref 0]) (sh' := ab_SH) (D' := ab_dD h) (fun n => rfl) ?_
  refine ab_Ex.grd (c := (y + 1) < 0 ∨ X.1 ≤ (y + 1).toNatClampNeg) (S := (368, [(0, .ref 3000001), (1, .ref 0), (2, .ref 64), (3, .int y)], [.int (X.2 (y + 1).toNatClampNeg), .ref 0], ab_dD h)) (fun n => rfl) hy.2.1 ?_
  refine ab_Ex.blk (k := 4) (pc' := 372) (lv' := [(0, .ref 3000001), (1, .ref 0), (2, .ref 64), (3, .int y)]) (st' := [.int (y + 2), .ref 3000001, .int (X.2 (y + 1).toNatClampNeg), .ref 0]) (sh' := ab_SH) (D' := ab_dD h) (fun n => rfl) ?_
  refine ab_Ex.grd (c := (y + 2) < 0 ∨ X.1 ≤ (y + 2).toNatClampNeg) (S := (373, [(0, .ref 3000001), (1, .ref 0), (2, .ref 64), (3, .int y)], [.int (X.2 (y + 2).toNatClampNeg), .int (X.2 (y + 1).toNatClampNeg), .ref 0], ab_dD h)) (fun n => rfl) hy.2.2.1 ?_
  refine ab_Ex.call (d := 999) (M2 := 130) (as := [.ref 0, .int (X.2 (y + 1).toNatClampNeg), .int (X.2 (y + 2).toNatClampNeg)]) (rest := []) (fun n => rfl) rfl (Nat.not_lt.mpr (Nat.le_of_ble_eq_true rfl)) (sX11_by 998 X ((X.2 (y + 1).toNatClampNeg)) ((X.2 (y + 2).toNatClampNeg)) h v e1) (fun r hr => ?_)
  subst hr
  refine ab_Ex.blk (k := 5) (pc' := 381) (lv' := [(0, .ref 3000001), (1, .ref 0), (2, .ref 64), (3, .int y)]) (st' := [.int (y + 1), .ref 3000001, .ref 64, .int v]) (sh' := ab_SH) (D' := ab_dD h) (fun n => rfl) ?_
  refine ab_Ex.grd (c := (y + 1) < 0 ∨ X.1 ≤ (y + 1).toNatClampNeg) (S := (382, [(0, .ref 3000001), (1, .ref 0), (2, .ref 64), (3, .int y)], [.int (X.2 (y + 1).toNatClampNeg), .ref 64, .int v], ab_dD h)) (fun n => rfl) hy.2.1 ?_
  refine ab_Ex.blk (k := 4) (pc' := 386) (lv' := [(0, .ref 3000001), (1, .ref 0), (2, .ref 64), (3, .int y)]) (st' := [.int (y + 2), .ref 3000001, .int (X.2 (y + 1).toNatClampNeg), .ref 64, .int v]) (sh' := ab_SH) (D' := ab_dD h) (fun n => rfl) ?_
  refine ab_Ex.grd (c := (y + 2) < 0 ∨ X.1 ≤ (y + 2).toNatClampNeg) (S := (387, [(0, .ref 3000001), (1, .ref 0), (2, .ref 64), (3, .int y)], [.int (X.2 (y + 2).toNatClampNeg), .int (X.2 (y + 1).toNatClampNeg), .ref 64, .int v], ab_dD h)) (fun n => rfl) hy.2.2.1 ?_
  refine ab_Ex.call (d := 999) (M2 := 227) (as := [.ref 64, .int (X.2 (y + 1).toNatClampNeg), .int (X.2 (y + 2).toNatClampNeg)]) (rest := [.int v]) (fun n => rfl) rfl (Nat.not_lt.mpr (Nat.le_of_ble_eq_true rfl)) (sX12_by 995 X ((X.2 (y + 1).toNatClampNeg)) ((X.2 (y + 2).toNatClampNeg)) h (v, h2) e2) (fun r hr => ?_)
  subst hr
  exact ab_Ex.ifc (c := v = v) (SA := (1503, [(0, .ref 3000001), (1, .ref 0), (2, .ref 64), (3, .int y)], [], ab_dD h2)) (SB := (393, [(0, .ref 3000001), (1, .ref 0), (2, .ref 64), (3, .int y)], [], ab_dD h2)) (fun n => rfl) (fun _ => g h2 hI2) (fun c => absurd rfl c)
set_option maxRecDepth 20000 in
theorem law_5 (X : abX) (y : Int32) (h : abJ) {R : abR → Prop} (hy : ab_y X y) (hI : ab_I h) (g : ∀ h', ab_I h' → ab_Ex X 1000 320 1503 [(0, .ref 3000001), (1, .ref 0), (2, .ref 64), (3, .int y)] [] ab_SH (ab_dD h') R) : ab_Ex X 1000 320 395 [(0, .ref 3000001), (1, .ref 0), (2, .ref 64), (3, .int y)] [] ab_SH (ab_dD h) R := by
  obtain ⟨v, h1, h2, e1, e2, hI2⟩ := law_call (call_step) hI
  refine ab_Ex.blk (k := 1) (pc' := 396) (lv' := [(0, .ref 3000001), (1, .ref 0), (2, .ref 64), (3, .int y)]) (st' := [.ref 0]) (sh' := ab_SH) (D' := ab_dD h) (fun n => rfl) ?_
  refine ab_Ex.call (d := 999) (M2 := 131) (as := [.ref 0]) (rest := []) (fun n => rfl) rfl (Nat.not_lt.mpr (Nat.le_of_ble_eq_true rfl)) (sX11_step 995 X  h (v, h1) e1) (fun r hr => ?_)
  subst hr
  refine ab_Ex.blk (k := 1) (pc' := 400) (lv' := [(0, .ref 3000001), (1, .ref 0), (2, .ref 64), (3, .int y)]) (st' := [.ref 64, .int v]) (sh' := ab_SH) (D' := ab_dD h1) (fun n => rfl) ?_
  refine ab_Ex.call (d := 999) (M2 := 232) (as := [.ref 64]) (rest := [.int v]) (fun n => rfl) rfl (Nat.not_lt.mpr (Nat.le_of_ble_eq_true rfl)) (sX12_step 994 X  h1 (v, h2) e2) (fun r hr => ?_)
  subst hr
  exact ab_Ex.ifc (c := v = v) (SA := (1503, [(0, .ref 3000001), (1, .ref 0), (2, .ref 64), (3, .int y)], [], ab_dD h2)) (SB := (406, [(0, .ref 3000001), (1, .ref 0), (2, .ref 64), (3, .int y)], [], ab_dD h2)) (fun n => rfl) (fun _ => g h2 hI2) (fun c => absurd rfl c)
set_option maxRecDepth 20000 in
theorem law_6 (X : abX) (y : Int32) (h : abJ) {R : abR → Prop} (hy : ab_y X y) (hI : ab_I h) (g : ∀ h', ab_I h' → ab_Ex X 1000 320 1503 [(0, .ref 3000001), (1, .ref 0), (2, .ref 64), (3, .int y)] [] ab_SH (ab_dD h') R) : ab_Ex X 1000 320 408 [(0, .ref 3000001), (1, .ref 0), (2, .ref 64), (3, .int y)] [] ab_SH (ab_dD h) R := by
  obtain ⟨v, h1, h2, e1, e2, hI2⟩ := law_call (call_steps ((X.2 (y + 1).toNatClampNeg))) hI
  refine ab_Ex.blk (k := 5) (pc' := 413) (lv' := [(0, .ref 3000001), (1, .ref 0), (2, .ref 64), (3, .int y)]) (st' := [.int (y + 1), .ref 3000001, .ref 0]) (sh' := ab_SH) (D' := ab_dD h) (fun n => rfl) ?_
  refine ab_Ex.grd (c := (y + 1) < 0 ∨ X.1 ≤ (y + 1).toNatClampNeg) (S := (414, [(0, .ref 3000001), (1, .ref 0), (2, .ref 64), (3, .int y)], [.int (X.2 (y + 1).toNatClampNeg), .ref 0], ab_dD h)) (fun n => rfl) hy.2.1 ?_
  refine ab_Ex.call (d := 999) (M2 := 132) (as := [.ref 0, .int (X.2 (y + 1).toNatClampNeg)]) (rest := []) (fun n => rfl) rfl (Nat.not_lt.mpr (Nat.le_of_ble_eq_true rfl)) (sX11_steps 995 X ((X.2 (y + 1).toNatClampNeg)) h (v, h1) e1) (fun r hr => ?_)
  subst hr
  refine ab_Ex.blk (k := 5) (pc' := 422) (lv' := [(0, .ref 3000001), (1, .ref 0), (2, .ref 64), (3, .int y)]) (st' := [.int (y + 1), .ref 3000001, .ref 64, .int v]) (sh' := ab_SH) (D' := ab_dD h1) (fun n => rfl) ?_
  refine ab_Ex.grd (c := (y + 1) < 0 ∨ X.1 ≤ (y + 1).toNatClampNeg) (S := (423, [(0, .ref 3000001), (1, .ref 0), (2, .ref 64), (3, .int y)], [.int (X.2 (y + 1).toNatClampNeg), .ref 64, .int v], ab_dD h1)) (fun n => rfl) hy.2.1 ?_
  refine ab_Ex.call (d := 999) (M2 := 233) (as := [.ref 64, .int (X.2 (y + 1).toNatClampNeg)]) (rest := [.int v]) (fun n => rfl) rfl (Nat.not_lt.mpr (Nat.le_of_ble_eq_true rfl)) (sX12_steps 994 X ((X.2 (y + 1).toNatClampNeg)) h1 (v, h2) e2) (fun r hr => ?_)
  subst hr
  exact ab_Ex.ifc (c := v = v) (SA := (1503, [(0, .ref 3000001), (1, .ref 0), (2, .ref 64), (3, .int y)], [], ab_dD h2)) (SB := (429, [(0, .ref 3000001), (1, .ref 0), (2, .ref 64), (3, .int y)], [], ab_dD h2)) (fun n => rfl) (fun _ => g h2 hI2) (fun c => absurd rfl c)
set_option maxRecDepth 20000 in
theorem law_7 (X : abX) (y : Int32) (h : abJ) {R : abR → Prop} (hy : ab_y X y) (hI : ab_I h) (g : ∀ h', ab_I h' → ab_Ex X 1000 320 1503 [(0, .ref 3000001), (1, .ref 0), (2, .ref 64), (3, .int y)] [] ab_SH (ab_dD h') R) : ab_Ex X 1000 320 431 [(0, .ref 3000001), (1, .ref 0), (2, .ref 64), (3, .int y)] [] ab_SH (ab_dD h) R := by
  obtain ⟨v, h1, h2, e1, e2, hI2⟩ := law_call (call_turn ((X.2 (y + 1).toNatClampNeg)) ((X.2 (y + 2).toNatClampNeg))) hI
  refine ab_Ex.blk (k := 5) (pc' := 436) (lv' := [(0, .ref 3000001), (1, .ref 0), (2, .ref 64), (3, .int y)]) (st' := [.int (y + 1), .ref 3000001, .ref 0]) (sh' := ab_SH) (D' := ab_dD h) (fun n => rfl) ?_
  refine ab_Ex.grd (c := (y + 1) < 0 ∨ X.1 ≤ (y + 1).toNatClampNeg) (S := (437, [(0, .ref 3000001), (1, .ref 0), (2, .ref 64), (3, .int y)], [.int (X.2 (y + 1).toNatClampNeg), .ref 0], ab_dD h)) (fun n => rfl) hy.2.1 ?_
  refine ab_Ex.blk (k := 4) (pc' := 441) (lv' := [(0, .ref 3000001), (1, .ref 0), (2, .ref 64), (3, .int y)]) (st' := [.int (y + 2), .ref 3000001, .int (X.2 (y + 1).toNatClampNeg), .ref 0]) (sh' := ab_SH) (D' := ab_dD h) (fun n => rfl) ?_
  refine ab_Ex.grd (c := (y + 2) < 0 ∨ X.1 ≤ (y + 2).toNatClampNeg) (S := (442, [(0, .ref 3000001), (1, .ref 0), (2, .ref 64), (3, .int y)], [.int (X.2 (y + 2).toNatClampNeg), .int (X.2 (y + 1).toNatClampNeg), .ref 0], ab_dD h)) (fun n => rfl) hy.2.2.1 ?_
  refine ab_Ex.call (d := 999) (M2 := 133) (as := [.ref 0, .int (X.2 (y + 1).toNatClampNeg), .int (X.2 (y + 2).toNatClampNeg)]) (rest := []) (fun n => rfl) rfl (Nat.not_lt.mpr (Nat.le_of_ble_eq_true rfl)) (sX11_turn 996 X ((X.2 (y + 1).toNatClampNeg)) ((X.2 (y + 2).toNatClampNeg)) h (v, h1) e1) (fun r hr => ?_)
  subst hr
  refine ab_Ex.blk (k := 5) (pc' := 450) (lv' := [(0, .ref 3000001), (1, .ref 0), (2, .ref 64), (3, .int y)]) (st' := [.int (y + 1), .ref 3000001, .ref 64, .int v]) (sh' := ab_SH) (D' := ab_dD h1) (fun n => rfl) ?_
  refine ab_Ex.grd (c := (y + 1) < 0 ∨ X.1 ≤ (y + 1).toNatClampNeg) (S := (451, [(0, .ref 3000001), (1, .ref 0), (2, .ref 64), (3, .int y)], [.int (X.2 (y + 1).toNatClampNeg), .ref 64, .int v], ab_dD h1)) (fun n => rfl) hy.2.1 ?_
  refine ab_Ex.blk (k := 4) (pc' := 455) (lv' := [(0, .ref 3000001), (1, .ref 0), (2, .ref 64), (3, .int y)]) (st' := [.int (y + 2), .ref 3000001, .int (X.2 (y + 1).toNatClampNeg), .ref 64, .int v]) (sh' := ab_SH) (D' := ab_dD h1) (fun n => rfl) ?_
  refine ab_Ex.grd (c := (y + 2) < 0 ∨ X.1 ≤ (y + 2).toNatClampNeg) (S := (456, [(0, .ref 3000001), (1, .ref 0), (2, .ref 64), (3, .int y)], [.int (X.2 (y + 2).toNatClampNeg), .int (X.2 (y + 1).toNatClampNeg), .ref 64, .int v], ab_dD h1)) (fun n => rfl) hy.2.2.1 ?_
  refine ab_Ex.call (d := 999) (M2 := 234) (as := [.ref 64, .int (X.2 (y + 1).toNatClampNeg), .int (X.2 (y + 2).toNatClampNeg)]) (rest := [.int v]) (fun n => rfl) rfl (Nat.not_lt.mpr (Nat.le_of_ble_eq_true rfl)) (sX12_turn 997 X ((X.2 (y + 1).toNatClampNeg)) ((X.2 (y + 2).toNatClampNeg)) h1 (v, h2) e2) (fun r hr => ?_)
  subst hr
  exact ab_Ex.ifc (c := v = v) (SA := (1503, [(0, .ref 3000001), (1, .ref 0), (2, .ref 64), (3, .int y)], [], ab_dD h2)) (SB := (462, [(0, .ref 3000001), (1, .ref 0), (2, .ref 64), (3, .int y)], [], ab_dD h2)) (fun n => rfl) (fun _ => g h2 hI2) (fun c => absurd rfl c)
set_option maxRecDepth 20000 in
theorem law_8 (X : abX) (y : Int32) (h : abJ) {R : abR → Prop} (hy : ab_y X y) (hI : ab_I h) (g : ∀ h', ab_I h' → ab_Ex X 1000 320 1503 [(0, .ref 3000001), (1, .ref 0), (2, .ref 64), (3, .int y)] [] ab_SH (ab_dD h') R) : ab_Ex X 1000 320 464 [(0, .ref 3000001), (1, .ref 0), (2, .ref 64), (3, .int y)] [] ab_SH (ab_dD h) R := by
  obtain ⟨v, h1, h2, e1, e2, hI2⟩ := law_call (call_setsOut ((X.2 (y + 1).toNatClampNeg))) hI
  refine ab_Ex.blk (k := 5) (pc' := 469) (lv' := [(0, .ref 3000001), (1, .ref 0), (2, .ref 64), (3, .int y)]) (st' := [.int (y + 1), .ref 3000001, .ref 0]) (sh' := ab_SH) (D' := ab_dD h) (fun n => rfl) ?_
  refine ab_Ex.grd (c := (y + 1) < 0 ∨ X.1 ≤ (y + 1).toNatClampNeg) (S := (470, [(0, .ref 3000001), (1, .ref 0), (2, .ref 64), (3, .int y)], [.int (X.2 (y + 1).toNatClampNeg), .ref 0], ab_dD h)) (fun n => rfl) hy.2.1 ?_
  refine ab_Ex.call (d := 999) (M2 := 134) (as := [.ref 0, .int (X.2 (y + 1).toNatClampNeg)]) (rest := []) (fun n => rfl) rfl (Nat.not_lt.mpr (Nat.le_of_ble_eq_true rfl)) (sX11_setsOut 996 X ((X.2 (y + 1).toNatClampNeg)) h (v, h1) e1) (fun r hr => ?_)
  subst hr
  refine ab_Ex.blk (k := 5) (pc' := 478) (lv' := [(0, .ref 3000001), (1, .ref 0), (2, .ref 64), (3, .int y)]) (st' := [.int (y + 1), .ref 3000001, .ref 64, .int v]) (sh' := ab_SH) (D' := ab_dD h1) (fun n => rfl) ?_
  refine ab_Ex.grd (c := (y + 1) < 0 ∨ X.1 ≤ (y + 1).toNatClampNeg) (S := (479, [(0, .ref 3000001), (1, .ref 0), (2, .ref 64), (3, .int y)], [.int (X.2 (y + 1).toNatClampNeg), .ref 64, .int v], ab_dD h1)) (fun n => rfl) hy.2.1 ?_
  refine ab_Ex.call (d := 999) (M2 := 235) (as := [.ref 64, .int (X.2 (y + 1).toNatClampNeg)]) (rest := [.int v]) (fun n => rfl) rfl (Nat.not_lt.mpr (Nat.le_of_ble_eq_true rfl)) (sX12_setsOut 997 X ((X.2 (y + 1).toNatClampNeg)) h1 (v, h2) e2) (fun r hr => ?_)
  subst hr
  exact ab_Ex.ifc (c := v = v) (SA := (1503, [(0, .ref 3000001), (1, .ref 0), (2, .ref 64), (3, .int y)], [], ab_dD h2)) (SB := (485, [(0, .ref 3000001), (1, .ref 0), (2, .ref 64), (3, .int y)], [], ab_dD h2)) (fun n => rfl) (fun _ => g h2 hI2) (fun c => absurd rfl c)
set_option maxRecDepth 20000 in
theorem law_9 (X : abX) (y : Int32) (h : abJ) {R : abR → Prop} (hy : ab_y X y) (hI : ab_I h) (g : ∀ h', ab_I h' → ab_Ex X 1000 320 1503 [(0, .ref 3000001), (1, .ref 0), (2, .ref 64), (3, .int y)] [] ab_SH (ab_dD h') R) : ab_Ex X 1000 320 487 [(0, .ref 3000001), (1, .ref 0), (2, .ref 64), (3, .int y)] [] ab_SH (ab_dD h) R := by
  obtain ⟨v, h1, h2, e1, e2, hI2⟩ := law_call (call_fog ((X.2 (y + 1).toNatClampNeg))) hI
  refine ab_Ex.blk (k := 5) (pc' := 492) (lv' := [(0, .ref 3000001), (1, .ref 0), (2, .ref 64), (3, .int y)]) (st' := [.int (y + 1), .ref 3000001, .ref 0]) (sh' := ab_SH) (D' := ab_dD h) (fun n => rfl) ?_
  refine ab_Ex.grd (c := (y + 1) < 0 ∨ X.1 ≤ (y + 1).toNatClampNeg) (S := (493, [(0, .ref 3000001), (1, .ref 0), (2, .ref 64), (3, .int y)], [.int (X.2 (y + 1).toNatClampNeg), .ref 0], ab_dD h)) (fun n => rfl) hy.2.1 ?_
  refine ab_Ex.call (d := 999) (M2 := 135) (as := [.ref 0, .int (X.2 (y + 1).toNatClampNeg)]) (rest := []) (fun n => rfl) rfl (Nat.not_lt.mpr (Nat.le_of_ble_eq_true rfl)) (sX11_fog 994 X ((X.2 (y + 1).toNatClampNeg)) h (v, h1) e1) (fun r hr => ?_)
  subst hr
  refine ab_Ex.blk (k := 5) (pc' := 501) (lv' := [(0, .ref 3000001), (1, .ref 0), (2, .ref 64), (3, .int y)]) (st' := [.int (y + 1), .ref 3000001, .ref 64, .int v]) (sh' := ab_SH) (D' := ab_dD h1) (fun n => rfl) ?_
  refine ab_Ex.grd (c := (y + 1) < 0 ∨ X.1 ≤ (y + 1).toNatClampNeg) (S := (502, [(0, .ref 3000001), (1, .ref 0), (2, .ref 64), (3, .int y)], [.int (X.2 (y + 1).toNatClampNeg), .ref 64, .int v], ab_dD h1)) (fun n => rfl) hy.2.1 ?_
  refine ab_Ex.call (d := 999) (M2 := 236) (as := [.ref 64, .int (X.2 (y + 1).toNatClampNeg)]) (rest := [.int v]) (fun n => rfl) rfl (Nat.not_lt.mpr (Nat.le_of_ble_eq_true rfl)) (sX12_fog 998 X ((X.2 (y + 1).toNatClampNeg)) h1 (v, h2) e2) (fun r hr => ?_)
  subst hr
  exact ab_Ex.ifc (c := v = v) (SA := (1503, [(0, .ref 3000001), (1, .ref 0), (2, .ref 64), (3, .int y)], [], ab_dD h2)) (SB := (508, [(0, .ref 3000001), (1, .ref 0), (2, .ref 64), (3, .int y)], [], ab_dD h2)) (fun n => rfl) (fun _ => g h2 hI2) (fun c => absurd rfl c)
set_option maxRecDepth 20000 in
theorem law_10 (X : abX) (y : Int32) (h : abJ) {R : abR → Prop} (hy : ab_y X y) (hI : ab_I h) (g : ∀ h', ab_I h' → ab_Ex X 1000 320 1503 [(0, .ref 3000001), (1, .ref 0), (2, .ref 64), (3, .int y)] [] ab_SH (ab_dD h') R) : ab_Ex X 1000 320 510 [(0, .ref 3000001), (1, .ref 0), (2, .ref 64), (3, .int y)] [] ab_SH (ab_dD h) R := by
  obtain ⟨v, h1, h2, e1, e2, hI2⟩ := law_call (call_undo ((X.2 (y + 1).toNatClampNeg))) hI
  refine ab_Ex.blk (k := 5) (pc' := 515) (lv' := [(0, .ref 3000001), (1, .ref 0), (2, .ref 64), (3, .int y)]) (st' := [.int (y + 1), .ref 3000001, .ref 0]) (sh' := ab_SH) (D' := ab_dD h) (fun n => rfl) ?_
  refine ab_Ex.grd (c := (y + 1) < 0 ∨ X.1 ≤ (y + 1).toNatClampNeg) (S := (516, [(0, .ref 3000001), (1, .ref 0), (2, .ref 64), (3, .int y)], [.int (X.2 (y + 1).toNatClampNeg), .ref 0], ab_dD h)) (fun n => rfl) hy.2.1 ?_
  refine ab_Ex.call (d := 999) (M2 := 136) (as := [.ref 0, .int (X.2 (y + 1).toNatClampNeg)]) (rest := []) (fun n => rfl) rfl (Nat.not_lt.mpr (Nat.le_of_ble_eq_true rfl)) (sX11_undo 997 X ((X.2 (y + 1).toNatClampNeg)) h (v, h1) e1) (fun r hr => ?_)
  subst hr
  refine ab_Ex.blk (k := 5) (pc' := 524) (lv' := [(0, .ref 3000001), (1, .ref 0), (2, .ref 64), (3, .int y)]) (st' := [.int (y + 1), .ref 3000001, .ref 64, .int v]) (sh' := ab_SH) (D' := ab_dD h1) (fun n => rfl) ?_
  refine ab_Ex.grd (c := (y + 1) < 0 ∨ X.1 ≤ (y + 1).toNatClampNeg) (S := (525, [(0, .ref 3000001), (1, .ref 0), (2, .ref 64), (3, .int y)], [.int (X.2 (y + 1).toNatClampNeg), .ref 64, .int v], ab_dD h1)) (fun n => rfl) hy.2.1 ?_
  refine ab_Ex.call (d := 999) (M2 := 237) (as := [.ref 64, .int (X.2 (y + 1).toNatClampNeg)]) (rest := [.int v]) (fun n => rfl) rfl (Nat.not_lt.mpr (Nat.le_of_ble_eq_true rfl)) (sX12_undo 998 X ((X.2 (y + 1).toNatClampNeg)) h1 (v, h2) e2) (fun r hr => ?_)
  subst hr
  exact ab_Ex.ifc (c := v = v) (SA := (1503, [(0, .ref 3000001), (1, .ref 0), (2, .ref 64), (3, .int y)], [], ab_dD h2)) (SB := (531, [(0, .ref 3000001), (1, .ref 0), (2, .ref 64), (3, .int y)], [], ab_dD h2)) (fun n => rfl) (fun _ => g h2 hI2) (fun c => absurd rfl c)
set_option maxRecDepth 20000 in
theorem law_11 (X : abX) (y : Int32) (h : abJ) {R : abR → Prop} (hy : ab_y X y) (hI : ab_I h) (g : ∀ h', ab_I h' → ab_Ex X 1000 320 1503 [(0, .ref 3000001), (1, .ref 0), (2, .ref 64), (3, .int y)] [] ab_SH (ab_dD h') R) : ab_Ex X 1000 320 533 [(0, .ref 3000001), (1, .ref 0), (2, .ref 64), (3, .int y)] [] ab_SH (ab_dD h) R := by
  obtain ⟨v, h1, h2, e1, e2, hI2⟩ := law_call (call_judge ((X.2 (y + 1).toNatClampNeg)) ((X.2 (y + 2).toNatClampNeg))) hI
  refine ab_Ex.blk (k := 5) (pc' := 538) (lv' := [(0, .ref 3000001), (1, .ref 0), (2, .ref 64), (3, .int y)]) (st' := [.int (y + 1), .ref 3000001, .ref 0]) (sh' := ab_SH) (D' := ab_dD h) (fun n => rfl) ?_
  refine ab_Ex.grd (c := (y + 1) < 0 ∨ X.1 ≤ (y + 1).toNatClampNeg) (S := (539, [(0, .ref 3000001), (1, .ref 0), (2, .ref 64), (3, .int y)], [.int (X.2 (y + 1).toNatClampNeg), .ref 0], ab_dD h)) (fun n => rfl) hy.2.1 ?_
  refine ab_Ex.blk (k := 4) (pc' := 543) (lv' := [(0, .ref 3000001), (1, .ref 0), (2, .ref 64), (3, .int y)]) (st' := [.int (y + 2), .ref 3000001, .int (X.2 (y + 1).toNatClampNeg), .ref 0]) (sh' := ab_SH) (D' := ab_dD h) (fun n => rfl) ?_
  refine ab_Ex.grd (c := (y + 2) < 0 ∨ X.1 ≤ (y + 2).toNatClampNeg) (S := (544, [(0, .ref 3000001), (1, .ref 0), (2, .ref 64), (3, .int y)], [.int (X.2 (y + 2).toNatClampNeg), .int (X.2 (y + 1).toNatClampNeg), .ref 0], ab_dD h)) (fun n => rfl) hy.2.2.1 ?_
  refine ab_Ex.call (d := 999) (M2 := 137) (as := [.ref 0, .int (X.2 (y + 1).toNatClampNeg), .int (X.2 (y + 2).toNatClampNeg)]) (rest := []) (fun n => rfl) rfl (Nat.not_lt.mpr (Nat.le_of_ble_eq_true rfl)) (sX11_judge 992 X ((X.2 (y + 1).toNatClampNeg)) ((X.2 (y + 2).toNatClampNeg)) h (v, h1) e1) (fun r hr => ?_)
  subst hr
  refine ab_Ex.blk (k := 5) (pc' := 552) (lv' := [(0, .ref 3000001), (1, .ref 0), (2, .ref 64), (3, .int y)]) (st' := [.int (y + 1), .ref 3000001, .ref 64, .int v]) (sh' := ab_SH) (D' := ab_dD h1) (fun n => rfl) ?_
  refine ab_Ex.grd (c := (y + 1) < 0 ∨ X.1 ≤ (y + 1).toNatClampNeg) (S := (553, [(0, .ref 3000001), (1, .ref 0), (2, .ref 64), (3, .int y)], [.int (X.2 (y + 1).toNatClampNeg), .ref 64, .int v], ab_dD h1)) (fun n => rfl) hy.2.1 ?_
  refine ab_Ex.blk (k := 4) (pc' := 557) (lv' := [(0, .ref 3000001), (1, .ref 0), (2, .ref 64), (3, .int y)]) (st' := [.int (y + 2), .ref 3000001, .int (X.2 (y + 1).toNatClampNeg), .ref 64, .int v]) (sh' := ab_SH) (D' := ab_dD h1) (fun n => rfl) ?_
  refine ab_Ex.grd (c := (y + 2) < 0 ∨ X.1 ≤ (y + 2).toNatClampNeg) (S := (558, [(0, .ref 3000001), (1, .ref 0), (2, .ref 64), (3, .int y)], [.int (X.2 (y + 2).toNatClampNeg), .int (X.2 (y + 1).toNatClampNeg), .ref 64, .int v], ab_dD h1)) (fun n => rfl) hy.2.2.1 ?_
  refine ab_Ex.call (d := 999) (M2 := 242) (as := [.ref 64, .int (X.2 (y + 1).toNatClampNeg), .int (X.2 (y + 2).toNatClampNeg)]) (rest := [.int v]) (fun n => rfl) rfl (Nat.not_lt.mpr (Nat.le_of_ble_eq_true rfl)) (sX12_judge 992 X ((X.2 (y + 1).toNatClampNeg)) ((X.2 (y + 2).toNatClampNeg)) h1 (v, h2) e2) (fun r hr => ?_)
  subst hr
  exact ab_Ex.ifc (c := v = v) (SA := (1503, [(0, .ref 3000001), (1, .ref 0), (2, .ref 64), (3, .int y)], [], ab_dD h2)) (SB := (564, [(0, .ref 3000001), (1, .ref 0), (2, .ref 64), (3, .int y)], [], ab_dD h2)) (fun n => rfl) (fun _ => g h2 hI2) (fun c => absurd rfl c)
set_option maxRecDepth 20000 in
theorem law_12 (X : abX) (y : Int32) (h : abJ) {R : abR → Prop} (hy : ab_y X y) (hI : ab_I h) (g : ∀ h', ab_I h' → ab_Ex X 1000 320 1503 [(0, .ref 3000001), (1, .ref 0), (2, .ref 64), (3, .int y)] [] ab_SH (ab_dD h') R) : ab_Ex X 1000 320 566 [(0, .ref 3000001), (1, .ref 0), (2, .ref 64), (3, .int y)] [] ab_SH (ab_dD h) R := by
  obtain ⟨v, h1, h2, e1, e2, hI2⟩ := law_call (call_perform ((X.2 (y + 1).toNatClampNeg))) hI
  refine ab_Ex.blk (k := 5) (pc' := 571) (lv' := [(0, .ref 3000001), (1, .ref 0), (2, .ref 64), (3, .int y)]) (st' := [.int (y + 1), .ref 3000001, .ref 0]) (sh' := ab_SH) (D' := ab_dD h) (fun n => rfl) ?_
  refine ab_Ex.grd (c := (y + 1) < 0 ∨ X.1 ≤ (y + 1).toNatClampNeg) (S := (572, [(0, .ref 3000001), (1, .ref 0), (2, .ref 64), (3, .int y)], [.int (X.2 (y + 1).toNatClampNeg), .ref 0], ab_dD h)) (fun n => rfl) hy.2.1 ?_
  refine ab_Ex.call (d := 999) (M2 := 138) (as := [.ref 0, .int (X.2 (y + 1).toNatClampNeg)]) (rest := []) (fun n => rfl) rfl (Nat.not_lt.mpr (Nat.le_of_ble_eq_true rfl)) (sX11_perform 992 X ((X.2 (y + 1).toNatClampNeg)) h (v, h1) e1) (fun r hr => ?_)
  subst hr
  refine ab_Ex.blk (k := 5) (pc' := 580) (lv' := [(0, .ref 3000001), (1, .ref 0), (2, .ref 64), (3, .int y)]) (st' := [.int (y + 1), .ref 3000001, .ref 64, .int v]) (sh' := ab_SH) (D' := ab_dD h1) (fun n => rfl) ?_
  refine ab_Ex.grd (c := (y + 1) < 0 ∨ X.1 ≤ (y + 1).toNatClampNeg) (S := (581, [(0, .ref 3000001), (1, .ref 0), (2, .ref 64), (3, .int y)], [.int (X.2 (y + 1).toNatClampNeg), .ref 64, .int v], ab_dD h1)) (fun n => rfl) hy.2.1 ?_
  refine ab_Ex.call (d := 999) (M2 := 243) (as := [.ref 64, .int (X.2 (y + 1).toNatClampNeg)]) (rest := [.int v]) (fun n => rfl) rfl (Nat.not_lt.mpr (Nat.le_of_ble_eq_true rfl)) (sX12_perform 992 X ((X.2 (y + 1).toNatClampNeg)) h1 (v, h2) e2) (fun r hr => ?_)
  subst hr
  exact ab_Ex.ifc (c := v = v) (SA := (1503, [(0, .ref 3000001), (1, .ref 0), (2, .ref 64), (3, .int y)], [], ab_dD h2)) (SB := (587, [(0, .ref 3000001), (1, .ref 0), (2, .ref 64), (3, .int y)], [], ab_dD h2)) (fun n => rfl) (fun _ => g h2 hI2) (fun c => absurd rfl c)
set_option maxRecDepth 20000 in
theorem law_13 (X : abX) (y : Int32) (h : abJ) {R : abR → Prop} (hy : ab_y X y) (hI : ab_I h) (g : ∀ h', ab_I h' → ab_Ex X 1000 320 1503 [(0, .ref 3000001), (1, .ref 0), (2, .ref 64), (3, .int y)] [] ab_SH (ab_dD h') R) : ab_Ex X 1000 320 589 [(0, .ref 3000001), (1, .ref 0), (2, .ref 64), (3, .int y)] [] ab_SH (ab_dD h) R := by
  obtain ⟨v, h1, h2, e1, e2, hI2⟩ := law_call (call_year ((X.2 (y + 1).toNatClampNeg)) ((X.2 (y + 2).toNatClampNeg))) hI
  refine ab_Ex.blk (k := 5) (pc' := 594) (lv' := [(0, .ref 3000001), (1, .ref 0), (2, .ref 64), (3, .int y)]) (st' := [.int (y + 1), .ref 3000001, .ref 0]) (sh' := ab_SH) (D' := ab_dD h) (fun n => rfl) ?_
  refine ab_Ex.grd (c := (y + 1) < 0 ∨ X.1 ≤ (y + 1).toNatClampNeg) (S := (595, [(0, .ref 3000001), (1, .ref 0), (2, .ref 64), (3, .int y)], [.int (X.2 (y + 1).toNatClampNeg), .ref 0], ab_dD h)) (fun n => rfl) hy.2.1 ?_
  refine ab_Ex.blk (k := 4) (pc' := 599) (lv' := [(0, .ref 3000001), (1, .ref 0), (2, .ref 64), (3, .int y)]) (st' := [.int (y + 2), .ref 3000001, .int (X.2 (y + 1).toNatClampNeg), .ref 0]) (sh' := ab_SH) (D' := ab_dD h) (fun n => rfl) ?_
  refine ab_Ex.grd (c := (y + 2) < 0 ∨ X.1 ≤ (y + 2).toNatClampNeg) (S := (600, [(0, .ref 3000001), (1, .ref 0), (2, .ref 64), (3, .int y)], [.int (X.2 (y + 2).toNatClampNeg), .int (X.2 (y + 1).toNatClampNeg), .ref 0], ab_dD h)) (fun n => rfl) hy.2.2.1 ?_
  refine ab_Ex.call (d := 999) (M2 := 139) (as := [.ref 0, .int (X.2 (y + 1).toNatClampNeg), .int (X.2 (y + 2).toNatClampNeg)]) (rest := []) (fun n => rfl) rfl (Nat.not_lt.mpr (Nat.le_of_ble_eq_true rfl)) (sX11_year 992 X ((X.2 (y + 1).toNatClampNeg)) ((X.2 (y + 2).toNatClampNeg)) h (v, h1) e1) (fun r hr => ?_)
  subst hr
  refine ab_Ex.blk (k := 5) (pc' := 608) (lv' := [(0, .ref 3000001), (1, .ref 0), (2, .ref 64), (3, .int y)]) (st' := [.int (y + 1), .ref 3000001, .ref 64, .int v]) (sh' := ab_SH) (D' := ab_dD h1) (fun n => rfl) ?_
  refine ab_Ex.grd (c := (y + 1) < 0 ∨ X.1 ≤ (y + 1).toNatClampNeg) (S := (609, [(0, .ref 3000001), (1, .ref 0), (2, .ref 64), (3, .int y)], [.int (X.2 (y + 1).toNatClampNeg), .ref 64, .int v], ab_dD h1)) (fun n => rfl) hy.2.1 ?_
  refine ab_Ex.blk (k := 4) (pc' := 613) (lv' := [(0, .ref 3000001), (1, .ref 0), (2, .ref 64), (3, .int y)]) (st' := [.int (y + 2), .ref 3000001, .int (X.2 (y + 1).toNatClampNeg), .ref 64, .int v]) (sh' := ab_SH) (D' := ab_dD h1) (fun n => rfl) ?_
  refine ab_Ex.grd (c := (y + 2) < 0 ∨ X.1 ≤ (y + 2).toNatClampNeg) (S := (614, [(0, .ref 3000001), (1, .ref 0), (2, .ref 64), (3, .int y)], [.int (X.2 (y + 2).toNatClampNeg), .int (X.2 (y + 1).toNatClampNeg), .ref 64, .int v], ab_dD h1)) (fun n => rfl) hy.2.2.1 ?_
  refine ab_Ex.call (d := 999) (M2 := 246) (as := [.ref 64, .int (X.2 (y + 1).toNatClampNeg), .int (X.2 (y + 2).toNatClampNeg)]) (rest := [.int v]) (fun n => rfl) rfl (Nat.not_lt.mpr (Nat.le_of_ble_eq_true rfl)) (sX12_year 993 X ((X.2 (y + 1).toNatClampNeg)) ((X.2 (y + 2).toNatClampNeg)) h1 (v, h2) e2) (fun r hr => ?_)
  subst hr
  exact ab_Ex.ifc (c := v = v) (SA := (1503, [(0, .ref 3000001), (1, .ref 0), (2, .ref 64), (3, .int y)], [], ab_dD h2)) (SB := (620, [(0, .ref 3000001), (1, .ref 0), (2, .ref 64), (3, .int y)], [], ab_dD h2)) (fun n => rfl) (fun _ => g h2 hI2) (fun c => absurd rfl c)
set_option maxRecDepth 20000 in
theorem law_14 (X : abX) (y : Int32) (h : abJ) {R : abR → Prop} (hy : ab_y X y) (hI : ab_I h) (g : ∀ h', ab_I h' → ab_Ex X 1000 320 1503 [(0, .ref 3000001), (1, .ref 0), (2, .ref 64), (3, .int y)] [] ab_SH (ab_dD h') R) : ab_Ex X 1000 320 622 [(0, .ref 3000001), (1, .ref 0), (2, .ref 64), (3, .int y)] [] ab_SH (ab_dD h) R := by
  obtain ⟨v, h1, h2, e1, e2, hI2⟩ := law_call (call_at (((((X.2 (y + 1).toNatClampNeg)).toInt64 <<< ((32 : Int32).toInt64 &&& 63)) ||| (((X.2 (y + 2).toNatClampNeg)).toInt64 &&& 4294967295)))) hI
  refine ab_Ex.blk (k := 5) (pc' := 627) (lv' := [(0, .ref 3000001), (1, .ref 0), (2, .ref 64), (3, .int y)]) (st' := [.int (y + 1), .ref 3000001, .ref 0]) (sh' := ab_SH) (D' := ab_dD h) (fun n => rfl) ?_
  refine ab_Ex.grd (c := (y + 1) < 0 ∨ X.1 ≤ (y + 1).toNatClampNeg) (S := (628, [(0, .ref 3000001), (1, .ref 0), (2, .ref 64), (3, .int y)], [.int (X.2 (y + 1).toNatClampNeg), .ref 0], ab_dD h)) (fun n => rfl) hy.2.1 ?_
  refine ab_Ex.blk (k := 7) (pc' := 636) (lv' := [(0, .ref 3000001), (1, .ref 0), (2, .ref 64), (3, .int y)]) (st' := [.int (y + 2), .ref 3000001, .long (((X.2 (y + 1).toNatClampNeg)).toInt64 <<< ((32 : Int32).toInt64 &&& 63)), .ref 0]) (sh' := ab_SH) (D' := ab_dD h) (fun n => rfl) ?_
  refine ab_Ex.grd (c := (y + 2) < 0 ∨ X.1 ≤ (y + 2).toNatClampNeg) (S := (637, [(0, .ref 3000001), (1, .ref 0), (2, .ref 64), (3, .int y)], [.int (X.2 (y + 2).toNatClampNeg), .long (((X.2 (y + 1).toNatClampNeg)).toInt64 <<< ((32 : Int32).toInt64 &&& 63)), .ref 0], ab_dD h)) (fun n => rfl) hy.2.2.1 ?_
  refine ab_Ex.blk (k := 4) (pc' := 643) (lv' := [(0, .ref 3000001), (1, .ref 0), (2, .ref 64), (3, .int y)]) (st' := [.long ((((X.2 (y + 1).toNatClampNeg)).toInt64 <<< ((32 : Int32).toInt64 &&& 63)) ||| (((X.2 (y + 2).toNatClampNeg)).toInt64 &&& 4294967295)), .ref 0]) (sh' := ab_SH) (D' := ab_dD h) (fun n => rfl) ?_
  refine ab_Ex.call (d := 999) (M2 := 140) (as := [.ref 0, .long ((((X.2 (y + 1).toNatClampNeg)).toInt64 <<< ((32 : Int32).toInt64 &&& 63)) ||| (((X.2 (y + 2).toNatClampNeg)).toInt64 &&& 4294967295))]) (rest := []) (fun n => rfl) rfl (Nat.not_lt.mpr (Nat.le_of_ble_eq_true rfl)) (sX11_at 995 X (((((X.2 (y + 1).toNatClampNeg)).toInt64 <<< ((32 : Int32).toInt64 &&& 63)) ||| (((X.2 (y + 2).toNatClampNeg)).toInt64 &&& 4294967295))) h (v, h1) e1) (fun r hr => ?_)
  subst hr
  refine ab_Ex.blk (k := 5) (pc' := 651) (lv' := [(0, .ref 3000001), (1, .ref 0), (2, .ref 64), (3, .int y)]) (st' := [.int (y + 1), .ref 3000001, .ref 64, .int v]) (sh' := ab_SH) (D' := ab_dD h1) (fun n => rfl) ?_
  refine ab_Ex.grd (c := (y + 1) < 0 ∨ X.1 ≤ (y + 1).toNatClampNeg) (S := (652, [(0, .ref 3000001), (1, .ref 0), (2, .ref 64), (3, .int y)], [.int (X.2 (y + 1).toNatClampNeg), .ref 64, .int v], ab_dD h1)) (fun n => rfl) hy.2.1 ?_
  refine ab_Ex.blk (k := 7) (pc' := 660) (lv' := [(0, .ref 3000001), (1, .ref 0), (2, .ref 64), (3, .int y)]) (st' := [.int (y + 2), .ref 3000001, .long (((X.2 (y + 1).toNatClampNeg)).toInt64 <<< ((32 : Int32).toInt64 &&& 63)), .ref 64, .int v]) (sh' := ab_SH) (D' := ab_dD h1) (fun n => rfl) ?_
  refine ab_Ex.grd (c := (y + 2) < 0 ∨ X.1 ≤ (y + 2).toNatClampNeg) (S := (661, [(0, .ref 3000001), (1, .ref 0), (2, .ref 64), (3, .int y)], [.int (X.2 (y + 2).toNatClampNeg), .long (((X.2 (y + 1).toNatClampNeg)).toInt64 <<< ((32 : Int32).toInt64 &&& 63)), .ref 64, .int v], ab_dD h1)) (fun n => rfl) hy.2.2.1 ?_
  refine ab_Ex.blk (k := 4) (pc' := 667) (lv' := [(0, .ref 3000001), (1, .ref 0), (2, .ref 64), (3, .int y)]) (st' := [.long ((((X.2 (y + 1).toNatClampNeg)).toInt64 <<< ((32 : Int32).toInt64 &&& 63)) ||| (((X.2 (y + 2).toNatClampNeg)).toInt64 &&& 4294967295)), .ref 64, .int v]) (sh' := ab_SH) (D' := ab_dD h1) (fun n => rfl) ?_
  refine ab_Ex.call (d := 999) (M2 := 249) (as := [.ref 64, .long ((((X.2 (y + 1).toNatClampNeg)).toInt64 <<< ((32 : Int32).toInt64 &&& 63)) ||| (((X.2 (y + 2).toNatClampNeg)).toInt64 &&& 4294967295))]) (rest := [.int v]) (fun n => rfl) rfl (Nat.not_lt.mpr (Nat.le_of_ble_eq_true rfl)) (sX12_at 994 X (((((X.2 (y + 1).toNatClampNeg)).toInt64 <<< ((32 : Int32).toInt64 &&& 63)) ||| (((X.2 (y + 2).toNatClampNeg)).toInt64 &&& 4294967295))) h1 (v, h2) e2) (fun r hr => ?_)
  subst hr
  exact ab_Ex.ifc (c := v = v) (SA := (1503, [(0, .ref 3000001), (1, .ref 0), (2, .ref 64), (3, .int y)], [], ab_dD h2)) (SB := (673, [(0, .ref 3000001), (1, .ref 0), (2, .ref 64), (3, .int y)], [], ab_dD h2)) (fun n => rfl) (fun _ => g h2 hI2) (fun c => absurd rfl c)
set_option maxRecDepth 20000 in
theorem law_15 (X : abX) (y : Int32) (h : abJ) {R : abR → Prop} (hy : ab_y X y) (hI : ab_I h) (g : ∀ h', ab_I h' → ab_Ex X 1000 320 1503 [(0, .ref 3000001), (1, .ref 0), (2, .ref 64), (3, .int y)] [] ab_SH (ab_dD h') R) : ab_Ex X 1000 320 675 [(0, .ref 3000001), (1, .ref 0), (2, .ref 64), (3, .int y)] [] ab_SH (ab_dD h) R := by
  obtain ⟨v, h1, h2, e1, e2, hI2⟩ := law_call (call_arms (((((X.2 (y + 1).toNatClampNeg)).toInt64 <<< ((32 : Int32).toInt64 &&& 63)) ||| (((X.2 (y + 2).toNatClampNeg)).toInt64 &&& 4294967295)))) hI
  refine ab_Ex.blk (k := 5) (pc' := 680) (lv' := [(0, .ref 3000001), (1, .ref 0), (2, .ref 64), (3, .int y)]) (st' := [.int (y + 1), .ref 3000001, .ref 0]) (sh' := ab_SH) (D' := ab_dD h) (fun n => rfl) ?_
  refine ab_Ex.grd (c := (y + 1) < 0 ∨ X.1 ≤ (y + 1).toNatClampNeg) (S := (681, [(0, .ref 3000001), (1, .ref 0), (2, .ref 64), (3, .int y)], [.int (X.2 (y + 1).toNatClampNeg), .ref 0], ab_dD h)) (fun n => rfl) hy.2.1 ?_
  refine ab_Ex.blk (k := 7) (pc' := 689) (lv' := [(0, .ref 3000001), (1, .ref 0), (2, .ref 64), (3, .int y)]) (st' := [.int (y + 2), .ref 3000001, .long (((X.2 (y + 1).toNatClampNeg)).toInt64 <<< ((32 : Int32).toInt64 &&& 63)), .ref 0]) (sh' := ab_SH) (D' := ab_dD h) (fun n => rfl) ?_
  refine ab_Ex.grd (c := (y + 2) < 0 ∨ X.1 ≤ (y + 2).toNatClampNeg) (S := (690, [(0, .ref 3000001), (1, .ref 0), (2, .ref 64), (3, .int y)], [.int (X.2 (y + 2).toNatClampNeg), .long (((X.2 (y + 1).toNatClampNeg)).toInt64 <<< ((32 : Int32).toInt64 &&& 63)), .ref 0], ab_dD h)) (fun n => rfl) hy.2.2.1 ?_
  refine ab_Ex.blk (k := 4) (pc' := 696) (lv' := [(0, .ref 3000001), (1, .ref 0), (2, .ref 64), (3, .int y)]) (st' := [.long ((((X.2 (y + 1).toNatClampNeg)).toInt64 <<< ((32 : Int32).toInt64 &&& 63)) ||| (((X.2 (y + 2).toNatClampNeg)).toInt64 &&& 4294967295)), .ref 0]) (sh' := ab_SH) (D' := ab_dD h) (fun n => rfl) ?_
  refine ab_Ex.call (d := 999) (M2 := 141) (as := [.ref 0, .long ((((X.2 (y + 1).toNatClampNeg)).toInt64 <<< ((32 : Int32).toInt64 &&& 63)) ||| (((X.2 (y + 2).toNatClampNeg)).toInt64 &&& 4294967295))]) (rest := []) (fun n => rfl) rfl (Nat.not_lt.mpr (Nat.le_of_ble_eq_true rfl)) (sX11_arms 995 X (((((X.2 (y + 1).toNatClampNeg)).toInt64 <<< ((32 : Int32).toInt64 &&& 63)) ||| (((X.2 (y + 2).toNatClampNeg)).toInt64 &&& 4294967295))) h (v, h1) e1) (fun r hr => ?_)
  subst hr
  refine ab_Ex.blk (k := 5) (pc' := 704) (lv' := [(0, .ref 3000001), (1, .ref 0), (2, .ref 64), (3, .int y)]) (st' := [.int (y + 1), .ref 3000001, .ref 64, .int v]) (sh' := ab_SH) (D' := ab_dD h1) (fun n => rfl) ?_
  refine ab_Ex.grd (c := (y + 1) < 0 ∨ X.1 ≤ (y + 1).toNatClampNeg) (S := (705, [(0, .ref 3000001), (1, .ref 0), (2, .ref 64), (3, .int y)], [.int (X.2 (y + 1).toNatClampNeg), .ref 64, .int v], ab_dD h1)) (fun n => rfl) hy.2.1 ?_
  refine ab_Ex.blk (k := 7) (pc' := 713) (lv' := [(0, .ref 3000001), (1, .ref 0), (2, .ref 64), (3, .int y)]) (st' := [.int (y + 2), .ref 3000001, .long (((X.2 (y + 1).toNatClampNeg)).toInt64 <<< ((32 : Int32).toInt64 &&& 63)), .ref 64, .int v]) (sh' := ab_SH) (D' := ab_dD h1) (fun n => rfl) ?_
  refine ab_Ex.grd (c := (y + 2) < 0 ∨ X.1 ≤ (y + 2).toNatClampNeg) (S := (714, [(0, .ref 3000001), (1, .ref 0), (2, .ref 64), (3, .int y)], [.int (X.2 (y + 2).toNatClampNeg), .long (((X.2 (y + 1).toNatClampNeg)).toInt64 <<< ((32 : Int32).toInt64 &&& 63)), .ref 64, .int v], ab_dD h1)) (fun n => rfl) hy.2.2.1 ?_
  refine ab_Ex.blk (k := 4) (pc' := 720) (lv' := [(0, .ref 3000001), (1, .ref 0), (2, .ref 64), (3, .int y)]) (st' := [.long ((((X.2 (y + 1).toNatClampNeg)).toInt64 <<< ((32 : Int32).toInt64 &&& 63)) ||| (((X.2 (y + 2).toNatClampNeg)).toInt64 &&& 4294967295)), .ref 64, .int v]) (sh' := ab_SH) (D' := ab_dD h1) (fun n => rfl) ?_
  refine ab_Ex.call (d := 999) (M2 := 250) (as := [.ref 64, .long ((((X.2 (y + 1).toNatClampNeg)).toInt64 <<< ((32 : Int32).toInt64 &&& 63)) ||| (((X.2 (y + 2).toNatClampNeg)).toInt64 &&& 4294967295))]) (rest := [.int v]) (fun n => rfl) rfl (Nat.not_lt.mpr (Nat.le_of_ble_eq_true rfl)) (sX12_arms 994 X (((((X.2 (y + 1).toNatClampNeg)).toInt64 <<< ((32 : Int32).toInt64 &&& 63)) ||| (((X.2 (y + 2).toNatClampNeg)).toInt64 &&& 4294967295))) h1 (v, h2) e2) (fun r hr => ?_)
  subst hr
  exact ab_Ex.ifc (c := v = v) (SA := (1503, [(0, .ref 3000001), (1, .ref 0), (2, .ref 64), (3, .int y)], [], ab_dD h2)) (SB := (726, [(0, .ref 3000001), (1, .ref 0), (2, .ref 64), (3, .int y)], [], ab_dD h2)) (fun n => rfl) (fun _ => g h2 hI2) (fun c => absurd rfl c)
set_option maxRecDepth 20000 in
theorem law_16 (X : abX) (y : Int32) (h : abJ) {R : abR → Prop} (hy : ab_y X y) (hI : ab_I h) (g : ∀ h', ab_I h' → ab_Ex X 1000 320 1503 [(0, .ref 3000001), (1, .ref 0), (2, .ref 64), (3, .int y)] [] ab_SH (ab_dD h') R) : ab_Ex X 1000 320 728 [(0, .ref 3000001), (1, .ref 0), (2, .ref 64), (3, .int y)] [] ab_SH (ab_dD h) R := by
  obtain ⟨v, h1, h2, e1, e2, hI2⟩ := law_call (call_visits ((X.2 (y + 1).toNatClampNeg)) (((((X.2 (y + 2).toNatClampNeg)).toInt64 <<< ((32 : Int32).toInt64 &&& 63)) ||| (((X.2 (y + 3).toNatClampNeg)).toInt64 &&& 4294967295)))) hI
  refine ab_Ex.blk (k := 5) (pc' := 733) (lv' := [(0, .ref 3000001), (1, .ref 0), (2, .ref 64), (3, .int y)]) (st' := [.int (y + 1), .ref 3000001, .ref 0]) (sh' := ab_SH) (D' := ab_dD h) (fun n => rfl) ?_
  refine ab_Ex.grd (c := (y + 1) < 0 ∨ X.1 ≤ (y + 1).toNatClampNeg) (S := (734, [(0, .ref 3000001), (1, .ref 0), (2, .ref 64), (3, .int y)], [.int (X.2 (y + 1).toNatClampNeg), .ref 0], ab_dD h)) (fun n => rfl) hy.2.1 ?_
  refine ab_Ex.blk (k := 4) (pc' := 738) (lv' := [(0, .ref 3000001), (1, .ref 0), (2, .ref 64), (3, .int y)]) (st' := [.int (y + 2), .ref 3000001, .int (X.2 (y + 1).toNatClampNeg), .ref 0]) (sh' := ab_SH) (D' := ab_dD h) (fun n => rfl) ?_
  refine ab_Ex.grd (c := (y + 2) < 0 ∨ X.1 ≤ (y + 2).toNatClampNeg) (S := (739, [(0, .ref 3000001), (1, .ref 0), (2, .ref 64), (3, .int y)], [.int (X.2 (y + 2).toNatClampNeg), .int (X.2 (y + 1).toNatClampNeg), .ref 0], ab_dD h)) (fun n => rfl) hy.2.2.1 ?_
  refine ab_Ex.blk (k := 7) (pc' := 747) (lv' := [(0, .ref 3000001), (1, .ref 0), (2, .ref 64), (3, .int y)]) (st' := [.int (y + 3), .ref 3000001, .long (((X.2 (y + 2).toNatClampNeg)).toInt64 <<< ((32 : Int32).toInt64 &&& 63)), .int (X.2 (y + 1).toNatClampNeg), .ref 0]) (sh' := ab_SH) (D' := ab_dD h) (fun n => rfl) ?_
  refine ab_Ex.grd (c := (y + 3) < 0 ∨ X.1 ≤ (y + 3).toNatClampNeg) (S := (748, [(0, .ref 3000001), (1, .ref 0), (2, .ref 64), (3, .int y)], [.int (X.2 (y + 3).toNatClampNeg), .long (((X.2 (y + 2).toNatClampNeg)).toInt64 <<< ((32 : Int32).toInt64 &&& 63)), .int (X.2 (y + 1).toNatClampNeg), .ref 0], ab_dD h)) (fun n => rfl) hy.2.2.2.1 ?_
  refine ab_Ex.blk (k := 4) (pc' := 754) (lv' := [(0, .ref 3000001), (1, .ref 0), (2, .ref 64), (3, .int y)]) (st' := [.long ((((X.2 (y + 2).toNatClampNeg)).toInt64 <<< ((32 : Int32).toInt64 &&& 63)) ||| (((X.2 (y + 3).toNatClampNeg)).toInt64 &&& 4294967295)), .int (X.2 (y + 1).toNatClampNeg), .ref 0]) (sh' := ab_SH) (D' := ab_dD h) (fun n => rfl) ?_
  refine ab_Ex.call (d := 999) (M2 := 142) (as := [.ref 0, .int (X.2 (y + 1).toNatClampNeg), .long ((((X.2 (y + 2).toNatClampNeg)).toInt64 <<< ((32 : Int32).toInt64 &&& 63)) ||| (((X.2 (y + 3).toNatClampNeg)).toInt64 &&& 4294967295))]) (rest := []) (fun n => rfl) rfl (Nat.not_lt.mpr (Nat.le_of_ble_eq_true rfl)) (sX11_visits 995 X ((X.2 (y + 1).toNatClampNeg)) (((((X.2 (y + 2).toNatClampNeg)).toInt64 <<< ((32 : Int32).toInt64 &&& 63)) ||| (((X.2 (y + 3).toNatClampNeg)).toInt64 &&& 4294967295))) h (v, h1) e1) (fun r hr => ?_)
  subst hr
  refine ab_Ex.blk (k := 5) (pc' := 762) (lv' := [(0, .ref 3000001), (1, .ref 0), (2, .ref 64), (3, .int y)]) (st' := [.int (y + 1), .ref 3000001, .ref 64, .long v]) (sh' := ab_SH) (D' := ab_dD h1) (fun n => rfl) ?_
  refine ab_Ex.grd (c := (y + 1) < 0 ∨ X.1 ≤ (y + 1).toNatClampNeg) (S := (763, [(0, .ref 3000001), (1, .ref 0), (2, .ref 64), (3, .int y)], [.int (X.2 (y + 1).toNatClampNeg), .ref 64, .long v], ab_dD h1)) (fun n => rfl) hy.2.1 ?_
  refine ab_Ex.blk (k := 4) (pc' := 767) (lv' := [(0, .ref 3000001), (1, .ref 0), (2, .ref 64), (3, .int y)]) (st' := [.int (y + 2), .ref 3000001, .int (X.2 (y + 1).toNatClampNeg), .ref 64, .long v]) (sh' := ab_SH) (D' := ab_dD h1) (fun n => rfl) ?_
  refine ab_Ex.grd (c := (y + 2) < 0 ∨ X.1 ≤ (y + 2).toNatClampNeg) (S := (768, [(0, .ref 3000001), (1, .ref 0), (2, .ref 64), (3, .int y)], [.int (X.2 (y + 2).toNatClampNeg), .int (X.2 (y + 1).toNatClampNeg), .ref 64, .long v], ab_dD h1)) (fun n => rfl) hy.2.2.1 ?_
  refine ab_Ex.blk (k := 7) (pc' := 776) (lv' := [(0, .ref 3000001), (1, .ref 0), (2, .ref 64), (3, .int y)]) (st' := [.int (y + 3), .ref 3000001, .long (((X.2 (y + 2).toNatClampNeg)).toInt64 <<< ((32 : Int32).toInt64 &&& 63)), .int (X.2 (y + 1).toNatClampNeg), .ref 64, .long v]) (sh' := ab_SH) (D' := ab_dD h1) (fun n => rfl) ?_
  refine ab_Ex.grd (c := (y + 3) < 0 ∨ X.1 ≤ (y + 3).toNatClampNeg) (S := (777, [(0, .ref 3000001), (1, .ref 0), (2, .ref 64), (3, .int y)], [.int (X.2 (y + 3).toNatClampNeg), .long (((X.2 (y + 2).toNatClampNeg)).toInt64 <<< ((32 : Int32).toInt64 &&& 63)), .int (X.2 (y + 1).toNatClampNeg), .ref 64, .long v], ab_dD h1)) (fun n => rfl) hy.2.2.2.1 ?_
  refine ab_Ex.blk (k := 4) (pc' := 783) (lv' := [(0, .ref 3000001), (1, .ref 0), (2, .ref 64), (3, .int y)]) (st' := [.long ((((X.2 (y + 2).toNatClampNeg)).toInt64 <<< ((32 : Int32).toInt64 &&& 63)) ||| (((X.2 (y + 3).toNatClampNeg)).toInt64 &&& 4294967295)), .int (X.2 (y + 1).toNatClampNeg), .ref 64, .long v]) (sh' := ab_SH) (D' := ab_dD h1) (fun n => rfl) ?_
  refine ab_Ex.call (d := 999) (M2 := 252) (as := [.ref 64, .int (X.2 (y + 1).toNatClampNeg), .long ((((X.2 (y + 2).toNatClampNeg)).toInt64 <<< ((32 : Int32).toInt64 &&& 63)) ||| (((X.2 (y + 3).toNatClampNeg)).toInt64 &&& 4294967295))]) (rest := [.long v]) (fun n => rfl) rfl (Nat.not_lt.mpr (Nat.le_of_ble_eq_true rfl)) (sX12_visits 994 X ((X.2 (y + 1).toNatClampNeg)) (((((X.2 (y + 2).toNatClampNeg)).toInt64 <<< ((32 : Int32).toInt64 &&& 63)) ||| (((X.2 (y + 3).toNatClampNeg)).toInt64 &&& 4294967295))) h1 (v, h2) e2) (fun r hr => ?_)
  subst hr
  refine ab_Ex.blk (k := 1) (pc' := 787) (lv' := [(0, .ref 3000001), (1, .ref 0), (2, .ref 64), (3, .int y)]) (st' := [.int (lg_cmp v v)]) (sh' := ab_SH) (D' := ab_dD h2) (fun n => rfl) ?_
  exact ab_Ex.ifc (c := lg_cmp v v = 0) (SA := (1503, [(0, .ref 3000001), (1, .ref 0), (2, .ref 64), (3, .int y)], [], ab_dD h2)) (SB := (790, [(0, .ref 3000001), (1, .ref 0), (2, .ref 64), (3, .int y)], [], ab_dD h2)) (fun n => rfl) (fun _ => g h2 hI2) (fun c => absurd (cmp_vv v) c)
set_option maxRecDepth 20000 in
theorem law_17 (X : abX) (y : Int32) (h : abJ) {R : abR → Prop} (hy : ab_y X y) (hI : ab_I h) (g : ∀ h', ab_I h' → ab_Ex X 1000 320 1503 [(0, .ref 3000001), (1, .ref 0), (2, .ref 64), (3, .int y)] [] ab_SH (ab_dD h') R) : ab_Ex X 1000 320 792 [(0, .ref 3000001), (1, .ref 0), (2, .ref 64), (3, .int y)] [] ab_SH (ab_dD h) R := by
  obtain ⟨v, h1, h2, e1, e2, hI2⟩ := law_call (call_round ((X.2 (y + 1).toNatClampNeg))) hI
  refine ab_Ex.blk (k := 5) (pc' := 797) (lv' := [(0, .ref 3000001), (1, .ref 0), (2, .ref 64), (3, .int y)]) (st' := [.int (y + 1), .ref 3000001, .ref 0]) (sh' := ab_SH) (D' := ab_dD h) (fun n => rfl) ?_
  refine ab_Ex.grd (c := (y + 1) < 0 ∨ X.1 ≤ (y + 1).toNatClampNeg) (S := (798, [(0, .ref 3000001), (1, .ref 0), (2, .ref 64), (3, .int y)], [.int (X.2 (y + 1).toNatClampNeg), .ref 0], ab_dD h)) (fun n => rfl) hy.2.1 ?_
  refine ab_Ex.call (d := 999) (M2 := 143) (as := [.ref 0, .int (X.2 (y + 1).toNatClampNeg)]) (rest := []) (fun n => rfl) rfl (Nat.not_lt.mpr (Nat.le_of_ble_eq_true rfl)) (sX11_round 995 X ((X.2 (y + 1).toNatClampNeg)) h (v, h1) e1) (fun r hr => ?_)
  subst hr
  refine ab_Ex.blk (k := 5) (pc' := 806) (lv' := [(0, .ref 3000001), (1, .ref 0), (2, .ref 64), (3, .int y)]) (st' := [.int (y + 1), .ref 3000001, .ref 64, .int v]) (sh' := ab_SH) (D' := ab_dD h1) (fun n => rfl) ?_
  refine ab_Ex.grd (c := (y + 1) < 0 ∨ X.1 ≤ (y + 1).toNatClampNeg) (S := (807, [(0, .ref 3000001), (1, .ref 0), (2, .ref 64), (3, .int y)], [.int (X.2 (y + 1).toNatClampNeg), .ref 64, .int v], ab_dD h1)) (fun n => rfl) hy.2.1 ?_
  refine ab_Ex.call (d := 999) (M2 := 253) (as := [.ref 64, .int (X.2 (y + 1).toNatClampNeg)]) (rest := [.int v]) (fun n => rfl) rfl (Nat.not_lt.mpr (Nat.le_of_ble_eq_true rfl)) (sX12_round 994 X ((X.2 (y + 1).toNatClampNeg)) h1 (v, h2) e2) (fun r hr => ?_)
  subst hr
  exact ab_Ex.ifc (c := v = v) (SA := (1503, [(0, .ref 3000001), (1, .ref 0), (2, .ref 64), (3, .int y)], [], ab_dD h2)) (SB := (813, [(0, .ref 3000001), (1, .ref 0), (2, .ref 64), (3, .int y)], [], ab_dD h2)) (fun n => rfl) (fun _ => g h2 hI2) (fun c => absurd rfl c)
set_option maxRecDepth 20000 in
theorem law_18 (X : abX) (y : Int32) (h : abJ) {R : abR → Prop} (hy : ab_y X y) (hI : ab_I h) (g : ∀ h', ab_I h' → ab_Ex X 1000 320 1503 [(0, .ref 3000001), (1, .ref 0), (2, .ref 64), (3, .int y)] [] ab_SH (ab_dD h') R) : ab_Ex X 1000 320 815 [(0, .ref 3000001), (1, .ref 0), (2, .ref 64), (3, .int y)] [] ab_SH (ab_dD h) R := by
  obtain ⟨v, h1, h2, e1, e2, hI2⟩ := law_call (call_first ((X.2 (y + 1).toNatClampNeg))) hI
  refine ab_Ex.blk (k := 5) (pc' := 820) (lv' := [(0, .ref 3000001), (1, .ref 0), (2, .ref 64), (3, .int y)]) (st' := [.int (y + 1), .ref 3000001, .ref 0]) (sh' := ab_SH) (D' := ab_dD h) (fun n => rfl) ?_
  refine ab_Ex.grd (c := (y + 1) < 0 ∨ X.1 ≤ (y + 1).toNatClampNeg) (S := (821, [(0, .ref 3000001), (1, .ref 0), (2, .ref 64), (3, .int y)], [.int (X.2 (y + 1).toNatClampNeg), .ref 0], ab_dD h)) (fun n => rfl) hy.2.1 ?_
  refine ab_Ex.call (d := 999) (M2 := 144) (as := [.ref 0, .int (X.2 (y + 1).toNatClampNeg)]) (rest := []) (fun n => rfl) rfl (Nat.not_lt.mpr (Nat.le_of_ble_eq_true rfl)) (sX11_first 995 X ((X.2 (y + 1).toNatClampNeg)) h (v, h1) e1) (fun r hr => ?_)
  subst hr
  refine ab_Ex.blk (k := 5) (pc' := 829) (lv' := [(0, .ref 3000001), (1, .ref 0), (2, .ref 64), (3, .int y)]) (st' := [.int (y + 1), .ref 3000001, .ref 64, .int v]) (sh' := ab_SH) (D' := ab_dD h1) (fun n => rfl) ?_
  refine ab_Ex.grd (c := (y + 1) < 0 ∨ X.1 ≤ (y + 1).toNatClampNeg) (S := (830, [(0, .ref 3000001), (1, .ref 0), (2, .ref 64), (3, .int y)], [.int (X.2 (y + 1).toNatClampNeg), .ref 64, .int v], ab_dD h1)) (fun n => rfl) hy.2.1 ?_
  refine ab_Ex.call (d := 999) (M2 := 254) (as := [.ref 64, .int (X.2 (y + 1).toNatClampNeg)]) (rest := [.int v]) (fun n => rfl) rfl (Nat.not_lt.mpr (Nat.le_of_ble_eq_true rfl)) (sX12_first 994 X ((X.2 (y + 1).toNatClampNeg)) h1 (v, h2) e2) (fun r hr => ?_)
  subst hr
  exact ab_Ex.ifc (c := v = v) (SA := (1503, [(0, .ref 3000001), (1, .ref 0), (2, .ref 64), (3, .int y)], [], ab_dD h2)) (SB := (836, [(0, .ref 3000001), (1, .ref 0), (2, .ref 64), (3, .int y)], [], ab_dD h2)) (fun n => rfl) (fun _ => g h2 hI2) (fun c => absurd rfl c)
set_option maxRecDepth 20000 in
theorem law_19 (X : abX) (y : Int32) (h : abJ) {R : abR → Prop} (hy : ab_y X y) (hI : ab_I h) (g : ∀ h', ab_I h' → ab_Ex X 1000 320 1503 [(0, .ref 3000001), (1, .ref 0), (2, .ref 64), (3, .int y)] [] ab_SH (ab_dD h') R) : ab_Ex X 1000 320 838 [(0, .ref 3000001), (1, .ref 0), (2, .ref 64), (3, .int y)] [] ab_SH (ab_dD h) R := by
  obtain ⟨v, h1, h2, e1, e2, hI2⟩ := law_call (call_rests) hI
  refine ab_Ex.blk (k := 1) (pc' := 839) (lv' := [(0, .ref 3000001), (1, .ref 0), (2, .ref 64), (3, .int y)]) (st' := [.ref 0]) (sh' := ab_SH) (D' := ab_dD h) (fun n => rfl) ?_
  refine ab_Ex.call (d := 999) (M2 := 145) (as := [.ref 0]) (rest := []) (fun n => rfl) rfl (Nat.not_lt.mpr (Nat.le_of_ble_eq_true rfl)) (sX11_rests 995 X  h (v, h1) e1) (fun r hr => ?_)
  subst hr
  refine ab_Ex.blk (k := 1) (pc' := 843) (lv' := [(0, .ref 3000001), (1, .ref 0), (2, .ref 64), (3, .int y)]) (st' := [.ref 64, .int v]) (sh' := ab_SH) (D' := ab_dD h1) (fun n => rfl) ?_
  refine ab_Ex.call (d := 999) (M2 := 255) (as := [.ref 64]) (rest := [.int v]) (fun n => rfl) rfl (Nat.not_lt.mpr (Nat.le_of_ble_eq_true rfl)) (sX12_rests 994 X  h1 (v, h2) e2) (fun r hr => ?_)
  subst hr
  exact ab_Ex.ifc (c := v = v) (SA := (1503, [(0, .ref 3000001), (1, .ref 0), (2, .ref 64), (3, .int y)], [], ab_dD h2)) (SB := (849, [(0, .ref 3000001), (1, .ref 0), (2, .ref 64), (3, .int y)], [], ab_dD h2)) (fun n => rfl) (fun _ => g h2 hI2) (fun c => absurd rfl c)
set_option maxRecDepth 20000 in
theorem law_20 (X : abX) (y : Int32) (h : abJ) {R : abR → Prop} (hy : ab_y X y) (hI : ab_I h) (g : ∀ h', ab_I h' → ab_Ex X 1000 320 1503 [(0, .ref 3000001), (1, .ref 0), (2, .ref 64), (3, .int y)] [] ab_SH (ab_dD h') R) : ab_Ex X 1000 320 851 [(0, .ref 3000001), (1, .ref 0), (2, .ref 64), (3, .int y)] [] ab_SH (ab_dD h) R := by
  obtain ⟨v, h1, h2, e1, e2, hI2⟩ := law_call (call_homing ((X.2 (y + 1).toNatClampNeg))) hI
  refine ab_Ex.blk (k := 5) (pc' := 856) (lv' := [(0, .ref 3000001), (1, .ref 0), (2, .ref 64), (3, .int y)]) (st' := [.int (y + 1), .ref 3000001, .ref 0]) (sh' := ab_SH) (D' := ab_dD h) (fun n => rfl) ?_
  refine ab_Ex.grd (c := (y + 1) < 0 ∨ X.1 ≤ (y + 1).toNatClampNeg) (S := (857, [(0, .ref 3000001), (1, .ref 0), (2, .ref 64), (3, .int y)], [.int (X.2 (y + 1).toNatClampNeg), .ref 0], ab_dD h)) (fun n => rfl) hy.2.1 ?_
  refine ab_Ex.call (d := 999) (M2 := 146) (as := [.ref 0, .int (X.2 (y + 1).toNatClampNeg)]) (rest := []) (fun n => rfl) rfl (Nat.not_lt.mpr (Nat.le_of_ble_eq_true rfl)) (sX11_homing 994 X ((X.2 (y + 1).toNatClampNeg)) h (v, h1) e1) (fun r hr => ?_)
  subst hr
  refine ab_Ex.blk (k := 5) (pc' := 865) (lv' := [(0, .ref 3000001), (1, .ref 0), (2, .ref 64), (3, .int y)]) (st' := [.int (y + 1), .ref 3000001, .ref 64, .int v]) (sh' := ab_SH) (D' := ab_dD h1) (fun n => rfl) ?_
  refine ab_Ex.grd (c := (y + 1) < 0 ∨ X.1 ≤ (y + 1).toNatClampNeg) (S := (866, [(0, .ref 3000001), (1, .ref 0), (2, .ref 64), (3, .int y)], [.int (X.2 (y + 1).toNatClampNeg), .ref 64, .int v], ab_dD h1)) (fun n => rfl) hy.2.1 ?_
  refine ab_Ex.call (d := 999) (M2 := 257) (as := [.ref 64, .int (X.2 (y + 1).toNatClampNeg)]) (rest := [.int v]) (fun n => rfl) rfl (Nat.not_lt.mpr (Nat.le_of_ble_eq_true rfl)) (sX12_homing 993 X ((X.2 (y + 1).toNatClampNeg)) h1 (v, h2) e2) (fun r hr => ?_)
  subst hr
  exact ab_Ex.ifc (c := v = v) (SA := (1503, [(0, .ref 3000001), (1, .ref 0), (2, .ref 64), (3, .int y)], [], ab_dD h2)) (SB := (872, [(0, .ref 3000001), (1, .ref 0), (2, .ref 64), (3, .int y)], [], ab_dD h2)) (fun n => rfl) (fun _ => g h2 hI2) (fun c => absurd rfl c)
set_option maxRecDepth 20000 in
theorem law_21 (X : abX) (y : Int32) (h : abJ) {R : abR → Prop} (hy : ab_y X y) (hI : ab_I h) (g : ∀ h', ab_I h' → ab_Ex X 1000 320 1503 [(0, .ref 3000001), (1, .ref 0), (2, .ref 64), (3, .int y)] [] ab_SH (ab_dD h') R) : ab_Ex X 1000 320 874 [(0, .ref 3000001), (1, .ref 0), (2, .ref 64), (3, .int y)] [] ab_SH (ab_dD h) R := by
  obtain ⟨v, h1, h2, e1, e2, hI2⟩ := law_call (call_hands ((X.2 (y + 1).toNatClampNeg)) ((X.2 (y + 2).toNatClampNeg))) hI
  refine ab_Ex.blk (k := 5) (pc' := 879) (lv' := [(0, .ref 3000001), (1, .ref 0), (2, .ref 64), (3, .int y)]) (st' := [.int (y + 1), .ref 3000001, .ref 0]) (sh' := ab_SH) (D' := ab_dD h) (fun n => rfl) ?_
  refine ab_Ex.grd (c := (y + 1) < 0 ∨ X.1 ≤ (y + 1).toNatClampNeg) (S := (880, [(0, .ref 3000001), (1, .ref 0), (2, .ref 64), (3, .int y)], [.int (X.2 (y + 1).toNatClampNeg), .ref 0], ab_dD h)) (fun n => rfl) hy.2.1 ?_
  refine ab_Ex.blk (k := 4) (pc' := 884) (lv' := [(0, .ref 3000001), (1, .ref 0), (2, .ref 64), (3, .int y)]) (st' := [.int (y + 2), .ref 3000001, .int (X.2 (y + 1).toNatClampNeg), .ref 0]) (sh' := ab_SH) (D' := ab_dD h) (fun n => rfl) ?_
  refine ab_Ex.grd (c := (y + 2) < 0 ∨ X.1 ≤ (y + 2).toNatClampNeg) (S := (885, [(0, .ref 3000001), (1, .ref 0), (2, .ref 64), (3, .int y)], [.int (X.2 (y + 2).toNatClampNeg), .int (X.2 (y + 1).toNatClampNeg), .ref 0], ab_dD h)) (fun n => rfl) hy.2.2.1 ?_
  refine ab_Ex.call (d := 999) (M2 := 147) (as := [.ref 0, .int (X.2 (y + 1).toNatClampNeg), .int (X.2 (y + 2).toNatClampNeg)]) (rest := []) (fun n => rfl) rfl (Nat.not_lt.mpr (Nat.le_of_ble_eq_true rfl)) (sX11_hands 993 X ((X.2 (y + 1).toNatClampNeg)) ((X.2 (y + 2).toNatClampNeg)) h (v, h1) e1) (fun r hr => ?_)
  subst hr
  refine ab_Ex.blk (k := 5) (pc' := 893) (lv' := [(0, .ref 3000001), (1, .ref 0), (2, .ref 64), (3, .int y)]) (st' := [.int (y + 1), .ref 3000001, .ref 64, .int v]) (sh' := ab_SH) (D' := ab_dD h1) (fun n => rfl) ?_
  refine ab_Ex.grd (c := (y + 1) < 0 ∨ X.1 ≤ (y + 1).toNatClampNeg) (S := (894, [(0, .ref 3000001), (1, .ref 0), (2, .ref 64), (3, .int y)], [.int (X.2 (y + 1).toNatClampNeg), .ref 64, .int v], ab_dD h1)) (fun n => rfl) hy.2.1 ?_
  refine ab_Ex.blk (k := 4) (pc' := 898) (lv' := [(0, .ref 3000001), (1, .ref 0), (2, .ref 64), (3, .int y)]) (st' := [.int (y + 2), .ref 3000001, .int (X.2 (y + 1).toNatClampNeg), .ref 64, .int v]) (sh' := ab_SH) (D' := ab_dD h1) (fun n => rfl) ?_
  refine ab_Ex.grd (c := (y + 2) < 0 ∨ X.1 ≤ (y + 2).toNatClampNeg) (S := (899, [(0, .ref 3000001), (1, .ref 0), (2, .ref 64), (3, .int y)], [.int (X.2 (y + 2).toNatClampNeg), .int (X.2 (y + 1).toNatClampNeg), .ref 64, .int v], ab_dD h1)) (fun n => rfl) hy.2.2.1 ?_
  refine ab_Ex.call (d := 999) (M2 := 259) (as := [.ref 64, .int (X.2 (y + 1).toNatClampNeg), .int (X.2 (y + 2).toNatClampNeg)]) (rest := [.int v]) (fun n => rfl) rfl (Nat.not_lt.mpr (Nat.le_of_ble_eq_true rfl)) (sX12_hands 994 X ((X.2 (y + 1).toNatClampNeg)) ((X.2 (y + 2).toNatClampNeg)) h1 (v, h2) e2) (fun r hr => ?_)
  subst hr
  exact ab_Ex.ifc (c := v = v) (SA := (1503, [(0, .ref 3000001), (1, .ref 0), (2, .ref 64), (3, .int y)], [], ab_dD h2)) (SB := (905, [(0, .ref 3000001), (1, .ref 0), (2, .ref 64), (3, .int y)], [], ab_dD h2)) (fun n => rfl) (fun _ => g h2 hI2) (fun c => absurd rfl c)
set_option maxRecDepth 20000 in
theorem law_22 (X : abX) (y : Int32) (h : abJ) {R : abR → Prop} (hy : ab_y X y) (hI : ab_I h) (g : ∀ h', ab_I h' → ab_Ex X 1000 320 1503 [(0, .ref 3000001), (1, .ref 0), (2, .ref 64), (3, .int y)] [] ab_SH (ab_dD h') R) : ab_Ex X 1000 320 907 [(0, .ref 3000001), (1, .ref 0), (2, .ref 64), (3, .int y)] [] ab_SH (ab_dD h) R := by
  obtain ⟨v, h1, h2, e1, e2, hI2⟩ := law_call (call_fills ((X.2 (y + 1).toNatClampNeg)) ((X.2 (y + 2).toNatClampNeg))) hI
  refine ab_Ex.blk (k := 5) (pc' := 912) (lv' := [(0, .ref 3000001), (1, .ref 0), (2, .ref 64), (3, .int y)]) (st' := [.int (y + 1), .ref 3000001, .ref 0]) (sh' := ab_SH) (D' := ab_dD h) (fun n => rfl) ?_
  refine ab_Ex.grd (c := (y + 1) < 0 ∨ X.1 ≤ (y + 1).toNatClampNeg) (S := (913, [(0, .ref 3000001), (1, .ref 0), (2, .ref 64), (3, .int y)], [.int (X.2 (y + 1).toNatClampNeg), .ref 0], ab_dD h)) (fun n => rfl) hy.2.1 ?_
  refine ab_Ex.blk (k := 4) (pc' := 917) (lv' := [(0, .ref 3000001), (1, .ref 0), (2, .ref 64), (3, .int y)]) (st' := [.int (y + 2), .ref 3000001, .int (X.2 (y + 1).toNatClampNeg), .ref 0]) (sh' := ab_SH) (D' := ab_dD h) (fun n => rfl) ?_
  refine ab_Ex.grd (c := (y + 2) < 0 ∨ X.1 ≤ (y + 2).toNatClampNeg) (S := (918, [(0, .ref 3000001), (1, .ref 0), (2, .ref 64), (3, .int y)], [.int (X.2 (y + 2).toNatClampNeg), .int (X.2 (y + 1).toNatClampNeg), .ref 0], ab_dD h)) (fun n => rfl) hy.2.2.1 ?_
  refine ab_Ex.call (d := 999) (M2 := 148) (as := [.ref 0, .int (X.2 (y + 1).toNatClampNeg), .int (X.2 (y + 2).toNatClampNeg)]) (rest := []) (fun n => rfl) rfl (Nat.not_lt.mpr (Nat.le_of_ble_eq_true rfl)) (sX11_fills 994 X ((X.2 (y + 1).toNatClampNeg)) ((X.2 (y + 2).toNatClampNeg)) h (v, h1) e1) (fun r hr => ?_)
  subst hr
  refine ab_Ex.blk (k := 5) (pc' := 926) (lv' := [(0, .ref 3000001), (1, .ref 0), (2, .ref 64), (3, .int y)]) (st' := [.int (y + 1), .ref 3000001, .ref 64, .int v]) (sh' := ab_SH) (D' := ab_dD h1) (fun n => rfl) ?_
  refine ab_Ex.grd (c := (y + 1) < 0 ∨ X.1 ≤ (y + 1).toNatClampNeg) (S := (927, [(0, .ref 3000001), (1, .ref 0), (2, .ref 64), (3, .int y)], [.int (X.2 (y + 1).toNatClampNeg), .ref 64, .int v], ab_dD h1)) (fun n => rfl) hy.2.1 ?_
  refine ab_Ex.blk (k := 4) (pc' := 931) (lv' := [(0, .ref 3000001), (1, .ref 0), (2, .ref 64), (3, .int y)]) (st' := [.int (y + 2), .ref 3000001, .int (X.2 (y + 1).toNatClampNeg), .ref 64, .int v]) (sh' := ab_SH) (D' := ab_dD h1) (fun n => rfl) ?_
  refine ab_Ex.grd (c := (y + 2) < 0 ∨ X.1 ≤ (y + 2).toNatClampNeg) (S := (932, [(0, .ref 3000001), (1, .ref 0), (2, .ref 64), (3, .int y)], [.int (X.2 (y + 2).toNatClampNeg), .int (X.2 (y + 1).toNatClampNeg), .ref 64, .int v], ab_dD h1)) (fun n => rfl) hy.2.2.1 ?_
  refine ab_Ex.call (d := 999) (M2 := 261) (as := [.ref 64, .int (X.2 (y + 1).toNatClampNeg), .int (X.2 (y + 2).toNatClampNeg)]) (rest := [.int v]) (fun n => rfl) rfl (Nat.not_lt.mpr (Nat.le_of_ble_eq_true rfl)) (sX12_fills 993 X ((X.2 (y + 1).toNatClampNeg)) ((X.2 (y + 2).toNatClampNeg)) h1 (v, h2) e2) (fun r hr => ?_)
  subst hr
  exact ab_Ex.ifc (c := v = v) (SA := (1503, [(0, .ref 3000001), (1, .ref 0), (2, .ref 64), (3, .int y)], [], ab_dD h2)) (SB := (938, [(0, .ref 3000001), (1, .ref 0), (2, .ref 64), (3, .int y)], [], ab_dD h2)) (fun n => rfl) (fun _ => g h2 hI2) (fun c => absurd rfl c)
set_option maxRecDepth 20000 in
theorem law_23 (X : abX) (y : Int32) (h : abJ) {R : abR → Prop} (hy : ab_y X y) (hI : ab_I h) (g : ∀ h', ab_I h' → ab_Ex X 1000 320 1503 [(0, .ref 3000001), (1, .ref 0), (2, .ref 64), (3, .int y)] [] ab_SH (ab_dD h') R) : ab_Ex X 1000 320 940 [(0, .ref 3000001), (1, .ref 0), (2, .ref 64), (3, .int y)] [] ab_SH (ab_dD h) R := by
  obtain ⟨v, h1, h2, e1, e2, hI2⟩ := law_call (call_filling ((X.2 (y + 1).toNatClampNeg))) hI
  refine ab_Ex.blk (k := 5) (pc' := 945) (lv' := [(0, .ref 3000001), (1, .ref 0), (2, .ref 64), (3, .int y)]) (st' := [.int (y + 1), .ref 3000001, .ref 0]) (sh' := ab_SH) (D' := ab_dD h) (fun n => rfl) ?_
  refine ab_Ex.grd (c := (y + 1) < 0 ∨ X.1 ≤ (y + 1).toNatClampNeg) (S := (946, [(0, .ref 3000001), (1, .ref 0), (2, .ref 64), (3, .int y)], [.int (X.2 (y + 1).toNatClampNeg), .ref 0], ab_dD h)) (fun n => rfl) hy.2.1 ?_
  refine ab_Ex.call (d := 999) (M2 := 149) (as := [.ref 0, .int (X.2 (y + 1).toNatClampNeg)]) (rest := []) (fun n => rfl) rfl (Nat.not_lt.mpr (Nat.le_of_ble_eq_true rfl)) (sX11_filling 994 X ((X.2 (y + 1).toNatClampNeg)) h (v, h1) e1) (fun r hr => ?_)
  subst hr
  refine ab_Ex.blk (k := 5) (pc' := 954) (lv' := [(0, .ref 3000001), (1, .ref 0), (2, .ref 64), (3, .int y)]) (st' := [.int (y + 1), .ref 3000001, .ref 64, .int v]) (sh' := ab_SH) (D' := ab_dD h1) (fun n => rfl) ?_
  refine ab_Ex.grd (c := (y + 1) < 0 ∨ X.1 ≤ (y + 1).toNatClampNeg) (S := (955, [(0, .ref 3000001), (1, .ref 0), (2, .ref 64), (3, .int y)], [.int (X.2 (y + 1).toNatClampNeg), .ref 64, .int v], ab_dD h1)) (fun n => rfl) hy.2.1 ?_
  refine ab_Ex.call (d := 999) (M2 := 262) (as := [.ref 64, .int (X.2 (y + 1).toNatClampNeg)]) (rest := [.int v]) (fun n => rfl) rfl (Nat.not_lt.mpr (Nat.le_of_ble_eq_true rfl)) (sX12_filling 993 X ((X.2 (y + 1).toNatClampNeg)) h1 (v, h2) e2) (fun r hr => ?_)
  subst hr
  exact ab_Ex.ifc (c := v = v) (SA := (1503, [(0, .ref 3000001), (1, .ref 0), (2, .ref 64), (3, .int y)], [], ab_dD h2)) (SB := (961, [(0, .ref 3000001), (1, .ref 0), (2, .ref 64), (3, .int y)], [], ab_dD h2)) (fun n => rfl) (fun _ => g h2 hI2) (fun c => absurd rfl c)
set_option maxRecDepth 20000 in
theorem law_24 (X : abX) (y : Int32) (h : abJ) {R : abR → Prop} (hy : ab_y X y) (hI : ab_I h) (g : ∀ h', ab_I h' → ab_Ex X 1000 320 1503 [(0, .ref 3000001), (1, .ref 0), (2, .ref 64), (3, .int y)] [] ab_SH (ab_dD h') R) : ab_Ex X 1000 320 963 [(0, .ref 3000001), (1, .ref 0), (2, .ref 64), (3, .int y)] [] ab_SH (ab_dD h) R := by
  obtain ⟨v, h1, h2, e1, e2, hI2⟩ := law_call (call_footprints ((X.2 (y + 1).toNatClampNeg))) hI
  refine ab_Ex.blk (k := 5) (pc' := 968) (lv' := [(0, .ref 3000001), (1, .ref 0), (2, .ref 64), (3, .int y)]) (st' := [.int (y + 1), .ref 3000001, .ref 0]) (sh' := ab_SH) (D' := ab_dD h) (fun n => rfl) ?_
  refine ab_Ex.grd (c := (y + 1) < 0 ∨ X.1 ≤ (y + 1).toNatClampNeg) (S := (969, [(0, .ref 3000001), (1, .ref 0), (2, .ref 64), (3, .int y)], [.int (X.2 (y + 1).toNatClampNeg), .ref 0], ab_dD h)) (fun n => rfl) hy.2.1 ?_
  refine ab_Ex.call (d := 999) (M2 := 150) (as := [.ref 0, .int (X.2 (y + 1).toNatClampNeg)]) (rest := []) (fun n => rfl) rfl (Nat.not_lt.mpr (Nat.le_of_ble_eq_true rfl)) (sX11_footprints 994 X ((X.2 (y + 1).toNatClampNeg)) h (v, h1) e1) (fun r hr => ?_)
  subst hr
  refine ab_Ex.blk (k := 5) (pc' := 977) (lv' := [(0, .ref 3000001), (1, .ref 0), (2, .ref 64), (3, .int y)]) (st' := [.int (y + 1), .ref 3000001, .ref 64, .int v]) (sh' := ab_SH) (D' := ab_dD h1) (fun n => rfl) ?_
  refine ab_Ex.grd (c := (y + 1) < 0 ∨ X.1 ≤ (y + 1).toNatClampNeg) (S := (978, [(0, .ref 3000001), (1, .ref 0), (2, .ref 64), (3, .int y)], [.int (X.2 (y + 1).toNatClampNeg), .ref 64, .int v], ab_dD h1)) (fun n => rfl) hy.2.1 ?_
  refine ab_Ex.call (d := 999) (M2 := 266) (as := [.ref 64, .int (X.2 (y + 1).toNatClampNeg)]) (rest := [.int v]) (fun n => rfl) rfl (Nat.not_lt.mpr (Nat.le_of_ble_eq_true rfl)) (sX12_footprints 993 X ((X.2 (y + 1).toNatClampNeg)) h1 (v, h2) e2) (fun r hr => ?_)
  subst hr
  exact ab_Ex.ifc (c := v = v) (SA := (1503, [(0, .ref 3000001), (1, .ref 0), (2, .ref 64), (3, .int y)], [], ab_dD h2)) (SB := (984, [(0, .ref 3000001), (1, .ref 0), (2, .ref 64), (3, .int y)], [], ab_dD h2)) (fun n => rfl) (fun _ => g h2 hI2) (fun c => absurd rfl c)
set_option maxRecDepth 20000 in
theorem law_25 (X : abX) (y : Int32) (h : abJ) {R : abR → Prop} (hy : ab_y X y) (hI : ab_I h) (g : ∀ h', ab_I h' → ab_Ex X 1000 320 1503 [(0, .ref 3000001), (1, .ref 0), (2, .ref 64), (3, .int y)] [] ab_SH (ab_dD h') R) : ab_Ex X 1000 320 986 [(0, .ref 3000001), (1, .ref 0), (2, .ref 64), (3, .int y)] [] ab_SH (ab_dD h) R := by
  obtain ⟨v, h1, h2, e1, e2, hI2⟩ := law_call (call_shown ((X.2 (y + 1).toNatClampNeg)) ((X.2 (y + 2).toNatClampNeg))) hI
  refine ab_Ex.blk (k := 5) (pc' := 991) (lv' := [(0, .ref 3000001), (1, .ref 0), (2, .ref 64), (3, .int y)]) (st' := [.int (y + 1), .ref 3000001, .ref 0]) (sh' := ab_SH) (D' := ab_dD h) (fun n => rfl) ?_
  refine ab_Ex.grd (c := (y + 1) < 0 ∨ X.1 ≤ (y + 1).toNatClampNeg) (S := (992, [(0, .ref 3000001), (1, .ref 0), (2, .ref 64), (3, .int y)], [.int (X.2 (y + 1).toNatClampNeg), .ref 0], ab_dD h)) (fun n => rfl) hy.2.1 ?_
  refine ab_Ex.blk (k := 4) (pc' := 996) (lv' := [(0, .ref 3000001), (1, .ref 0), (2, .ref 64), (3, .int y)]) (st' := [.int (y + 2), .ref 3000001, .int (X.2 (y + 1).toNatClampNeg), .ref 0]) (sh' := ab_SH) (D' := ab_dD h) (fun n => rfl) ?_
  refine ab_Ex.grd (c := (y + 2) < 0 ∨ X.1 ≤ (y + 2).toNatClampNeg) (S := (997, [(0, .ref 3000001), (1, .ref 0), (2, .ref 64), (3, .int y)], [.int (X.2 (y + 2).toNatClampNeg), .int (X.2 (y + 1).toNatClampNeg), .ref 0], ab_dD h)) (fun n => rfl) hy.2.2.1 ?_
  refine ab_Ex.call (d := 999) (M2 := 151) (as := [.ref 0, .int (X.2 (y + 1).toNatClampNeg), .int (X.2 (y + 2).toNatClampNeg)]) (rest := []) (fun n => rfl) rfl (Nat.not_lt.mpr (Nat.le_of_ble_eq_true rfl)) (sX11_shown 994 X ((X.2 (y + 1).toNatClampNeg)) ((X.2 (y + 2).toNatClampNeg)) h (v, h1) e1) (fun r hr => ?_)
  subst hr
  refine ab_Ex.blk (k := 5) (pc' := 1005) (lv' := [(0, .ref 3000001), (1, .ref 0), (2, .ref 64), (3, .int y)]) (st' := [.int (y + 1), .ref 3000001, .ref 64, .int v]) (sh' := ab_SH) (D' := ab_dD h1) (fun n => rfl) ?_
  refine ab_Ex.grd (c := (y + 1) < 0 ∨ X.1 ≤ (y + 1).toNatClampNeg) (S := (1006, [(0, .ref 3000001), (1, .ref 0), (2, .ref 64), (3, .int y)], [.int (X.2 (y + 1).toNatClampNeg), .ref 64, .int v], ab_dD h1)) (fun n => rfl) hy.2.1 ?_
  refine ab_Ex.blk (k := 4) (pc' := 1010) (lv' := [(0, .ref 3000001), (1, .ref 0), (2, .ref 64), (3, .int y)]) (st' := [.int (y + 2), .ref 3000001, .int (X.2 (y + 1).toNatClampNeg), .ref 64, .int v]) (sh' := ab_SH) (D' := ab_dD h1) (fun n => rfl) ?_
  refine ab_Ex.grd (c := (y + 2) < 0 ∨ X.1 ≤ (y + 2).toNatClampNeg) (S := (1011, [(0, .ref 3000001), (1, .ref 0), (2, .ref 64), (3, .int y)], [.int (X.2 (y + 2).toNatClampNeg), .int (X.2 (y + 1).toNatClampNeg), .ref 64, .int v], ab_dD h1)) (fun n => rfl) hy.2.2.1 ?_
  refine ab_Ex.call (d := 999) (M2 := 267) (as := [.ref 64, .int (X.2 (y + 1).toNatClampNeg), .int (X.2 (y + 2).toNatClampNeg)]) (rest := [.int v]) (fun n => rfl) rfl (Nat.not_lt.mpr (Nat.le_of_ble_eq_true rfl)) (sX12_shown 993 X ((X.2 (y + 1).toNatClampNeg)) ((X.2 (y + 2).toNatClampNeg)) h1 (v, h2) e2) (fun r hr => ?_)
  subst hr
  exact ab_Ex.ifc (c := v = v) (SA := (1503, [(0, .ref 3000001), (1, .ref 0), (2, .ref 64), (3, .int y)], [], ab_dD h2)) (SB := (1017, [(0, .ref 3000001), (1, .ref 0), (2, .ref 64), (3, .int y)], [], ab_dD h2)) (fun n => rfl) (fun _ => g h2 hI2) (fun c => absurd rfl c)
set_option maxRecDepth 20000 in
theorem law_26 (X : abX) (y : Int32) (h : abJ) {R : abR → Prop} (hy : ab_y X y) (hI : ab_I h) (g : ∀ h', ab_I h' → ab_Ex X 1000 320 1503 [(0, .ref 3000001), (1, .ref 0), (2, .ref 64), (3, .int y)] [] ab_SH (ab_dD h') R) : ab_Ex X 1000 320 1019 [(0, .ref 3000001), (1, .ref 0), (2, .ref 64), (3, .int y)] [] ab_SH (ab_dD h) R := by
  obtain ⟨v, h1, h2, e1, e2, hI2⟩ := law_call (call_look ((X.2 (y + 1).toNatClampNeg))) hI
  refine ab_Ex.blk (k := 5) (pc' := 1024) (lv' := [(0, .ref 3000001), (1, .ref 0), (2, .ref 64), (3, .int y)]) (st' := [.int (y + 1), .ref 3000001, .ref 0]) (sh' := ab_SH) (D' := ab_dD h) (fun n => rfl) ?_
  refine ab_Ex.grd (c := (y + 1) < 0 ∨ X.1 ≤ (y + 1).toNatClampNeg) (S := (1025, [(0, .ref 3000001), (1, .ref 0), (2, .ref 64), (3, .int y)], [.int (X.2 (y + 1).toNatClampNeg), .ref 0], ab_dD h)) (fun n => rfl) hy.2.1 ?_
  refine ab_Ex.call (d := 999) (M2 := 152) (as := [.ref 0, .int (X.2 (y + 1).toNatClampNeg)]) (rest := []) (fun n => rfl) rfl (Nat.not_lt.mpr (Nat.le_of_ble_eq_true rfl)) (sX11_look 994 X ((X.2 (y + 1).toNatClampNeg)) h (v, h1) e1) (fun r hr => ?_)
  subst hr
  refine ab_Ex.blk (k := 5) (pc' := 1033) (lv' := [(0, .ref 3000001), (1, .ref 0), (2, .ref 64), (3, .int y)]) (st' := [.int (y + 1), .ref 3000001, .ref 64, .int v]) (sh' := ab_SH) (D' := ab_dD h1) (fun n => rfl) ?_
  refine ab_Ex.grd (c := (y + 1) < 0 ∨ X.1 ≤ (y + 1).toNatClampNeg) (S := (1034, [(0, .ref 3000001), (1, .ref 0), (2, .ref 64), (3, .int y)], [.int (X.2 (y + 1).toNatClampNeg), .ref 64, .int v], ab_dD h1)) (fun n => rfl) hy.2.1 ?_
  refine ab_Ex.call (d := 999) (M2 := 268) (as := [.ref 64, .int (X.2 (y + 1).toNatClampNeg)]) (rest := [.int v]) (fun n => rfl) rfl (Nat.not_lt.mpr (Nat.le_of_ble_eq_true rfl)) (sX12_look 993 X ((X.2 (y + 1).toNatClampNeg)) h1 (v, h2) e2) (fun r hr => ?_)
  subst hr
  exact ab_Ex.ifc (c := v = v) (SA := (1503, [(0, .ref 3000001), (1, .ref 0), (2, .ref 64), (3, .int y)], [], ab_dD h2)) (SB := (1040, [(0, .ref 3000001), (1, .ref 0), (2, .ref 64), (3, .int y)], [], ab_dD h2)) (fun n => rfl) (fun _ => g h2 hI2) (fun c => absurd rfl c)
set_option maxRecDepth 20000 in
theorem law_27 (X : abX) (y : Int32) (h : abJ) {R : abR → Prop} (hy : ab_y X y) (hI : ab_I h) (g : ∀ h', ab_I h' → ab_Ex X 1000 320 1503 [(0, .ref 3000001), (1, .ref 0), (2, .ref 64), (3, .int y)] [] ab_SH (ab_dD h') R) : ab_Ex X 1000 320 1042 [(0, .ref 3000001), (1, .ref 0), (2, .ref 64), (3, .int y)] [] ab_SH (ab_dD h) R := by
  obtain ⟨v, h1, h2, e1, e2, hI2⟩ := law_call (call_fogs ((X.2 (y + 1).toNatClampNeg))) hI
  refine ab_Ex.blk (k := 5) (pc' := 1047) (lv' := [(0, .ref 3000001), (1, .ref 0), (2, .ref 64), (3, .int y)]) (st' := [.int (y + 1), .ref 3000001, .ref 0]) (sh' := ab_SH) (D' := ab_dD h) (fun n => rfl) ?_
  refine ab_Ex.grd (c := (y + 1) < 0 ∨ X.1 ≤ (y + 1).toNatClampNeg) (S := (1048, [(0, .ref 3000001), (1, .ref 0), (2, .ref 64), (3, .int y)], [.int (X.2 (y + 1).toNatClampNeg), .ref 0], ab_dD h)) (fun n => rfl) hy.2.1 ?_
  refine ab_Ex.call (d := 999) (M2 := 153) (as := [.ref 0, .int (X.2 (y + 1).toNatClampNeg)]) (rest := []) (fun n => rfl) rfl (Nat.not_lt.mpr (Nat.le_of_ble_eq_true rfl)) (sX11_fogs 995 X ((X.2 (y + 1).toNatClampNeg)) h (v, h1) e1) (fun r hr => ?_)
  subst hr
  refine ab_Ex.blk (k := 5) (pc' := 1056) (lv' := [(0, .ref 3000001), (1, .ref 0), (2, .ref 64), (3, .int y)]) (st' := [.int (y + 1), .ref 3000001, .ref 64, .int v]) (sh' := ab_SH) (D' := ab_dD h1) (fun n => rfl) ?_
  refine ab_Ex.grd (c := (y + 1) < 0 ∨ X.1 ≤ (y + 1).toNatClampNeg) (S := (1057, [(0, .ref 3000001), (1, .ref 0), (2, .ref 64), (3, .int y)], [.int (X.2 (y + 1).toNatClampNeg), .ref 64, .int v], ab_dD h1)) (fun n => rfl) hy.2.1 ?_
  refine ab_Ex.call (d := 999) (M2 := 269) (as := [.ref 64, .int (X.2 (y + 1).toNatClampNeg)]) (rest := [.int v]) (fun n => rfl) rfl (Nat.not_lt.mpr (Nat.le_of_ble_eq_true rfl)) (sX12_fogs 994 X ((X.2 (y + 1).toNatClampNeg)) h1 (v, h2) e2) (fun r hr => ?_)
  subst hr
  exact ab_Ex.ifc (c := v = v) (SA := (1503, [(0, .ref 3000001), (1, .ref 0), (2, .ref 64), (3, .int y)], [], ab_dD h2)) (SB := (1063, [(0, .ref 3000001), (1, .ref 0), (2, .ref 64), (3, .int y)], [], ab_dD h2)) (fun n => rfl) (fun _ => g h2 hI2) (fun c => absurd rfl c)
set_option maxRecDepth 20000 in
theorem law_28 (X : abX) (y : Int32) (h : abJ) {R : abR → Prop} (hy : ab_y X y) (hI : ab_I h) (g : ∀ h', ab_I h' → ab_Ex X 1000 320 1503 [(0, .ref 3000001), (1, .ref 0), (2, .ref 64), (3, .int y)] [] ab_SH (ab_dD h') R) : ab_Ex X 1000 320 1065 [(0, .ref 3000001), (1, .ref 0), (2, .ref 64), (3, .int y)] [] ab_SH (ab_dD h) R := by
  obtain ⟨v, h1, h2, e1, e2, hI2⟩ := law_call (call_ahead ((X.2 (y + 1).toNatClampNeg))) hI
  refine ab_Ex.blk (k := 5) (pc' := 1070) (lv' := [(0, .ref 3000001), (1, .ref 0), (2, .ref 64), (3, .int y)]) (st' := [.int (y + 1), .ref 3000001, .ref 0]) (sh' := ab_SH) (D' := ab_dD h) (fun n => rfl) ?_
  refine ab_Ex.grd (c := (y + 1) < 0 ∨ X.1 ≤ (y + 1).toNatClampNeg) (S := (1071, [(0, .ref 3000001), (1, .ref 0), (2, .ref 64), (3, .int y)], [.int (X.2 (y + 1).toNatClampNeg), .ref 0], ab_dD h)) (fun n => rfl) hy.2.1 ?_
  refine ab_Ex.call (d := 999) (M2 := 154) (as := [.ref 0, .int (X.2 (y + 1).toNatClampNeg)]) (rest := []) (fun n => rfl) rfl (Nat.not_lt.mpr (Nat.le_of_ble_eq_true rfl)) (sX11_ahead 995 X ((X.2 (y + 1).toNatClampNeg)) h (v, h1) e1) (fun r hr => ?_)
  subst hr
  refine ab_Ex.blk (k := 5) (pc' := 1079) (lv' := [(0, .ref 3000001), (1, .ref 0), (2, .ref 64), (3, .int y)]) (st' := [.int (y + 1), .ref 3000001, .ref 64, .int v]) (sh' := ab_SH) (D' := ab_dD h1) (fun n => rfl) ?_
  refine ab_Ex.grd (c := (y + 1) < 0 ∨ X.1 ≤ (y + 1).toNatClampNeg) (S := (1080, [(0, .ref 3000001), (1, .ref 0), (2, .ref 64), (3, .int y)], [.int (X.2 (y + 1).toNatClampNeg), .ref 64, .int v], ab_dD h1)) (fun n => rfl) hy.2.1 ?_
  refine ab_Ex.call (d := 999) (M2 := 272) (as := [.ref 64, .int (X.2 (y + 1).toNatClampNeg)]) (rest := [.int v]) (fun n => rfl) rfl (Nat.not_lt.mpr (Nat.le_of_ble_eq_true rfl)) (sX12_ahead 994 X ((X.2 (y + 1).toNatClampNeg)) h1 (v, h2) e2) (fun r hr => ?_)
  subst hr
  exact ab_Ex.ifc (c := v = v) (SA := (1503, [(0, .ref 3000001), (1, .ref 0), (2, .ref 64), (3, .int y)], [], ab_dD h2)) (SB := (1086, [(0, .ref 3000001), (1, .ref 0), (2, .ref 64), (3, .int y)], [], ab_dD h2)) (fun n => rfl) (fun _ => g h2 hI2) (fun c => absurd rfl c)
set_option maxRecDepth 20000 in
theorem law_29 (X : abX) (y : Int32) (h : abJ) {R : abR → Prop} (hy : ab_y X y) (hI : ab_I h) (g : ∀ h', ab_I h' → ab_Ex X 1000 320 1503 [(0, .ref 3000001), (1, .ref 0), (2, .ref 64), (3, .int y)] [] ab_SH (ab_dD h') R) : ab_Ex X 1000 320 1088 [(0, .ref 3000001), (1, .ref 0), (2, .ref 64), (3, .int y)] [] ab_SH (ab_dD h) R := by
  obtain ⟨v, h1, h2, e1, e2, hI2⟩ := law_call (call_from) hI
  refine ab_Ex.blk (k := 1) (pc' := 1089) (lv' := [(0, .ref 3000001), (1, .ref 0), (2, .ref 64), (3, .int y)]) (st' := [.ref 0]) (sh' := ab_SH) (D' := ab_dD h) (fun n => rfl) ?_
  refine ab_Ex.call (d := 999) (M2 := 155) (as := [.ref 0]) (rest := []) (fun n => rfl) rfl (Nat.not_lt.mpr (Nat.le_of_ble_eq_true rfl)) (sX11_from 995 X  h (v, h1) e1) (fun r hr => ?_)
  subst hr
  refine ab_Ex.blk (k := 1) (pc' := 1093) (lv' := [(0, .ref 3000001), (1, .ref 0), (2, .ref 64), (3, .int y)]) (st' := [.ref 64, .int v]) (sh' := ab_SH) (D' := ab_dD h1) (fun n => rfl) ?_
  refine ab_Ex.call (d := 999) (M2 := 273) (as := [.ref 64]) (rest := [.int v]) (fun n => rfl) rfl (Nat.not_lt.mpr (Nat.le_of_ble_eq_true rfl)) (sX12_from 994 X  h1 (v, h2) e2) (fun r hr => ?_)
  subst hr
  exact ab_Ex.ifc (c := v = v) (SA := (1503, [(0, .ref 3000001), (1, .ref 0), (2, .ref 64), (3, .int y)], [], ab_dD h2)) (SB := (1099, [(0, .ref 3000001), (1, .ref 0), (2, .ref 64), (3, .int y)], [], ab_dD h2)) (fun n => rfl) (fun _ => g h2 hI2) (fun c => absurd rfl c)
set_option maxRecDepth 20000 in
theorem law_30 (X : abX) (y : Int32) (h : abJ) {R : abR → Prop} (hy : ab_y X y) (hI : ab_I h) (g : ∀ h', ab_I h' → ab_Ex X 1000 320 1503 [(0, .ref 3000001), (1, .ref 0), (2, .ref 64), (3, .int y)] [] ab_SH (ab_dD h') R) : ab_Ex X 1000 320 1101 [(0, .ref 3000001), (1, .ref 0), (2, .ref 64), (3, .int y)] [] ab_SH (ab_dD h) R := by
  obtain ⟨v, h1, h2, e1, e2, hI2⟩ := law_call (call_again) hI
  refine ab_Ex.blk (k := 1) (pc' := 1102) (lv' := [(0, .ref 3000001), (1, .ref 0), (2, .ref 64), (3, .int y)]) (st' := [.ref 0]) (sh' := ab_SH) (D' := ab_dD h) (fun n => rfl) ?_
  refine ab_Ex.call (d := 999) (M2 := 156) (as := [.ref 0]) (rest := []) (fun n => rfl) rfl (Nat.not_lt.mpr (Nat.le_of_ble_eq_true rfl)) (sX11_again 995 X  h (v, h1) e1) (fun r hr => ?_)
  subst hr
  refine ab_Ex.blk (k := 1) (pc' := 1106) (lv' := [(0, .ref 3000001), (1, .ref 0), (2, .ref 64), (3, .int y)]) (st' := [.ref 64, .int v]) (sh' := ab_SH) (D' := ab_dD h1) (fun n => rfl) ?_
  refine ab_Ex.call (d := 999) (M2 := 274) (as := [.ref 64]) (rest := [.int v]) (fun n => rfl) rfl (Nat.not_lt.mpr (Nat.le_of_ble_eq_true rfl)) (sX12_again 995 X  h1 (v, h2) e2) (fun r hr => ?_)
  subst hr
  exact ab_Ex.ifc (c := v = v) (SA := (1503, [(0, .ref 3000001), (1, .ref 0), (2, .ref 64), (3, .int y)], [], ab_dD h2)) (SB := (1112, [(0, .ref 3000001), (1, .ref 0), (2, .ref 64), (3, .int y)], [], ab_dD h2)) (fun n => rfl) (fun _ => g h2 hI2) (fun c => absurd rfl c)
set_option maxRecDepth 20000 in
theorem law_31 (X : abX) (y : Int32) (h : abJ) {R : abR → Prop} (hy : ab_y X y) (hI : ab_I h) (g : ∀ h', ab_I h' → ab_Ex X 1000 320 1503 [(0, .ref 3000001), (1, .ref 0), (2, .ref 64), (3, .int y)] [] ab_SH (ab_dD h') R) : ab_Ex X 1000 320 1114 [(0, .ref 3000001), (1, .ref 0), (2, .ref 64), (3, .int y)] [] ab_SH (ab_dD h) R := by
  obtain ⟨v, h1, h2, e1, e2, hI2⟩ := law_call (call_trees ((X.2 (y + 1).toNatClampNeg))) hI
  obtain ⟨e1, e3⟩ := pure1_s e1
  rw [e3] at e2
  refine ab_Ex.blk (k := 5) (pc' := 1119) (lv' := [(0, .ref 3000001), (1, .ref 0), (2, .ref 64), (3, .int y)]) (st' := [.int (y + 1), .ref 3000001, .ref 0]) (sh' := ab_SH) (D' := ab_dD h) (fun n => rfl) ?_
  refine ab_Ex.grd (c := (y + 1) < 0 ∨ X.1 ≤ (y + 1).toNatClampNeg) (S := (1120, [(0, .ref 3000001), (1, .ref 0), (2, .ref 64), (3, .int y)], [.int (X.2 (y + 1).toNatClampNeg), .ref 0], ab_dD h)) (fun n => rfl) hy.2.1 ?_
  refine ab_Ex.call (d := 999) (M2 := 157) (as := [.ref 0, .int (X.2 (y + 1).toNatClampNeg)]) (rest := []) (fun n => rfl) rfl (Nat.not_lt.mpr (Nat.le_of_ble_eq_true rfl)) (sX11_trees 995 X ((X.2 (y + 1).toNatClampNeg)) h v e1) (fun r hr => ?_)
  subst hr
  refine ab_Ex.blk (k := 5) (pc' := 1128) (lv' := [(0, .ref 3000001), (1, .ref 0), (2, .ref 64), (3, .int y)]) (st' := [.int (y + 1), .ref 3000001, .ref 64, .int v]) (sh' := ab_SH) (D' := ab_dD h) (fun n => rfl) ?_
  refine ab_Ex.grd (c := (y + 1) < 0 ∨ X.1 ≤ (y + 1).toNatClampNeg) (S := (1129, [(0, .ref 3000001), (1, .ref 0), (2, .ref 64), (3, .int y)], [.int (X.2 (y + 1).toNatClampNeg), .ref 64, .int v], ab_dD h)) (fun n => rfl) hy.2.1 ?_
  refine ab_Ex.call (d := 999) (M2 := 276) (as := [.ref 64, .int (X.2 (y + 1).toNatClampNeg)]) (rest := [.int v]) (fun n => rfl) rfl (Nat.not_lt.mpr (Nat.le_of_ble_eq_true rfl)) (sX12_trees 996 X ((X.2 (y + 1).toNatClampNeg)) h (v, h2) e2) (fun r hr => ?_)
  subst hr
  exact ab_Ex.ifc (c := v = v) (SA := (1503, [(0, .ref 3000001), (1, .ref 0), (2, .ref 64), (3, .int y)], [], ab_dD h2)) (SB := (1135, [(0, .ref 3000001), (1, .ref 0), (2, .ref 64), (3, .int y)], [], ab_dD h2)) (fun n => rfl) (fun _ => g h2 hI2) (fun c => absurd rfl c)
set_option maxRecDepth 20000 in
theorem law_32 (X : abX) (y : Int32) (h : abJ) {R : abR → Prop} (hy : ab_y X y) (hI : ab_I h) (g : ∀ h', ab_I h' → ab_Ex X 1000 320 1503 [(0, .ref 3000001), (1, .ref 0), (2, .ref 64), (3, .int y)] [] ab_SH (ab_dD h') R) : ab_Ex X 1000 320 1137 [(0, .ref 3000001), (1, .ref 0), (2, .ref 64), (3, .int y)] [] ab_SH (ab_dD h) R := by
  obtain ⟨v, h1, h2, e1, e2, hI2⟩ := law_call (call_chance ((X.2 (y + 1).toNatClampNeg)) ((X.2 (y + 2).toNatClampNeg)) ((X.2 (y + 3).toNatClampNeg))) hI
  refine ab_Ex.blk (k := 5) (pc' := 1142) (lv' := [(0, .ref 3000001), (1, .ref 0), (2, .ref 64), (3, .int y)]) (st' := [.int (y + 1), .ref 3000001, .ref 0]) (sh' := ab_SH) (D' := ab_dD h) (fun n => rfl) ?_
  refine ab_Ex.grd (c := (y + 1) < 0 ∨ X.1 ≤ (y + 1).toNatClampNeg) (S := (1143, [(0, .ref 3000001), (1, .ref 0), (2, .ref 64), (3, .int y)], [.int (X.2 (y + 1).toNatClampNeg), .ref 0], ab_dD h)) (fun n => rfl) hy.2.1 ?_
  refine ab_Ex.blk (k := 4) (pc' := 1147) (lv' := [(0, .ref 3000001), (1, .ref 0), (2, .ref 64), (3, .int y)]) (st' := [.int (y + 2), .ref 3000001, .int (X.2 (y + 1).toNatClampNeg), .ref 0]) (sh' := ab_SH) (D' := ab_dD h) (fun n => rfl) ?_
  refine ab_Ex.grd (c := (y + 2) < 0 ∨ X.1 ≤ (y + 2).toNatClampNeg) (S := (1148, [(0, .ref 3000001), (1, .ref 0), (2, .ref 64), (3, .int y)], [.int (X.2 (y + 2).toNatClampNeg), .int (X.2 (y + 1).toNatClampNeg), .ref 0], ab_dD h)) (fun n => rfl) hy.2.2.1 ?_
  refine ab_Ex.blk (k := 4) (pc' := 1152) (lv' := [(0, .ref 3000001), (1, .ref 0), (2, .ref 64), (3, .int y)]) (st' := [.int (y + 3), .ref 3000001, .int (X.2 (y + 2).toNatClampNeg), .int (X.2 (y + 1).toNatClampNeg), .ref 0]) (sh' := ab_SH) (D' := ab_dD h) (fun n => rfl) ?_
  refine ab_Ex.grd (c := (y + 3) < 0 ∨ X.1 ≤ (y + 3).toNatClampNeg) (S := (1153, [(0, .ref 3000001), (1, .ref 0), (2, .ref 64), (3, .int y)], [.int (X.2 (y + 3).toNatClampNeg), .int (X.2 (y + 2).toNatClampNeg), .int (X.2 (y + 1).toNatClampNeg), .ref 0], ab_dD h)) (fun n => rfl) hy.2.2.2.1 ?_
  refine ab_Ex.call (d := 999) (M2 := 158) (as := [.ref 0, .int (X.2 (y + 1).toNatClampNeg), .int (X.2 (y + 2).toNatClampNeg), .int (X.2 (y + 3).toNatClampNeg)]) (rest := []) (fun n => rfl) rfl (Nat.not_lt.mpr (Nat.le_of_ble_eq_true rfl)) (sX11_chance 994 X ((X.2 (y + 1).toNatClampNeg)) ((X.2 (y + 2).toNatClampNeg)) ((X.2 (y + 3).toNatClampNeg)) h (v, h1) e1) (fun r hr => ?_)
  subst hr
  refine ab_Ex.blk (k := 5) (pc' := 1161) (lv' := [(0, .ref 3000001), (1, .ref 0), (2, .ref 64), (3, .int y)]) (st' := [.int (y + 1), .ref 3000001, .ref 64, .long v]) (sh' := ab_SH) (D' := ab_dD h1) (fun n => rfl) ?_
  refine ab_Ex.grd (c := (y + 1) < 0 ∨ X.1 ≤ (y + 1).toNatClampNeg) (S := (1162, [(0, .ref 3000001), (1, .ref 0), (2, .ref 64), (3, .int y)], [.int (X.2 (y + 1).toNatClampNeg), .ref 64, .long v], ab_dD h1)) (fun n => rfl) hy.2.1 ?_
  refine ab_Ex.blk (k := 4) (pc' := 1166) (lv' := [(0, .ref 3000001), (1, .ref 0), (2, .ref 64), (3, .int y)]) (st' := [.int (y + 2), .ref 3000001, .int (X.2 (y + 1).toNatClampNeg), .ref 64, .long v]) (sh' := ab_SH) (D' := ab_dD h1) (fun n => rfl) ?_
  refine ab_Ex.grd (c := (y + 2) < 0 ∨ X.1 ≤ (y + 2).toNatClampNeg) (S := (1167, [(0, .ref 3000001), (1, .ref 0), (2, .ref 64), (3, .int y)], [.int (X.2 (y + 2).toNatClampNeg), .int (X.2 (y + 1).toNatClampNeg), .ref 64, .long v], ab_dD h1)) (fun n => rfl) hy.2.2.1 ?_
  refine ab_Ex.blk (k := 4) (pc' := 1171) (lv' := [(0, .ref 3000001), (1, .ref 0), (2, .ref 64), (3, .int y)]) (st' := [.int (y + 3), .ref 3000001, .int (X.2 (y + 2).toNatClampNeg), .int (X.2 (y + 1).toNatClampNeg), .ref 64, .long v]) (sh' := ab_SH) (D' := ab_dD h1) (fun n => rfl) ?_
  refine ab_Ex.grd (c := (y + 3) < 0 ∨ X.1 ≤ (y + 3).toNatClampNeg) (S := (1172, [(0, .ref 3000001), (1, .ref 0), (2, .ref 64), (3, .int y)], [.int (X.2 (y + 3).toNatClampNeg), .int (X.2 (y + 2).toNatClampNeg), .int (X.2 (y + 1).toNatClampNeg), .ref 64, .long v], ab_dD h1)) (fun n => rfl) hy.2.2.2.1 ?_
  refine ab_Ex.call (d := 999) (M2 := 284) (as := [.ref 64, .int (X.2 (y + 1).toNatClampNeg), .int (X.2 (y + 2).toNatClampNeg), .int (X.2 (y + 3).toNatClampNeg)]) (rest := [.long v]) (fun n => rfl) rfl (Nat.not_lt.mpr (Nat.le_of_ble_eq_true rfl)) (sX12_chance 895 X ((X.2 (y + 1).toNatClampNeg)) ((X.2 (y + 2).toNatClampNeg)) ((X.2 (y + 3).toNatClampNeg)) h1 (v, h2) e2) (fun r hr => ?_)
  subst hr
  refine ab_Ex.blk (k := 1) (pc' := 1176) (lv' := [(0, .ref 3000001), (1, .ref 0), (2, .ref 64), (3, .int y)]) (st' := [.int (lg_cmp v v)]) (sh' := ab_SH) (D' := ab_dD h2) (fun n => rfl) ?_
  exact ab_Ex.ifc (c := lg_cmp v v = 0) (SA := (1503, [(0, .ref 3000001), (1, .ref 0), (2, .ref 64), (3, .int y)], [], ab_dD h2)) (SB := (1179, [(0, .ref 3000001), (1, .ref 0), (2, .ref 64), (3, .int y)], [], ab_dD h2)) (fun n => rfl) (fun _ => g h2 hI2) (fun c => absurd (cmp_vv v) c)
set_option maxRecDepth 20000 in
theorem law_33 (X : abX) (y : Int32) (h : abJ) {R : abR → Prop} (hy : ab_y X y) (hI : ab_I h) (g : ∀ h', ab_I h' → ab_Ex X 1000 320 1503 [(0, .ref 3000001), (1, .ref 0), (2, .ref 64), (3, .int y)] [] ab_SH (ab_dD h') R) : ab_Ex X 1000 320 1181 [(0, .ref 3000001), (1, .ref 0), (2, .ref 64), (3, .int y)] [] ab_SH (ab_dD h) R := by
  obtain ⟨v, h1, h2, e1, e2, hI2⟩ := law_call (call_mean ((X.2 (y + 1).toNatClampNeg))) hI
  refine ab_Ex.blk (k := 5) (pc' := 1186) (lv' := [(0, .ref 3000001), (1, .ref 0), (2, .ref 64), (3, .int y)]) (st' := [.int (y + 1), .ref 3000001, .ref 0]) (sh' := ab_SH) (D' := ab_dD h) (fun n => rfl) ?_
  refine ab_Ex.grd (c := (y + 1) < 0 ∨ X.1 ≤ (y + 1).toNatClampNeg) (S := (1187, [(0, .ref 3000001), (1, .ref 0), (2, .ref 64), (3, .int y)], [.int (X.2 (y + 1).toNatClampNeg), .ref 0], ab_dD h)) (fun n => rfl) hy.2.1 ?_
  refine ab_Ex.call (d := 999) (M2 := 159) (as := [.ref 0, .int (X.2 (y + 1).toNatClampNeg)]) (rest := []) (fun n => rfl) rfl (Nat.not_lt.mpr (Nat.le_of_ble_eq_true rfl)) (sX11_mean 994 X ((X.2 (y + 1).toNatClampNeg)) h (v, h1) e1) (fun r hr => ?_)
  subst hr
  refine ab_Ex.blk (k := 5) (pc' := 1195) (lv' := [(0, .ref 3000001), (1, .ref 0), (2, .ref 64), (3, .int y)]) (st' := [.int (y + 1), .ref 3000001, .ref 64, .long v]) (sh' := ab_SH) (D' := ab_dD h1) (fun n => rfl) ?_
  refine ab_Ex.grd (c := (y + 1) < 0 ∨ X.1 ≤ (y + 1).toNatClampNeg) (S := (1196, [(0, .ref 3000001), (1, .ref 0), (2, .ref 64), (3, .int y)], [.int (X.2 (y + 1).toNatClampNeg), .ref 64, .long v], ab_dD h1)) (fun n => rfl) hy.2.1 ?_
  refine ab_Ex.call (d := 999) (M2 := 286) (as := [.ref 64, .int (X.2 (y + 1).toNatClampNeg)]) (rest := [.long v]) (fun n => rfl) rfl (Nat.not_lt.mpr (Nat.le_of_ble_eq_true rfl)) (sX12_mean 895 X ((X.2 (y + 1).toNatClampNeg)) h1 (v, h2) e2) (fun r hr => ?_)
  subst hr
  refine ab_Ex.blk (k := 1) (pc' := 1200) (lv' := [(0, .ref 3000001), (1, .ref 0), (2, .ref 64), (3, .int y)]) (st' := [.int (lg_cmp v v)]) (sh' := ab_SH) (D' := ab_dD h2) (fun n => rfl) ?_
  exact ab_Ex.ifc (c := lg_cmp v v = 0) (SA := (1503, [(0, .ref 3000001), (1, .ref 0), (2, .ref 64), (3, .int y)], [], ab_dD h2)) (SB := (1203, [(0, .ref 3000001), (1, .ref 0), (2, .ref 64), (3, .int y)], [], ab_dD h2)) (fun n => rfl) (fun _ => g h2 hI2) (fun c => absurd (cmp_vv v) c)
set_option maxRecDepth 20000 in
theorem law_34 (X : abX) (y : Int32) (h : abJ) {R : abR → Prop} (hy : ab_y X y) (hI : ab_I h) (g : ∀ h', ab_I h' → ab_Ex X 1000 320 1503 [(0, .ref 3000001), (1, .ref 0), (2, .ref 64), (3, .int y)] [] ab_SH (ab_dD h') R) : ab_Ex X 1000 320 1205 [(0, .ref 3000001), (1, .ref 0), (2, .ref 64), (3, .int y)] [] ab_SH (ab_dD h) R := by
  obtain ⟨v, h1, h2, e1, e2, hI2⟩ := law_call (call_score ((X.2 (y + 1).toNatClampNeg)) ((X.2 (y + 2).toNatClampNeg)) ((X.2 (y + 3).toNatClampNeg))) hI
  refine ab_Ex.blk (k := 5) (pc' := 1210) (lv' := [(0, .ref 3000001), (1, .ref 0), (2, .ref 64), (3, .int y)]) (st' := [.int (y + 1), .ref 3000001, .ref 0]) (sh' := ab_SH) (D' := ab_dD h) (fun n => rfl) ?_
  refine ab_Ex.grd (c := (y + 1) < 0 ∨ X.1 ≤ (y + 1).toNatClampNeg) (S := (1211, [(0, .ref 3000001), (1, .ref 0), (2, .ref 64), (3, .int y)], [.int (X.2 (y + 1).toNatClampNeg), .ref 0], ab_dD h)) (fun n => rfl) hy.2.1 ?_
  refine ab_Ex.blk (k := 4) (pc' := 1215) (lv' := [(0, .ref 3000001), (1, .ref 0), (2, .ref 64), (3, .int y)]) (st' := [.int (y + 2), .ref 3000001, .int (X.2 (y + 1).toNatClampNeg), .ref 0]) (sh' := ab_SH) (D' := ab_dD h) (fun n => rfl) ?_
  refine ab_Ex.grd (c := (y + 2) < 0 ∨ X.1 ≤ (y + 2).toNatClampNeg) (S := (1216, [(0, .ref 3000001), (1, .ref 0), (2, .ref 64), (3, .int y)], [.int (X.2 (y + 2).toNatClampNeg), .int (X.2 (y + 1).toNatClampNeg), .ref 0], ab_dD h)) (fun n => rfl) hy.2.2.1 ?_
  refine ab_Ex.blk (k := 4) (pc' := 1220) (lv' := [(0, .ref 3000001), (1, .ref 0), (2, .ref 64), (3, .int y)]) (st' := [.int (y + 3), .ref 3000001, .int (X.2 (y + 2).toNatClampNeg), .int (X.2 (y + 1).toNatClampNeg), .ref 0]) (sh' := ab_SH) (D' := ab_dD h) (fun n => rfl) ?_
  refine ab_Ex.grd (c := (y + 3) < 0 ∨ X.1 ≤ (y + 3).toNatClampNeg) (S := (1221, [(0, .ref 3000001), (1, .ref 0), (2, .ref 64), (3, .int y)], [.int (X.2 (y + 3).toNatClampNeg), .int (X.2 (y + 2).toNatClampNeg), .int (X.2 (y + 1).toNatClampNeg), .ref 0], ab_dD h)) (fun n => rfl) hy.2.2.2.1 ?_
  refine ab_Ex.call (d := 999) (M2 := 160) (as := [.ref 0, .int (X.2 (y + 1).toNatClampNeg), .int (X.2 (y + 2).toNatClampNeg), .int (X.2 (y + 3).toNatClampNeg)]) (rest := []) (fun n => rfl) rfl (Nat.not_lt.mpr (Nat.le_of_ble_eq_true rfl)) (sX11_score 994 X ((X.2 (y + 1).toNatClampNeg)) ((X.2 (y + 2).toNatClampNeg)) ((X.2 (y + 3).toNatClampNeg)) h (v, h1) e1) (fun r hr => ?_)
  subst hr
  refine ab_Ex.blk (k := 5) (pc' := 1229) (lv' := [(0, .ref 3000001), (1, .ref 0), (2, .ref 64), (3, .int y)]) (st' := [.int (y + 1), .ref 3000001, .ref 64, .int v]) (sh' := ab_SH) (D' := ab_dD h1) (fun n => rfl) ?_
  refine ab_Ex.grd (c := (y + 1) < 0 ∨ X.1 ≤ (y + 1).toNatClampNeg) (S := (1230, [(0, .ref 3000001), (1, .ref 0), (2, .ref 64), (3, .int y)], [.int (X.2 (y + 1).toNatClampNeg), .ref 64, .int v], ab_dD h1)) (fun n => rfl) hy.2.1 ?_
  refine ab_Ex.blk (k := 4) (pc' := 1234) (lv' := [(0, .ref 3000001), (1, .ref 0), (2, .ref 64), (3, .int y)]) (st' := [.int (y + 2), .ref 3000001, .int (X.2 (y + 1).toNatClampNeg), .ref 64, .int v]) (sh' := ab_SH) (D' := ab_dD h1) (fun n => rfl) ?_
  refine ab_Ex.grd (c := (y + 2) < 0 ∨ X.1 ≤ (y + 2).toNatClampNeg) (S := (1235, [(0, .ref 3000001), (1, .ref 0), (2, .ref 64), (3, .int y)], [.int (X.2 (y + 2).toNatClampNeg), .int (X.2 (y + 1).toNatClampNeg), .ref 64, .int v], ab_dD h1)) (fun n => rfl) hy.2.2.1 ?_
  refine ab_Ex.blk (k := 4) (pc' := 1239) (lv' := [(0, .ref 3000001), (1, .ref 0), (2, .ref 64), (3, .int y)]) (st' := [.int (y + 3), .ref 3000001, .int (X.2 (y + 2).toNatClampNeg), .int (X.2 (y + 1).toNatClampNeg), .ref 64, .int v]) (sh' := ab_SH) (D' := ab_dD h1) (fun n => rfl) ?_
  refine ab_Ex.grd (c := (y + 3) < 0 ∨ X.1 ≤ (y + 3).toNatClampNeg) (S := (1240, [(0, .ref 3000001), (1, .ref 0), (2, .ref 64), (3, .int y)], [.int (X.2 (y + 3).toNatClampNeg), .int (X.2 (y + 2).toNatClampNeg), .int (X.2 (y + 1).toNatClampNeg), .ref 64, .int v], ab_dD h1)) (fun n => rfl) hy.2.2.2.1 ?_
  refine ab_Ex.call (d := 999) (M2 := 287) (as := [.ref 64, .int (X.2 (y + 1).toNatClampNeg), .int (X.2 (y + 2).toNatClampNeg), .int (X.2 (y + 3).toNatClampNeg)]) (rest := [.int v]) (fun n => rfl) rfl (Nat.not_lt.mpr (Nat.le_of_ble_eq_true rfl)) (sX12_score 994 X ((X.2 (y + 1).toNatClampNeg)) ((X.2 (y + 2).toNatClampNeg)) ((X.2 (y + 3).toNatClampNeg)) h1 (v, h2) e2) (fun r hr => ?_)
  subst hr
  exact ab_Ex.ifc (c := v = v) (SA := (1503, [(0, .ref 3000001), (1, .ref 0), (2, .ref 64), (3, .int y)], [], ab_dD h2)) (SB := (1246, [(0, .ref 3000001), (1, .ref 0), (2, .ref 64), (3, .int y)], [], ab_dD h2)) (fun n => rfl) (fun _ => g h2 hI2) (fun c => absurd rfl c)
set_option maxRecDepth 20000 in
theorem law_35 (X : abX) (y : Int32) (h : abJ) {R : abR → Prop} (hy : ab_y X y) (hI : ab_I h) (g : ∀ h', ab_I h' → ab_Ex X 1000 320 1503 [(0, .ref 3000001), (1, .ref 0), (2, .ref 64), (3, .int y)] [] ab_SH (ab_dD h') R) : ab_Ex X 1000 320 1248 [(0, .ref 3000001), (1, .ref 0), (2, .ref 64), (3, .int y)] [] ab_SH (ab_dD h) R := by
  obtain ⟨v, h1, h2, e1, e2, hI2⟩ := law_call (call_forces ((X.2 (y + 1).toNatClampNeg))) hI
  refine ab_Ex.blk (k := 5) (pc' := 1253) (lv' := [(0, .ref 3000001), (1, .ref 0), (2, .ref 64), (3, .int y)]) (st' := [.int (y + 1), .ref 3000001, .ref 0]) (sh' := ab_SH) (D' := ab_dD h) (fun n => rfl) ?_
  refine ab_Ex.grd (c := (y + 1) < 0 ∨ X.1 ≤ (y + 1).toNatClampNeg) (S := (1254, [(0, .ref 3000001), (1, .ref 0), (2, .ref 64), (3, .int y)], [.int (X.2 (y + 1).toNatClampNeg), .ref 0], ab_dD h)) (fun n => rfl) hy.2.1 ?_
  refine ab_Ex.call (d := 999) (M2 := 161) (as := [.ref 0, .int (X.2 (y + 1).toNatClampNeg)]) (rest := []) (fun n => rfl) rfl (Nat.not_lt.mpr (Nat.le_of_ble_eq_true rfl)) (sX11_forces 994 X ((X.2 (y + 1).toNatClampNeg)) h (v, h1) e1) (fun r hr => ?_)
  subst hr
  refine ab_Ex.blk (k := 5) (pc' := 1262) (lv' := [(0, .ref 3000001), (1, .ref 0), (2, .ref 64), (3, .int y)]) (st' := [.int (y + 1), .ref 3000001, .ref 64, .int v]) (sh' := ab_SH) (D' := ab_dD h1) (fun n => rfl) ?_
  refine ab_Ex.grd (c := (y + 1) < 0 ∨ X.1 ≤ (y + 1).toNatClampNeg) (S := (1263, [(0, .ref 3000001), (1, .ref 0), (2, .ref 64), (3, .int y)], [.int (X.2 (y + 1).toNatClampNeg), .ref 64, .int v], ab_dD h1)) (fun n => rfl) hy.2.1 ?_
  refine ab_Ex.call (d := 999) (M2 := 291) (as := [.ref 64, .int (X.2 (y + 1).toNatClampNeg)]) (rest := [.int v]) (fun n => rfl) rfl (Nat.not_lt.mpr (Nat.le_of_ble_eq_true rfl)) (sX12_forces 996 X ((X.2 (y + 1).toNatClampNeg)) h1 (v, h2) e2) (fun r hr => ?_)
  subst hr
  exact ab_Ex.ifc (c := v = v) (SA := (1503, [(0, .ref 3000001), (1, .ref 0), (2, .ref 64), (3, .int y)], [], ab_dD h2)) (SB := (1269, [(0, .ref 3000001), (1, .ref 0), (2, .ref 64), (3, .int y)], [], ab_dD h2)) (fun n => rfl) (fun _ => g h2 hI2) (fun c => absurd rfl c)
set_option maxRecDepth 20000 in
theorem law_36 (X : abX) (y : Int32) (h : abJ) {R : abR → Prop} (hy : ab_y X y) (hI : ab_I h) (g : ∀ h', ab_I h' → ab_Ex X 1000 320 1503 [(0, .ref 3000001), (1, .ref 0), (2, .ref 64), (3, .int y)] [] ab_SH (ab_dD h') R) : ab_Ex X 1000 320 1271 [(0, .ref 3000001), (1, .ref 0), (2, .ref 64), (3, .int y)] [] ab_SH (ab_dD h) R := by
  obtain ⟨v, h1, h2, e1, e2, hI2⟩ := law_call (call_best ((X.2 (y + 1).toNatClampNeg))) hI
  refine ab_Ex.blk (k := 5) (pc' := 1276) (lv' := [(0, .ref 3000001), (1, .ref 0), (2, .ref 64), (3, .int y)]) (st' := [.int (y + 1), .ref 3000001, .ref 0]) (sh' := ab_SH) (D' := ab_dD h) (fun n => rfl) ?_
  refine ab_Ex.grd (c := (y + 1) < 0 ∨ X.1 ≤ (y + 1).toNatClampNeg) (S := (1277, [(0, .ref 3000001), (1, .ref 0), (2, .ref 64), (3, .int y)], [.int (X.2 (y + 1).toNatClampNeg), .ref 0], ab_dD h)) (fun n => rfl) hy.2.1 ?_
  refine ab_Ex.call (d := 999) (M2 := 162) (as := [.ref 0, .int (X.2 (y + 1).toNatClampNeg)]) (rest := []) (fun n => rfl) rfl (Nat.not_lt.mpr (Nat.le_of_ble_eq_true rfl)) (sX11_best 993 X ((X.2 (y + 1).toNatClampNeg)) h (v, h1) e1) (fun r hr => ?_)
  subst hr
  refine ab_Ex.blk (k := 5) (pc' := 1285) (lv' := [(0, .ref 3000001), (1, .ref 0), (2, .ref 64), (3, .int y)]) (st' := [.int (y + 1), .ref 3000001, .ref 64, .int v]) (sh' := ab_SH) (D' := ab_dD h1) (fun n => rfl) ?_
  refine ab_Ex.grd (c := (y + 1) < 0 ∨ X.1 ≤ (y + 1).toNatClampNeg) (S := (1286, [(0, .ref 3000001), (1, .ref 0), (2, .ref 64), (3, .int y)], [.int (X.2 (y + 1).toNatClampNeg), .ref 64, .int v], ab_dD h1)) (fun n => rfl) hy.2.1 ?_
  refine ab_Ex.call (d := 999) (M2 := 292) (as := [.ref 64, .int (X.2 (y + 1).toNatClampNeg)]) (rest := [.int v]) (fun n => rfl) rfl (Nat.not_lt.mpr (Nat.le_of_ble_eq_true rfl)) (sX12_best 996 X ((X.2 (y + 1).toNatClampNeg)) h1 (v, h2) e2) (fun r hr => ?_)
  subst hr
  exact ab_Ex.ifc (c := v = v) (SA := (1503, [(0, .ref 3000001), (1, .ref 0), (2, .ref 64), (3, .int y)], [], ab_dD h2)) (SB := (1292, [(0, .ref 3000001), (1, .ref 0), (2, .ref 64), (3, .int y)], [], ab_dD h2)) (fun n => rfl) (fun _ => g h2 hI2) (fun c => absurd rfl c)
set_option maxRecDepth 20000 in
theorem law_37 (X : abX) (y : Int32) (h : abJ) {R : abR → Prop} (hy : ab_y X y) (hI : ab_I h) (g : ∀ h', ab_I h' → ab_Ex X 1000 320 1503 [(0, .ref 3000001), (1, .ref 0), (2, .ref 64), (3, .int y)] [] ab_SH (ab_dD h') R) : ab_Ex X 1000 320 1294 [(0, .ref 3000001), (1, .ref 0), (2, .ref 64), (3, .int y)] [] ab_SH (ab_dD h) R := by
  obtain ⟨v, h1, h2, e1, e2, hI2⟩ := law_call (call_numbers ((X.2 (y + 1).toNatClampNeg)) ((X.2 (y + 2).toNatClampNeg)) ((X.2 (y + 3).toNatClampNeg))) hI
  refine ab_Ex.blk (k := 5) (pc' := 1299) (lv' := [(0, .ref 3000001), (1, .ref 0), (2, .ref 64), (3, .int y)]) (st' := [.int (y + 1), .ref 3000001, .ref 0]) (sh' := ab_SH) (D' := ab_dD h) (fun n => rfl) ?_
  refine ab_Ex.grd (c := (y + 1) < 0 ∨ X.1 ≤ (y + 1).toNatClampNeg) (S := (1300, [(0, .ref 3000001), (1, .ref 0), (2, .ref 64), (3, .int y)], [.int (X.2 (y + 1).toNatClampNeg), .ref 0], ab_dD h)) (fun n => rfl) hy.2.1 ?_
  refine ab_Ex.blk (k := 4) (pc' := 1304) (lv' := [(0, .ref 3000001), (1, .ref 0), (2, .ref 64), (3, .int y)]) (st' := [.int (y + 2), .ref 3000001, .int (X.2 (y + 1).toNatClampNeg), .ref 0]) (sh' := ab_SH) (D' := ab_dD h) (fun n => rfl) ?_
  refine ab_Ex.grd (c := (y + 2) < 0 ∨ X.1 ≤ (y + 2).toNatClampNeg) (S := (1305, [(0, .ref 3000001), (1, .ref 0), (2, .ref 64), (3, .int y)], [.int (X.2 (y + 2).toNatClampNeg), .int (X.2 (y + 1).toNatClampNeg), .ref 0], ab_dD h)) (fun n => rfl) hy.2.2.1 ?_
  refine ab_Ex.blk (k := 4) (pc' := 1309) (lv' := [(0, .ref 3000001), (1, .ref 0), (2, .ref 64), (3, .int y)]) (st' := [.int (y + 3), .ref 3000001, .int (X.2 (y + 2).toNatClampNeg), .int (X.2 (y + 1).toNatClampNeg), .ref 0]) (sh' := ab_SH) (D' := ab_dD h) (fun n => rfl) ?_
  refine ab_Ex.grd (c := (y + 3) < 0 ∨ X.1 ≤ (y + 3).toNatClampNeg) (S := (1310, [(0, .ref 3000001), (1, .ref 0), (2, .ref 64), (3, .int y)], [.int (X.2 (y + 3).toNatClampNeg), .int (X.2 (y + 2).toNatClampNeg), .int (X.2 (y + 1).toNatClampNeg), .ref 0], ab_dD h)) (fun n => rfl) hy.2.2.2.1 ?_
  refine ab_Ex.call (d := 999) (M2 := 163) (as := [.ref 0, .int (X.2 (y + 1).toNatClampNeg), .int (X.2 (y + 2).toNatClampNeg), .int (X.2 (y + 3).toNatClampNeg)]) (rest := []) (fun n => rfl) rfl (Nat.not_lt.mpr (Nat.le_of_ble_eq_true rfl)) (sX11_numbers 997 X ((X.2 (y + 1).toNatClampNeg)) ((X.2 (y + 2).toNatClampNeg)) ((X.2 (y + 3).toNatClampNeg)) h (v, h1) e1) (fun r hr => ?_)
  subst hr
  refine ab_Ex.blk (k := 5) (pc' := 1318) (lv' := [(0, .ref 3000001), (1, .ref 0), (2, .ref 64), (3, .int y)]) (st' := [.int (y + 1), .ref 3000001, .ref 64, .int v]) (sh' := ab_SH) (D' := ab_dD h1) (fun n => rfl) ?_
  refine ab_Ex.grd (c := (y + 1) < 0 ∨ X.1 ≤ (y + 1).toNatClampNeg) (S := (1319, [(0, .ref 3000001), (1, .ref 0), (2, .ref 64), (3, .int y)], [.int (X.2 (y + 1).toNatClampNeg), .ref 64, .int v], ab_dD h1)) (fun n => rfl) hy.2.1 ?_
  refine ab_Ex.blk (k := 4) (pc' := 1323) (lv' := [(0, .ref 3000001), (1, .ref 0), (2, .ref 64), (3, .int y)]) (st' := [.int (y + 2), .ref 3000001, .int (X.2 (y + 1).toNatClampNeg), .ref 64, .int v]) (sh' := ab_SH) (D' := ab_dD h1) (fun n => rfl) ?_
  refine ab_Ex.grd (c := (y + 2) < 0 ∨ X.1 ≤ (y + 2).toNatClampNeg) (S := (1324, [(0, .ref 3000001), (1, .ref 0), (2, .ref 64), (3, .int y)], [.int (X.2 (y + 2).toNatClampNeg), .int (X.2 (y + 1).toNatClampNeg), .ref 64, .int v], ab_dD h1)) (fun n => rfl) hy.2.2.1 ?_
  refine ab_Ex.blk (k := 4) (pc' := 1328) (lv' := [(0, .ref 3000001), (1, .ref 0), (2, .ref 64), (3, .int y)]) (st' := [.int (y + 3), .ref 3000001, .int (X.2 (y + 2).toNatClampNeg), .int (X.2 (y + 1).toNatClampNeg), .ref 64, .int v]) (sh' := ab_SH) (D' := ab_dD h1) (fun n => rfl) ?_
  refine ab_Ex.grd (c := (y + 3) < 0 ∨ X.1 ≤ (y + 3).toNatClampNeg) (S := (1329, [(0, .ref 3000001), (1, .ref 0), (2, .ref 64), (3, .int y)], [.int (X.2 (y + 3).toNatClampNeg), .int (X.2 (y + 2).toNatClampNeg), .int (X.2 (y + 1).toNatClampNeg), .ref 64, .int v], ab_dD h1)) (fun n => rfl) hy.2.2.2.1 ?_
  refine ab_Ex.call (d := 999) (M2 := 294) (as := [.ref 64, .int (X.2 (y + 1).toNatClampNeg), .int (X.2 (y + 2).toNatClampNeg), .int (X.2 (y + 3).toNatClampNeg)]) (rest := [.int v]) (fun n => rfl) rfl (Nat.not_lt.mpr (Nat.le_of_ble_eq_true rfl)) (sX12_numbers 998 X ((X.2 (y + 1).toNatClampNeg)) ((X.2 (y + 2).toNatClampNeg)) ((X.2 (y + 3).toNatClampNeg)) h1 (v, h2) e2) (fun r hr => ?_)
  subst hr
  exact ab_Ex.ifc (c := v = v) (SA := (1503, [(0, .ref 3000001), (1, .ref 0), (2, .ref 64), (3, .int y)], [], ab_dD h2)) (SB := (1335, [(0, .ref 3000001), (1, .ref 0), (2, .ref 64), (3, .int y)], [], ab_dD h2)) (fun n => rfl) (fun _ => g h2 hI2) (fun c => absurd rfl c)
set_option maxRecDepth 20000 in
theorem law_38 (X : abX) (y : Int32) (h : abJ) {R : abR → Prop} (hy : ab_y X y) (hI : ab_I h) (g : ∀ h', ab_I h' → ab_Ex X 1000 320 1503 [(0, .ref 3000001), (1, .ref 0), (2, .ref 64), (3, .int y)] [] ab_SH (ab_dD h') R) : ab_Ex X 1000 320 1337 [(0, .ref 3000001), (1, .ref 0), (2, .ref 64), (3, .int y)] [] ab_SH (ab_dD h) R := by
  obtain ⟨v, h1, h2, e1, e2, hI2⟩ := law_call (call_write ((X.2 (y + 1).toNatClampNeg)) ((X.2 (y + 2).toNatClampNeg)) (((((X.2 (y + 3).toNatClampNeg)).toInt64 <<< ((32 : Int32).toInt64 &&& 63)) ||| (((X.2 (y + 4).toNatClampNeg)).toInt64 &&& 4294967295)))) hI
  refine ab_Ex.blk (k := 5) (pc' := 1342) (lv' := [(0, .ref 3000001), (1, .ref 0), (2, .ref 64), (3, .int y)]) (st' := [.int (y + 1), .ref 3000001, .ref 0]) (sh' := ab_SH) (D' := ab_dD h) (fun n => rfl) ?_
  refine ab_Ex.grd (c := (y + 1) < 0 ∨ X.1 ≤ (y + 1).toNatClampNeg) (S := (1343, [(0, .ref 3000001), (1, .ref 0), (2, .ref 64), (3, .int y)], [.int (X.2 (y + 1).toNatClampNeg), .ref 0], ab_dD h)) (fun n => rfl) hy.2.1 ?_
  refine ab_Ex.blk (k := 4) (pc' := 1347) (lv' := [(0, .ref 3000001), (1, .ref 0), (2, .ref 64), (3, .int y)]) (st' := [.int (y + 2), .ref 3000001, .int (X.2 (y + 1).toNatClampNeg), .ref 0]) (sh' := ab_SH) (D' := ab_dD h) (fun n => rfl) ?_
  refine ab_Ex.grd (c := (y + 2) < 0 ∨ X.1 ≤ (y + 2).toNatClampNeg) (S := (1348, [(0, .ref 3000001), (1, .ref 0), (2, .ref 64), (3, .int y)], [.int (X.2 (y + 2).toNatClampNeg), .int (X.2 (y + 1).toNatClampNeg), .ref 0], ab_dD h)) (fun n => rfl) hy.2.2.1 ?_
  refine ab_Ex.blk (k := 4) (pc' := 1352) (lv' := [(0, .ref 3000001), (1, .ref 0), (2, .ref 64), (3, .int y)]) (st' := [.int (y + 3), .ref 3000001, .int (X.2 (y + 2).toNatClampNeg), .int (X.2 (y + 1).toNatClampNeg), .ref 0]) (sh' := ab_SH) (D' := ab_dD h) (fun n => rfl) ?_
  refine ab_Ex.grd (c := (y + 3) < 0 ∨ X.1 ≤ (y + 3).toNatClampNeg) (S := (1353, [(0, .ref 3000001), (1, .ref 0), (2, .ref 64), (3, .int y)], [.int (X.2 (y + 3).toNatClampNeg), .int (X.2 (y + 2).toNatClampNeg), .int (X.2 (y + 1).toNatClampNeg), .ref 0], ab_dD h)) (fun n => rfl) hy.2.2.2.1 ?_
  refine ab_Ex.blk (k := 7) (pc' := 1361) (lv' := [(0, .ref 3000001), (1, .ref 0), (2, .ref 64), (3, .int y)]) (st' := [.int (y + 4), .ref 3000001, .long (((X.2 (y + 3).toNatClampNeg)).toInt64 <<< ((32 : Int32).toInt64 &&& 63)), .int (X.2 (y + 2).toNatClampNeg), .int (X.2 (y + 1).toNatClampNeg), .ref 0]) (sh' := ab_SH) (D' := ab_dD h) (fun n => rfl) ?_
  refine ab_Ex.grd (c := (y + 4) < 0 ∨ X.1 ≤ (y + 4).toNatClampNeg) (S := (1362, [(0, .ref 3000001), (1, .ref 0), (2, .ref 64), (3, .int y)], [.int (X.2 (y + 4).toNatClampNeg), .long (((X.2 (y + 3).toNatClampNeg)).toInt64 <<< ((32 : Int32).toInt64 &&& 63)), .int (X.2 (y + 2).toNatClampNeg), .int (X.2 (y + 1).toNatClampNeg), .ref 0], ab_dD h)) (fun n => rfl) hy.2.2.2.2.1 ?_
  refine ab_Ex.blk (k := 4) (pc' := 1368) (lv' := [(0, .ref 3000001), (1, .ref 0), (2, .ref 64), (3, .int y)]) (st' := [.long ((((X.2 (y + 3).toNatClampNeg)).toInt64 <<< ((32 : Int32).toInt64 &&& 63)) ||| (((X.2 (y + 4).toNatClampNeg)).toInt64 &&& 4294967295)), .int (X.2 (y + 2).toNatClampNeg), .int (X.2 (y + 1).toNatClampNeg), .ref 0]) (sh' := ab_SH) (D' := ab_dD h) (fun n => rfl) ?_
  refine ab_Ex.call (d := 999) (M2 := 164) (as := [.ref 0, .int (X.2 (y + 1).toNatClampNeg), .int (X.2 (y + 2).toNatClampNeg), .long ((((X.2 (y + 3).toNatClampNeg)).toInt64 <<< ((32 : Int32).toInt64 &&& 63)) ||| (((X.2 (y + 4).toNatClampNeg)).toInt64 &&& 4294967295))]) (rest := []) (fun n => rfl) rfl (Nat.not_lt.mpr (Nat.le_of_ble_eq_true rfl)) (sX11_write 997 X ((X.2 (y + 1).toNatClampNeg)) ((X.2 (y + 2).toNatClampNeg)) (((((X.2 (y + 3).toNatClampNeg)).toInt64 <<< ((32 : Int32).toInt64 &&& 63)) ||| (((X.2 (y + 4).toNatClampNeg)).toInt64 &&& 4294967295))) h (v, h1) e1) (fun r hr => ?_)
  subst hr
  refine ab_Ex.blk (k := 5) (pc' := 1376) (lv' := [(0, .ref 3000001), (1, .ref 0), (2, .ref 64), (3, .int y)]) (st' := [.int (y + 1), .ref 3000001, .ref 64, .long v]) (sh' := ab_SH) (D' := ab_dD h1) (fun n => rfl) ?_
  refine ab_Ex.grd (c := (y + 1) < 0 ∨ X.1 ≤ (y + 1).toNatClampNeg) (S := (1377, [(0, .ref 3000001), (1, .ref 0), (2, .ref 64), (3, .int y)], [.int (X.2 (y + 1).toNatClampNeg), .ref 64, .long v], ab_dD h1)) (fun n => rfl) hy.2.1 ?_
  refine ab_Ex.blk (k := 4) (pc' := 1381) (lv' := [(0, .ref 3000001), (1, .ref 0), (2, .ref 64), (3, .int y)]) (st' := [.int (y + 2), .ref 3000001, .int (X.2 (y + 1).toNatClampNeg), .ref 64, .long v]) (sh' := ab_SH) (D' := ab_dD h1) (fun n => rfl) ?_
  refine ab_Ex.grd (c := (y + 2) < 0 ∨ X.1 ≤ (y + 2).toNatClampNeg) (S := (1382, [(0, .ref 3000001), (1, .ref 0), (2, .ref 64), (3, .int y)], [.int (X.2 (y + 2).toNatClampNeg), .int (X.2 (y + 1).toNatClampNeg), .ref 64, .long v], ab_dD h1)) (fun n => rfl) hy.2.2.1 ?_
  refine ab_Ex.blk (k := 4) (pc' := 1386) (lv' := [(0, .ref 3000001), (1, .ref 0), (2, .ref 64), (3, .int y)]) (st' := [.int (y + 3), .ref 3000001, .int (X.2 (y + 2).toNatClampNeg), .int (X.2 (y + 1).toNatClampNeg), .ref 64, .long v]) (sh' := ab_SH) (D' := ab_dD h1) (fun n => rfl) ?_
  refine ab_Ex.grd (c := (y + 3) < 0 ∨ X.1 ≤ (y + 3).toNatClampNeg) (S := (1387, [(0, .ref 3000001), (1, .ref 0), (2, .ref 64), (3, .int y)], [.int (X.2 (y + 3).toNatClampNeg), .int (X.2 (y + 2).toNatClampNeg), .int (X.2 (y + 1).toNatClampNeg), .ref 64, .long v], ab_dD h1)) (fun n => rfl) hy.2.2.2.1 ?_
  refine ab_Ex.blk (k := 7) (pc' := 1395) (lv' := [(0, .ref 3000001), (1, .ref 0), (2, .ref 64), (3, .int y)]) (st' := [.int (y + 4), .ref 3000001, .long (((X.2 (y + 3).toNatClampNeg)).toInt64 <<< ((32 : Int32).toInt64 &&& 63)), .int (X.2 (y + 2).toNatClampNeg), .int (X.2 (y + 1).toNatClampNeg), .ref 64, .long v]) (sh' := ab_SH) (D' := ab_dD h1) (fun n => rfl) ?_
  refine ab_Ex.grd (c := (y + 4) < 0 ∨ X.1 ≤ (y + 4).toNatClampNeg) (S := (1396, [(0, .ref 3000001), (1, .ref 0), (2, .ref 64), (3, .int y)], [.int (X.2 (y + 4).toNatClampNeg), .long (((X.2 (y + 3).toNatClampNeg)).toInt64 <<< ((32 : Int32).toInt64 &&& 63)), .int (X.2 (y + 2).toNatClampNeg), .int (X.2 (y + 1).toNatClampNeg), .ref 64, .long v], ab_dD h1)) (fun n => rfl) hy.2.2.2.2.1 ?_
  refine ab_Ex.blk (k := 4) (pc' := 1402) (lv' := [(0, .ref 3000001), (1, .ref 0), (2, .ref 64), (3, .int y)]) (st' := [.long ((((X.2 (y + 3).toNatClampNeg)).toInt64 <<< ((32 : Int32).toInt64 &&& 63)) ||| (((X.2 (y + 4).toNatClampNeg)).toInt64 &&& 4294967295)), .int (X.2 (y + 2).toNatClampNeg), .int (X.2 (y + 1).toNatClampNeg), .ref 64, .long v]) (sh' := ab_SH) (D' := ab_dD h1) (fun n => rfl) ?_
  refine ab_Ex.call (d := 999) (M2 := 295) (as := [.ref 64, .int (X.2 (y + 1).toNatClampNeg), .int (X.2 (y + 2).toNatClampNeg), .long ((((X.2 (y + 3).toNatClampNeg)).toInt64 <<< ((32 : Int32).toInt64 &&& 63)) ||| (((X.2 (y + 4).toNatClampNeg)).toInt64 &&& 4294967295))]) (rest := [.long v]) (fun n => rfl) rfl (Nat.not_lt.mpr (Nat.le_of_ble_eq_true rfl)) (sX12_write 997 X ((X.2 (y + 1).toNatClampNeg)) ((X.2 (y + 2).toNatClampNeg)) (((((X.2 (y + 3).toNatClampNeg)).toInt64 <<< ((32 : Int32).toInt64 &&& 63)) ||| (((X.2 (y + 4).toNatClampNeg)).toInt64 &&& 4294967295))) h1 (v, h2) e2) (fun r hr => ?_)
  subst hr
  refine ab_Ex.blk (k := 1) (pc' := 1406) (lv' := [(0, .ref 3000001), (1, .ref 0), (2, .ref 64), (3, .int y)]) (st' := [.int (lg_cmp v v)]) (sh' := ab_SH) (D' := ab_dD h2) (fun n => rfl) ?_
  exact ab_Ex.ifc (c := lg_cmp v v = 0) (SA := (1503, [(0, .ref 3000001), (1, .ref 0), (2, .ref 64), (3, .int y)], [], ab_dD h2)) (SB := (1409, [(0, .ref 3000001), (1, .ref 0), (2, .ref 64), (3, .int y)], [], ab_dD h2)) (fun n => rfl) (fun _ => g h2 hI2) (fun c => absurd (cmp_vv v) c)
set_option maxRecDepth 20000 in
theorem law_39 (X : abX) (y : Int32) (h : abJ) {R : abR → Prop} (hy : ab_y X y) (hI : ab_I h) (g : ∀ h', ab_I h' → ab_Ex X 1000 320 1503 [(0, .ref 3000001), (1, .ref 0), (2, .ref 64), (3, .int y)] [] ab_SH (ab_dD h') R) : ab_Ex X 1000 320 1411 [(0, .ref 3000001), (1, .ref 0), (2, .ref 64), (3, .int y)] [] ab_SH (ab_dD h) R := by
  obtain ⟨v, h1, h2, e1, e2, hI2⟩ := law_call (call_lists ((X.2 (y + 1).toNatClampNeg))) hI
  refine ab_Ex.blk (k := 5) (pc' := 1416) (lv' := [(0, .ref 3000001), (1, .ref 0), (2, .ref 64), (3, .int y)]) (st' := [.int (y + 1), .ref 3000001, .ref 0]) (sh' := ab_SH) (D' := ab_dD h) (fun n => rfl) ?_
  refine ab_Ex.grd (c := (y + 1) < 0 ∨ X.1 ≤ (y + 1).toNatClampNeg) (S := (1417, [(0, .ref 3000001), (1, .ref 0), (2, .ref 64), (3, .int y)], [.int (X.2 (y + 1).toNatClampNeg), .ref 0], ab_dD h)) (fun n => rfl) hy.2.1 ?_
  refine ab_Ex.call (d := 999) (M2 := 165) (as := [.ref 0, .int (X.2 (y + 1).toNatClampNeg)]) (rest := []) (fun n => rfl) rfl (Nat.not_lt.mpr (Nat.le_of_ble_eq_true rfl)) (sX11_lists 995 X ((X.2 (y + 1).toNatClampNeg)) h (v, h1) e1) (fun r hr => ?_)
  subst hr
  refine ab_Ex.blk (k := 5) (pc' := 1425) (lv' := [(0, .ref 3000001), (1, .ref 0), (2, .ref 64), (3, .int y)]) (st' := [.int (y + 1), .ref 3000001, .ref 64, .int v]) (sh' := ab_SH) (D' := ab_dD h1) (fun n => rfl) ?_
  refine ab_Ex.grd (c := (y + 1) < 0 ∨ X.1 ≤ (y + 1).toNatClampNeg) (S := (1426, [(0, .ref 3000001), (1, .ref 0), (2, .ref 64), (3, .int y)], [.int (X.2 (y + 1).toNatClampNeg), .ref 64, .int v], ab_dD h1)) (fun n => rfl) hy.2.1 ?_
  refine ab_Ex.call (d := 999) (M2 := 296) (as := [.ref 64, .int (X.2 (y + 1).toNatClampNeg)]) (rest := [.int v]) (fun n => rfl) rfl (Nat.not_lt.mpr (Nat.le_of_ble_eq_true rfl)) (sX12_lists 994 X ((X.2 (y + 1).toNatClampNeg)) h1 (v, h2) e2) (fun r hr => ?_)
  subst hr
  exact ab_Ex.ifc (c := v = v) (SA := (1503, [(0, .ref 3000001), (1, .ref 0), (2, .ref 64), (3, .int y)], [], ab_dD h2)) (SB := (1432, [(0, .ref 3000001), (1, .ref 0), (2, .ref 64), (3, .int y)], [], ab_dD h2)) (fun n => rfl) (fun _ => g h2 hI2) (fun c => absurd rfl c)
set_option maxRecDepth 20000 in
theorem law_40 (X : abX) (y : Int32) (h : abJ) {R : abR → Prop} (hy : ab_y X y) (hI : ab_I h) (g : ∀ h', ab_I h' → ab_Ex X 1000 320 1503 [(0, .ref 3000001), (1, .ref 0), (2, .ref 64), (3, .int y)] [] ab_SH (ab_dD h') R) : ab_Ex X 1000 320 1434 [(0, .ref 3000001), (1, .ref 0), (2, .ref 64), (3, .int y)] [] ab_SH (ab_dD h) R := by
  obtain ⟨v, h1, h2, e1, e2, hI2⟩ := law_call (call_image ((X.2 (y + 1).toNatClampNeg))) hI
  refine ab_Ex.blk (k := 5) (pc' := 1439) (lv' := [(0, .ref 3000001), (1, .ref 0), (2, .ref 64), (3, .int y)]) (st' := [.int (y + 1), .ref 3000001, .ref 0]) (sh' := ab_SH) (D' := ab_dD h) (fun n => rfl) ?_
  refine ab_Ex.grd (c := (y + 1) < 0 ∨ X.1 ≤ (y + 1).toNatClampNeg) (S := (1440, [(0, .ref 3000001), (1, .ref 0), (2, .ref 64), (3, .int y)], [.int (X.2 (y + 1).toNatClampNeg), .ref 0], ab_dD h)) (fun n => rfl) hy.2.1 ?_
  refine ab_Ex.call (d := 999) (M2 := 166) (as := [.ref 0, .int (X.2 (y + 1).toNatClampNeg)]) (rest := []) (fun n => rfl) rfl (Nat.not_lt.mpr (Nat.le_of_ble_eq_true rfl)) (sX11_image 998 X ((X.2 (y + 1).toNatClampNeg)) h (v, h1) e1) (fun r hr => ?_)
  subst hr
  refine ab_Ex.blk (k := 5) (pc' := 1448) (lv' := [(0, .ref 3000001), (1, .ref 0), (2, .ref 64), (3, .int y)]) (st' := [.int (y + 1), .ref 3000001, .ref 64, .int v]) (sh' := ab_SH) (D' := ab_dD h1) (fun n => rfl) ?_
  refine ab_Ex.grd (c := (y + 1) < 0 ∨ X.1 ≤ (y + 1).toNatClampNeg) (S := (1449, [(0, .ref 3000001), (1, .ref 0), (2, .ref 64), (3, .int y)], [.int (X.2 (y + 1).toNatClampNeg), .ref 64, .int v], ab_dD h1)) (fun n => rfl) hy.2.1 ?_
  refine ab_Ex.call (d := 999) (M2 := 297) (as := [.ref 64, .int (X.2 (y + 1).toNatClampNeg)]) (rest := [.int v]) (fun n => rfl) rfl (Nat.not_lt.mpr (Nat.le_of_ble_eq_true rfl)) (sX12_image 998 X ((X.2 (y + 1).toNatClampNeg)) h1 (v, h2) e2) (fun r hr => ?_)
  subst hr
  exact ab_Ex.ifc (c := v = v) (SA := (1503, [(0, .ref 3000001), (1, .ref 0), (2, .ref 64), (3, .int y)], [], ab_dD h2)) (SB := (1455, [(0, .ref 3000001), (1, .ref 0), (2, .ref 64), (3, .int y)], [], ab_dD h2)) (fun n => rfl) (fun _ => g h2 hI2) (fun c => absurd rfl c)
set_option maxRecDepth 20000 in
theorem law_41 (X : abX) (y : Int32) (h : abJ) {R : abR → Prop} (hy : ab_y X y) (hI : ab_I h) (g : ∀ h', ab_I h' → ab_Ex X 1000 320 1503 [(0, .ref 3000001), (1, .ref 0), (2, .ref 64), (3, .int y)] [] ab_SH (ab_dD h') R) : ab_Ex X 1000 320 1457 [(0, .ref 3000001), (1, .ref 0), (2, .ref 64), (3, .int y)] [] ab_SH (ab_dD h) R := by
  obtain ⟨v, h1, h2, e1, e2, hI2⟩ := law_call (call_restore ((X.2 (y + 1).toNatClampNeg))) hI
  refine ab_Ex.blk (k := 5) (pc' := 1462) (lv' := [(0, .ref 3000001), (1, .ref 0), (2, .ref 64), (3, .int y)]) (st' := [.int (y + 1), .ref 3000001, .ref 0]) (sh' := ab_SH) (D' := ab_dD h) (fun n => rfl) ?_
  refine ab_Ex.grd (c := (y + 1) < 0 ∨ X.1 ≤ (y + 1).toNatClampNeg) (S := (1463, [(0, .ref 3000001), (1, .ref 0), (2, .ref 64), (3, .int y)], [.int (X.2 (y + 1).toNatClampNeg), .ref 0], ab_dD h)) (fun n => rfl) hy.2.1 ?_
  refine ab_Ex.call (d := 999) (M2 := 167) (as := [.ref 0, .int (X.2 (y + 1).toNatClampNeg)]) (rest := []) (fun n => rfl) rfl (Nat.not_lt.mpr (Nat.le_of_ble_eq_true rfl)) (sX11_restore 995 X ((X.2 (y + 1).toNatClampNeg)) h (v, h1) e1) (fun r hr => ?_)
  subst hr
  refine ab_Ex.blk (k := 5) (pc' := 1471) (lv' := [(0, .ref 3000001), (1, .ref 0), (2, .ref 64), (3, .int y)]) (st' := [.int (y + 1), .ref 3000001, .ref 64, .int v]) (sh' := ab_SH) (D' := ab_dD h1) (fun n => rfl) ?_
  refine ab_Ex.grd (c := (y + 1) < 0 ∨ X.1 ≤ (y + 1).toNatClampNeg) (S := (1472, [(0, .ref 3000001), (1, .ref 0), (2, .ref 64), (3, .int y)], [.int (X.2 (y + 1).toNatClampNeg), .ref 64, .int v], ab_dD h1)) (fun n => rfl) hy.2.1 ?_
  refine ab_Ex.call (d := 999) (M2 := 298) (as := [.ref 64, .int (X.2 (y + 1).toNatClampNeg)]) (rest := [.int v]) (fun n => rfl) rfl (Nat.not_lt.mpr (Nat.le_of_ble_eq_true rfl)) (sX12_restore 998 X ((X.2 (y + 1).toNatClampNeg)) h1 (v, h2) e2) (fun r hr => ?_)
  subst hr
  exact ab_Ex.ifc (c := v = v) (SA := (1503, [(0, .ref 3000001), (1, .ref 0), (2, .ref 64), (3, .int y)], [], ab_dD h2)) (SB := (1478, [(0, .ref 3000001), (1, .ref 0), (2, .ref 64), (3, .int y)], [], ab_dD h2)) (fun n => rfl) (fun _ => g h2 hI2) (fun c => absurd rfl c)
set_option maxRecDepth 20000 in
theorem law_42 (X : abX) (y : Int32) (h : abJ) {R : abR → Prop} (hy : ab_y X y) (hI : ab_I h) (g : ∀ h', ab_I h' → ab_Ex X 1000 320 1503 [(0, .ref 3000001), (1, .ref 0), (2, .ref 64), (3, .int y)] [] ab_SH (ab_dD h') R) : ab_Ex X 1000 320 1480 [(0, .ref 3000001), (1, .ref 0), (2, .ref 64), (3, .int y)] [] ab_SH (ab_dD h) R := by
  obtain ⟨v, h1, h2, e1, e2, hI2⟩ := law_call (call_count ((X.2 (y + 1).toNatClampNeg))) hI
  obtain ⟨e1, e3⟩ := pure1_s e1
  rw [e3] at e2
  refine ab_Ex.blk (k := 5) (pc' := 1485) (lv' := [(0, .ref 3000001), (1, .ref 0), (2, .ref 64), (3, .int y)]) (st' := [.int (y + 1), .ref 3000001, .ref 0]) (sh' := ab_SH) (D' := ab_dD h) (fun n => rfl) ?_
  refine ab_Ex.grd (c := (y + 1) < 0 ∨ X.1 ≤ (y + 1).toNatClampNeg) (S := (1486, [(0, .ref 3000001), (1, .ref 0), (2, .ref 64), (3, .int y)], [.int (X.2 (y + 1).toNatClampNeg), .ref 0], ab_dD h)) (fun n => rfl) hy.2.1 ?_
  refine ab_Ex.call (d := 999) (M2 := 168) (as := [.ref 0, .int (X.2 (y + 1).toNatClampNeg)]) (rest := []) (fun n => rfl) rfl (Nat.not_lt.mpr (Nat.le_of_ble_eq_true rfl)) (sX11_count 997 X ((X.2 (y + 1).toNatClampNeg)) h v e1) (fun r hr => ?_)
  subst hr
  refine ab_Ex.blk (k := 5) (pc' := 1494) (lv' := [(0, .ref 3000001), (1, .ref 0), (2, .ref 64), (3, .int y)]) (st' := [.int (y + 1), .ref 3000001, .ref 64, .int v]) (sh' := ab_SH) (D' := ab_dD h) (fun n => rfl) ?_
  refine ab_Ex.grd (c := (y + 1) < 0 ∨ X.1 ≤ (y + 1).toNatClampNeg) (S := (1495, [(0, .ref 3000001), (1, .ref 0), (2, .ref 64), (3, .int y)], [.int (X.2 (y + 1).toNatClampNeg), .ref 64, .int v], ab_dD h)) (fun n => rfl) hy.2.1 ?_
  refine ab_Ex.call (d := 999) (M2 := 299) (as := [.ref 64, .int (X.2 (y + 1).toNatClampNeg)]) (rest := [.int v]) (fun n => rfl) rfl (Nat.not_lt.mpr (Nat.le_of_ble_eq_true rfl)) (sX12_count 997 X ((X.2 (y + 1).toNatClampNeg)) h (v, h2) e2) (fun r hr => ?_)
  subst hr
  exact ab_Ex.ifc (c := v = v) (SA := (1503, [(0, .ref 3000001), (1, .ref 0), (2, .ref 64), (3, .int y)], [], ab_dD h2)) (SB := (1501, [(0, .ref 3000001), (1, .ref 0), (2, .ref 64), (3, .int y)], [], ab_dD h2)) (fun n => rfl) (fun _ => g h2 hI2) (fun c => absurd rfl c)
theorem y_lt {L i : Nat} (hL : L < 2 ^ 30) (hi : i < 2 ^ 30) : (Int32.ofNat L - 6 < nI i) ↔ L < i + 6 := by
  rw [show Int32.ofNat L = nI L from rfl, show (6 : Int32) = nI 6 from rfl]
  by_cases c : 6 ≤ L
  · rw [pk_sub c, nI_ltI (by omega) (by omega)]; omega
  · have e : nI L - nI 6 = -nI (6 - L) := by
      have cs : L = 0 ∨ L = 1 ∨ L = 2 ∨ L = 3 ∨ L = 4 ∨ L = 5 := by omega
      rcases cs with e | e | e | e | e | e <;> subst e <;> decide
    rw [e, ab_n_lt' (by omega) (by omega) (by omega)]
    exact iff_of_true trivial (by omega)
theorem y_ok {X : abX} {i : Nat} (hL : X.1 ≤ 3072) (hi : i + 6 ≤ X.1) : ab_y X (nI i) := by
  have g : ∀ k, k < 6 → ¬ (nI (i + k) < 0 ∨ X.1 ≤ (nI (i + k)).toNatClampNeg) := fun k hk => by
    rw [nI_clamp (by omega)]
    rintro (w | w)
    · exact nI_pos (by omega) w
    · omega
  have e : ∀ k, nI i + nI k = nI (i + k) := fun k => nI_add i k
  refine ⟨g 0 (by omega), ?_, ?_, ?_, ?_, ?_⟩
  · rw [show (1 : Int32) = nI 1 from rfl, e]; exact g 1 (by omega)
  · rw [show (2 : Int32) = nI 2 from rfl, e]; exact g 2 (by omega)
  · rw [show (3 : Int32) = nI 3 from rfl, e]; exact g 3 (by omega)
  · rw [show (4 : Int32) = nI 4 from rfl, e]; exact g 4 (by omega)
  · rw [show (5 : Int32) = nI 5 from rfl, e]; exact g 5 (by omega)
theorem and63 (a : Int32) : ∃ j, j < 64 ∧ a &&& 63 = nI j := by
  refine ⟨(a.toBitVec.toNat) % 64, Nat.mod_lt _ (by omega), ?_⟩
  apply Int32.toBitVec_inj.mp
  show a.toBitVec &&& 63#32 = BitVec.ofNat 32 (a.toBitVec.toNat % 64)
  apply BitVec.eq_of_toNat_eq
  rw [BitVec.toNat_and, BitVec.toNat_ofNat, BitVec.toNat_ofNat, Nat.mod_eq_of_lt (show a.toBitVec.toNat % 64 < 2 ^ 32 by omega), show 63 % 2 ^ 32 = 2 ^ 6 - 1 from rfl, Nat.and_two_pow_sub_one_eq_mod]
set_option maxRecDepth 20000 in
theorem law_loop (X : abX) (hL : X.1 ≤ 3072) : ∀ (k i : Nat) (h : abJ), X.1 < i + 6 * k → i ≤ 3072 → ab_I h → ab_Ex X 1000 320 18 [(0, .ref 3000001), (1, .ref 0), (2, .ref 64), (3, .int (nI i))] [] ab_SH (ab_dD h) (fun r => r.1 = some (.int 1) ∧ r.2.1 = ab_SH) := by
  intro k
  have go : ∀ (i : Nat) (h : abJ), i ≤ 3072 → ab_I h → (i + 6 ≤ X.1 → ∀ h', ab_I h' → ab_Ex X 1000 320 18 [(0, .ref 3000001), (1, .ref 0), (2, .ref 64), (3, .int (nI (i + 6)))] [] ab_SH (ab_dD h') (fun r => r.1 = some (.int 1) ∧ r.2.1 = ab_SH)) → ab_Ex X 1000 320 18 [(0, .ref 3000001), (1, .ref 0), (2, .ref 64), (3, .int (nI i))] [] ab_SH (ab_dD h) (fun r => r.1 = some (.int 1) ∧ r.2.1 = ab_SH) := by
    intro i h hi hI ih
    refine ab_Ex.blk (k := 5) (pc' := 24) (lv' := [(0, .ref 3000001), (1, .ref 0), (2, .ref 64), (3, .int (nI i))]) (st' := [.int (Int32.ofNat X.1 - 6), .int (nI i)]) (sh' := ab_SH) (D' := ab_dD h) (fun n => rfl) ?_
    refine ab_Ex.ifc (c := Int32.ofNat X.1 - 6 < nI i) (SA := (1509, [(0, .ref 3000001), (1, .ref 0), (2, .ref 64), (3, .int (nI i))], [], ab_dD h)) (SB := (27, [(0, .ref 3000001), (1, .ref 0), (2, .ref 64), (3, .int (nI i))], [], ab_dD h)) (fun n => rfl) (fun c => ?_) (fun c => ?_)
    · refine ab_Ex.blk (k := 1) (pc' := 1510) (lv' := [(0, .ref 3000001), (1, .ref 0), (2, .ref 64), (3, .int (nI i))]) (st' := [.int 1]) (sh' := ab_SH) (D' := ab_dD h) (fun n => rfl) ?_
      exact ab_Ex.ret (r := (some (.int 1), ab_SH, ab_dD h)) (fun n => rfl) ⟨rfl, rfl⟩
    rw [y_lt (by omega) (by omega)] at c
    have hi6 : i + 6 ≤ X.1 := by omega
    have hy := y_ok hL hi6
    have g : ∀ h', ab_I h' → ab_Ex X 1000 320 1503 [(0, .ref 3000001), (1, .ref 0), (2, .ref 64), (3, .int (nI i))] [] ab_SH (ab_dD h') (fun r => r.1 = some (.int 1) ∧ r.2.1 = ab_SH) := by
      intro h' hI'
      refine ab_Ex.blk (k := 2) (pc' := 18) (lv' := [(0, .ref 3000001), (1, .ref 0), (2, .ref 64), (3, .int (nI i + 6))]) (st' := []) (sh' := ab_SH) (D' := ab_dD h') (fun n => rfl) ?_
      rw [show nI i + 6 = nI (i + 6) from nI_add i 6]
      exact ih hi6 h' hI'
    refine ab_Ex.blk (k := 2) (pc' := 29) (lv' := [(0, .ref 3000001), (1, .ref 0), (2, .ref 64), (3, .int (nI i))]) (st' := [.int (nI i), .ref 3000001]) (sh' := ab_SH) (D' := ab_dD h) (fun n => rfl) ?_
    refine ab_Ex.grd (c := nI i < 0 ∨ X.1 ≤ (nI i).toNatClampNeg) (S := (30, [(0, .ref 3000001), (1, .ref 0), (2, .ref 64), (3, .int (nI i))], [.int (X.2 (nI i).toNatClampNeg)], ab_dD h)) (fun n => rfl) hy.1 ?_
    refine ab_Ex.blk (k := 2) (pc' := 33) (lv' := [(0, .ref 3000001), (1, .ref 0), (2, .ref 64), (3, .int (nI i))]) (st' := [.int (X.2 (nI i).toNatClampNeg &&& 63)]) (sh' := ab_SH) (D' := ab_dD h) (fun n => rfl) ?_
    obtain ⟨j, hj, ej⟩ := and63 (X.2 (nI i).toNatClampNeg)
    rw [ej]
    by_cases h43 : 43 ≤ j
    · exact ab_Ex.tsw (c := (nI j).toInt < 0 ∨ 42 < (nI j).toInt) (S := (1503, [(0, .ref 3000001), (1, .ref 0), (2, .ref 64), (3, .int (nI i))], [], ab_dD h)) (fun n => rfl) (by rw [nI_toInt (by omega)]; omega) (g h hI)
    have cs : j = 0 ∨ j = 1 ∨ j = 2 ∨ j = 3 ∨ j = 4 ∨ j = 5 ∨ j = 6 ∨ j = 7 ∨ j = 8 ∨ j = 9 ∨ j = 10 ∨ j = 11 ∨ j = 12 ∨ j = 13 ∨ j = 14 ∨ j = 15 ∨ j = 16 ∨ j = 17 ∨ j = 18 ∨ j = 19 ∨ j = 20 ∨ j = 21 ∨ j = 22 ∨ j = 23 ∨ j = 24 ∨ j = 25 ∨ j = 26 ∨ j = 27 ∨ j = 28 ∨ j = 29 ∨ j = 30 ∨ j = 31 ∨ j = 32 ∨ j = 33 ∨ j = 34 ∨ j = 35 ∨ j = 36 ∨ j = 37 ∨ j = 38 ∨ j = 39 ∨ j = 40 ∨ j = 41 ∨ j = 42 := by omega
    rcases cs with e | e | e | e | e | e | e | e | e | e | e | e | e | e | e | e | e | e | e | e | e | e | e | e | e | e | e | e | e | e | e | e | e | e | e | e | e | e | e | e | e | e | e <;> subst e
    · exact ab_Ex.blk (k := 1) (pc' := 220) (lv' := [(0, .ref 3000001), (1, .ref 0), (2, .ref 64), (3, .int (nI i))]) (st' := []) (sh' := ab_SH) (D' := ab_dD h) (fun n => rfl) (law_0 X (nI i) h hy hI g)
    · exact ab_Ex.blk (k := 1) (pc' := 283) (lv' := [(0, .ref 3000001), (1, .ref 0), (2, .ref 64), (3, .int (nI i))]) (st' := []) (sh' := ab_SH) (D' := ab_dD h) (fun n => rfl) (law_1 X (nI i) h hy hI g)
    · exact ab_Ex.blk (k := 1) (pc' := 306) (lv' := [(0, .ref 3000001), (1, .ref 0), (2, .ref 64), (3, .int (nI i))]) (st' := []) (sh' := ab_SH) (D' := ab_dD h) (fun n => rfl) (law_2 X (nI i) h hy hI g)
    · exact ab_Ex.blk (k := 1) (pc' := 329) (lv' := [(0, .ref 3000001), (1, .ref 0), (2, .ref 64), (3, .int (nI i))]) (st' := []) (sh' := ab_SH) (D' := ab_dD h) (fun n => rfl) (law_3 X (nI i) h hy hI g)
    · exact ab_Ex.blk (k := 1) (pc' := 362) (lv' := [(0, .ref 3000001), (1, .ref 0), (2, .ref 64), (3, .int (nI i))]) (st' := []) (sh' := ab_SH) (D' := ab_dD h) (fun n => rfl) (law_4 X (nI i) h hy hI g)
    · exact ab_Ex.blk (k := 1) (pc' := 395) (lv' := [(0, .ref 3000001), (1, .ref 0), (2, .ref 64), (3, .int (nI i))]) (st' := []) (sh' := ab_SH) (D' := ab_dD h) (fun n => rfl) (law_5 X (nI i) h hy hI g)
    · exact ab_Ex.blk (k := 1) (pc' := 408) (lv' := [(0, .ref 3000001), (1, .ref 0), (2, .ref 64), (3, .int (nI i))]) (st' := []) (sh' := ab_SH) (D' := ab_dD h) (fun n => rfl) (law_6 X (nI i) h hy hI g)
    · exact ab_Ex.blk (k := 1) (pc' := 431) (lv' := [(0, .ref 3000001), (1, .ref 0), (2, .ref 64), (3, .int (nI i))]) (st' := []) (sh' := ab_SH) (D' := ab_dD h) (fun n => rfl) (law_7 X (nI i) h hy hI g)
    · exact ab_Ex.blk (k := 1) (pc' := 464) (lv' := [(0, .ref 3000001), (1, .ref 0), (2, .ref 64), (3, .int (nI i))]) (st' := []) (sh' := ab_SH) (D' := ab_dD h) (fun n => rfl) (law_8 X (nI i) h hy hI g)
    · exact ab_Ex.blk (k := 1) (pc' := 487) (lv' := [(0, .ref 3000001), (1, .ref 0), (2, .ref 64), (3, .int (nI i))]) (st' := []) (sh' := ab_SH) (D' := ab_dD h) (fun n => rfl) (law_9 X (nI i) h hy hI g)
    · exact ab_Ex.blk (k := 1) (pc' := 510) (lv' := [(0, .ref 3000001), (1, .ref 0), (2, .ref 64), (3, .int (nI i))]) (st' := []) (sh' := ab_SH) (D' := ab_dD h) (fun n => rfl) (law_10 X (nI i) h hy hI g)
    · exact ab_Ex.blk (k := 1) (pc' := 533) (lv' := [(0, .ref 3000001), (1, .ref 0), (2, .ref 64), (3, .int (nI i))]) (st' := []) (sh' := ab_SH) (D' := ab_dD h) (fun n => rfl) (law_11 X (nI i) h hy hI g)
    · exact ab_Ex.blk (k := 1) (pc' := 566) (lv' := [(0, .ref 3000001), (1, .ref 0), (2, .ref 64), (3, .int (nI i))]) (st' := []) (sh' := ab_SH) (D' := ab_dD h) (fun n => rfl) (law_12 X (nI i) h hy hI g)
    · exact ab_Ex.blk (k := 1) (pc' := 589) (lv' := [(0, .ref 3000001), (1, .ref 0), (2, .ref 64), (3, .int (nI i))]) (st' := []) (sh' := ab_SH) (D' := ab_dD h) (fun n => rfl) (law_13 X (nI i) h hy hI g)
    · exact ab_Ex.blk (k := 1) (pc' := 622) (lv' := [(0, .ref 3000001), (1, .ref 0), (2, .ref 64), (3, .int (nI i))]) (st' := []) (sh' := ab_SH) (D' := ab_dD h) (fun n => rfl) (law_14 X (nI i) h hy hI g)
    · exact ab_Ex.blk (k := 1) (pc' := 675) (lv' := [(0, .ref 3000001), (1, .ref 0), (2, .ref 64), (3, .int (nI i))]) (st' := []) (sh' := ab_SH) (D' := ab_dD h) (fun n => rfl) (law_15 X (nI i) h hy hI g)
    · exact ab_Ex.blk (k := 1) (pc' := 728) (lv' := [(0, .ref 3000001), (1, .ref 0), (2, .ref 64), (3, .int (nI i))]) (st' := []) (sh' := ab_SH) (D' := ab_dD h) (fun n => rfl) (law_16 X (nI i) h hy hI g)
    · exact ab_Ex.blk (k := 1) (pc' := 792) (lv' := [(0, .ref 3000001), (1, .ref 0), (2, .ref 64), (3, .int (nI i))]) (st' := []) (sh' := ab_SH) (D' := ab_dD h) (fun n => rfl) (law_17 X (nI i) h hy hI g)
    · exact ab_Ex.blk (k := 1) (pc' := 815) (lv' := [(0, .ref 3000001), (1, .ref 0), (2, .ref 64), (3, .int (nI i))]) (st' := []) (sh' := ab_SH) (D' := ab_dD h) (fun n => rfl) (law_18 X (nI i) h hy hI g)
    · exact ab_Ex.blk (k := 1) (pc' := 838) (lv' := [(0, .ref 3000001), (1, .ref 0), (2, .ref 64), (3, .int (nI i))]) (st' := []) (sh' := ab_SH) (D' := ab_dD h) (fun n => rfl) (law_19 X (nI i) h hy hI g)
    · exact ab_Ex.blk (k := 1) (pc' := 851) (lv' := [(0, .ref 3000001), (1, .ref 0), (2, .ref 64), (3, .int (nI i))]) (st' := []) (sh' := ab_SH) (D' := ab_dD h) (fun n => rfl) (law_20 X (nI i) h hy hI g)
    · exact ab_Ex.blk (k := 1) (pc' := 874) (lv' := [(0, .ref 3000001), (1, .ref 0), (2, .ref 64), (3, .int (nI i))]) (st' := []) (sh' := ab_SH) (D' := ab_dD h) (fun n => rfl) (law_21 X (nI i) h hy hI g)
    · exact ab_Ex.blk (k := 1) (pc' := 907) (lv' := [(0, .ref 3000001), (1, .ref 0), (2, .ref 64), (3, .int (nI i))]) (st' := []) (sh' := ab_SH) (D' := ab_dD h) (fun n => rfl) (law_22 X (nI i) h hy hI g)
    · exact ab_Ex.blk (k := 1) (pc' := 940) (lv' := [(0, .ref 3000001), (1, .ref 0), (2, .ref 64), (3, .int (nI i))]) (st' := []) (sh' := ab_SH) (D' := ab_dD h) (fun n => rfl) (law_23 X (nI i) h hy hI g)
    · exact ab_Ex.blk (k := 1) (pc' := 963) (lv' := [(0, .ref 3000001), (1, .ref 0), (2, .ref 64), (3, .int (nI i))]) (st' := []) (sh' := ab_SH) (D' := ab_dD h) (fun n => rfl) (law_24 X (nI i) h hy hI g)
    · exact ab_Ex.blk (k := 1) (pc' := 986) (lv' := [(0, .ref 3000001), (1, .ref 0), (2, .ref 64), (3, .int (nI i))]) (st' := []) (sh' := ab_SH) (D' := ab_dD h) (fun n => rfl) (law_25 X (nI i) h hy hI g)
    · exact ab_Ex.blk (k := 1) (pc' := 1019) (lv' := [(0, .ref 3000001), (1, .ref 0), (2, .ref 64), (3, .int (nI i))]) (st' := []) (sh' := ab_SH) (D' := ab_dD h) (fun n => rfl) (law_26 X (nI i) h hy hI g)
    · exact ab_Ex.blk (k := 1) (pc' := 1042) (lv' := [(0, .ref 3000001), (1, .ref 0), (2, .ref 64), (3, .int (nI i))]) (st' := []) (sh' := ab_SH) (D' := ab_dD h) (fun n => rfl) (law_27 X (nI i) h hy hI g)
    · exact ab_Ex.blk (k := 1) (pc' := 1065) (lv' := [(0, .ref 3000001), (1, .ref 0), (2, .ref 64), (3, .int (nI i))]) (st' := []) (sh' := ab_SH) (D' := ab_dD h) (fun n => rfl) (law_28 X (nI i) h hy hI g)
    · exact ab_Ex.blk (k := 1) (pc' := 1088) (lv' := [(0, .ref 3000001), (1, .ref 0), (2, .ref 64), (3, .int (nI i))]) (st' := []) (sh' := ab_SH) (D' := ab_dD h) (fun n => rfl) (law_29 X (nI i) h hy hI g)
    · exact ab_Ex.blk (k := 1) (pc' := 1101) (lv' := [(0, .ref 3000001), (1, .ref 0), (2, .ref 64), (3, .int (nI i))]) (st' := []) (sh' := ab_SH) (D' := ab_dD h) (fun n => rfl) (law_30 X (nI i) h hy hI g)
    · exact ab_Ex.blk (k := 1) (pc' := 1114) (lv' := [(0, .ref 3000001), (1, .ref 0), (2, .ref 64), (3, .int (nI i))]) (st' := []) (sh' := ab_SH) (D' := ab_dD h) (fun n => rfl) (law_31 X (nI i) h hy hI g)
    · exact ab_Ex.blk (k := 1) (pc' := 1137) (lv' := [(0, .ref 3000001), (1, .ref 0), (2, .ref 64), (3, .int (nI i))]) (st' := []) (sh' := ab_SH) (D' := ab_dD h) (fun n => rfl) (law_32 X (nI i) h hy hI g)
    · exact ab_Ex.blk (k := 1) (pc' := 1181) (lv' := [(0, .ref 3000001), (1, .ref 0), (2, .ref 64), (3, .int (nI i))]) (st' := []) (sh' := ab_SH) (D' := ab_dD h) (fun n => rfl) (law_33 X (nI i) h hy hI g)
    · exact ab_Ex.blk (k := 1) (pc' := 1205) (lv' := [(0, .ref 3000001), (1, .ref 0), (2, .ref 64), (3, .int (nI i))]) (st' := []) (sh' := ab_SH) (D' := ab_dD h) (fun n => rfl) (law_34 X (nI i) h hy hI g)
    · exact ab_Ex.blk (k := 1) (pc' := 1248) (lv' := [(0, .ref 3000001), (1, .ref 0), (2, .ref 64), (3, .int (nI i))]) (st' := []) (sh' := ab_SH) (D' := ab_dD h) (fun n => rfl) (law_35 X (nI i) h hy hI g)
    · exact ab_Ex.blk (k := 1) (pc' := 1271) (lv' := [(0, .ref 3000001), (1, .ref 0), (2, .ref 64), (3, .int (nI i))]) (st' := []) (sh' := ab_SH) (D' := ab_dD h) (fun n => rfl) (law_36 X (nI i) h hy hI g)
    · exact ab_Ex.blk (k := 1) (pc' := 1294) (lv' := [(0, .ref 3000001), (1, .ref 0), (2, .ref 64), (3, .int (nI i))]) (st' := []) (sh' := ab_SH) (D' := ab_dD h) (fun n => rfl) (law_37 X (nI i) h hy hI g)
    · exact ab_Ex.blk (k := 1) (pc' := 1337) (lv' := [(0, .ref 3000001), (1, .ref 0), (2, .ref 64), (3, .int (nI i))]) (st' := []) (sh' := ab_SH) (D' := ab_dD h) (fun n => rfl) (law_38 X (nI i) h hy hI g)
    · exact ab_Ex.blk (k := 1) (pc' := 1411) (lv' := [(0, .ref 3000001), (1, .ref 0), (2, .ref 64), (3, .int (nI i))]) (st' := []) (sh' := ab_SH) (D' := ab_dD h) (fun n => rfl) (law_39 X (nI i) h hy hI g)
    · exact ab_Ex.blk (k := 1) (pc' := 1434) (lv' := [(0, .ref 3000001), (1, .ref 0), (2, .ref 64), (3, .int (nI i))]) (st' := []) (sh' := ab_SH) (D' := ab_dD h) (fun n => rfl) (law_40 X (nI i) h hy hI g)
    · exact ab_Ex.blk (k := 1) (pc' := 1457) (lv' := [(0, .ref 3000001), (1, .ref 0), (2, .ref 64), (3, .int (nI i))]) (st' := []) (sh' := ab_SH) (D' := ab_dD h) (fun n => rfl) (law_41 X (nI i) h hy hI g)
    · exact ab_Ex.blk (k := 1) (pc' := 1480) (lv' := [(0, .ref 3000001), (1, .ref 0), (2, .ref 64), (3, .int (nI i))]) (st' := []) (sh' := ab_SH) (D' := ab_dD h) (fun n => rfl) (law_42 X (nI i) h hy hI g)
  induction k with
  | zero => intro i h hX hi hI; exact go i h hi hI (fun w => by omega)
  | succ k ih => intro i h hX hi hI; exact go i h hi hI (fun w h' hI' => ih (i + 6) h' (by omega) (by omega) hI')
