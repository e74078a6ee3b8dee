def fX3_leadsTo (x0 : Int32) (x1 : Int32) (h : abJ) : Option Int32 := if x1 < 0 then some (-1) else (fX3_roadsOf 1 x0 h).bind (fun r2 => if x1 < r2 then ab_ask (((x0 * 3) + x1) < 0 ∨ 18 ≤ (((x0 * 3) + x1) : Int32).toNatClampNeg) (some (h.1 3 (((x0 * 3) + x1) : Int32).toNatClampNeg)) else some (-1))
set_option maxRecDepth 20000 in
theorem sX3_leadsTo (d : Nat) (X : abX) (x0 : Int32) (x1 : Int32) (h : abJ) (z : Int32) (hf : fX3_leadsTo x0 x1 h = some z) : ab_Ex X (d + 1) 36 0 [(0, .ref 1), (1, .int x0), (2, .int x1)] [] ab_SH (ab_dD h) (fun r => r = (some (.int z), ab_SH, ab_dD h)) := by
  unfold fX3_leadsTo at hf
  refine ab_Ex.blk (k := 1) (pc' := 1) (lv' := [(0, .ref 1), (1, .int x0), (2, .int x1)]) (st' := [.int x1]) (sh' := ab_SH) (D' := ab_dD h) (fun n => rfl) ?_
  refine ab_Ex.ifc (c := x1 < 0) (SA := (13, [(0, .ref 1), (1, .int x0), (2, .int x1)], [], ab_dD h)) (SB := (4, [(0, .ref 1), (1, .int x0), (2, .int x1)], [], ab_dD h)) (fun n => rfl) (fun c1 => ?_) (fun c1 => ?_)
  · replace hf := (if_pos c1).symm.trans hf
    refine ab_Ex.blk (k := 2) (pc' := 27) (lv' := []) (st' := [.int ((-1))]) (sh' := ab_SH) (D' := ab_dD h) (fun n => rfl) ?_
    obtain rfl := Option.some.inj hf
    exact ab_Ex.ret (fun n => rfl) rfl
  · replace hf := (if_neg c1).symm.trans hf
    refine ab_Ex.blk (k := 3) (pc' := 7) (lv' := [(0, .ref 1), (1, .int x0), (2, .int x1)]) (st' := [.int x0, .ref 1, .int x1]) (sh' := ab_SH) (D' := ab_dD h) (fun n => rfl) ?_
    obtain ⟨r2, hr2, hf⟩ := ab_bind_s hf
    refine ab_Ex.call (d := d + 0) (M2 := 35) (as := [.ref 1, .int x0]) (rest := [.int x1]) (fun n => rfl) rfl (Nat.not_lt.mpr (Nat.le_of_ble_eq_true rfl)) (sX3_roadsOf_1 (d) X x0 h _ hr2) (fun r hr => ?_)
    subst hr
    show ab_Ex X (d + 1) 36 10 [(0, .ref 1), (1, .int x0), (2, .int x1)] [.int r2, .int x1] ab_SH (ab_dD h) _
    refine ab_Ex.ifc (c := x1 < r2) (SA := (17, [(0, .ref 1), (1, .int x0), (2, .int x1)], [], ab_dD h)) (SB := (13, [(0, .ref 1), (1, .int x0), (2, .int x1)], [], ab_dD h)) (fun n => rfl) (fun c3 => ?_) (fun c3 => ?_)
    · replace hf := (if_pos c3).symm.trans hf
      refine ab_Ex.blk (k := 7) (pc' := 26) (lv' := [(0, .ref 1), (1, .int x0), (2, .int x1)]) (st' := [.int (((x0 * 3) + x1)), .ref 3]) (sh' := ab_SH) (D' := ab_dD h) (fun n => rfl) ?_
      obtain ⟨c5, hf⟩ := ab_ask_s hf
      refine ab_Ex.grd (c := ((x0 * 3) + x1) < 0 ∨ 18 ≤ (((x0 * 3) + x1) : Int32).toNatClampNeg) (S := (27, [(0, .ref 1), (1, .int x0), (2, .int x1)], [.int ((h.1 3 (((x0 * 3) + x1) : Int32).toNatClampNeg))], ab_dD h)) (fun n => rfl) c5 ?_
      obtain rfl := Option.some.inj hf
      exact ab_Ex.ret (fun n => rfl) rfl
    · replace hf := (if_neg c3).symm.trans hf
      refine ab_Ex.blk (k := 2) (pc' := 27) (lv' := []) (st' := [.int ((-1))]) (sh' := ab_SH) (D' := ab_dD h) (fun n => rfl) ?_
      obtain rfl := Option.some.inj hf
      exact ab_Ex.ret (fun n => rfl) rfl
def fJ9_floorMod_7cf53 (x0 : Int32) (x1 : Int32) (h : abJ) : Option Int32 := ab_ask (x1 = 0) (if 0 ≤ (x0 ^^^ x1) then some (x0 - x0 / x1 * x1) else if (x0 - x0 / x1 * x1) = 0 then some (x0 - x0 / x1 * x1) else some ((x0 - x0 / x1 * x1) + x1))
set_option maxRecDepth 20000 in
theorem sJ9_floorMod_7cf53 (d : Nat) (X : abX) (x0 : Int32) (x1 : Int32) (h : abJ) (z : Int32) (hf : fJ9_floorMod_7cf53 x0 x1 h = some z) : ab_Ex X (d + 0) 300 0 [(0, .int x0), (1, .int x1)] [] ab_SH (ab_dD h) (fun r => r = (some (.int z), ab_SH, ab_dD h)) := by
  unfold fJ9_floorMod_7cf53 at hf
  refine ab_Ex.blk (k := 2) (pc' := 2) (lv' := [(0, .int x0), (1, .int x1)]) (st' := [.int x1, .int x0]) (sh' := ab_SH) (D' := ab_dD h) (fun n => rfl) ?_
  obtain ⟨c1, hf⟩ := ab_ask_s hf
  refine ab_Ex.grd (c := x1 = 0) (S := (3, [(0, .int x0), (1, .int x1)], [.int ((x0 - x0 / x1 * x1))], ab_dD h)) (fun n => rfl) c1 ?_
  refine ab_Ex.blk (k := 4) (pc' := 7) (lv' := [(2, .int ((x0 - x0 / x1 * x1))), (0, .int x0), (1, .int x1)]) (st' := [.int ((x0 ^^^ x1))]) (sh' := ab_SH) (D' := ab_dD h) (fun n => rfl) ?_
  refine ab_Ex.ifc (c := 0 ≤ (x0 ^^^ x1)) (SA := (18, [(2, .int ((x0 - x0 / x1 * x1))), (0, .int x0), (1, .int x1)], [], ab_dD h)) (SB := (10, [(2, .int ((x0 - x0 / x1 * x1))), (0, .int x0), (1, .int x1)], [], ab_dD h)) (fun n => rfl) (fun c2 => ?_) (fun c2 => ?_)
  · replace hf := (if_pos c2).symm.trans hf
    refine ab_Ex.blk (k := 1) (pc' := 19) (lv' := [(2, .int ((x0 - x0 / x1 * x1)))]) (st' := [.int ((x0 - x0 / x1 * x1))]) (sh' := ab_SH) (D' := ab_dD h) (fun n => rfl) ?_
    obtain rfl := Option.some.inj hf
    exact ab_Ex.ret (fun n => rfl) rfl
  · replace hf := (if_neg c2).symm.trans hf
    refine ab_Ex.blk (k := 1) (pc' := 11) (lv' := [(2, .int ((x0 - x0 / x1 * x1))), (0, .int x0), (1, .int x1)]) (st' := [.int ((x0 - x0 / x1 * x1))]) (sh' := ab_SH) (D' := ab_dD h) (fun n => rfl) ?_
    refine ab_Ex.ifc (c := (x0 - x0 / x1 * x1) = 0) (SA := (18, [(2, .int ((x0 - x0 / x1 * x1))), (0, .int x0), (1, .int x1)], [], ab_dD h)) (SB := (14, [(2, .int ((x0 - x0 / x1 * x1))), (0, .int x0), (1, .int x1)], [], ab_dD h)) (fun n => rfl) (fun c3 => ?_) (fun c3 => ?_)
    · replace hf := (if_pos c3).symm.trans hf
      refine ab_Ex.blk (k := 1) (pc' := 19) (lv' := [(2, .int ((x0 - x0 / x1 * x1)))]) (st' := [.int ((x0 - x0 / x1 * x1))]) (sh' := ab_SH) (D' := ab_dD h) (fun n => rfl) ?_
      obtain rfl := Option.some.inj hf
      exact ab_Ex.ret (fun n => rfl) rfl
    · replace hf := (if_neg c3).symm.trans hf
      refine ab_Ex.blk (k := 3) (pc' := 17) (lv' := [(2, .int ((x0 - x0 / x1 * x1))), (0, .int x0), (1, .int x1)]) (st' := [.int (((x0 - x0 / x1 * x1) + x1))]) (sh' := ab_SH) (D' := ab_dD h) (fun n => rfl) ?_
      obtain rfl := Option.some.inj hf
      exact ab_Ex.ret (fun n => rfl) rfl
def fX7_workOut_J106   (t0 : Int32) (h : abJ) : Option (Int32 × abJ) := (fX3_leadsTo ((h.1 13 5)) ((h.1 13 6)) h).bind (fun r4 => (fJ9_floorMod_7cf53 (((h.1 13 6) + t0)) ((h.1 13 7)) h).bind (fun r5 => some (((r4 * 3) + r5), h)))
def fX7_workOut_J67   (h : abJ) : Option (Int32 × abJ) := if (h.1 1 4) ≤ (h.1 1 3) then fX7_workOut_J106 1 h else (fX7_valueOf ((h.1 1 3)) ((h.1 1 4)) h).bind (fun r6 => fX7_workOut_J106 r6.1 r6.2)
def fX7_workOut  (h : abJ) : Option (Int32 × abJ) := if 1 ≤ (h.1 13 7) then if (h.1 1 6) ≤ (h.1 1 5) then fX7_workOut_J67 h else (fX7_valueOf ((h.1 1 5)) ((h.1 1 6)) h).bind (fun r7 => if r7.1 = 0 then fX7_workOut_J67 r7.2 else ab_ask (((r7.2).1 13 7) = 0) (some (((((r7.2).1 13 5) * 3) + ((((r7.2).1 13 6) + 1) - (((r7.2).1 13 6) + 1) / ((r7.2).1 13 7) * ((r7.2).1 13 7))), r7.2))) else some ((-1), h)
set_option maxRecDepth 20000 in
theorem sX7_workOut_J106 (d : Nat) (X : abX)   : ∀ (t0 : Int32) (h : abJ) (z : (Int32 × abJ)), fX7_workOut_J106 t0 h = some z → ab_Ex X (d + 2) 100 106 [(0, .ref 13)] [.int t0] ab_SH (ab_dD h) (fun r => r = (some (.int z.1), ab_SH, ab_dD z.2)) := by
  intro t0 h z hf
  unfold fX7_workOut_J106 at hf
  refine ab_Ex.blk (k := 7) (pc' := 119) (lv' := [(1, .int t0), (0, .ref 13)]) (st' := [.int ((h.1 13 6)), .int ((h.1 13 5)), .ref 1]) (sh' := ab_SH) (D' := ab_dD h) (fun n => rfl) ?_
  obtain ⟨r4, hr4, hf⟩ := ab_bind_s hf
  refine ab_Ex.call (d := d + 1) (M2 := 36) (as := [.ref 1, .int ((h.1 13 5)), .int ((h.1 13 6))]) (rest := []) (fun n => rfl) rfl (Nat.not_lt.mpr (Nat.le_of_ble_eq_true rfl)) (sX3_leadsTo (d) X ((h.1 13 5)) ((h.1 13 6)) h _ hr4) (fun r hr => ?_)
  subst hr
  show ab_Ex X (d + 2) 100 122 [(1, .int t0), (0, .ref 13)] [.int r4] ab_SH (ab_dD h) _
  refine ab_Ex.blk (k := 8) (pc' := 134) (lv' := [(1, .int t0), (0, .ref 13)]) (st' := [.int ((h.1 13 7)), .int (((h.1 13 6) + t0)), .int ((r4 * 3))]) (sh' := ab_SH) (D' := ab_dD h) (fun n => rfl) ?_
  obtain ⟨r5, hr5, hf⟩ := ab_bind_s hf
  refine ab_Ex.call (d := d + 1) (M2 := 300) (as := [.int (((h.1 13 6) + t0)), .int ((h.1 13 7))]) (rest := [.int ((r4 * 3))]) (fun n => rfl) rfl (Nat.not_lt.mpr (Nat.le_of_ble_eq_true rfl)) (sJ9_floorMod_7cf53 (d + 1) X (((h.1 13 6) + t0)) ((h.1 13 7)) h _ hr5) (fun r hr => ?_)
  subst hr
  show ab_Ex X (d + 2) 100 137 [(1, .int t0), (0, .ref 13)] [.int r5, .int ((r4 * 3))] ab_SH (ab_dD h) _
  refine ab_Ex.blk (k := 1) (pc' := 138) (lv' := [(1, .int t0), (0, .ref 13)]) (st' := [.int (((r4 * 3) + r5))]) (sh' := ab_SH) (D' := ab_dD h) (fun n => rfl) ?_
  obtain rfl := Option.some.inj hf
  exact ab_Ex.ret (fun n => rfl) rfl
set_option maxRecDepth 20000 in
theorem sX7_workOut_J67 (d : Nat) (X : abX)   : ∀ (h : abJ) (z : (Int32 × abJ)), fX7_workOut_J67 h = some z → ab_Ex X (d + 2) 100 67 [(0, .ref 13)] [] ab_SH (ab_dD h) (fun r => r = (some (.int z.1), ab_SH, ab_dD z.2)) := by
  intro h z hf
  unfold fX7_workOut_J67 at hf
  refine ab_Ex.blk (k := 6) (pc' := 81) (lv' := [(0, .ref 13)]) (st' := [.int ((h.1 1 3)), .int ((h.1 1 4))]) (sh' := ab_SH) (D' := ab_dD h) (fun n => rfl) ?_
  refine ab_Ex.ifc (c := (h.1 1 4) ≤ (h.1 1 3)) (SA := (105, [(0, .ref 13)], [], ab_dD h)) (SB := (84, [(0, .ref 13)], [], ab_dD h)) (fun n => rfl) (fun c3 => ?_) (fun c3 => ?_)
  · replace hf := (if_pos c3).symm.trans hf
    refine ab_Ex.blk (k := 1) (pc' := 106) (lv' := [(0, .ref 13)]) (st' := [.int 1]) (sh' := ab_SH) (D' := ab_dD h) (fun n => rfl) ?_
    exact sX7_workOut_J106 d X  1 h _ hf
  · replace hf := (if_neg c3).symm.trans hf
    refine ab_Ex.blk (k := 7) (pc' := 99) (lv' := [(0, .ref 13)]) (st' := [.int ((h.1 1 4)), .int ((h.1 1 3)), .ref 13]) (sh' := ab_SH) (D' := ab_dD h) (fun n => rfl) ?_
    obtain ⟨r6, hr6, hf⟩ := ab_bind_s hf
    refine ab_Ex.call (d := d + 1) (M2 := 101) (as := [.ref 13, .int ((h.1 1 3)), .int ((h.1 1 4))]) (rest := []) (fun n => rfl) rfl (Nat.not_lt.mpr (Nat.le_of_ble_eq_true rfl)) (sX7_valueOf (d) X ((h.1 1 3)) ((h.1 1 4)) h _ hr6) (fun r hr => ?_)
    subst hr
    show ab_Ex X (d + 2) 100 102 [(0, .ref 13)] [.int r6.1] ab_SH (ab_dD r6.2) _
    refine ab_Ex.blk (k := 1) (pc' := 106) (lv' := [(0, .ref 13)]) (st' := [.int r6.1]) (sh' := ab_SH) (D' := ab_dD r6.2) (fun n => rfl) ?_
    exact sX7_workOut_J106 d X  r6.1 r6.2 _ hf
set_option maxRecDepth 20000 in
theorem sX7_workOut (d : Nat) (X : abX)  (h : abJ) (z : (Int32 × abJ)) (hf : fX7_workOut  h = some z) : ab_Ex X (d + 2) 100 0 [(0, .ref 13)] [] ab_SH (ab_dD h) (fun r => r = (some (.int z.1), ab_SH, ab_dD z.2)) := by
  unfold fX7_workOut at hf
  refine ab_Ex.blk (k := 3) (pc' := 5) (lv' := [(0, .ref 13)]) (st' := [.int 1, .int ((h.1 13 7))]) (sh' := ab_SH) (D' := ab_dD h) (fun n => rfl) ?_
  refine ab_Ex.ifc (c := 1 ≤ (h.1 13 7)) (SA := (10, [(0, .ref 13)], [], ab_dD h)) (SB := (8, [(0, .ref 13)], [], ab_dD h)) (fun n => rfl) (fun c1 => ?_) (fun c1 => ?_)
  · replace hf := (if_pos c1).symm.trans hf
    refine ab_Ex.blk (k := 6) (pc' := 24) (lv' := [(0, .ref 13)]) (st' := [.int ((h.1 1 5)), .int ((h.1 1 6))]) (sh' := ab_SH) (D' := ab_dD h) (fun n => rfl) ?_
    refine ab_Ex.ifc (c := (h.1 1 6) ≤ (h.1 1 5)) (SA := (67, [(0, .ref 13)], [], ab_dD h)) (SB := (27, [(0, .ref 13)], [], ab_dD h)) (fun n => rfl) (fun c2 => ?_) (fun c2 => ?_)
    · replace hf := (if_pos c2).symm.trans hf
      exact sX7_workOut_J67 d X  h _ hf
    · replace hf := (if_neg c2).symm.trans hf
      refine ab_Ex.blk (k := 7) (pc' := 42) (lv' := [(0, .ref 13)]) (st' := [.int ((h.1 1 6)), .int ((h.1 1 5)), .ref 13]) (sh' := ab_SH) (D' := ab_dD h) (fun n => rfl) ?_
      obtain ⟨r7, hr7, hf⟩ := ab_bind_s hf
      refine ab_Ex.call (d := d + 1) (M2 := 101) (as := [.ref 13, .int ((h.1 1 5)), .int ((h.1 1 6))]) (rest := []) (fun n => rfl) rfl (Nat.not_lt.mpr (Nat.le_of_ble_eq_true rfl)) (sX7_valueOf (d) X ((h.1 1 5)) ((h.1 1 6)) h _ hr7) (fun r hr => ?_)
      subst hr
      show ab_Ex X (d + 2) 100 45 [(0, .ref 13)] [.int r7.1] ab_SH (ab_dD r7.2) _
      refine ab_Ex.ifc (c := r7.1 = 0) (SA := (67, [(0, .ref 13)], [], ab_dD r7.2)) (SB := (48, [(0, .ref 13)], [], ab_dD r7.2)) (fun n => rfl) (fun c8 => ?_) (fun c8 => ?_)
      · replace hf := (if_pos c8).symm.trans hf
        exact sX7_workOut_J67 d X  r7.2 _ hf
      · replace hf := (if_neg c8).symm.trans hf
        refine ab_Ex.blk (k := 10) (pc' := 64) (lv' := [(0, .ref 13)]) (st' := [.int (((r7.2).1 13 7)), .int ((((r7.2).1 13 6) + 1)), .int ((((r7.2).1 13 5) * 3))]) (sh' := ab_SH) (D' := ab_dD r7.2) (fun n => rfl) ?_
        obtain ⟨c9, hf⟩ := ab_ask_s hf
        refine ab_Ex.grd (c := ((r7.2).1 13 7) = 0) (S := (65, [(0, .ref 13)], [.int (((((r7.2).1 13 6) + 1) - (((r7.2).1 13 6) + 1) / ((r7.2).1 13 7) * ((r7.2).1 13 7))), .int ((((r7.2).1 13 5) * 3))], ab_dD r7.2)) (fun n => rfl) c9 ?_
        refine ab_Ex.blk (k := 1) (pc' := 66) (lv' := [(0, .ref 13)]) (st' := [.int (((((r7.2).1 13 5) * 3) + ((((r7.2).1 13 6) + 1) - (((r7.2).1 13 6) + 1) / ((r7.2).1 13 7) * ((r7.2).1 13 7))))]) (sh' := ab_SH) (D' := ab_dD r7.2) (fun n => rfl) ?_
        obtain rfl := Option.some.inj hf
        exact ab_Ex.ret (fun n => rfl) rfl
  · replace hf := (if_neg c1).symm.trans hf
    refine ab_Ex.blk (k := 1) (pc' := 9) (lv' := [(0, .ref 13)]) (st' := [.int ((-1))]) (sh' := ab_SH) (D' := ab_dD h) (fun n => rfl) ?_
    obtain rfl := Option.some.inj hf
    exact ab_Ex.ret (fun n => rfl) rfl
def fX7_prepare_J120  (k41 : Int32 → Int32 → abJ → Option abJ) (y1 : Int32) (y2 : Int32) (h : abJ) : Option abJ := k41 y1 ((y2 + 1)) h
def fX7_prepare_L77  (k41 : Int32 → Int32 → abJ → Option abJ) : Nat → Int32 → Int32 → Int32 → abJ → Option abJ
  | 0, _, _, _, _ => none
  | n + 1, y1, y2, y3, h => if (h.1 13 7) ≤ y3 then fX7_prepare_J120 k41 y1 y2 h else if 3 ≤ y3 then fX7_prepare_J120 k41 y1 y2 h else (fX7_workOut (ab_wI h 13 6 y3)).bind (fun r9 => ab_ask (((((y1 * 6) + y2) * 3) + y3) < 0 ∨ 180 ≤ (((((y1 * 6) + y2) * 3) + y3) : Int32).toNatClampNeg) (fX7_prepare_L77 k41 n y1 y2 ((y3 + 1)) (ab_wI r9.2 14 (((((y1 * 6) + y2) * 3) + y3) : Int32).toNatClampNeg r9.1)))
def fX7_prepare_L41   : Nat → Int32 → Int32 → abJ → Option abJ
  | 0, _, _, _ => none
  | n + 1, y1, y2, h => if (h.1 1 0) ≤ y2 then some h else if 6 ≤ y2 then some h else (fX3_roadsOf 1 y2 (ab_wI h 13 5 y2)).bind (fun r6 => fX7_prepare_L77 (fun y1 y2 h => fX7_prepare_L41 n y1 y2 h) ab_N y1 y2 0 (ab_wI (ab_wI h 13 5 y2) 13 7 r6))
def fX7_prepare (x0 : Int32) (h : abJ) : Option abJ := if x0 < 0 then some h else if 10 ≤ x0 then some h else if ((((h.1 13 2) : Int32) >>> (x0 &&& 31)) &&& 1) = 0 then fX7_prepare_L41 ab_N x0 0 (ab_wI (ab_wI h 13 2 ((h.1 13 2) ||| ((1 : Int32) <<< (x0 &&& 31)))) 13 4 x0) else some h
set_option maxRecDepth 20000 in
theorem sX7_prepare_J120 (d : Nat) (X : abX) (k41 : Int32 → Int32 → abJ → Option abJ) (hk41 : ∀ (y1 : Int32) (y2 : Int32) (h : abJ) (z : abJ), k41 y1 y2 h = some z → ab_Ex X (d + 3) 97 41 [(0, .ref 13), (1, .int y1), (2, .int y2)] [] ab_SH (ab_dD h) (fun r => r = (none, ab_SH, ab_dD z))) : ∀ (y1 : Int32) (y2 : Int32) (h : abJ) (z : abJ), fX7_prepare_J120 k41 y1 y2 h = some z → ab_Ex X (d + 3) 97 120 [(0, .ref 13), (1, .int y1), (2, .int y2)] [] ab_SH (ab_dD h) (fun r => r = (none, ab_SH, ab_dD z)) := by
  intro y1 y2 h z hf
  unfold fX7_prepare_J120 at hf
  refine ab_Ex.blk (k := 2) (pc' := 41) (lv' := [(0, .ref 13), (1, .int y1), (2, .int ((y2 + 1)))]) (st' := []) (sh' := ab_SH) (D' := ab_dD h) (fun n => rfl) ?_
  exact hk41 y1 ((y2 + 1)) h _ hf
set_option maxRecDepth 20000 in
theorem sX7_prepare_L77 (d : Nat) (X : abX) (k41 : Int32 → Int32 → abJ → Option abJ) (hk41 : ∀ (y1 : Int32) (y2 : Int32) (h : abJ) (z : abJ), k41 y1 y2 h = some z → ab_Ex X (d + 3) 97 41 [(0, .ref 13), (1, .int y1), (2, .int y2)] [] ab_SH (ab_dD h) (fun r => r = (none, ab_SH, ab_dD z))) : ∀ (n : Nat), ∀ (y1 : Int32) (y2 : Int32) (y3 : Int32) (h : abJ) (z : abJ), fX7_prepare_L77 k41 n y1 y2 y3 h = some z → ab_Ex X (d + 3) 97 77 [(0, .ref 13), (1, .int y1), (2, .int y2), (3, .int y3)] [] ab_SH (ab_dD h) (fun r => r = (none, ab_SH, ab_dD z)) := by
  intro n
  induction n with
  | zero => intro y1 y2 y3 h z hf; cases hf
  | succ n ih =>
    intro y1 y2 y3 h z hf
    rw [fX7_prepare_L77] at hf
    refine ab_Ex.blk (k := 3) (pc' := 82) (lv' := [(0, .ref 13), (1, .int y1), (2, .int y2), (3, .int y3)]) (st' := [.int ((h.1 13 7)), .int y3]) (sh' := ab_SH) (D' := ab_dD h) (fun n => rfl) ?_
    refine ab_Ex.ifc (c := (h.1 13 7) ≤ y3) (SA := (120, [(0, .ref 13), (1, .int y1), (2, .int y2), (3, .int y3)], [], ab_dD h)) (SB := (85, [(0, .ref 13), (1, .int y1), (2, .int y2), (3, .int y3)], [], ab_dD h)) (fun n => rfl) (fun c7 => ?_) (fun c7 => ?_)
    · replace hf := (if_pos c7).symm.trans hf
      exact sX7_prepare_J120 d X k41 hk41 y1 y2 h _ hf
    · replace hf := (if_neg c7).symm.trans hf
      refine ab_Ex.blk (k := 2) (pc' := 87) (lv' := [(0, .ref 13), (1, .int y1), (2, .int y2), (3, .int y3)]) (st' := [.int 3, .int y3]) (sh' := ab_SH) (D' := ab_dD h) (fun n => rfl) ?_
      refine ab_Ex.ifc (c := 3 ≤ y3) (SA := (120, [(0, .ref 13), (1, .int y1), (2, .int y2), (3, .int y3)], [], ab_dD h)) (SB := (90, [(0, .ref 13), (1, .int y1), (2, .int y2), (3, .int y3)], [], ab_dD h)) (fun n => rfl) (fun c8 => ?_) (fun c8 => ?_)
      · replace hf := (if_pos c8).symm.trans hf
        exact sX7_prepare_J120 d X k41 hk41 y1 y2 h _ hf
      · replace hf := (if_neg c8).symm.trans hf
        refine ab_Ex.blk (k := 15) (pc' := 110) (lv' := [(0, .ref 13), (1, .int y1), (2, .int y2), (3, .int y3)]) (st' := [.ref 13, .int (((((y1 * 6) + y2) * 3) + y3)), .ref 14]) (sh' := ab_SH) (D' := ab_dD (ab_wI h 13 6 y3)) (fun n => rfl) ?_
        obtain ⟨r9, hr9, hf⟩ := ab_bind_s hf
        refine ab_Ex.call (d := d + 2) (M2 := 100) (as := [.ref 13]) (rest := [.int (((((y1 * 6) + y2) * 3) + y3)), .ref 14]) (fun n => rfl) rfl (Nat.not_lt.mpr (Nat.le_of_ble_eq_true rfl)) (sX7_workOut (d) X  (ab_wI h 13 6 y3) _ hr9) (fun r hr => ?_)
        subst hr
        show ab_Ex X (d + 3) 97 113 [(0, .ref 13), (1, .int y1), (2, .int y2), (3, .int y3)] [.int r9.1, .int (((((y1 * 6) + y2) * 3) + y3)), .ref 14] ab_SH (ab_dD r9.2) _
        obtain ⟨c10, hf⟩ := ab_ask_s hf
        refine ab_Ex.grd (c := ((((y1 * 6) + y2) * 3) + y3) < 0 ∨ 180 ≤ (((((y1 * 6) + y2) * 3) + y3) : Int32).toNatClampNeg) (S := (114, [(0, .ref 13), (1, .int y1), (2, .int y2), (3, .int y3)], [], ab_dD (ab_wI r9.2 14 (((((y1 * 6) + y2) * 3) + y3) : Int32).toNatClampNeg r9.1))) (fun n => rfl) c10 ?_
        refine ab_Ex.blk (k := 2) (pc' := 77) (lv' := [(0, .ref 13), (1, .int y1), (2, .int y2), (3, .int ((y3 + 1)))]) (st' := []) (sh' := ab_SH) (D' := ab_dD (ab_wI r9.2 14 (((((y1 * 6) + y2) * 3) + y3) : Int32).toNatClampNeg r9.1)) (fun n => rfl) ?_
        exact ih y1 y2 ((y3 + 1)) (ab_wI r9.2 14 (((((y1 * 6) + y2) * 3) + y3) : Int32).toNatClampNeg r9.1) _ hf
set_option maxRecDepth 20000 in
theorem sX7_prepare_L41 (d : Nat) (X : abX)   : ∀ (n : Nat), ∀ (y1 : Int32) (y2 : Int32) (h : abJ) (z : abJ), fX7_prepare_L41 n y1 y2 h = some z → ab_Ex X (d + 3) 97 41 [(0, .ref 13), (1, .int y1), (2, .int y2)] [] ab_SH (ab_dD h) (fun r => r = (none, ab_SH, ab_dD z)) := by
  intro n
  induction n with
  | zero => intro y1 y2 h z hf; cases hf
  | succ n ih =>
    intro y1 y2 h z hf
    rw [fX7_prepare_L41] at hf
    refine ab_Ex.blk (k := 4) (pc' := 49) (lv' := [(0, .ref 13), (1, .int y1), (2, .int y2)]) (st' := [.int ((h.1 1 0)), .int y2]) (sh' := ab_SH) (D' := ab_dD h) (fun n => rfl) ?_
    refine ab_Ex.ifc (c := (h.1 1 0) ≤ y2) (SA := (126, [(0, .ref 13), (1, .int y1), (2, .int y2)], [], ab_dD h)) (SB := (52, [(0, .ref 13), (1, .int y1), (2, .int y2)], [], ab_dD h)) (fun n => rfl) (fun c4 => ?_) (fun c4 => ?_)
    · replace hf := (if_pos c4).symm.trans hf
      obtain rfl := Option.some.inj hf
      exact ab_Ex.ret (fun n => rfl) rfl
    · replace hf := (if_neg c4).symm.trans hf
      refine ab_Ex.blk (k := 2) (pc' := 55) (lv' := [(0, .ref 13), (1, .int y1), (2, .int y2)]) (st' := [.int 6, .int y2]) (sh' := ab_SH) (D' := ab_dD h) (fun n => rfl) ?_
      refine ab_Ex.ifc (c := 6 ≤ y2) (SA := (126, [(0, .ref 13), (1, .int y1), (2, .int y2)], [], ab_dD h)) (SB := (58, [(0, .ref 13), (1, .int y1), (2, .int y2)], [], ab_dD h)) (fun n => rfl) (fun c5 => ?_) (fun c5 => ?_)
      · replace hf := (if_pos c5).symm.trans hf
        obtain rfl := Option.some.inj hf
        exact ab_Ex.ret (fun n => rfl) rfl
      · replace hf := (if_neg c5).symm.trans hf
        refine ab_Ex.blk (k := 7) (pc' := 69) (lv' := [(0, .ref 13), (1, .int y1), (2, .int y2)]) (st' := [.int y2, .ref 1, .ref 13]) (sh' := ab_SH) (D' := ab_dD (ab_wI h 13 5 y2)) (fun n => rfl) ?_
        obtain ⟨r6, hr6, hf⟩ := ab_bind_s hf
        refine ab_Ex.call (d := d + 2) (M2 := 35) (as := [.ref 1, .int y2]) (rest := [.ref 13]) (fun n => rfl) rfl (Nat.not_lt.mpr (Nat.le_of_ble_eq_true rfl)) (sX3_roadsOf_1 (d + 2) X y2 (ab_wI h 13 5 y2) _ hr6) (fun r hr => ?_)
        subst hr
        show ab_Ex X (d + 3) 97 72 [(0, .ref 13), (1, .int y1), (2, .int y2)] [.int r6, .ref 13] ab_SH (ab_dD (ab_wI h 13 5 y2)) _
        refine ab_Ex.blk (k := 3) (pc' := 77) (lv' := [(0, .ref 13), (1, .int y1), (2, .int y2), (3, .int 0)]) (st' := []) (sh' := ab_SH) (D' := ab_dD (ab_wI (ab_wI h 13 5 y2) 13 7 r6)) (fun n => rfl) ?_
        exact sX7_prepare_L77 d X (fun y1 y2 h => fX7_prepare_L41 n y1 y2 h) (fun y1 y2 h z hz => ih y1 y2 h z hz) ab_N y1 y2 0 (ab_wI (ab_wI h 13 5 y2) 13 7 r6) _ hf
set_option maxRecDepth 20000 in
theorem sX7_prepare (d : Nat) (X : abX) (x0 : Int32) (h : abJ) (z : abJ) (hf : fX7_prepare x0 h = some z) : ab_Ex X (d + 3) 97 0 [(0, .ref 13), (1, .int x0)] [] ab_SH (ab_dD h) (fun r => r = (none, ab_SH, ab_dD z)) := by
  unfold fX7_prepare at hf
  refine ab_Ex.blk (k := 1) (pc' := 1) (lv' := [(0, .ref 13), (1, .int x0)]) (st' := [.int x0]) (sh' := ab_SH) (D' := ab_dD h) (fun n => rfl) ?_
  refine ab_Ex.ifc (c := x0 < 0) (SA := (21, [(0, .ref 13), (1, .int x0)], [], ab_dD h)) (SB := (4, [(0, .ref 13), (1, .int x0)], [], ab_dD h)) (fun n => rfl) (fun c1 => ?_) (fun c1 => ?_)
  · replace hf := (if_pos c1).symm.trans hf
    obtain rfl := Option.some.inj hf
    exact ab_Ex.ret (fun n => rfl) rfl
  · replace hf := (if_neg c1).symm.trans hf
    refine ab_Ex.blk (k := 2) (pc' := 7) (lv' := [(0, .ref 13), (1, .int x0)]) (st' := [.int 10, .int x0]) (sh' := ab_SH) (D' := ab_dD h) (fun n => rfl) ?_
    refine ab_Ex.ifc (c := 10 ≤ x0) (SA := (21, [(0, .ref 13), (1, .int x0)], [], ab_dD h)) (SB := (10, [(0, .ref 13), (1, .int x0)], [], ab_dD h)) (fun n => rfl) (fun c2 => ?_) (fun c2 => ?_)
    · replace hf := (if_pos c2).symm.trans hf
      obtain rfl := Option.some.inj hf
      exact ab_Ex.ret (fun n => rfl) rfl
    · replace hf := (if_neg c2).symm.trans hf
      refine ab_Ex.blk (k := 6) (pc' := 18) (lv' := [(0, .ref 13), (1, .int x0)]) (st' := [.int (((((h.1 13 2) : Int32) >>> (x0 &&& 31)) &&& 1))]) (sh' := ab_SH) (D' := ab_dD h) (fun n => rfl) ?_
      refine ab_Ex.ifc (c := ((((h.1 13 2) : Int32) >>> (x0 &&& 31)) &&& 1) = 0) (SA := (22, [(0, .ref 13), (1, .int x0)], [], ab_dD h)) (SB := (21, [(0, .ref 13), (1, .int x0)], [], ab_dD h)) (fun n => rfl) (fun c3 => ?_) (fun c3 => ?_)
      · replace hf := (if_pos c3).symm.trans hf
        refine ab_Ex.blk (k := 13) (pc' := 41) (lv' := [(0, .ref 13), (1, .int x0), (2, .int 0)]) (st' := []) (sh' := ab_SH) (D' := ab_dD (ab_wI (ab_wI h 13 2 ((h.1 13 2) ||| ((1 : Int32) <<< (x0 &&& 31)))) 13 4 x0)) (fun n => rfl) ?_
        exact sX7_prepare_L41 d X  ab_N x0 0 (ab_wI (ab_wI h 13 2 ((h.1 13 2) ||| ((1 : Int32) <<< (x0 &&& 31)))) 13 4 x0) _ hf
      · replace hf := (if_neg c3).symm.trans hf
        obtain rfl := Option.some.inj hf
        exact ab_Ex.ret (fun n => rfl) rfl
def fX0_befog (x0 : Nat) (x1 : Int32) (h : abJ) : Option (Int32 × abJ) := if x1 < 0 then some (1, h) else if x1 < 10 then (fX7_prepare x1 (ab_wI h x0 2 x1)).bind (fun r3 => some (0, r3)) else some (1, h)
set_option maxRecDepth 20000 in
theorem sX0_befog_12 (d : Nat) (X : abX) (x1 : Int32) (h : abJ) (z : (Int32 × abJ)) (hf : fX0_befog 12 x1 h = some z) : ab_Ex X (d + 4) 7 0 [(0, .ref 16), (1, .ref 12), (2, .int x1)] [] ab_SH (ab_dD h) (fun r => r = (some (.int z.1), ab_SH, ab_dD z.2)) := by
  unfold fX0_befog at hf
  try simp only [Nat.reduceAdd] at hf
  refine ab_Ex.blk (k := 1) (pc' := 1) (lv' := [(0, .ref 16), (1, .ref 12), (2, .int x1)]) (st' := [.int x1]) (sh' := ab_SH) (D' := ab_dD h) (fun n => rfl) ?_
  refine ab_Ex.ifc (c := x1 < 0) (SA := (10, [(0, .ref 16), (1, .ref 12), (2, .int x1)], [], ab_dD h)) (SB := (4, [(0, .ref 16), (1, .ref 12), (2, .int x1)], [], ab_dD h)) (fun n => rfl) (fun c1 => ?_) (fun c1 => ?_)
  · replace hf := (if_pos c1).symm.trans hf
    refine ab_Ex.blk (k := 1) (pc' := 11) (lv' := []) (st' := [.int 1]) (sh' := ab_SH) (D' := ab_dD h) (fun n => rfl) ?_
    obtain rfl := Option.some.inj hf
    exact ab_Ex.ret (fun n => rfl) rfl
  · replace hf := (if_neg c1).symm.trans hf
    refine ab_Ex.blk (k := 2) (pc' := 7) (lv' := [(0, .ref 16), (1, .ref 12), (2, .int x1)]) (st' := [.int 10, .int x1]) (sh' := ab_SH) (D' := ab_dD h) (fun n => rfl) ?_
    refine ab_Ex.ifc (c := x1 < 10) (SA := (12, [(0, .ref 16), (1, .ref 12), (2, .int x1)], [], ab_dD h)) (SB := (10, [(0, .ref 16), (1, .ref 12), (2, .int x1)], [], ab_dD h)) (fun n => rfl) (fun c2 => ?_) (fun c2 => ?_)
    · replace hf := (if_pos c2).symm.trans hf
      refine ab_Ex.blk (k := 6) (pc' := 22) (lv' := [(0, .ref 16), (1, .ref 12), (2, .int x1)]) (st' := [.int x1, .ref 13]) (sh' := ab_SH) (D' := ab_dD (ab_wI h 12 2 x1)) (fun n => rfl) ?_
      obtain ⟨r3, hr3, hf⟩ := ab_bind_s hf
      refine ab_Ex.call (d := d + 3) (M2 := 97) (as := [.ref 13, .int x1]) (rest := []) (fun n => rfl) rfl (Nat.not_lt.mpr (Nat.le_of_ble_eq_true rfl)) (sX7_prepare (d) X x1 (ab_wI h 12 2 x1) _ hr3) (fun r hr => ?_)
      subst hr
      show ab_Ex X (d + 4) 7 25 [(0, .ref 16), (1, .ref 12), (2, .int x1)] [] ab_SH (ab_dD r3) _
      refine ab_Ex.blk (k := 1) (pc' := 26) (lv' := [(0, .ref 16), (1, .ref 12), (2, .int x1)]) (st' := [.int 0]) (sh' := ab_SH) (D' := ab_dD r3) (fun n => rfl) ?_
      obtain rfl := Option.some.inj hf
      exact ab_Ex.ret (fun n => rfl) rfl
    · replace hf := (if_neg c2).symm.trans hf
      refine ab_Ex.blk (k := 1) (pc' := 11) (lv' := []) (st' := [.int 1]) (sh' := ab_SH) (D' := ab_dD h) (fun n => rfl) ?_
      obtain rfl := Option.some.inj hf
      exact ab_Ex.ret (fun n => rfl) rfl
set_option maxRecDepth 20000 in
theorem sX0_befog_18 (d : Nat) (X : abX) (x1 : Int32) (h : abJ) (z : (Int32 × abJ)) (hf : fX0_befog 18 x1 h = some z) : ab_Ex X (d + 4) 7 0 [(0, .ref 16), (1, .ref 18), (2, .int x1)] [] ab_SH (ab_dD h) (fun r => r = (some (.int z.1), ab_SH, ab_dD z.2)) := by
  unfold fX0_befog at hf
  try simp only [Nat.reduceAdd] at hf
  refine ab_Ex.blk (k := 1) (pc' := 1) (lv' := [(0, .ref 16), (1, .ref 18), (2, .int x1)]) (st' := [.int x1]) (sh' := ab_SH) (D' := ab_dD h) (fun n => rfl) ?_
  refine ab_Ex.ifc (c := x1 < 0) (SA := (10, [(0, .ref 16), (1, .ref 18), (2, .int x1)], [], ab_dD h)) (SB := (4, [(0, .ref 16), (1, .ref 18), (2, .int x1)], [], ab_dD h)) (fun n => rfl) (fun c1 => ?_) (fun c1 => ?_)
  · replace hf := (if_pos c1).symm.trans hf
    refine ab_Ex.blk (k := 1) (pc' := 11) (lv' := []) (st' := [.int 1]) (sh' := ab_SH) (D' := ab_dD h) (fun n => rfl) ?_
    obtain rfl := Option.some.inj hf
    exact ab_Ex.ret (fun n => rfl) rfl
  · replace hf := (if_neg c1).symm.trans hf
    refine ab_Ex.blk (k := 2) (pc' := 7) (lv' := [(0, .ref 16), (1, .ref 18), (2, .int x1)]) (st' := [.int 10, .int x1]) (sh' := ab_SH) (D' := ab_dD h) (fun n => rfl) ?_
    refine ab_Ex.ifc (c := x1 < 10) (SA := (12, [(0, .ref 16), (1, .ref 18), (2, .int x1)], [], ab_dD h)) (SB := (10, [(0, .ref 16), (1, .ref 18), (2, .int x1)], [], ab_dD h)) (fun n => rfl) (fun c2 => ?_) (fun c2 => ?_)
    · replace hf := (if_pos c2).symm.trans hf
      refine ab_Ex.blk (k := 6) (pc' := 22) (lv' := [(0, .ref 16), (1, .ref 18), (2, .int x1)]) (st' := [.int x1, .ref 13]) (sh' := ab_SH) (D' := ab_dD (ab_wI h 18 2 x1)) (fun n => rfl) ?_
      obtain ⟨r3, hr3, hf⟩ := ab_bind_s hf
      refine ab_Ex.call (d := d + 3) (M2 := 97) (as := [.ref 13, .int x1]) (rest := []) (fun n => rfl) rfl (Nat.not_lt.mpr (Nat.le_of_ble_eq_true rfl)) (sX7_prepare (d) X x1 (ab_wI h 18 2 x1) _ hr3) (fun r hr => ?_)
      subst hr
      show ab_Ex X (d + 4) 7 25 [(0, .ref 16), (1, .ref 18), (2, .int x1)] [] ab_SH (ab_dD r3) _
      refine ab_Ex.blk (k := 1) (pc' := 26) (lv' := [(0, .ref 16), (1, .ref 18), (2, .int x1)]) (st' := [.int 0]) (sh' := ab_SH) (D' := ab_dD r3) (fun n => rfl) ?_
      obtain rfl := Option.some.inj hf
      exact ab_Ex.ret (fun n => rfl) rfl
    · replace hf := (if_neg c2).symm.trans hf
      refine ab_Ex.blk (k := 1) (pc' := 11) (lv' := []) (st' := [.int 1]) (sh' := ab_SH) (D' := ab_dD h) (fun n => rfl) ?_
      obtain rfl := Option.some.inj hf
      exact ab_Ex.ret (fun n => rfl) rfl
def fX0_doOne (x0 : Nat) (x1 : Int64) (h : abJ) : Option (Int32 × abJ) := if (lg_cmp x1 0) = 0 then (fX0_goOn x0 h).bind (fun r2 => some (r2.1, r2.2)) else if (lg_cmp x1 10) < 0 then some (1, h) else if (lg_cmp x1 199) ≤ 0 then if 20 ≤ (x1 : Int64).toInt32 then if 30 ≤ (x1 : Int64).toInt32 then if 100 ≤ (x1 : Int64).toInt32 then (fX0_turnArm x0 ((((x1 : Int64).toInt32 - 100) / 10)) (((x1 : Int64).toInt32 - (x1 : Int64).toInt32 / 10 * 10)) h).bind (fun r8 => some (r8.1, r8.2)) else some (1, h) else (fX0_setOut x0 (((x1 : Int64).toInt32 - 20)) h).bind (fun r9 => some (r9.1, r9.2)) else (fX0_befog x0 (((x1 : Int64).toInt32 - 10)) h).bind (fun r10 => some (r10.1, r10.2)) else some (1, h)
set_option maxRecDepth 20000 in
theorem sX0_doOne_12 (d : Nat) (X : abX) (x1 : Int64) (h : abJ) (z : (Int32 × abJ)) (hf : fX0_doOne 12 x1 h = some z) : ab_Ex X (d + 5) 8 0 [(0, .ref 16), (1, .ref 12), (2, .long x1)] [] ab_SH (ab_dD h) (fun r => r = (some (.int z.1), ab_SH, ab_dD z.2)) := by
  unfold fX0_doOne at hf
  try simp only [Nat.reduceAdd] at hf
  refine ab_Ex.blk (k := 3) (pc' := 3) (lv' := [(0, .ref 16), (1, .ref 12), (2, .long x1)]) (st' := [.int ((lg_cmp x1 0))]) (sh' := ab_SH) (D' := ab_dD h) (fun n => rfl) ?_
  refine ab_Ex.ifc (c := (lg_cmp x1 0) = 0) (SA := (6, [(0, .ref 16), (1, .ref 12), (2, .long x1)], [], ab_dD h)) (SB := (12, [(0, .ref 16), (1, .ref 12), (2, .long x1)], [], ab_dD h)) (fun n => rfl) (fun c1 => ?_) (fun c1 => ?_)
  · replace hf := (if_pos c1).symm.trans hf
    refine ab_Ex.blk (k := 2) (pc' := 8) (lv' := [(0, .ref 16), (1, .ref 12), (2, .long x1)]) (st' := [.ref 12, .ref 16]) (sh' := ab_SH) (D' := ab_dD h) (fun n => rfl) ?_
    obtain ⟨r2, hr2, hf⟩ := ab_bind_s hf
    refine ab_Ex.call (d := d + 4) (M2 := 4) (as := [.ref 16, .ref 12]) (rest := []) (fun n => rfl) rfl (Nat.not_lt.mpr (Nat.le_of_ble_eq_true rfl)) (sX0_goOn_12 (d + 1) X  h _ hr2) (fun r hr => ?_)
    subst hr
    show ab_Ex X (d + 5) 8 11 [(0, .ref 16), (1, .ref 12), (2, .long x1)] [.int r2.1] ab_SH (ab_dD r2.2) _
    obtain rfl := Option.some.inj hf
    exact ab_Ex.ret (fun n => rfl) rfl
  · replace hf := (if_neg c1).symm.trans hf
    refine ab_Ex.blk (k := 3) (pc' := 17) (lv' := [(0, .ref 16), (1, .ref 12), (2, .long x1)]) (st' := [.int ((lg_cmp x1 10))]) (sh' := ab_SH) (D' := ab_dD h) (fun n => rfl) ?_
    refine ab_Ex.ifc (c := (lg_cmp x1 10) < 0) (SA := (28, [(0, .ref 16), (1, .ref 12), (2, .long x1)], [], ab_dD h)) (SB := (20, [(0, .ref 16), (1, .ref 12), (2, .long x1)], [], ab_dD h)) (fun n => rfl) (fun c3 => ?_) (fun c3 => ?_)
    · replace hf := (if_pos c3).symm.trans hf
      refine ab_Ex.blk (k := 1) (pc' := 29) (lv' := []) (st' := [.int 1]) (sh' := ab_SH) (D' := ab_dD h) (fun n => rfl) ?_
      obtain rfl := Option.some.inj hf
      exact ab_Ex.ret (fun n => rfl) rfl
    · replace hf := (if_neg c3).symm.trans hf
      refine ab_Ex.blk (k := 3) (pc' := 25) (lv' := [(0, .ref 16), (1, .ref 12), (2, .long x1)]) (st' := [.int ((lg_cmp x1 199))]) (sh' := ab_SH) (D' := ab_dD h) (fun n => rfl) ?_
      refine ab_Ex.ifc (c := (lg_cmp x1 199) ≤ 0) (SA := (30, [(0, .ref 16), (1, .ref 12), (2, .long x1)], [], ab_dD h)) (SB := (28, [(0, .ref 16), (1, .ref 12), (2, .long x1)], [], ab_dD h)) (fun n => rfl) (fun c4 => ?_) (fun c4 => ?_)
      · replace hf := (if_pos c4).symm.trans hf
        refine ab_Ex.blk (k := 5) (pc' := 38) (lv' := [(4, .int ((x1 : Int64).toInt32)), (0, .ref 16), (1, .ref 12), (2, .long x1)]) (st' := [.int 20, .int ((x1 : Int64).toInt32)]) (sh' := ab_SH) (D' := ab_dD h) (fun n => rfl) ?_
        refine ab_Ex.ifc (c := 20 ≤ (x1 : Int64).toInt32) (SA := (52, [(4, .int ((x1 : Int64).toInt32)), (0, .ref 16), (1, .ref 12), (2, .long x1)], [], ab_dD h)) (SB := (41, [(4, .int ((x1 : Int64).toInt32)), (0, .ref 16), (1, .ref 12), (2, .long x1)], [], ab_dD h)) (fun n => rfl) (fun c5 => ?_) (fun c5 => ?_)
        · replace hf := (if_pos c5).symm.trans hf
          refine ab_Ex.blk (k := 2) (pc' := 56) (lv' := [(4, .int ((x1 : Int64).toInt32)), (0, .ref 16), (1, .ref 12), (2, .long x1)]) (st' := [.int 30, .int ((x1 : Int64).toInt32)]) (sh' := ab_SH) (D' := ab_dD h) (fun n => rfl) ?_
          refine ab_Ex.ifc (c := 30 ≤ (x1 : Int64).toInt32) (SA := (70, [(4, .int ((x1 : Int64).toInt32)), (0, .ref 16), (1, .ref 12), (2, .long x1)], [], ab_dD h)) (SB := (59, [(4, .int ((x1 : Int64).toInt32)), (0, .ref 16), (1, .ref 12), (2, .long x1)], [], ab_dD h)) (fun n => rfl) (fun c6 => ?_) (fun c6 => ?_)
          · replace hf := (if_pos c6).symm.trans hf
            refine ab_Ex.blk (k := 2) (pc' := 74) (lv' := [(4, .int ((x1 : Int64).toInt32)), (0, .ref 16), (1, .ref 12), (2, .long x1)]) (st' := [.int 100, .int ((x1 : Int64).toInt32)]) (sh' := ab_SH) (D' := ab_dD h) (fun n => rfl) ?_
            refine ab_Ex.ifc (c := 100 ≤ (x1 : Int64).toInt32) (SA := (81, [(4, .int ((x1 : Int64).toInt32)), (0, .ref 16), (1, .ref 12), (2, .long x1)], [], ab_dD h)) (SB := (77, [(4, .int ((x1 : Int64).toInt32)), (0, .ref 16), (1, .ref 12), (2, .long x1)], [], ab_dD h)) (fun n => rfl) (fun c7 => ?_) (fun c7 => ?_)
            · replace hf := (if_pos c7).symm.trans hf
              refine ab_Ex.blk (k := 6) (pc' := 90) (lv' := [(4, .int ((x1 : Int64).toInt32)), (0, .ref 16), (1, .ref 12), (2, .long x1)]) (st' := [.int 10, .int (((x1 : Int64).toInt32 - 100)), .ref 12, .ref 16]) (sh' := ab_SH) (D' := ab_dD h) (fun n => rfl) ?_
              refine ab_Ex.blk (k := 1) (pc' := 91) (lv' := [(4, .int ((x1 : Int64).toInt32)), (0, .ref 16), (1, .ref 12), (2, .long x1)]) (st' := [.int ((((x1 : Int64).toInt32 - 100) / 10)), .ref 12, .ref 16]) (sh' := ab_SH) (D' := ab_dD h) (fun n => rfl) ?_
              refine ab_Ex.blk (k := 2) (pc' := 95) (lv' := [(4, .int ((x1 : Int64).toInt32)), (0, .ref 16), (1, .ref 12), (2, .long x1)]) (st' := [.int 10, .int ((x1 : Int64).toInt32), .int ((((x1 : Int64).toInt32 - 100) / 10)), .ref 12, .ref 16]) (sh' := ab_SH) (D' := ab_dD h) (fun n => rfl) ?_
              refine ab_Ex.blk (k := 1) (pc' := 96) (lv' := [(4, .int ((x1 : Int64).toInt32)), (0, .ref 16), (1, .ref 12), (2, .long x1)]) (st' := [.int (((x1 : Int64).toInt32 - (x1 : Int64).toInt32 / 10 * 10)), .int ((((x1 : Int64).toInt32 - 100) / 10)), .ref 12, .ref 16]) (sh' := ab_SH) (D' := ab_dD h) (fun n => rfl) ?_
              obtain ⟨r8, hr8, hf⟩ := ab_bind_s hf
              refine ab_Ex.call (d := d + 4) (M2 := 5) (as := [.ref 16, .ref 12, .int ((((x1 : Int64).toInt32 - 100) / 10)), .int (((x1 : Int64).toInt32 - (x1 : Int64).toInt32 / 10 * 10))]) (rest := []) (fun n => rfl) rfl (Nat.not_lt.mpr (Nat.le_of_ble_eq_true rfl)) (sX0_turnArm_12 (d + 2) X ((((x1 : Int64).toInt32 - 100) / 10)) (((x1 : Int64).toInt32 - (x1 : Int64).toInt32 / 10 * 10)) h _ hr8) (fun r hr => ?_)
              subst hr
              show ab_Ex X (d + 5) 8 99 [] [.int r8.1] ab_SH (ab_dD r8.2) _
              obtain rfl := Option.some.inj hf
              exact ab_Ex.ret (fun n => rfl) rfl
            · replace hf := (if_neg c7).symm.trans hf
              refine ab_Ex.blk (k := 2) (pc' := 99) (lv' := []) (st' := [.int 1]) (sh' := ab_SH) (D' := ab_dD h) (fun n => rfl) ?_
              obtain rfl := Option.some.inj hf
              exact ab_Ex.ret (fun n => rfl) rfl
          · replace hf := (if_neg c6).symm.trans hf
            refine ab_Ex.blk (k := 5) (pc' := 66) (lv' := [(4, .int ((x1 : Int64).toInt32)), (0, .ref 16), (1, .ref 12), (2, .long x1)]) (st' := [.int (((x1 : Int64).toInt32 - 20)), .ref 12, .ref 16]) (sh' := ab_SH) (D' := ab_dD h) (fun n => rfl) ?_
            obtain ⟨r9, hr9, hf⟩ := ab_bind_s hf
            refine ab_Ex.call (d := d + 4) (M2 := 6) (as := [.ref 16, .ref 12, .int (((x1 : Int64).toInt32 - 20))]) (rest := []) (fun n => rfl) rfl (Nat.not_lt.mpr (Nat.le_of_ble_eq_true rfl)) (sX0_setOut_12 (d + 3) X (((x1 : Int64).toInt32 - 20)) h _ hr9) (fun r hr => ?_)
            subst hr
            show ab_Ex X (d + 5) 8 69 [(4, .int ((x1 : Int64).toInt32)), (0, .ref 16), (1, .ref 12), (2, .long x1)] [.int r9.1] ab_SH (ab_dD r9.2) _
            obtain rfl := Option.some.inj hf
            exact ab_Ex.ret (fun n => rfl) rfl
        · replace hf := (if_neg c5).symm.trans hf
          refine ab_Ex.blk (k := 5) (pc' := 48) (lv' := [(4, .int ((x1 : Int64).toInt32)), (0, .ref 16), (1, .ref 12), (2, .long x1)]) (st' := [.int (((x1 : Int64).toInt32 - 10)), .ref 12, .ref 16]) (sh' := ab_SH) (D' := ab_dD h) (fun n => rfl) ?_
          obtain ⟨r10, hr10, hf⟩ := ab_bind_s hf
          refine ab_Ex.call (d := d + 4) (M2 := 7) (as := [.ref 16, .ref 12, .int (((x1 : Int64).toInt32 - 10))]) (rest := []) (fun n => rfl) rfl (Nat.not_lt.mpr (Nat.le_of_ble_eq_true rfl)) (sX0_befog_12 (d) X (((x1 : Int64).toInt32 - 10)) h _ hr10) (fun r hr => ?_)
          subst hr
          show ab_Ex X (d + 5) 8 51 [(4, .int ((x1 : Int64).toInt32)), (0, .ref 16), (1, .ref 12), (2, .long x1)] [.int r10.1] ab_SH (ab_dD r10.2) _
          obtain rfl := Option.some.inj hf
          exact ab_Ex.ret (fun n => rfl) rfl
      · replace hf := (if_neg c4).symm.trans hf
        refine ab_Ex.blk (k := 1) (pc' := 29) (lv' := []) (st' := [.int 1]) (sh' := ab_SH) (D' := ab_dD h) (fun n => rfl) ?_
        obtain rfl := Option.some.inj hf
        exact ab_Ex.ret (fun n => rfl) rfl
set_option maxRecDepth 20000 in
theorem sX0_doOne_18 (d : Nat) (X : abX) (x1 : Int64) (h : abJ) (z : (Int32 × abJ)) (hf : fX0_doOne 18 x1 h = some z) : ab_Ex X (d + 5) 8 0 [(0, .ref 16), (1, .ref 18), (2, .long x1)] [] ab_SH (ab_dD h) (fun r => r = (some (.int z.1), ab_SH, ab_dD z.2)) := by
  unfold fX0_doOne at hf
  try simp only [Nat.reduceAdd] at hf
  refine ab_Ex.blk (k := 3) (pc' := 3) (lv' := [(0, .ref 16), (1, .ref 18), (2, .long x1)]) (st' := [.int ((lg_cmp x1 0))]) (sh' := ab_SH) (D' := ab_dD h) (fun n => rfl) ?_
  refine ab_Ex.ifc (c := (lg_cmp x1 0) = 0) (SA := (6, [(0, .ref 16), (1, .ref 18), (2, .long x1)], [], ab_dD h)) (SB := (12, [(0, .ref 16), (1, .ref 18), (2, .long x1)], [], ab_dD h)) (fun n => rfl) (fun c1 => ?_) (fun c1 => ?_)
  · replace hf := (if_pos c1).symm.trans hf
    refine ab_Ex.blk (k := 2) (pc' := 8) (lv' := [(0, .ref 16), (1, .ref 18), (2, .long x1)]) (st' := [.ref 18, .ref 16]) (sh' := ab_SH) (D' := ab_dD h) (fun n => rfl) ?_
    obtain ⟨r2, hr2, hf⟩ := ab_bind_s hf
    refine ab_Ex.call (d := d + 4) (M2 := 4) (as := [.ref 16, .ref 18]) (rest := []) (fun n => rfl) rfl (Nat.not_lt.mpr (Nat.le_of_ble_eq_true rfl)) (sX0_goOn_18 (d + 1) X  h _ hr2) (fun r hr => ?_)
    subst hr
    show ab_Ex X (d + 5) 8 11 [(0, .ref 16), (1, .ref 18), (2, .long x1)] [.int r2.1] ab_SH (ab_dD r2.2) _
    obtain rfl := Option.some.inj hf
    exact ab_Ex.ret (fun n => rfl) rfl
  · replace hf := (if_neg c1).symm.trans hf
    refine ab_Ex.blk (k := 3) (pc' := 17) (lv' := [(0, .ref 16), (1, .ref 18), (2, .long x1)]) (st' := [.int ((lg_cmp x1 10))]) (sh' := ab_SH) (D' := ab_dD h) (fun n => rfl) ?_
    refine ab_Ex.ifc (c := (lg_cmp x1 10) < 0) (SA := (28, [(0, .ref 16), (1, .ref 18), (2, .long x1)], [], ab_dD h)) (SB := (20, [(0, .ref 16), (1, .ref 18), (2, .long x1)], [], ab_dD h)) (fun n => rfl) (fun c3 => ?_) (fun c3 => ?_)
    · replace hf := (if_pos c3).symm.trans hf
      refine ab_Ex.blk (k := 1) (pc' := 29) (lv' := []) (st' := [.int 1]) (sh' := ab_SH) (D' := ab_dD h) (fun n => rfl) ?_
      obtain rfl := Option.some.inj hf
      exact ab_Ex.ret (fun n => rfl) rfl
    · replace hf := (if_neg c3).symm.trans hf
      refine ab_Ex.blk (k := 3) (pc' := 25) (lv' := [(0, .ref 16), (1, .ref 18), (2, .long x1)]) (st' := [.int ((lg_cmp x1 199))]) (sh' := ab_SH) (D' := ab_dD h) (fun n => rfl) ?_
      refine ab_Ex.ifc (c := (lg_cmp x1 199) ≤ 0) (SA := (30, [(0, .ref 16), (1, .ref 18), (2, .long x1)], [], ab_dD h)) (SB := (28, [(0, .ref 16), (1, .ref 18), (2, .long x1)], [], ab_dD h)) (fun n => rfl) (fun c4 => ?_) (fun c4 => ?_)
      · replace hf := (if_pos c4).symm.trans hf
        refine ab_Ex.blk (k := 5) (pc' := 38) (lv' := [(4, .int ((x1 : Int64).toInt32)), (0, .ref 16), (1, .ref 18), (2, .long x1)]) (st' := [.int 20, .int ((x1 : Int64).toInt32)]) (sh' := ab_SH) (D' := ab_dD h) (fun n => rfl) ?_
        refine ab_Ex.ifc (c := 20 ≤ (x1 : Int64).toInt32) (SA := (52, [(4, .int ((x1 : Int64).toInt32)), (0, .ref 16), (1, .ref 18), (2, .long x1)], [], ab_dD h)) (SB := (41, [(4, .int ((x1 : Int64).toInt32)), (0, .ref 16), (1, .ref 18), (2, .long x1)], [], ab_dD h)) (fun n => rfl) (fun c5 => ?_) (fun c5 => ?_)
        · replace hf := (if_pos c5).symm.trans hf
          refine ab_Ex.blk (k := 2) (pc' := 56) (lv' := [(4, .int ((x1 : Int64).toInt32)), (0, .ref 16), (1, .ref 18), (2, .long x1)]) (st' := [.int 30, .int ((x1 : Int64).toInt32)]) (sh' := ab_SH) (D' := ab_dD h) (fun n => rfl) ?_
          refine ab_Ex.ifc (c := 30 ≤ (x1 : Int64).toInt32) (SA := (70, [(4, .int ((x1 : Int64).toInt32)), (0, .ref 16), (1, .ref 18), (2, .long x1)], [], ab_dD h)) (SB := (59, [(4, .int ((x1 : Int64).toInt32)), (0, .ref 16), (1, .ref 18), (2, .long x1)], [], ab_dD h)) (fun n => rfl) (fun c6 => ?_) (fun c6 => ?_)
          · replace hf := (if_pos c6).symm.trans hf
            refine ab_Ex.blk (k := 2) (pc' := 74) (lv' := [(4, .int ((x1 : Int64).toInt32)), (0, .ref 16), (1, .ref 18), (2, .long x1)]) (st' := [.int 100, .int ((x1 : Int64).toInt32)]) (sh' := ab_SH) (D' := ab_dD h) (fun n => rfl) ?_
            refine ab_Ex.ifc (c := 100 ≤ (x1 : Int64).toInt32) (SA := (81, [(4, .int ((x1 : Int64).toInt32)), (0, .ref 16), (1, .ref 18), (2, .long x1)], [], ab_dD h)) (SB := (77, [(4, .int ((x1 : Int64).toInt32)), (0, .ref 16), (1, .ref 18), (2, .long x1)], [], ab_dD h)) (fun n => rfl) (fun c7 => ?_) (fun c7 => ?_)
            · replace hf := (if_pos c7).symm.trans hf
              refine ab_Ex.blk (k := 6) (pc' := 90) (lv' := [(4, .int ((x1 : Int64).toInt32)), (0, .ref 16), (1, .ref 18), (2, .long x1)]) (st' := [.int 10, .int (((x1 : Int64).toInt32 - 100)), .ref 18, .ref 16]) (sh' := ab_SH) (D' := ab_dD h) (fun n => rfl) ?_
              refine ab_Ex.blk (k := 1) (pc' := 91) (lv' := [(4, .int ((x1 : Int64).toInt32)), (0, .ref 16), (1, .ref 18), (2, .long x1)]) (st' := [.int ((((x1 : Int64).toInt32 - 100) / 10)), .ref 18, .ref 16]) (sh' := ab_SH) (D' := ab_dD h) (fun n => rfl) ?_
              refine ab_Ex.blk (k := 2) (pc' := 95) (lv' := [(4, .int ((x1 : Int64).toInt32)), (0, .ref 16), (1, .ref 18), (2, .long x1)]) (st' := [.int 10, .int ((x1 : Int64).toInt32), .int ((((x1 : Int64).toInt32 - 100) / 10)), .ref 18, .ref 16]) (sh' := ab_SH) (D' := ab_dD h) (fun n => rfl) ?_
              refine ab_Ex.blk (k := 1) (pc' := 96) (lv' := [(4, .int ((x1 : Int64).toInt32)), (0, .ref 16), (1, .ref 18), (2, .long x1)]) (st' := [.int (((x1 : Int64).toInt32 - (x1 : Int64).toInt32 / 10 * 10)), .int ((((x1 : Int64).toInt32 - 100) / 10)), .ref 18, .ref 16]) (sh' := ab_SH) (D' := ab_dD h) (fun n => rfl) ?_
              obtain ⟨r8, hr8, hf⟩ := ab_bind_s hf
              refine ab_Ex.call (d := d + 4) (M2 := 5) (as := [.ref 16, .ref 18, .int ((((x1 : Int64).toInt32 - 100) / 10)), .int (((x1 : Int64).toInt32 - (x1 : Int64).toInt32 / 10 * 10))]) (rest := []) (fun n => rfl) rfl (Nat.not_lt.mpr (Nat.le_of_ble_eq_true rfl)) (sX0_turnArm_18 (d + 2) X ((((x1 : Int64).toInt32 - 100) / 10)) (((x1 : Int64).toInt32 - (x1 : Int64).toInt32 / 10 * 10)) h _ hr8) (fun r hr => ?_)
              subst hr
              show ab_Ex X (d + 5) 8 99 [] [.int r8.1] ab_SH (ab_dD r8.2) _
              obtain rfl := Option.some.inj hf
              exact ab_Ex.ret (fun n => rfl) rfl
            · replace hf := (if_neg c7).symm.trans hf
              refine ab_Ex.blk (k := 2) (pc' := 99) (lv' := []) (st' := [.int 1]) (sh' := ab_SH) (D' := ab_dD h) (fun n => rfl) ?_
              obtain rfl := Option.some.inj hf
              exact ab_Ex.ret (fun n => rfl) rfl
          · replace hf := (if_neg c6).symm.trans hf
            refine ab_Ex.blk (k := 5) (pc' := 66) (lv' := [(4, .int ((x1 : Int64).toInt32)), (0, .ref 16), (1, .ref 18), (2, .long x1)]) (st' := [.int (((x1 : Int64).toInt32 - 20)), .ref 18, .ref 16]) (sh' := ab_SH) (D' := ab_dD h) (fun n => rfl) ?_
            obtain ⟨r9, hr9, hf⟩ := ab_bind_s hf
            refine ab_Ex.call (d := d + 4) (M2 := 6) (as := [.ref 16, .ref 18, .int (((x1 : Int64).toInt32 - 20))]) (rest := []) (fun n => rfl) rfl (Nat.not_lt.mpr (Nat.le_of_ble_eq_true rfl)) (sX0_setOut_18 (d + 3) X (((x1 : Int64).toInt32 - 20)) h _ hr9) (fun r hr => ?_)
            subst hr
            show ab_Ex X (d + 5) 8 69 [(4, .int ((x1 : Int64).toInt32)), (0, .ref 16), (1, .ref 18), (2, .long x1)] [.int r9.1] ab_SH (ab_dD r9.2) _
            obtain rfl := Option.some.inj hf
            exact ab_Ex.ret (fun n => rfl) rfl
        · replace hf := (if_neg c5).symm.trans hf
          refine ab_Ex.blk (k := 5) (pc' := 48) (lv' := [(4, .int ((x1 : Int64).toInt32)), (0, .ref 16), (1, .ref 18), (2, .long x1)]) (st' := [.int (((x1 : Int64).toInt32 - 10)), .ref 18, .ref 16]) (sh' := ab_SH) (D' := ab_dD h) (fun n => rfl) ?_
          obtain ⟨r10, hr10, hf⟩ := ab_bind_s hf
          refine ab_Ex.call (d := d + 4) (M2 := 7) (as := [.ref 16, .ref 18, .int (((x1 : Int64).toInt32 - 10))]) (rest := []) (fun n => rfl) rfl (Nat.not_lt.mpr (Nat.le_of_ble_eq_true rfl)) (sX0_befog_18 (d) X (((x1 : Int64).toInt32 - 10)) h _ hr10) (fun r hr => ?_)
          subst hr
          show ab_Ex X (d + 5) 8 51 [(4, .int ((x1 : Int64).toInt32)), (0, .ref 16), (1, .ref 18), (2, .long x1)] [.int r10.1] ab_SH (ab_dD r10.2) _
          obtain rfl := Option.some.inj hf
          exact ab_Ex.ret (fun n => rfl) rfl
      · replace hf := (if_neg c4).symm.trans hf
        refine ab_Ex.blk (k := 1) (pc' := 29) (lv' := []) (st' := [.int 1]) (sh' := ab_SH) (D' := ab_dD h) (fun n => rfl) ?_
        obtain rfl := Option.some.inj hf
        exact ab_Ex.ret (fun n => rfl) rfl
def fX10_value (o : Nat) (x0 : Int32) (h : abJ) : Option Int64 := if x0 < 0 then some 0 else if x0 < (h.1 o 2) then ab_ask (x0 < 0 ∨ 40 ≤ (x0 : Int32).toNatClampNeg) (some (h.2 (o + 1) (x0 : Int32).toNatClampNeg)) else some 0
set_option maxRecDepth 20000 in
theorem sX10_value_44 (d : Nat) (X : abX) (x0 : Int32) (h : abJ) (z : Int64) (hf : fX10_value 44 x0 h = some z) : ab_Ex X (d + 0) 122 0 [(0, .ref 44), (1, .int x0)] [] ab_SH (ab_dD h) (fun r => r = (some (.long z), ab_SH, ab_dD h)) := by
  unfold fX10_value at hf
  try simp only [Nat.reduceAdd] at hf
  refine ab_Ex.blk (k := 1) (pc' := 1) (lv' := [(0, .ref 44), (1, .int x0)]) (st' := [.int x0]) (sh' := ab_SH) (D' := ab_dD h) (fun n => rfl) ?_
  refine ab_Ex.ifc (c := x0 < 0) (SA := (12, [(0, .ref 44), (1, .int x0)], [], ab_dD h)) (SB := (4, [(0, .ref 44), (1, .int x0)], [], ab_dD h)) (fun n => rfl) (fun c1 => ?_) (fun c1 => ?_)
  · replace hf := (if_pos c1).symm.trans hf
    refine ab_Ex.blk (k := 2) (pc' := 22) (lv' := []) (st' := [.long 0]) (sh' := ab_SH) (D' := ab_dD h) (fun n => rfl) ?_
    obtain rfl := Option.some.inj hf
    exact ab_Ex.ret (fun n => rfl) rfl
  · replace hf := (if_neg c1).symm.trans hf
    refine ab_Ex.blk (k := 3) (pc' := 9) (lv' := [(0, .ref 44), (1, .int x0)]) (st' := [.int ((h.1 44 2)), .int x0]) (sh' := ab_SH) (D' := ab_dD h) (fun n => rfl) ?_
    refine ab_Ex.ifc (c := x0 < (h.1 44 2)) (SA := (16, [(0, .ref 44), (1, .int x0)], [], ab_dD h)) (SB := (12, [(0, .ref 44), (1, .int x0)], [], ab_dD h)) (fun n => rfl) (fun c2 => ?_) (fun c2 => ?_)
    · replace hf := (if_pos c2).symm.trans hf
      refine ab_Ex.blk (k := 3) (pc' := 21) (lv' := [(0, .ref 44), (1, .int x0)]) (st' := [.int x0, .ref 45]) (sh' := ab_SH) (D' := ab_dD h) (fun n => rfl) ?_
      obtain ⟨c4, hf⟩ := ab_ask_s hf
      refine ab_Ex.grd (c := x0 < 0 ∨ 40 ≤ (x0 : Int32).toNatClampNeg) (S := (22, [(0, .ref 44), (1, .int x0)], [.long ((h.2 45 (x0 : Int32).toNatClampNeg))], ab_dD h)) (fun n => rfl) c4 ?_
      obtain rfl := Option.some.inj hf
      exact ab_Ex.ret (fun n => rfl) rfl
    · replace hf := (if_neg c2).symm.trans hf
      refine ab_Ex.blk (k := 2) (pc' := 22) (lv' := []) (st' := [.long 0]) (sh' := ab_SH) (D' := ab_dD h) (fun n => rfl) ?_
      obtain rfl := Option.some.inj hf
      exact ab_Ex.ret (fun n => rfl) rfl
set_option maxRecDepth 20000 in
theorem sX10_value_46 (d : Nat) (X : abX) (x0 : Int32) (h : abJ) (z : Int64) (hf : fX10_value 46 x0 h = some z) : ab_Ex X (d + 0) 122 0 [(0, .ref 46), (1, .int x0)] [] ab_SH (ab_dD h) (fun r => r = (some (.long z), ab_SH, ab_dD h)) := by
  unfold fX10_value at hf
  try simp only [Nat.reduceAdd] at hf
  refine ab_Ex.blk (k := 1) (pc' := 1) (lv' := [(0, .ref 46), (1, .int x0)]) (st' := [.int x0]) (sh' := ab_SH) (D' := ab_dD h) (fun n => rfl) ?_
  refine ab_Ex.ifc (c := x0 < 0) (SA := (12, [(0, .ref 46), (1, .int x0)], [], ab_dD h)) (SB := (4, [(0, .ref 46), (1, .int x0)], [], ab_dD h)) (fun n => rfl) (fun c1 => ?_) (fun c1 => ?_)
  · replace hf := (if_pos c1).symm.trans hf
    refine ab_Ex.blk (k := 2) (pc' := 22) (lv' := []) (st' := [.long 0]) (sh' := ab_SH) (D' := ab_dD h) (fun n => rfl) ?_
    obtain rfl := Option.some.inj hf
    exact ab_Ex.ret (fun n => rfl) rfl
  · replace hf := (if_neg c1).symm.trans hf
    refine ab_Ex.blk (k := 3) (pc' := 9) (lv' := [(0, .ref 46), (1, .int x0)]) (st' := [.int ((h.1 46 2)), .int x0]) (sh' := ab_SH) (D' := ab_dD h) (fun n => rfl) ?_
    refine ab_Ex.ifc (c := x0 < (h.1 46 2)) (SA := (16, [(0, .ref 46), (1, .int x0)], [], ab_dD h)) (SB := (12, [(0, .ref 46), (1, .int x0)], [], ab_dD h)) (fun n => rfl) (fun c2 => ?_) (fun c2 => ?_)
    · replace hf := (if_pos c2).symm.trans hf
      refine ab_Ex.blk (k := 3) (pc' := 21) (lv' := [(0, .ref 46), (1, .int x0)]) (st' := [.int x0, .ref 47]) (sh' := ab_SH) (D' := ab_dD h) (fun n => rfl) ?_
      obtain ⟨c4, hf⟩ := ab_ask_s hf
      refine ab_Ex.grd (c := x0 < 0 ∨ 40 ≤ (x0 : Int32).toNatClampNeg) (S := (22, [(0, .ref 46), (1, .int x0)], [.long ((h.2 47 (x0 : Int32).toNatClampNeg))], ab_dD h)) (fun n => rfl) c4 ?_
      obtain rfl := Option.some.inj hf
      exact ab_Ex.ret (fun n => rfl) rfl
    · replace hf := (if_neg c2).symm.trans hf
      refine ab_Ex.blk (k := 2) (pc' := 22) (lv' := []) (st' := [.long 0]) (sh' := ab_SH) (D' := ab_dD h) (fun n => rfl) ?_
      obtain rfl := Option.some.inj hf
      exact ab_Ex.ret (fun n => rfl) rfl
set_option maxRecDepth 20000 in
theorem sX10_value_48 (d : Nat) (X : abX) (x0 : Int32) (h : abJ) (z : Int64) (hf : fX10_value 48 x0 h = some z) : ab_Ex X (d + 0) 122 0 [(0, .ref 48), (1, .int x0)] [] ab_SH (ab_dD h) (fun r => r = (some (.long z), ab_SH, ab_dD h)) := by
  unfold fX10_value at hf
  try simp only [Nat.reduceAdd] at hf
  refine ab_Ex.blk (k := 1) (pc' := 1) (lv' := [(0, .ref 48), (1, .int x0)]) (st' := [.int x0]) (sh' := ab_SH) (D' := ab_dD h) (fun n => rfl) ?_
  refine ab_Ex.ifc (c := x0 < 0) (SA := (12, [(0, .ref 48), (1, .int x0)], [], ab_dD h)) (SB := (4, [(0, .ref 48), (1, .int x0)], [], ab_dD h)) (fun n => rfl) (fun c1 => ?_) (fun c1 => ?_)
  · replace hf := (if_pos c1).symm.trans hf
    refine ab_Ex.blk (k := 2) (pc' := 22) (lv' := []) (st' := [.long 0]) (sh' := ab_SH) (D' := ab_dD h) (fun n => rfl) ?_
    obtain rfl := Option.some.inj hf
    exact ab_Ex.ret (fun n => rfl) rfl
  · replace hf := (if_neg c1).symm.trans hf
    refine ab_Ex.blk (k := 3) (pc' := 9) (lv' := [(0, .ref 48), (1, .int x0)]) (st' := [.int ((h.1 48 2)), .int x0]) (sh' := ab_SH) (D' := ab_dD h) (fun n => rfl) ?_
    refine ab_Ex.ifc (c := x0 < (h.1 48 2)) (SA := (16, [(0, .ref 48), (1, .int x0)], [], ab_dD h)) (SB := (12, [(0, .ref 48), (1, .int x0)], [], ab_dD h)) (fun n => rfl) (fun c2 => ?_) (fun c2 => ?_)
    · replace hf := (if_pos c2).symm.trans hf
      refine ab_Ex.blk (k := 3) (pc' := 21) (lv' := [(0, .ref 48), (1, .int x0)]) (st' := [.int x0, .ref 49]) (sh' := ab_SH) (D' := ab_dD h) (fun n => rfl) ?_
      obtain ⟨c4, hf⟩ := ab_ask_s hf
      refine ab_Ex.grd (c := x0 < 0 ∨ 40 ≤ (x0 : Int32).toNatClampNeg) (S := (22, [(0, .ref 48), (1, .int x0)], [.long ((h.2 49 (x0 : Int32).toNatClampNeg))], ab_dD h)) (fun n => rfl) c4 ?_
      obtain rfl := Option.some.inj hf
      exact ab_Ex.ret (fun n => rfl) rfl
    · replace hf := (if_neg c2).symm.trans hf
      refine ab_Ex.blk (k := 2) (pc' := 22) (lv' := []) (st' := [.long 0]) (sh' := ab_SH) (D' := ab_dD h) (fun n => rfl) ?_
      obtain rfl := Option.some.inj hf
      exact ab_Ex.ret (fun n => rfl) rfl
set_option maxRecDepth 20000 in
theorem sX10_value_50 (d : Nat) (X : abX) (x0 : Int32) (h : abJ) (z : Int64) (hf : fX10_value 50 x0 h = some z) : ab_Ex X (d + 0) 122 0 [(0, .ref 50), (1, .int x0)] [] ab_SH (ab_dD h) (fun r => r = (some (.long z), ab_SH, ab_dD h)) := by
  unfold fX10_value at hf
  try simp only [Nat.reduceAdd] at hf
  refine ab_Ex.blk (k := 1) (pc' := 1) (lv' := [(0, .ref 50), (1, .int x0)]) (st' := [.int x0]) (sh' := ab_SH) (D' := ab_dD h) (fun n => rfl) ?_
  refine ab_Ex.ifc (c := x0 < 0) (SA := (12, [(0, .ref 50), (1, .int x0)], [], ab_dD h)) (SB := (4, [(0, .ref 50), (1, .int x0)], [], ab_dD h)) (fun n => rfl) (fun c1 => ?_) (fun c1 => ?_)
  · replace hf := (if_pos c1).symm.trans hf
    refine ab_Ex.blk (k := 2) (pc' := 22) (lv' := []) (st' := [.long 0]) (sh' := ab_SH) (D' := ab_dD h) (fun n => rfl) ?_
    obtain rfl := Option.some.inj hf
    exact ab_Ex.ret (fun n => rfl) rfl
  · replace hf := (if_neg c1).symm.trans hf
    refine ab_Ex.blk (k := 3) (pc' := 9) (lv' := [(0, .ref 50), (1, .int x0)]) (st' := [.int ((h.1 50 2)), .int x0]) (sh' := ab_SH) (D' := ab_dD h) (fun n => rfl) ?_
    refine ab_Ex.ifc (c := x0 < (h.1 50 2)) (SA := (16, [(0, .ref 50), (1, .int x0)], [], ab_dD h)) (SB := (12, [(0, .ref 50), (1, .int x0)], [], ab_dD h)) (fun n => rfl) (fun c2 => ?_) (fun c2 => ?_)
    · replace hf := (if_pos c2).symm.trans hf
      refine ab_Ex.blk (k := 3) (pc' := 21) (lv' := [(0, .ref 50), (1, .int x0)]) (st' := [.int x0, .ref 51]) (sh' := ab_SH) (D' := ab_dD h) (fun n => rfl) ?_
      obtain ⟨c4, hf⟩ := ab_ask_s hf
      refine ab_Ex.grd (c := x0 < 0 ∨ 40 ≤ (x0 : Int32).toNatClampNeg) (S := (22, [(0, .ref 50), (1, .int x0)], [.long ((h.2 51 (x0 : Int32).toNatClampNeg))], ab_dD h)) (fun n => rfl) c4 ?_
      obtain rfl := Option.some.inj hf
      exact ab_Ex.ret (fun n => rfl) rfl
    · replace hf := (if_neg c2).symm.trans hf
      refine ab_Ex.blk (k := 2) (pc' := 22) (lv' := []) (st' := [.long 0]) (sh' := ab_SH) (D' := ab_dD h) (fun n => rfl) ?_
      obtain rfl := Option.some.inj hf
      exact ab_Ex.ret (fun n => rfl) rfl
def fX0_doAll_L2 (x0 : Nat) (x1 : Nat)  : Nat → Int32 → abJ → Option (Int32 × abJ)
  | 0, _, _ => none
  | n + 1, y3, h => if (h.1 x1 2) ≤ y3 then some (y3, h) else (fX10_value x1 y3 h).bind (fun r2 => (fX0_doOne x0 r2 h).bind (fun r3 => if r3.1 = 0 then fX0_doAll_L2 x0 x1 n ((y3 + 1)) r3.2 else some (y3, r3.2)))
def fX0_doAll (x0 : Nat) (x1 : Nat) (h : abJ) : Option (Int32 × abJ) := fX0_doAll_L2 x0 x1 ab_N 0 h
set_option maxRecDepth 20000 in
theorem sX0_doAll_L2_12_44 (d : Nat) (X : abX)   : ∀ (n : Nat), ∀ (y3 : Int32) (h : abJ) (z : (Int32 × abJ)), fX0_doAll_L2 12 44 n y3 h = some z → ab_Ex X (d + 6) 9 2 [(0, .ref 16), (1, .ref 12), (2, .ref 44), (3, .int y3)] [] ab_SH (ab_dD h) (fun r => r = (some (.int z.1), ab_SH, ab_dD z.2)) := by
  intro n
  induction n with
  | zero => intro y3 h z hf; cases hf
  | succ n ih =>
    intro y3 h z hf
    rw [fX0_doAll_L2] at hf
    try simp only [Nat.reduceAdd] at hf
    refine ab_Ex.blk (k := 3) (pc' := 7) (lv' := [(0, .ref 16), (1, .ref 12), (2, .ref 44), (3, .int y3)]) (st' := [.int ((h.1 44 2)), .int y3]) (sh' := ab_SH) (D' := ab_dD h) (fun n => rfl) ?_
    refine ab_Ex.ifc (c := (h.1 44 2) ≤ y3) (SA := (29, [(0, .ref 16), (1, .ref 12), (2, .ref 44), (3, .int y3)], [], ab_dD h)) (SB := (10, [(0, .ref 16), (1, .ref 12), (2, .ref 44), (3, .int y3)], [], ab_dD h)) (fun n => rfl) (fun c1 => ?_) (fun c1 => ?_)
    · replace hf := (if_pos c1).symm.trans hf
      refine ab_Ex.blk (k := 1) (pc' := 30) (lv' := [(3, .int y3)]) (st' := [.int y3]) (sh' := ab_SH) (D' := ab_dD h) (fun n => rfl) ?_
      obtain rfl := Option.some.inj hf
      exact ab_Ex.ret (fun n => rfl) rfl
    · replace hf := (if_neg c1).symm.trans hf
      refine ab_Ex.blk (k := 4) (pc' := 14) (lv' := [(0, .ref 16), (1, .ref 12), (2, .ref 44), (3, .int y3)]) (st' := [.int y3, .ref 44, .ref 12, .ref 16]) (sh' := ab_SH) (D' := ab_dD h) (fun n => rfl) ?_
      obtain ⟨r2, hr2, hf⟩ := ab_bind_s hf
      refine ab_Ex.call (d := d + 5) (M2 := 122) (as := [.ref 44, .int y3]) (rest := [.ref 12, .ref 16]) (fun n => rfl) rfl (Nat.not_lt.mpr (Nat.le_of_ble_eq_true rfl)) (sX10_value_44 (d + 5) X y3 h _ hr2) (fun r hr => ?_)
      subst hr
      show ab_Ex X (d + 6) 9 17 [(0, .ref 16), (1, .ref 12), (2, .ref 44), (3, .int y3)] [.long r2, .ref 12, .ref 16] ab_SH (ab_dD h) _
      obtain ⟨r3, hr3, hf⟩ := ab_bind_s hf
      refine ab_Ex.call (d := d + 5) (M2 := 8) (as := [.ref 16, .ref 12, .long r2]) (rest := []) (fun n => rfl) rfl (Nat.not_lt.mpr (Nat.le_of_ble_eq_true rfl)) (sX0_doOne_12 (d) X r2 h _ hr3) (fun r hr => ?_)
      subst hr
      show ab_Ex X (d + 6) 9 20 [(0, .ref 16), (1, .ref 12), (2, .ref 44), (3, .int y3)] [.int r3.1] ab_SH (ab_dD r3.2) _
      refine ab_Ex.ifc (c := r3.1 = 0) (SA := (23, [(0, .ref 16), (1, .ref 12), (2, .ref 44), (3, .int y3)], [], ab_dD r3.2)) (SB := (29, [(0, .ref 16), (1, .ref 12), (2, .ref 44), (3, .int y3)], [], ab_dD r3.2)) (fun n => rfl) (fun c4 => ?_) (fun c4 => ?_)
      · replace hf := (if_pos c4).symm.trans hf
        refine ab_Ex.blk (k := 2) (pc' := 2) (lv' := [(0, .ref 16), (1, .ref 12), (2, .ref 44), (3, .int ((y3 + 1)))]) (st' := []) (sh' := ab_SH) (D' := ab_dD r3.2) (fun n => rfl) ?_
        exact ih ((y3 + 1)) r3.2 _ hf
      · replace hf := (if_neg c4).symm.trans hf
        refine ab_Ex.blk (k := 1) (pc' := 30) (lv' := [(3, .int y3)]) (st' := [.int y3]) (sh' := ab_SH) (D' := ab_dD r3.2) (fun n => rfl) ?_
        obtain rfl := Option.some.inj hf
        exact ab_Ex.ret (fun n => rfl) rfl
set_option maxRecDepth 20000 in
theorem sX0_doAll_12_44 (d : Nat) (X : abX)  (h : abJ) (z : (Int32 × abJ)) (hf : fX0_doAll 12 44 h = some z) : ab_Ex X (d + 6) 9 0 [(0, .ref 16), (1, .ref 12), (2, .ref 44)] [] ab_SH (ab_dD h) (fun r => r = (some (.int z.1), ab_SH, ab_dD z.2)) := by
  unfold fX0_doAll at hf
  try simp only [Nat.reduceAdd] at hf
  refine ab_Ex.blk (k := 2) (pc' := 2) (lv' := [(0, .ref 16), (1, .ref 12), (2, .ref 44), (3, .int 0)]) (st' := []) (sh' := ab_SH) (D' := ab_dD h) (fun n => rfl) ?_
  exact sX0_doAll_L2_12_44 d X  ab_N 0 h _ hf
set_option maxRecDepth 20000 in
theorem sX0_doAll_L2_12_46 (d : Nat) (X : abX)   : ∀ (n : Nat), ∀ (y3 : Int32) (h : abJ) (z : (Int32 × abJ)), fX0_doAll_L2 12 46 n y3 h = some z → ab_Ex X (d + 6) 9 2 [(0, .ref 16), (1, .ref 12), (2, .ref 46), (3, .int y3)] [] ab_SH (ab_dD h) (fun r => r = (some (.int z.1), ab_SH, ab_dD z.2)) := by
  intro n
  induction n with
  | zero => intro y3 h z hf; cases hf
  | succ n ih =>
    intro y3 h z hf
    rw [fX0_doAll_L2] at hf
    try simp only [Nat.reduceAdd] at hf
    refine ab_Ex.blk (k := 3) (pc' := 7) (lv' := [(0, .ref 16), (1, .ref 12), (2, .ref 46), (3, .int y3)]) (st' := [.int ((h.1 46 2)), .int y3]) (sh' := ab_SH) (D' := ab_dD h) (fun n => rfl) ?_
    refine ab_Ex.ifc (c := (h.1 46 2) ≤ y3) (SA := (29, [(0, .ref 16), (1, .ref 12), (2, .ref 46), (3, .int y3)], [], ab_dD h)) (SB := (10, [(0, .ref 16), (1, .ref 12), (2, .ref 46), (3, .int y3)], [], ab_dD h)) (fun n => rfl) (fun c1 => ?_) (fun c1 => ?_)
    · replace hf := (if_pos c1).symm.trans hf
      refine ab_Ex.blk (k := 1) (pc' := 30) (lv' := [(3, .int y3)]) (st' := [.int y3]) (sh' := ab_SH) (D' := ab_dD h) (fun n => rfl) ?_
      obtain rfl := Option.some.inj hf
      exact ab_Ex.ret (fun n => rfl) rfl
    · replace hf := (if_neg c1).symm.trans hf
      refine ab_Ex.blk (k := 4) (pc' := 14) (lv' := [(0, .ref 16), (1, .ref 12), (2, .ref 46), (3, .int y3)]) (st' := [.int y3, .ref 46, .ref 12, .ref 16]) (sh' := ab_SH) (D' := ab_dD h) (fun n => rfl) ?_
      obtain ⟨r2, hr2, hf⟩ := ab_bind_s hf
      refine ab_Ex.call (d := d + 5) (M2 := 122) (as := [.ref 46, .int y3]) (rest := [.ref 12, .ref 16]) (fun n => rfl) rfl (Nat.not_lt.mpr (Nat.le_of_ble_eq_true rfl)) (sX10_value_46 (d + 5) X y3 h _ hr2) (fun r hr => ?_)
      subst hr
      show ab_Ex X (d + 6) 9 17 [(0, .ref 16), (1, .ref 12), (2, .ref 46), (3, .int y3)] [.long r2, .ref 12, .ref 16] ab_SH (ab_dD h) _
      obtain ⟨r3, hr3, hf⟩ := ab_bind_s hf
      refine ab_Ex.call (d := d + 5) (M2 := 8) (as := [.ref 16, .ref 12, .long r2]) (rest := []) (fun n => rfl) rfl (Nat.not_lt.mpr (Nat.le_of_ble_eq_true rfl)) (sX0_doOne_12 (d) X r2 h _ hr3) (fun r hr => ?_)
      subst hr
      show ab_Ex X (d + 6) 9 20 [(0, .ref 16), (1, .ref 12), (2, .ref 46), (3, .int y3)] [.int r3.1] ab_SH (ab_dD r3.2) _
      refine ab_Ex.ifc (c := r3.1 = 0) (SA := (23, [(0, .ref 16), (1, .ref 12), (2, .ref 46), (3, .int y3)], [], ab_dD r3.2)) (SB := (29, [(0, .ref 16), (1, .ref 12), (2, .ref 46), (3, .int y3)], [], ab_dD r3.2)) (fun n => rfl) (fun c4 => ?_) (fun c4 => ?_)
      · replace hf := (if_pos c4).symm.trans hf
        refine ab_Ex.blk (k := 2) (pc' := 2) (lv' := [(0, .ref 16), (1, .ref 12), (2, .ref 46), (3, .int ((y3 + 1)))]) (st' := []) (sh' := ab_SH) (D' := ab_dD r3.2) (fun n => rfl) ?_
        exact ih ((y3 + 1)) r3.2 _ hf
      · replace hf := (if_neg c4).symm.trans hf
        refine ab_Ex.blk (k := 1) (pc' := 30) (lv' := [(3, .int y3)]) (st' := [.int y3]) (sh' := ab_SH) (D' := ab_dD r3.2) (fun n => rfl) ?_
        obtain rfl := Option.some.inj hf
        exact ab_Ex.ret (fun n => rfl) rfl
set_option maxRecDepth 20000 in
theorem sX0_doAll_12_46 (d : Nat) (X : abX)  (h : abJ) (z : (Int32 × abJ)) (hf : fX0_doAll 12 46 h = some z) : ab_Ex X (d + 6) 9 0 [(0, .ref 16), (1, .ref 12), (2, .ref 46)] [] ab_SH (ab_dD h) (fun r => r = (some (.int z.1), ab_SH, ab_dD z.2)) := by
  unfold fX0_doAll at hf
  try simp only [Nat.reduceAdd] at hf
  refine ab_Ex.blk (k := 2) (pc' := 2) (lv' := [(0, .ref 16), (1, .ref 12), (2, .ref 46), (3, .int 0)]) (st' := []) (sh' := ab_SH) (D' := ab_dD h) (fun n => rfl) ?_
  exact sX0_doAll_L2_12_46 d X  ab_N 0 h _ hf
set_option maxRecDepth 20000 in
theorem sX0_doAll_L2_12_48 (d : Nat) (X : abX)   : ∀ (n : Nat), ∀ (y3 : Int32) (h : abJ) (z : (Int32 × abJ)), fX0_doAll_L2 12 48 n y3 h = some z → ab_Ex X (d + 6) 9 2 [(0, .ref 16), (1, .ref 12), (2, .ref 48), (3, .int y3)] [] ab_SH (ab_dD h) (fun r => r = (some (.int z.1), ab_SH, ab_dD z.2)) := by
  intro n
  induction n with
  | zero => intro y3 h z hf; cases hf
  | succ n ih =>
    intro y3 h z hf
    rw [fX0_doAll_L2] at hf
    try simp only [Nat.reduceAdd] at hf
    refine ab_Ex.blk (k := 3) (pc' := 7) (lv' := [(0, .ref 16), (1, .ref 12), (2, .ref 48), (3, .int y3)]) (st' := [.int ((h.1 48 2)), .int y3]) (sh' := ab_SH) (D' := ab_dD h) (fun n => rfl) ?_
    refine ab_Ex.ifc (c := (h.1 48 2) ≤ y3) (SA := (29, [(0, .ref 16), (1, .ref 12), (2, .ref 48), (3, .int y3)], [], ab_dD h)) (SB := (10, [(0, .ref 16), (1, .ref 12), (2, .ref 48), (3, .int y3)], [], ab_dD h)) (fun n => rfl) (fun c1 => ?_) (fun c1 => ?_)
    · replace hf := (if_pos c1).symm.trans hf
      refine ab_Ex.blk (k := 1) (pc' := 30) (lv' := [(3, .int y3)]) (st' := [.int y3]) (sh' := ab_SH) (D' := ab_dD h) (fun n => rfl) ?_
      obtain rfl := Option.some.inj hf
      exact ab_Ex.ret (fun n => rfl) rfl
    · replace hf := (if_neg c1).symm.trans hf
      refine ab_Ex.blk (k := 4) (pc' := 14) (lv' := [(0, .ref 16), (1, .ref 12), (2, .ref 48), (3, .int y3)]) (st' := [.int y3, .ref 48, .ref 12, .ref 16]) (sh' := ab_SH) (D' := ab_dD h) (fun n => rfl) ?_
      obtain ⟨r2, hr2, hf⟩ := ab_bind_s hf
      refine ab_Ex.call (d := d + 5) (M2 := 122) (as := [.ref 48, .int y3]) (rest := [.ref 12, .ref 16]) (fun n => rfl) rfl (Nat.not_lt.mpr (Nat.le_of_ble_eq_true rfl)) (sX10_value_48 (d + 5) X y3 h _ hr2) (fun r hr => ?_)
      subst hr
      show ab_Ex X (d + 6) 9 17 [(0, .ref 16), (1, .ref 12), (2, .ref 48), (3, .int y3)] [.long r2, .ref 12, .ref 16] ab_SH (ab_dD h) _
      obtain ⟨r3, hr3, hf⟩ := ab_bind_s hf
      refine ab_Ex.call (d := d + 5) (M2 := 8) (as := [.ref 16, .ref 12, .long r2]) (rest := []) (fun n => rfl) rfl (Nat.not_lt.mpr (Nat.le_of_ble_eq_true rfl)) (sX0_doOne_12 (d) X r2 h _ hr3) (fun r hr => ?_)
      subst hr
      show ab_Ex X (d + 6) 9 20 [(0, .ref 16), (1, .ref 12), (2, .ref 48), (3, .int y3)] [.int r3.1] ab_SH (ab_dD r3.2) _
      refine ab_Ex.ifc (c := r3.1 = 0) (SA := (23, [(0, .ref 16), (1, .ref 12), (2, .ref 48), (3, .int y3)], [], ab_dD r3.2)) (SB := (29, [(0, .ref 16), (1, .ref 12), (2, .ref 48), (3, .int y3)], [], ab_dD r3.2)) (fun n => rfl) (fun c4 => ?_) (fun c4 => ?_)
      · replace hf := (if_pos c4).symm.trans hf
        refine ab_Ex.blk (k := 2) (pc' := 2) (lv' := [(0, .ref 16), (1, .ref 12), (2, .ref 48), (3, .int ((y3 + 1)))]) (st' := []) (sh' := ab_SH) (D' := ab_dD r3.2) (fun n => rfl) ?_
        exact ih ((y3 + 1)) r3.2 _ hf
      · replace hf := (if_neg c4).symm.trans hf
        refine ab_Ex.blk (k := 1) (pc' := 30) (lv' := [(3, .int y3)]) (st' := [.int y3]) (sh' := ab_SH) (D' := ab_dD r3.2) (fun n => rfl) ?_
        obtain rfl := Option.some.inj hf
        exact ab_Ex.ret (fun n => rfl) rfl
set_option maxRecDepth 20000 in
theorem sX0_doAll_12_48 (d : Nat) (X : abX)  (h : abJ) (z : (Int32 × abJ)) (hf : fX0_doAll 12 48 h = some z) : ab_Ex X (d + 6) 9 0 [(0, .ref 16), (1, .ref 12), (2, .ref 48)] [] ab_SH (ab_dD h) (fun r => r = (some (.int z.1), ab_SH, ab_dD z.2)) := by
  unfold fX0_doAll at hf
  try simp only [Nat.reduceAdd] at hf
  refine ab_Ex.blk (k := 2) (pc' := 2) (lv' := [(0, .ref 16), (1, .ref 12), (2, .ref 48), (3, .int 0)]) (st' := []) (sh' := ab_SH) (D' := ab_dD h) (fun n => rfl) ?_
  exact sX0_doAll_L2_12_48 d X  ab_N 0 h _ hf
set_option maxRecDepth 20000 in
theorem sX0_doAll_L2_12_50 (d : Nat) (X : abX)   : ∀ (n : Nat), ∀ (y3 : Int32) (h : abJ) (z : (Int32 × abJ)), fX0_doAll_L2 12 50 n y3 h = some z → ab_Ex X (d + 6) 9 2 [(0, .ref 16), (1, .ref 12), (2, .ref 50), (3, .int y3)] [] ab_SH (ab_dD h) (fun r => r = (some (.int z.1), ab_SH, ab_dD z.2)) := by
  intro n
  induction n with
  | zero => intro y3 h z hf; cases hf
  | succ n ih =>
    intro y3 h z hf
    rw [fX0_doAll_L2] at hf
    try simp only [Nat.reduceAdd] at hf
    refine ab_Ex.blk (k := 3) (pc' := 7) (lv' := [(0, .ref 16), (1, .ref 12), (2, .ref 50), (3, .int y3)]) (st' := [.int ((h.1 50 2)), .int y3]) (sh' := ab_SH) (D' := ab_dD h) (fun n => rfl) ?_
    refine ab_Ex.ifc (c := (h.1 50 2) ≤ y3) (SA := (29, [(0, .ref 16), (1, .ref 12), (2, .ref 50), (3, .int y3)], [], ab_dD h)) (SB := (10, [(0, .ref 16), (1, .ref 12), (2, .ref 50), (3, .int y3)], [], ab_dD h)) (fun n => rfl) (fun c1 => ?_) (fun c1 => ?_)
    · replace hf := (if_pos c1).symm.trans hf
      refine ab_Ex.blk (k := 1) (pc' := 30) (lv' := [(3, .int y3)]) (st' := [.int y3]) (sh' := ab_SH) (D' := ab_dD h) (fun n => rfl) ?_
      obtain rfl := Option.some.inj hf
      exact ab_Ex.ret (fun n => rfl) rfl
    · replace hf := (if_neg c1).symm.trans hf
      refine ab_Ex.blk (k := 4) (pc' := 14) (lv' := [(0, .ref 16), (1, .ref 12), (2, .ref 50), (3, .int y3)]) (st' := [.int y3, .ref 50, .ref 12, .ref 16]) (sh' := ab_SH) (D' := ab_dD h) (fun n => rfl) ?_
      obtain ⟨r2, hr2, hf⟩ := ab_bind_s hf
      refine ab_Ex.call (d := d + 5) (M2 := 122) (as := [.ref 50, .int y3]) (rest := [.ref 12, .ref 16]) (fun n => rfl) rfl (Nat.not_lt.mpr (Nat.le_of_ble_eq_true rfl)) (sX10_value_50 (d + 5) X y3 h _ hr2) (fun r hr => ?_)
      subst hr
      show ab_Ex X (d + 6) 9 17 [(0, .ref 16), (1, .ref 12), (2, .ref 50), (3, .int y3)] [.long r2, .ref 12, .ref 16] ab_SH (ab_dD h) _
      obtain ⟨r3, hr3, hf⟩ := ab_bind_s hf
      refine ab_Ex.call (d := d + 5) (M2 := 8) (as := [.ref 16, .ref 12, .long r2]) (rest := []) (fun n => rfl) rfl (Nat.not_lt.mpr (Nat.le_of_ble_eq_true rfl)) (sX0_doOne_12 (d) X r2 h _ hr3) (fun r hr => ?_)
      subst hr
      show ab_Ex X (d + 6) 9 20 [(0, .ref 16), (1, .ref 12), (2, .ref 50), (3, .int y3)] [.int r3.1] ab_SH (ab_dD r3.2) _
      refine ab_Ex.ifc (c := r3.1 = 0) (SA := (23, [(0, .ref 16), (1, .ref 12), (2, .ref 50), (3, .int y3)], [], ab_dD r3.2)) (SB := (29, [(0, .ref 16), (1, .ref 12), (2, .ref 50), (3, .int y3)], [], ab_dD r3.2)) (fun n => rfl) (fun c4 => ?_) (fun c4 => ?_)
      · replace hf := (if_pos c4).symm.trans hf
        refine ab_Ex.blk (k := 2) (pc' := 2) (lv' := [(0, .ref 16), (1, .ref 12), (2, .ref 50), (3, .int ((y3 + 1)))]) (st' := []) (sh' := ab_SH) (D' := ab_dD r3.2) (fun n => rfl) ?_
        exact ih ((y3 + 1)) r3.2 _ hf
      · replace hf := (if_neg c4).symm.trans hf
        refine ab_Ex.blk (k := 1) (pc' := 30) (lv' := [(3, .int y3)]) (st' := [.int y3]) (sh' := ab_SH) (D' := ab_dD r3.2) (fun n => rfl) ?_
        obtain rfl := Option.some.inj hf
        exact ab_Ex.ret (fun n => rfl) rfl
set_option maxRecDepth 20000 in
theorem sX0_doAll_12_50 (d : Nat) (X : abX)  (h : abJ) (z : (Int32 × abJ)) (hf : fX0_doAll 12 50 h = some z) : ab_Ex X (d + 6) 9 0 [(0, .ref 16), (1, .ref 12), (2, .ref 50)] [] ab_SH (ab_dD h) (fun r => r = (some (.int z.1), ab_SH, ab_dD z.2)) := by
  unfold fX0_doAll at hf
  try simp only [Nat.reduceAdd] at hf
  refine ab_Ex.blk (k := 2) (pc' := 2) (lv' := [(0, .ref 16), (1, .ref 12), (2, .ref 50), (3, .int 0)]) (st' := []) (sh' := ab_SH) (D' := ab_dD h) (fun n => rfl) ?_
  exact sX0_doAll_L2_12_50 d X  ab_N 0 h _ hf
set_option maxRecDepth 20000 in
theorem sX0_doAll_L2_18_44 (d : Nat) (X : abX)   : ∀ (n : Nat), ∀ (y3 : Int32) (h : abJ) (z : (Int32 × abJ)), fX0_doAll_L2 18 44 n y3 h = some z → ab_Ex X (d + 6) 9 2 [(0, .ref 16), (1, .ref 18), (2, .ref 44), (3, .int y3)] [] ab_SH (ab_dD h) (fun r => r = (some (.int z.1), ab_SH, ab_dD z.2)) := by
  intro n
  induction n with
  | zero => intro y3 h z hf; cases hf
  | succ n ih =>
    intro y3 h z hf
    rw [fX0_doAll_L2] at hf
    try simp only [Nat.reduceAdd] at hf
    refine ab_Ex.blk (k := 3) (pc' := 7) (lv' := [(0, .ref 16), (1, .ref 18), (2, .ref 44), (3, .int y3)]) (st' := [.int ((h.1 44 2)), .int y3]) (sh' := ab_SH) (D' := ab_dD h) (fun n => rfl) ?_
    refine ab_Ex.ifc (c := (h.1 44 2) ≤ y3) (SA := (29, [(0, .ref 16), (1, .ref 18), (2, .ref 44), (3, .int y3)], [], ab_dD h)) (SB := (10, [(0, .ref 16), (1, .ref 18), (2, .ref 44), (3, .int y3)], [], ab_dD h)) (fun n => rfl) (fun c1 => ?_) (fun c1 => ?_)
    · replace hf := (if_pos c1).symm.trans hf
      refine ab_Ex.blk (k := 1) (pc' := 30) (lv' := [(3, .int y3)]) (st' := [.int y3]) (sh' := ab_SH) (D' := ab_dD h) (fun n => rfl) ?_
      obtain rfl := Option.some.inj hf
      exact ab_Ex.ret (fun n => rfl) rfl
    · replace hf := (if_neg c1).symm.trans hf
      refine ab_Ex.blk (k := 4) (pc' := 14) (lv' := [(0, .ref 16), (1, .ref 18), (2, .ref 44), (3, .int y3)]) (st' := [.int y3, .ref 44, .ref 18, .ref 16]) (sh' := ab_SH) (D' := ab_dD h) (fun n => rfl) ?_
      obtain ⟨r2, hr2, hf⟩ := ab_bind_s hf
      refine ab_Ex.call (d := d + 5) (M2 := 122) (as := [.ref 44, .int y3]) (rest := [.ref 18, .ref 16]) (fun n => rfl) rfl (Nat.not_lt.mpr (Nat.le_of_ble_eq_true rfl)) (sX10_value_44 (d + 5) X y3 h _ hr2) (fun r hr => ?_)
      subst hr
      show ab_Ex X (d + 6) 9 17 [(0, .ref 16), (1, .ref 18), (2, .ref 44), (3, .int y3)] [.long r2, .ref 18, .ref 16] ab_SH (ab_dD h) _
      obtain ⟨r3, hr3, hf⟩ := ab_bind_s hf
      refine ab_Ex.call (d := d + 5) (M2 := 8) (as := [.ref 16, .ref 18, .long r2]) (rest := []) (fun n => rfl) rfl (Nat.not_lt.mpr (Nat.le_of_ble_eq_true rfl)) (sX0_doOne_18 (d) X r2 h _ hr3) (fun r hr => ?_)
      subst hr
      show ab_Ex X (d + 6) 9 20 [(0, .ref 16), (1, .ref 18), (2, .ref 44), (3, .int y3)] [.int r3.1] ab_SH (ab_dD r3.2) _
      refine ab_Ex.ifc (c := r3.1 = 0) (SA := (23, [(0, .ref 16), (1, .ref 18), (2, .ref 44), (3, .int y3)], [], ab_dD r3.2)) (SB := (29, [(0, .ref 16), (1, .ref 18), (2, .ref 44), (3, .int y3)], [], ab_dD r3.2)) (fun n => rfl) (fun c4 => ?_) (fun c4 => ?_)
      · replace hf := (if_pos c4).symm.trans hf
        refine ab_Ex.blk (k := 2) (pc' := 2) (lv' := [(0, .ref 16), (1, .ref 18), (2, .ref 44), (3, .int ((y3 + 1)))]) (st' := []) (sh' := ab_SH) (D' := ab_dD r3.2) (fun n => rfl) ?_
        exact ih ((y3 + 1)) r3.2 _ hf
      · replace hf := (if_neg c4).symm.trans hf
        refine ab_Ex.blk (k := 1) (pc' := 30) (lv' := [(3, .int y3)]) (st' := [.int y3]) (sh' := ab_SH) (D' := ab_dD r3.2) (fun n => rfl) ?_
        obtain rfl := Option.some.inj hf
        exact ab_Ex.ret (fun n => rfl) rfl
set_option maxRecDepth 20000 in
theorem sX0_doAll_18_44 (d : Nat) (X : abX)  (h : abJ) (z : (Int32 × abJ)) (hf : fX0_doAll 18 44 h = some z) : ab_Ex X (d + 6) 9 0 [(0, .ref 16), (1, .ref 18), (2, .ref 44)] [] ab_SH (ab_dD h) (fun r => r = (some (.int z.1), ab_SH, ab_dD z.2)) := by
  unfold fX0_doAll at hf
  try simp only [Nat.reduceAdd] at hf
  refine ab_Ex.blk (k := 2) (pc' := 2) (lv' := [(0, .ref 16), (1, .ref 18), (2, .ref 44), (3, .int 0)]) (st' := []) (sh' := ab_SH) (D' := ab_dD h) (fun n => rfl) ?_
  exact sX0_doAll_L2_18_44 d X  ab_N 0 h _ hf
set_option maxRecDepth 20000 in
theorem sX0_doAll_L2_18_46 (d : Nat) (X : abX)   : ∀ (n : Nat), ∀ (y3 : Int32) (h : abJ) (z : (Int32 × abJ)), fX0_doAll_L2 18 46 n y3 h = some z → ab_Ex X (d + 6) 9 2 [(0, .ref 16), (1, .ref 18), (2, .ref 46), (3, .int y3)] [] ab_SH (ab_dD h) (fun r => r = (some (.int z.1), ab_SH, ab_dD z.2)) := by
  intro n
  induction n with
  | zero => intro y3 h z hf; cases hf
  | succ n ih =>
    intro y3 h z hf
    rw [fX0_doAll_L2] at hf
    try simp only [Nat.reduceAdd] at hf
    refine ab_Ex.blk (k := 3) (pc' := 7) (lv' := [(0, .ref 16), (1, .ref 18), (2, .ref 46), (3, .int y3)]) (st' := [.int ((h.1 46 2)), .int y3]) (sh' := ab_SH) (D' := ab_dD h) (fun n => rfl) ?_
    refine ab_Ex.ifc (c := (h.1 46 2) ≤ y3) (SA := (29, [(0, .ref 16), (1, .ref 18), (2, .ref 46), (3, .int y3)], [], ab_dD h)) (SB := (10, [(0, .ref 16), (1, .ref 18), (2, .ref 46), (3, .int y3)], [], ab_dD h)) (fun n => rfl) (fun c1 => ?_) (fun c1 => ?_)
    · replace hf := (if_pos c1).symm.trans hf
      refine ab_Ex.blk (k := 1) (pc' := 30) (lv' := [(3, .int y3)]) (st' := [.int y3]) (sh' := ab_SH) (D' := ab_dD h) (fun n => rfl) ?_
      obtain rfl := Option.some.inj hf
      exact ab_Ex.ret (fun n => rfl) rfl
    · replace hf := (if_neg c1).symm.trans hf
      refine ab_Ex.blk (k := 4) (pc' := 14) (lv' := [(0, .ref 16), (1, .ref 18), (2, .ref 46), (3, .int y3)]) (st' := [.int y3, .ref 46, .ref 18, .ref 16]) (sh' := ab_SH) (D' := ab_dD h) (fun n => rfl) ?_
      obtain ⟨r2, hr2, hf⟩ := ab_bind_s hf
      refine ab_Ex.call (d := d + 5) (M2 := 122) (as := [.ref 46, .int y3]) (rest := [.ref 18, .ref 16]) (fun n => rfl) rfl (Nat.not_lt.mpr (Nat.le_of_ble_eq_true rfl)) (sX10_value_46 (d + 5) X y3 h _ hr2) (fun r hr => ?_)
      subst hr
      show ab_Ex X (d + 6) 9 17 [(0, .ref 16), (1, .ref 18), (2, .ref 46), (3, .int y3)] [.long r2, .ref 18, .ref 16] ab_SH (ab_dD h) _
      obtain ⟨r3, hr3, hf⟩ := ab_bind_s hf
      refine ab_Ex.call (d := d + 5) (M2 := 8) (as := [.ref 16, .ref 18, .long r2]) (rest := []) (fun n => rfl) rfl (Nat.not_lt.mpr (Nat.le_of_ble_eq_true rfl)) (sX0_doOne_18 (d) X r2 h _ hr3) (fun r hr => ?_)
      subst hr
      show ab_Ex X (d + 6) 9 20 [(0, .ref 16), (1, .ref 18), (2, .ref 46), (3, .int y3)] [.int r3.1] ab_SH (ab_dD r3.2) _
      refine ab_Ex.ifc (c := r3.1 = 0) (SA := (23, [(0, .ref 16), (1, .ref 18), (2, .ref 46), (3, .int y3)], [], ab_dD r3.2)) (SB := (29, [(0, .ref 16), (1, .ref 18), (2, .ref 46), (3, .int y3)], [], ab_dD r3.2)) (fun n => rfl) (fun c4 => ?_) (fun c4 => ?_)
      · replace hf := (if_pos c4).symm.trans hf
        refine ab_Ex.blk (k := 2) (pc' := 2) (lv' := [(0, .ref 16), (1, .ref 18), (2, .ref 46), (3, .int ((y3 + 1)))]) (st' := []) (sh' := ab_SH) (D' := ab_dD r3.2) (fun n => rfl) ?_
        exact ih ((y3 + 1)) r3.2 _ hf
      · replace hf := (if_neg c4).symm.trans hf
        refine ab_Ex.blk (k := 1) (pc' := 30) (lv' := [(3, .int y3)]) (st' := [.int y3]) (sh' := ab_SH) (D' := ab_dD r3.2) (fun n => rfl) ?_
        obtain rfl := Option.some.inj hf
        exact ab_Ex.ret (fun n => rfl) rfl
set_option maxRecDepth 20000 in
theorem sX0_doAll_18_46 (d : Nat) (X : abX)  (h : abJ) (z : (Int32 × abJ)) (hf : fX0_doAll 18 46 h = some z) : ab_Ex X (d + 6) 9 0 [(0, .ref 16), (1, .ref 18), (2, .ref 46)] [] ab_SH (ab_dD h) (fun r => r = (some (.int z.1), ab_SH, ab_dD z.2)) := by
  unfold fX0_doAll at hf
  try simp only [Nat.reduceAdd] at hf
  refine ab_Ex.blk (k := 2) (pc' := 2) (lv' := [(0, .ref 16), (1, .ref 18), (2, .ref 46), (3, .int 0)]) (st' := []) (sh' := ab_SH) (D' := ab_dD h) (fun n => rfl) ?_
  exact sX0_doAll_L2_18_46 d X  ab_N 0 h _ hf
set_option maxRecDepth 20000 in
theorem sX0_doAll_L2_18_48 (d : Nat) (X : abX)   : ∀ (n : Nat), ∀ (y3 : Int32) (h : abJ) (z : (Int32 × abJ)), fX0_doAll_L2 18 48 n y3 h = some z → ab_Ex X (d + 6) 9 2 [(0, .ref 16), (1, .ref 18), (2, .ref 48), (3, .int y3)] [] ab_SH (ab_dD h) (fun r => r = (some (.int z.1), ab_SH, ab_dD z.2)) := by
  intro n
  induction n with
  | zero => intro y3 h z hf; cases hf
  | succ n ih =>
    intro y3 h z hf
    rw [fX0_doAll_L2] at hf
    try simp only [Nat.reduceAdd] at hf
    refine ab_Ex.blk (k := 3) (pc' := 7) (lv' := [(0, .ref 16), (1, .ref 18), (2, .ref 48), (3, .int y3)]) (st' := [.int ((h.1 48 2)), .int y3]) (sh' := ab_SH) (D' := ab_dD h) (fun n => rfl) ?_
    refine ab_Ex.ifc (c := (h.1 48 2) ≤ y3) (SA := (29, [(0, .ref 16), (1, .ref 18), (2, .ref 48), (3, .int y3)], [], ab_dD h)) (SB := (10, [(0, .ref 16), (1, .ref 18), (2, .ref 48), (3, .int y3)], [], ab_dD h)) (fun n => rfl) (fun c1 => ?_) (fun c1 => ?_)
    · replace hf := (if_pos c1).symm.trans hf
      refine ab_Ex.blk (k := 1) (pc' := 30) (lv' := [(3, .int y3)]) (st' := [.int y3]) (sh' := ab_SH) (D' := ab_dD h) (fun n => rfl) ?_
      obtain rfl := Option.some.inj hf
      exact ab_Ex.ret (fun n => rfl) rfl
    · replace hf := (if_neg c1).symm.trans hf
      refine ab_Ex.blk (k := 4) (pc' := 14) (lv' := [(0, .ref 16), (1, .ref 18), (2, .ref 48), (3, .int y3)]) (st' := [.int y3, .ref 48, .ref 18, .ref 16]) (sh' := ab_SH) (D' := ab_dD h) (fun n => rfl) ?_
      obtain ⟨r2, hr2, hf⟩ := ab_bind_s hf
      refine ab_Ex.call (d := d + 5) (M2 := 122) (as := [.ref 48, .int y3]) (rest := [.ref 18, .ref 16]) (fun n => rfl) rfl (Nat.not_lt.mpr (Nat.le_of_ble_eq_true rfl)) (sX10_value_48 (d + 5) X y3 h _ hr2) (fun r hr => ?_)
      subst hr
      show ab_Ex X (d + 6) 9 17 [(0, .ref 16), (1, .ref 18), (2, .ref 48), (3, .int y3)] [.long r2, .ref 18, .ref 16] ab_SH (ab_dD h) _
      obtain ⟨r3, hr3, hf⟩ := ab_bind_s hf
      refine ab_Ex.call (d := d + 5) (M2 := 8) (as := [.ref 16, .ref 18, .long r2]) (rest := []) (fun n => rfl) rfl (Nat.not_lt.mpr (Nat.le_of_ble_eq_true rfl)) (sX0_doOne_18 (d) X r2 h _ hr3) (fun r hr => ?_)
      subst hr
      show ab_Ex X (d + 6) 9 20 [(0, .ref 16), (1, .ref 18), (2, .ref 48), (3, .int y3)] [.int r3.1] ab_SH (ab_dD r3.2) _
      refine ab_Ex.ifc (c := r3.1 = 0) (SA := (23, [(0, .ref 16), (1, .ref 18), (2, .ref 48), (3, .int y3)], [], ab_dD r3.2)) (SB := (29, [(0, .ref 16), (1, .ref 18), (2, .ref 48), (3, .int y3)], [], ab_dD r3.2)) (fun n => rfl) (fun c4 => ?_) (fun c4 => ?_)
      · replace hf := (if_pos c4).symm.trans hf
        refine ab_Ex.blk (k := 2) (pc' := 2) (lv' := [(0, .ref 16), (1, .ref 18), (2, .ref 48), (3, .int ((y3 + 1)))]) (st' := []) (sh' := ab_SH) (D' := ab_dD r3.2) (fun n => rfl) ?_
        exact ih ((y3 + 1)) r3.2 _ hf
      · replace hf := (if_neg c4).symm.trans hf
        refine ab_Ex.blk (k := 1) (pc' := 30) (lv' := [(3, .int y3)]) (st' := [.int y3]) (sh' := ab_SH) (D' := ab_dD r3.2) (fun n => rfl) ?_
        obtain rfl := Option.some.inj hf
        exact ab_Ex.ret (fun n => rfl) rfl
set_option maxRecDepth 20000 in
theorem sX0_doAll_18_48 (d : Nat) (X : abX)  (h : abJ) (z : (Int32 × abJ)) (hf : fX0_doAll 18 48 h = some z) : ab_Ex X (d + 6) 9 0 [(0, .ref 16), (1, .ref 18), (2, .ref 48)] [] ab_SH (ab_dD h) (fun r => r = (some (.int z.1), ab_SH, ab_dD z.2)) := by
  unfold fX0_doAll at hf
  try simp only [Nat.reduceAdd] at hf
  refine ab_Ex.blk (k := 2) (pc' := 2) (lv' := [(0, .ref 16), (1, .ref 18), (2, .ref 48), (3, .int 0)]) (st' := []) (sh' := ab_SH) (D' := ab_dD h) (fun n => rfl) ?_
  exact sX0_doAll_L2_18_48 d X  ab_N 0 h _ hf
set_option maxRecDepth 20000 in
theorem sX0_doAll_L2_18_50 (d : Nat) (X : abX)   : ∀ (n : Nat), ∀ (y3 : Int32) (h : abJ) (z : (Int32 × abJ)), fX0_doAll_L2 18 50 n y3 h = some z → ab_Ex X (d + 6) 9 2 [(0, .ref 16), (1, .ref 18), (2, .ref 50), (3, .int y3)] [] ab_SH (ab_dD h) (fun r => r = (some (.int z.1), ab_SH, ab_dD z.2)) := by
  intro n
  induction n with
  | zero => intro y3 h z hf; cases hf
  | succ n ih =>
    intro y3 h z hf
    rw [fX0_doAll_L2] at hf
    try simp only [Nat.reduceAdd] at hf
    refine ab_Ex.blk (k := 3) (pc' := 7) (lv' := [(0, .ref 16), (1, .ref 18), (2, .ref 50), (3, .int y3)]) (st' := [.int ((h.1 50 2)), .int y3]) (sh' := ab_SH) (D' := ab_dD h) (fun n => rfl) ?_
    refine ab_Ex.ifc (c := (h.1 50 2) ≤ y3) (SA := (29, [(0, .ref 16), (1, .ref 18), (2, .ref 50), (3, .int y3)], [], ab_dD h)) (SB := (10, [(0, .ref 16), (1, .ref 18), (2, .ref 50), (3, .int y3)], [], ab_dD h)) (fun n => rfl) (fun c1 => ?_) (fun c1 => ?_)
    · replace hf := (if_pos c1).symm.trans hf
      refine ab_Ex.blk (k := 1) (pc' := 30) (lv' := [(3, .int y3)]) (st' := [.int y3]) (sh' := ab_SH) (D' := ab_dD h) (fun n => rfl) ?_
      obtain rfl := Option.some.inj hf
      exact ab_Ex.ret (fun n => rfl) rfl
    · replace hf := (if_neg c1).symm.trans hf
      refine ab_Ex.blk (k := 4) (pc' := 14) (lv' := [(0, .ref 16), (1, .ref 18), (2, .ref 50), (3, .int y3)]) (st' := [.int y3, .ref 50, .ref 18, .ref 16]) (sh' := ab_SH) (D' := ab_dD h) (fun n => rfl) ?_
      obtain ⟨r2, hr2, hf⟩ := ab_bind_s hf
      refine ab_Ex.call (d := d + 5) (M2 := 122) (as := [.ref 50, .int y3]) (rest := [.ref 18, .ref 16]) (fun n => rfl) rfl (Nat.not_lt.mpr (Nat.le_of_ble_eq_true rfl)) (sX10_value_50 (d + 5) X y3 h _ hr2) (fun r hr => ?_)
      subst hr
      show ab_Ex X (d + 6) 9 17 [(0, .ref 16), (1, .ref 18), (2, .ref 50), (3, .int y3)] [.long r2, .ref 18, .ref 16] ab_SH (ab_dD h) _
      obtain ⟨r3, hr3, hf⟩ := ab_bind_s hf
      refine ab_Ex.call (d := d + 5) (M2 := 8) (as := [.ref 16, .ref 18, .long r2]) (rest := []) (fun n => rfl) rfl (Nat.not_lt.mpr (Nat.le_of_ble_eq_true rfl)) (sX0_doOne_18 (d) X r2 h _ hr3) (fun r hr => ?_)
      subst hr
      show ab_Ex X (d + 6) 9 20 [(0, .ref 16), (1, .ref 18), (2, .ref 50), (3, .int y3)] [.int r3.1] ab_SH (ab_dD r3.2) _
      refine ab_Ex.ifc (c := r3.1 = 0) (SA := (23, [(0, .ref 16), (1, .ref 18), (2, .ref 50), (3, .int y3)], [], ab_dD r3.2)) (SB := (29, [(0, .ref 16), (1, .ref 18), (2, .ref 50), (3, .int y3)], [], ab_dD r3.2)) (fun n => rfl) (fun c4 => ?_) (fun c4 => ?_)
      · replace hf := (if_pos c4).symm.trans hf
        refine ab_Ex.blk (k := 2) (pc' := 2) (lv' := [(0, .ref 16), (1, .ref 18), (2, .ref 50), (3, .int ((y3 + 1)))]) (st' := []) (sh' := ab_SH) (D' := ab_dD r3.2) (fun n => rfl) ?_
        exact ih ((y3 + 1)) r3.2 _ hf
      · replace hf := (if_neg c4).symm.trans hf
        refine ab_Ex.blk (k := 1) (pc' := 30) (lv' := [(3, .int y3)]) (st' := [.int y3]) (sh' := ab_SH) (D' := ab_dD r3.2) (fun n => rfl) ?_
        obtain rfl := Option.some.inj hf
        exact ab_Ex.ret (fun n => rfl) rfl
set_option maxRecDepth 20000 in
theorem sX0_doAll_18_50 (d : Nat) (X : abX)  (h : abJ) (z : (Int32 × abJ)) (hf : fX0_doAll 18 50 h = some z) : ab_Ex X (d + 6) 9 0 [(0, .ref 16), (1, .ref 18), (2, .ref 50)] [] ab_SH (ab_dD h) (fun r => r = (some (.int z.1), ab_SH, ab_dD z.2)) := by
  unfold fX0_doAll at hf
  try simp only [Nat.reduceAdd] at hf
  refine ab_Ex.blk (k := 2) (pc' := 2) (lv' := [(0, .ref 16), (1, .ref 18), (2, .ref 50), (3, .int 0)]) (st' := []) (sh' := ab_SH) (D' := ab_dD h) (fun n => rfl) ?_
  exact sX0_doAll_L2_18_50 d X  ab_N 0 h _ hf
def fX0_draw (x0 : Int32) (h : abJ) : Option (Int32 × abJ) := if 1 ≤ x0 then ab_ask (x0 = 0) (some (((((((ab_wI h 16 7 ((1103515245 * (h.1 16 7)) + 12345))).1 16 7) : Int32).toUInt32 >>> ((16 : Int32).toUInt32 &&& Int32.toUInt32 31)).toInt32 - (((((ab_wI h 16 7 ((1103515245 * (h.1 16 7)) + 12345))).1 16 7) : Int32).toUInt32 >>> ((16 : Int32).toUInt32 &&& Int32.toUInt32 31)).toInt32 / x0 * x0), (ab_wI h 16 7 ((1103515245 * (h.1 16 7)) + 12345)))) else some (0, (ab_wI h 16 7 ((1103515245 * (h.1 16 7)) + 12345)))
set_option maxRecDepth 20000 in
theorem sX0_draw (d : Nat) (X : abX) (x0 : Int32) (h : abJ) (z : (Int32 × abJ)) (hf : fX0_draw x0 h = some z) : ab_Ex X (d + 0) 12 0 [(0, .ref 16), (1, .int x0)] [] ab_SH (ab_dD h) (fun r => r = (some (.int z.1), ab_SH, ab_dD z.2)) := by
  unfold fX0_draw at hf
  refine ab_Ex.blk (k := 10) (pc' := 17) (lv' := [(0, .ref 16), (1, .int x0)]) (st' := [.int 1, .int x0]) (sh' := ab_SH) (D' := ab_dD (ab_wI h 16 7 ((1103515245 * (h.1 16 7)) + 12345))) (fun n => rfl) ?_
  refine ab_Ex.ifc (c := 1 ≤ x0) (SA := (24, [(0, .ref 16), (1, .int x0)], [], ab_dD (ab_wI h 16 7 ((1103515245 * (h.1 16 7)) + 12345)))) (SB := (20, [(0, .ref 16), (1, .int x0)], [], ab_dD (ab_wI h 16 7 ((1103515245 * (h.1 16 7)) + 12345)))) (fun n => rfl) (fun c1 => ?_) (fun c1 => ?_)
  · replace hf := (if_pos c1).symm.trans hf
    refine ab_Ex.blk (k := 5) (pc' := 32) (lv' := [(0, .ref 16), (1, .int x0)]) (st' := [.int x0, .int ((((((ab_wI h 16 7 ((1103515245 * (h.1 16 7)) + 12345))).1 16 7) : Int32).toUInt32 >>> ((16 : Int32).toUInt32 &&& Int32.toUInt32 31)).toInt32)]) (sh' := ab_SH) (D' := ab_dD (ab_wI h 16 7 ((1103515245 * (h.1 16 7)) + 12345))) (fun n => rfl) ?_
    obtain ⟨c2, hf⟩ := ab_ask_s hf
    refine ab_Ex.grd (c := x0 = 0) (S := (33, [(0, .ref 16), (1, .int x0)], [.int (((((((ab_wI h 16 7 ((1103515245 * (h.1 16 7)) + 12345))).1 16 7) : Int32).toUInt32 >>> ((16 : Int32).toUInt32 &&& Int32.toUInt32 31)).toInt32 - (((((ab_wI h 16 7 ((1103515245 * (h.1 16 7)) + 12345))).1 16 7) : Int32).toUInt32 >>> ((16 : Int32).toUInt32 &&& Int32.toUInt32 31)).toInt32 / x0 * x0))], ab_dD (ab_wI h 16 7 ((1103515245 * (h.1 16 7)) + 12345)))) (fun n => rfl) c2 ?_
    obtain rfl := Option.some.inj hf
    exact ab_Ex.ret (fun n => rfl) rfl
  · replace hf := (if_neg c1).symm.trans hf
    refine ab_Ex.blk (k := 2) (pc' := 33) (lv' := []) (st' := [.int 0]) (sh' := ab_SH) (D' := ab_dD (ab_wI h 16 7 ((1103515245 * (h.1 16 7)) + 12345))) (fun n => rfl) ?_
    obtain rfl := Option.some.inj hf
    exact ab_Ex.ret (fun n => rfl) rfl
def fX0_drawDeed  (h : abJ) : Option (Int32 × abJ) := (fX0_draw 6 h).bind (fun r1 => if 3 ≤ r1.1 then if r1.1 = 3 then (fX0_draw 10 r1.2).bind (fun r4 => some ((10 + r4.1), r4.2)) else if r1.1 = 4 then (fX0_draw 6 r1.2).bind (fun r6 => some ((20 + r6.1), r6.2)) else (fX0_draw 6 r1.2).bind (fun r7 => (fX0_draw 3 r7.2).bind (fun r8 => some (((100 + (10 * r7.1)) + r8.1), r8.2))) else some (0, r1.2))
set_option maxRecDepth 20000 in
theorem sX0_drawDeed (d : Nat) (X : abX)  (h : abJ) (z : (Int32 × abJ)) (hf : fX0_drawDeed  h = some z) : ab_Ex X (d + 1) 11 0 [(0, .ref 16)] [] ab_SH (ab_dD h) (fun r => r = (some (.int z.1), ab_SH, ab_dD z.2)) := by
  unfold fX0_drawDeed at hf
  refine ab_Ex.blk (k := 2) (pc' := 3) (lv' := [(0, .ref 16)]) (st' := [.int 6, .ref 16]) (sh' := ab_SH) (D' := ab_dD h) (fun n => rfl) ?_
  obtain ⟨r1, hr1, hf⟩ := ab_bind_s hf
  refine ab_Ex.call (d := d + 0) (M2 := 12) (as := [.ref 16, .int 6]) (rest := []) (fun n => rfl) rfl (Nat.not_lt.mpr (Nat.le_of_ble_eq_true rfl)) (sX0_draw (d) X 6 h _ hr1) (fun r hr => ?_)
  subst hr
  show ab_Ex X (d + 1) 11 6 [(0, .ref 16)] [.int r1.1] ab_SH (ab_dD r1.2) _
  refine ab_Ex.blk (k := 3) (pc' := 9) (lv' := [(1, .int r1.1), (0, .ref 16)]) (st' := [.int 3, .int r1.1]) (sh' := ab_SH) (D' := ab_dD r1.2) (fun n => rfl) ?_
  refine ab_Ex.ifc (c := 3 ≤ r1.1) (SA := (14, [(1, .int r1.1), (0, .ref 16)], [], ab_dD r1.2)) (SB := (12, [(1, .int r1.1), (0, .ref 16)], [], ab_dD r1.2)) (fun n => rfl) (fun c2 => ?_) (fun c2 => ?_)
  · replace hf := (if_pos c2).symm.trans hf
    refine ab_Ex.blk (k := 2) (pc' := 16) (lv' := [(1, .int r1.1), (0, .ref 16)]) (st' := [.int 3, .int r1.1]) (sh' := ab_SH) (D' := ab_dD r1.2) (fun n => rfl) ?_
    refine ab_Ex.ifc (c := r1.1 = 3) (SA := (19, [(1, .int r1.1), (0, .ref 16)], [], ab_dD r1.2)) (SB := (29, [(1, .int r1.1), (0, .ref 16)], [], ab_dD r1.2)) (fun n => rfl) (fun c3 => ?_) (fun c3 => ?_)
    · replace hf := (if_pos c3).symm.trans hf
      refine ab_Ex.blk (k := 3) (pc' := 24) (lv' := [(1, .int r1.1), (0, .ref 16)]) (st' := [.int 10, .ref 16, .int 10]) (sh' := ab_SH) (D' := ab_dD r1.2) (fun n => rfl) ?_
      obtain ⟨r4, hr4, hf⟩ := ab_bind_s hf
      refine ab_Ex.call (d := d + 0) (M2 := 12) (as := [.ref 16, .int 10]) (rest := [.int 10]) (fun n => rfl) rfl (Nat.not_lt.mpr (Nat.le_of_ble_eq_true rfl)) (sX0_draw (d) X 10 r1.2 _ hr4) (fun r hr => ?_)
      subst hr
      show ab_Ex X (d + 1) 11 27 [(1, .int r1.1), (0, .ref 16)] [.int r4.1, .int 10] ab_SH (ab_dD r4.2) _
      refine ab_Ex.blk (k := 1) (pc' := 28) (lv' := [(1, .int r1.1), (0, .ref 16)]) (st' := [.int ((10 + r4.1))]) (sh' := ab_SH) (D' := ab_dD r4.2) (fun n => rfl) ?_
      obtain rfl := Option.some.inj hf
      exact ab_Ex.ret (fun n => rfl) rfl
    · replace hf := (if_neg c3).symm.trans hf
      refine ab_Ex.blk (k := 2) (pc' := 31) (lv' := [(1, .int r1.1), (0, .ref 16)]) (st' := [.int 4, .int r1.1]) (sh' := ab_SH) (D' := ab_dD r1.2) (fun n => rfl) ?_
      refine ab_Ex.ifc (c := r1.1 = 4) (SA := (34, [(1, .int r1.1), (0, .ref 16)], [], ab_dD r1.2)) (SB := (44, [(1, .int r1.1), (0, .ref 16)], [], ab_dD r1.2)) (fun n => rfl) (fun c5 => ?_) (fun c5 => ?_)
      · replace hf := (if_pos c5).symm.trans hf
        refine ab_Ex.blk (k := 3) (pc' := 39) (lv' := [(1, .int r1.1), (0, .ref 16)]) (st' := [.int 6, .ref 16, .int 20]) (sh' := ab_SH) (D' := ab_dD r1.2) (fun n => rfl) ?_
        obtain ⟨r6, hr6, hf⟩ := ab_bind_s hf
        refine ab_Ex.call (d := d + 0) (M2 := 12) (as := [.ref 16, .int 6]) (rest := [.int 20]) (fun n => rfl) rfl (Nat.not_lt.mpr (Nat.le_of_ble_eq_true rfl)) (sX0_draw (d) X 6 r1.2 _ hr6) (fun r hr => ?_)
        subst hr
        show ab_Ex X (d + 1) 11 42 [(1, .int r1.1), (0, .ref 16)] [.int r6.1, .int 20] ab_SH (ab_dD r6.2) _
        refine ab_Ex.blk (k := 1) (pc' := 43) (lv' := [(1, .int r1.1), (0, .ref 16)]) (st' := [.int ((20 + r6.1))]) (sh' := ab_SH) (D' := ab_dD r6.2) (fun n => rfl) ?_
        obtain rfl := Option.some.inj hf
        exact ab_Ex.ret (fun n => rfl) rfl
      · replace hf := (if_neg c5).symm.trans hf
        refine ab_Ex.blk (k := 2) (pc' := 47) (lv' := [(1, .int r1.1), (0, .ref 16)]) (st' := [.int 6, .ref 16]) (sh' := ab_SH) (D' := ab_dD r1.2) (fun n => rfl) ?_
        obtain ⟨r7, hr7, hf⟩ := ab_bind_s hf
        refine ab_Ex.call (d := d + 0) (M2 := 12) (as := [.ref 16, .int 6]) (rest := []) (fun n => rfl) rfl (Nat.not_lt.mpr (Nat.le_of_ble_eq_true rfl)) (sX0_draw (d) X 6 r1.2 _ hr7) (fun r hr => ?_)
        subst hr
        show ab_Ex X (d + 1) 11 50 [(1, .int r1.1), (0, .ref 16)] [.int r7.1] ab_SH (ab_dD r7.2) _
        refine ab_Ex.blk (k := 8) (pc' := 60) (lv' := [(2, .int r7.1), (1, .int r1.1), (0, .ref 16)]) (st' := [.int 3, .ref 16, .int ((100 + (10 * r7.1)))]) (sh' := ab_SH) (D' := ab_dD r7.2) (fun n => rfl) ?_
        obtain ⟨r8, hr8, hf⟩ := ab_bind_s hf
        refine ab_Ex.call (d := d + 0) (M2 := 12) (as := [.ref 16, .int 3]) (rest := [.int ((100 + (10 * r7.1)))]) (fun n => rfl) rfl (Nat.not_lt.mpr (Nat.le_of_ble_eq_true rfl)) (sX0_draw (d) X 3 r7.2 _ hr8) (fun r hr => ?_)
        subst hr
        show ab_Ex X (d + 1) 11 63 [(2, .int r7.1), (1, .int r1.1), (0, .ref 16)] [.int r8.1, .int ((100 + (10 * r7.1)))] ab_SH (ab_dD r8.2) _
        refine ab_Ex.blk (k := 1) (pc' := 64) (lv' := [(2, .int r7.1), (1, .int r1.1), (0, .ref 16)]) (st' := [.int (((100 + (10 * r7.1)) + r8.1))]) (sh' := ab_SH) (D' := ab_dD r8.2) (fun n => rfl) ?_
        obtain rfl := Option.some.inj hf
        exact ab_Ex.ret (fun n => rfl) rfl
  · replace hf := (if_neg c2).symm.trans hf
    refine ab_Ex.blk (k := 1) (pc' := 13) (lv' := [(1, .int r1.1), (0, .ref 16)]) (st' := [.int 0]) (sh' := ab_SH) (D' := ab_dD r1.2) (fun n => rfl) ?_
    obtain rfl := Option.some.inj hf
    exact ab_Ex.ret (fun n => rfl) rfl
def fX0_liveYear_L11   : Nat → Int32 → Int32 → Int32 → abJ → Option (Int32 × abJ)
  | 0, _, _, _, _ => none
  | n + 1, y3, y4, y5, h => if y3 ≤ y5 then some (y4, h) else (fX0_drawDeed h).bind (fun r2 => (fX0_doOne 12 ((r2.1 : Int32).toInt64) r2.2).bind (fun r3 => if r3.1 = 0 then fX0_liveYear_L11 n y3 ((y4 + 1)) ((y5 + 1)) r3.2 else fX0_liveYear_L11 n y3 y4 ((y5 + 1)) r3.2))
def fX0_liveYear (x1 : Int32) (x2 : Int32) (h : abJ) : Option (Int32 × abJ) := fX0_liveYear_L11 ab_N x2 0 0 (ab_wI h 16 7 x1)
set_option maxRecDepth 20000 in
theorem sX0_liveYear_L11 (d : Nat) (X : abX)   : ∀ (n : Nat), ∀ (y3 : Int32) (y4 : Int32) (y5 : Int32) (h : abJ) (z : (Int32 × abJ)), fX0_liveYear_L11 n y3 y4 y5 h = some z → ab_Ex X (d + 6) 10 11 [(0, .ref 16), (1, .ref 12), (3, .int y3), (4, .int y4), (5, .int y5)] [] ab_SH (ab_dD h) (fun r => r = (some (.int z.1), ab_SH, ab_dD z.2)) := by
  intro n
  induction n with
  | zero => intro y3 y4 y5 h z hf; cases hf
  | succ n ih =>
    intro y3 y4 y5 h z hf
    rw [fX0_liveYear_L11] at hf
    refine ab_Ex.blk (k := 2) (pc' := 14) (lv' := [(0, .ref 16), (1, .ref 12), (3, .int y3), (4, .int y4), (5, .int y5)]) (st' := [.int y3, .int y5]) (sh' := ab_SH) (D' := ab_dD h) (fun n => rfl) ?_
    refine ab_Ex.ifc (c := y3 ≤ y5) (SA := (39, [(0, .ref 16), (1, .ref 12), (3, .int y3), (4, .int y4), (5, .int y5)], [], ab_dD h)) (SB := (17, [(0, .ref 16), (1, .ref 12), (3, .int y3), (4, .int y4), (5, .int y5)], [], ab_dD h)) (fun n => rfl) (fun c1 => ?_) (fun c1 => ?_)
    · replace hf := (if_pos c1).symm.trans hf
      refine ab_Ex.blk (k := 1) (pc' := 41) (lv' := [(0, .ref 16), (1, .ref 12), (3, .int y3), (4, .int y4), (5, .int y5)]) (st' := [.int y4]) (sh' := ab_SH) (D' := ab_dD h) (fun n => rfl) ?_
      obtain rfl := Option.some.inj hf
      exact ab_Ex.ret (fun n => rfl) rfl
    · replace hf := (if_neg c1).symm.trans hf
      refine ab_Ex.blk (k := 3) (pc' := 20) (lv' := [(0, .ref 16), (1, .ref 12), (3, .int y3), (4, .int y4), (5, .int y5)]) (st' := [.ref 16, .ref 12, .ref 16]) (sh' := ab_SH) (D' := ab_dD h) (fun n => rfl) ?_
      obtain ⟨r2, hr2, hf⟩ := ab_bind_s hf
      refine ab_Ex.call (d := d + 5) (M2 := 11) (as := [.ref 16]) (rest := [.ref 12, .ref 16]) (fun n => rfl) rfl (Nat.not_lt.mpr (Nat.le_of_ble_eq_true rfl)) (sX0_drawDeed (d + 4) X  h _ hr2) (fun r hr => ?_)
      subst hr
      show ab_Ex X (d + 6) 10 23 [(0, .ref 16), (1, .ref 12), (3, .int y3), (4, .int y4), (5, .int y5)] [.int r2.1, .ref 12, .ref 16] ab_SH (ab_dD r2.2) _
      refine ab_Ex.blk (k := 1) (pc' := 24) (lv' := [(0, .ref 16), (1, .ref 12), (3, .int y3), (4, .int y4), (5, .int y5)]) (st' := [.long ((r2.1 : Int32).toInt64), .ref 12, .ref 16]) (sh' := ab_SH) (D' := ab_dD r2.2) (fun n => rfl) ?_
      obtain ⟨r3, hr3, hf⟩ := ab_bind_s hf
      refine ab_Ex.call (d := d + 5) (M2 := 8) (as := [.ref 16, .ref 12, .long ((r2.1 : Int32).toInt64)]) (rest := []) (fun n => rfl) rfl (Nat.not_lt.mpr (Nat.le_of_ble_eq_true rfl)) (sX0_doOne_12 (d) X ((r2.1 : Int32).toInt64) r2.2 _ hr3) (fun r hr => ?_)
      subst hr
      show ab_Ex X (d + 6) 10 27 [(0, .ref 16), (1, .ref 12), (3, .int y3), (4, .int y4), (5, .int y5)] [.int r3.1] ab_SH (ab_dD r3.2) _
      refine ab_Ex.ifc (c := r3.1 = 0) (SA := (30, [(0, .ref 16), (1, .ref 12), (3, .int y3), (4, .int y4), (5, .int y5)], [], ab_dD r3.2)) (SB := (33, [(0, .ref 16), (1, .ref 12), (3, .int y3), (4, .int y4), (5, .int y5)], [], ab_dD r3.2)) (fun n => rfl) (fun c4 => ?_) (fun c4 => ?_)
      · replace hf := (if_pos c4).symm.trans hf
        refine ab_Ex.blk (k := 3) (pc' := 11) (lv' := [(0, .ref 16), (1, .ref 12), (3, .int y3), (4, .int ((y4 + 1))), (5, .int ((y5 + 1)))]) (st' := []) (sh' := ab_SH) (D' := ab_dD r3.2) (fun n => rfl) ?_
        exact ih y3 ((y4 + 1)) ((y5 + 1)) r3.2 _ hf
      · replace hf := (if_neg c4).symm.trans hf
        refine ab_Ex.blk (k := 2) (pc' := 11) (lv' := [(0, .ref 16), (1, .ref 12), (3, .int y3), (4, .int y4), (5, .int ((y5 + 1)))]) (st' := []) (sh' := ab_SH) (D' := ab_dD r3.2) (fun n => rfl) ?_
        exact ih y3 y4 ((y5 + 1)) r3.2 _ hf
set_option maxRecDepth 20000 in
theorem sX0_liveYear (d : Nat) (X : abX) (x1 : Int32) (x2 : Int32) (h : abJ) (z : (Int32 × abJ)) (hf : fX0_liveYear x1 x2 h = some z) : ab_Ex X (d + 6) 10 0 [(0, .ref 16), (1, .ref 12), (2, .int x1), (3, .int x2)] [] ab_SH (ab_dD h) (fun r => r = (some (.int z.1), ab_SH, ab_dD z.2)) := by
  unfold fX0_liveYear at hf
  refine ab_Ex.blk (k := 7) (pc' := 11) (lv' := [(0, .ref 16), (1, .ref 12), (3, .int x2), (4, .int 0), (5, .int 0)]) (st' := []) (sh' := ab_SH) (D' := ab_dD (ab_wI h 16 7 x1)) (fun n => rfl) ?_
  exact sX0_liveYear_L11 d X  ab_N x2 0 0 (ab_wI h 16 7 x1) _ hf
def fX3_armLimit  (h : abJ) : Option Int32 := if (h.1 1 0) < 0 then some 0 else if (h.1 1 0) ≤ 6 then ab_ask ((h.1 1 0) < 0 ∨ 7 ≤ ((h.1 1 0) : Int32).toNatClampNeg) (some (ab_wt.getD ((h.1 1 0) : Int32).toNatClampNeg 0)) else some 0
set_option maxRecDepth 20000 in
theorem sX3_armLimit (d : Nat) (X : abX)  (h : abJ) (z : Int32) (hf : fX3_armLimit  h = some z) : ab_Ex X (d + 0) 41 0 [(0, .ref 1)] [] ab_SH (ab_dD h) (fun r => r = (some (.int z), ab_SH, ab_dD h)) := by
  unfold fX3_armLimit at hf
  refine ab_Ex.blk (k := 2) (pc' := 4) (lv' := [(0, .ref 1)]) (st' := [.int ((h.1 1 0))]) (sh' := ab_SH) (D' := ab_dD h) (fun n => rfl) ?_
  refine ab_Ex.ifc (c := (h.1 1 0) < 0) (SA := (16, [(0, .ref 1)], [], ab_dD h)) (SB := (7, [(0, .ref 1)], [], ab_dD h)) (fun n => rfl) (fun c1 => ?_) (fun c1 => ?_)
  · replace hf := (if_pos c1).symm.trans hf
    refine ab_Ex.blk (k := 2) (pc' := 28) (lv' := []) (st' := [.int 0]) (sh' := ab_SH) (D' := ab_dD h) (fun n => rfl) ?_
    obtain rfl := Option.some.inj hf
    exact ab_Ex.ret (fun n => rfl) rfl
  · replace hf := (if_neg c1).symm.trans hf
    refine ab_Ex.blk (k := 3) (pc' := 13) (lv' := [(0, .ref 1)]) (st' := [.int 6, .int ((h.1 1 0))]) (sh' := ab_SH) (D' := ab_dD h) (fun n => rfl) ?_
    refine ab_Ex.ifc (c := (h.1 1 0) ≤ 6) (SA := (20, [(0, .ref 1)], [], ab_dD h)) (SB := (16, [(0, .ref 1)], [], ab_dD h)) (fun n => rfl) (fun c2 => ?_) (fun c2 => ?_)
    · replace hf := (if_pos c2).symm.trans hf
      refine ab_Ex.blk (k := 3) (pc' := 27) (lv' := [(0, .ref 1)]) (st' := [.int ((h.1 1 0)), .ref 3000000]) (sh' := ab_SH) (D' := ab_dD h) (fun n => rfl) ?_
      obtain ⟨c4, hf⟩ := ab_ask_s hf
      refine ab_Ex.grd (c := (h.1 1 0) < 0 ∨ 7 ≤ ((h.1 1 0) : Int32).toNatClampNeg) (S := (28, [(0, .ref 1)], [.int ((ab_wt.getD ((h.1 1 0) : Int32).toNatClampNeg 0))], ab_dD h)) (fun n => rfl) c4 ?_
      obtain rfl := Option.some.inj hf
      exact ab_Ex.ret (fun n => rfl) rfl
    · replace hf := (if_neg c2).symm.trans hf
      refine ab_Ex.blk (k := 2) (pc' := 28) (lv' := []) (st' := [.int 0]) (sh' := ab_SH) (D' := ab_dD h) (fun n => rfl) ?_
      obtain rfl := Option.some.inj hf
      exact ab_Ex.ret (fun n => rfl) rfl
def fJ9_max_7cf53 (x0 : Int32) (x1 : Int32) (h : abJ) : Option Int32 := if x0 < x1 then some x1 else some x0
set_option maxRecDepth 20000 in
theorem sJ9_max_7cf53 (d : Nat) (X : abX) (x0 : Int32) (x1 : Int32) (h : abJ) (z : Int32) (hf : fJ9_max_7cf53 x0 x1 h = some z) : ab_Ex X (d + 0) 302 0 [(0, .int x0), (1, .int x1)] [] ab_SH (ab_dD h) (fun r => r = (some (.int z), ab_SH, ab_dD h)) := by
  unfold fJ9_max_7cf53 at hf
  refine ab_Ex.blk (k := 2) (pc' := 2) (lv' := [(0, .int x0), (1, .int x1)]) (st' := [.int x1, .int x0]) (sh' := ab_SH) (D' := ab_dD h) (fun n => rfl) ?_
  refine ab_Ex.ifc (c := x0 < x1) (SA := (9, [(0, .int x0), (1, .int x1)], [], ab_dD h)) (SB := (5, [(0, .int x0), (1, .int x1)], [], ab_dD h)) (fun n => rfl) (fun c1 => ?_) (fun c1 => ?_)
  · replace hf := (if_pos c1).symm.trans hf
    refine ab_Ex.blk (k := 1) (pc' := 10) (lv' := []) (st' := [.int x1]) (sh' := ab_SH) (D' := ab_dD h) (fun n => rfl) ?_
    obtain rfl := Option.some.inj hf
    exact ab_Ex.ret (fun n => rfl) rfl
  · replace hf := (if_neg c1).symm.trans hf
    refine ab_Ex.blk (k := 2) (pc' := 10) (lv' := []) (st' := [.int x0]) (sh' := ab_SH) (D' := ab_dD h) (fun n => rfl) ?_
    obtain rfl := Option.some.inj hf
    exact ab_Ex.ret (fun n => rfl) rfl
def fX3_canShow_L2  (h : abJ)  : Nat → Int32 → Int32 → Option Int32
  | 0, _, _ => none
  | n + 1, y1, y2 => if (h.1 1 0) ≤ y2 then some 1 else (fX11_armOf y1 y2 h).bind (fun r2 => (fX3_roadsOf 1 y2 h).bind (fun r3 => (fJ9_max_7cf53 1 r3 h).bind (fun r4 => if r2 < r4 then fX3_canShow_L2 h n y1 ((y2 + 1)) else some 0)))
def fX3_canShow (x0 : Int32) (h : abJ) : Option Int32 := fX3_canShow_L2 h ab_N x0 0
set_option maxRecDepth 20000 in
theorem sX3_canShow_L2 (d : Nat) (X : abX) (h : abJ)   : ∀ (n : Nat), ∀ (y1 : Int32) (y2 : Int32) (z : Int32), fX3_canShow_L2 h n y1 y2 = some z → ab_Ex X (d + 1) 42 2 [(0, .ref 1), (1, .int y1), (2, .int y2)] [] ab_SH (ab_dD h) (fun r => r = (some (.int z), ab_SH, ab_dD h)) := by
  intro n
  induction n with
  | zero => intro y1 y2 z hf; cases hf
  | succ n ih =>
    intro y1 y2 z hf
    rw [fX3_canShow_L2] at hf
    refine ab_Ex.blk (k := 3) (pc' := 7) (lv' := [(0, .ref 1), (1, .int y1), (2, .int y2)]) (st' := [.int ((h.1 1 0)), .int y2]) (sh' := ab_SH) (D' := ab_dD h) (fun n => rfl) ?_
    refine ab_Ex.ifc (c := (h.1 1 0) ≤ y2) (SA := (35, [(0, .ref 1), (1, .int y1), (2, .int y2)], [], ab_dD h)) (SB := (10, [(0, .ref 1), (1, .int y1), (2, .int y2)], [], ab_dD h)) (fun n => rfl) (fun c1 => ?_) (fun c1 => ?_)
    · replace hf := (if_pos c1).symm.trans hf
      refine ab_Ex.blk (k := 1) (pc' := 36) (lv' := [(0, .ref 1), (1, .int y1), (2, .int y2)]) (st' := [.int 1]) (sh' := ab_SH) (D' := ab_dD h) (fun n => rfl) ?_
      obtain rfl := Option.some.inj hf
      exact ab_Ex.ret (fun n => rfl) rfl
    · replace hf := (if_neg c1).symm.trans hf
      refine ab_Ex.blk (k := 2) (pc' := 12) (lv' := [(0, .ref 1), (1, .int y1), (2, .int y2)]) (st' := [.int y2, .int y1]) (sh' := ab_SH) (D' := ab_dD h) (fun n => rfl) ?_
      obtain ⟨r2, hr2, hf⟩ := ab_bind_s hf
      refine ab_Ex.call (d := d + 0) (M2 := 172) (as := [.int y1, .int y2]) (rest := []) (fun n => rfl) rfl (Nat.not_lt.mpr (Nat.le_of_ble_eq_true rfl)) (sX11_armOf (d) X y1 y2 h _ hr2) (fun r hr => ?_)
      subst hr
      show ab_Ex X (d + 1) 42 15 [(0, .ref 1), (1, .int y1), (2, .int y2)] [.int r2] ab_SH (ab_dD h) _
      refine ab_Ex.blk (k := 3) (pc' := 18) (lv' := [(0, .ref 1), (1, .int y1), (2, .int y2)]) (st' := [.int y2, .ref 1, .int 1, .int r2]) (sh' := ab_SH) (D' := ab_dD h) (fun n => rfl) ?_
      obtain ⟨r3, hr3, hf⟩ := ab_bind_s hf
      refine ab_Ex.call (d := d + 0) (M2 := 35) (as := [.ref 1, .int y2]) (rest := [.int 1, .int r2]) (fun n => rfl) rfl (Nat.not_lt.mpr (Nat.le_of_ble_eq_true rfl)) (sX3_roadsOf_1 (d) X y2 h _ hr3) (fun r hr => ?_)
      subst hr
      show ab_Ex X (d + 1) 42 21 [(0, .ref 1), (1, .int y1), (2, .int y2)] [.int r3, .int 1, .int r2] ab_SH (ab_dD h) _
      obtain ⟨r4, hr4, hf⟩ := ab_bind_s hf
      refine ab_Ex.call (d := d + 0) (M2 := 302) (as := [.int 1, .int r3]) (rest := [.int r2]) (fun n => rfl) rfl (Nat.not_lt.mpr (Nat.le_of_ble_eq_true rfl)) (sJ9_max_7cf53 (d) X 1 r3 h _ hr4) (fun r hr => ?_)
      subst hr
      show ab_Ex X (d + 1) 42 24 [(0, .ref 1), (1, .int y1), (2, .int y2)] [.int r4, .int r2] ab_SH (ab_dD h) _
      refine ab_Ex.ifc (c := r2 < r4) (SA := (29, [(0, .ref 1), (1, .int y1), (2, .int y2)], [], ab_dD h)) (SB := (27, [(0, .ref 1), (1, .int y1), (2, .int y2)], [], ab_dD h)) (fun n => rfl) (fun c5 => ?_) (fun c5 => ?_)
      · replace hf := (if_pos c5).symm.trans hf
        refine ab_Ex.blk (k := 2) (pc' := 2) (lv' := [(0, .ref 1), (1, .int y1), (2, .int ((y2 + 1)))]) (st' := []) (sh' := ab_SH) (D' := ab_dD h) (fun n => rfl) ?_
        exact ih y1 ((y2 + 1)) _ hf
      · replace hf := (if_neg c5).symm.trans hf
        refine ab_Ex.blk (k := 1) (pc' := 28) (lv' := [(0, .ref 1), (1, .int y1), (2, .int y2)]) (st' := [.int 0]) (sh' := ab_SH) (D' := ab_dD h) (fun n => rfl) ?_
        obtain rfl := Option.some.inj hf
        exact ab_Ex.ret (fun n => rfl) rfl
set_option maxRecDepth 20000 in
theorem sX3_canShow (d : Nat) (X : abX) (x0 : Int32) (h : abJ) (z : Int32) (hf : fX3_canShow x0 h = some z) : ab_Ex X (d + 1) 42 0 [(0, .ref 1), (1, .int x0)] [] ab_SH (ab_dD h) (fun r => r = (some (.int z), ab_SH, ab_dD h)) := by
  unfold fX3_canShow at hf
  refine ab_Ex.blk (k := 2) (pc' := 2) (lv' := [(0, .ref 1), (1, .int x0), (2, .int 0)]) (st' := []) (sh' := ab_SH) (D' := ab_dD h) (fun n => rfl) ?_
  exact sX3_canShow_L2 d X h ab_N x0 0 _ hf
def fX1_allLeadTo_J55  (h : abJ) (k2 : Int32 → Int32 → Int32 → Option Int32) (y1 : Int32) (y2 : Int32) (y3 : Int32) (y4 : Int32) : Option Int32 := if y4 = y1 then k2 y1 y2 ((y3 + 1)) else some 0
def fX1_allLeadTo_L19  (h : abJ) (k2 : Int32 → Int32 → Int32 → Option Int32) : Nat → Int32 → Int32 → Int32 → Int32 → Int32 → Option Int32
  | 0, _, _, _, _, _ => none
  | n + 1, y1, y2, y3, y4, y5 => if 6 ≤ y5 then fX1_allLeadTo_J55 h k2 y1 y2 y3 y4 else if y4 = y1 then fX1_allLeadTo_J55 h k2 y1 y2 y3 y4 else (fX11_armOf y2 y4 h).bind (fun r5 => (fX3_leadsTo y4 r5 h).bind (fun r6 => fX1_allLeadTo_L19 h k2 n y1 y2 y3 r6 ((y5 + 1))))
def fX1_allLeadTo_L2  (h : abJ)  : Nat → Int32 → Int32 → Int32 → Option Int32
  | 0, _, _, _ => none
  | n + 1, y1, y2, y3 => if (h.1 1 0) ≤ y3 then some 1 else fX1_allLeadTo_L19 h (fun y1 y2 y3 => fX1_allLeadTo_L2 h n y1 y2 y3) ab_N y1 y2 y3 y3 0
def fX1_allLeadTo (x0 : Int32) (x1 : Int32) (h : abJ) : Option Int32 := fX1_allLeadTo_L2 h ab_N x0 x1 0
set_option maxRecDepth 20000 in
theorem sX1_allLeadTo_J55 (d : Nat) (X : abX) (h : abJ) (k2 : Int32 → Int32 → Int32 → Option Int32) (hk2 : ∀ (y1 : Int32) (y2 : Int32) (y3 : Int32) (z : Int32), k2 y1 y2 y3 = some z → ab_Ex X (d + 2) 15 2 [(0, .ref 39), (1, .int y1), (2, .int y2), (3, .int y3)] [] ab_SH (ab_dD h) (fun r => r = (some (.int z), ab_SH, ab_dD h))) : ∀ (y1 : Int32) (y2 : Int32) (y3 : Int32) (y4 : Int32) (z : Int32), fX1_allLeadTo_J55 h k2 y1 y2 y3 y4 = some z → ab_Ex X (d + 2) 15 55 [(0, .ref 39), (1, .int y1), (2, .int y2), (3, .int y3), (4, .int y4)] [] ab_SH (ab_dD h) (fun r => r = (some (.int z), ab_SH, ab_dD h)) := by
  intro y1 y2 y3 y4 z hf
  unfold fX1_allLeadTo_J55 at hf
  refine ab_Ex.blk (k := 2) (pc' := 58) (lv' := [(0, .ref 39), (1, .int y1), (2, .int y2), (3, .int y3), (4, .int y4)]) (st' := [.int y1, .int y4]) (sh' := ab_SH) (D' := ab_dD h) (fun n => rfl) ?_
  refine ab_Ex.ifc (c := y4 = y1) (SA := (63, [(0, .ref 39), (1, .int y1), (2, .int y2), (3, .int y3), (4, .int y4)], [], ab_dD h)) (SB := (61, [(0, .ref 39), (1, .int y1), (2, .int y2), (3, .int y3), (4, .int y4)], [], ab_dD h)) (fun n => rfl) (fun c3 => ?_) (fun c3 => ?_)
  · replace hf := (if_pos c3).symm.trans hf
    refine ab_Ex.blk (k := 2) (pc' := 2) (lv' := [(0, .ref 39), (1, .int y1), (2, .int y2), (3, .int ((y3 + 1)))]) (st' := []) (sh' := ab_SH) (D' := ab_dD h) (fun n => rfl) ?_
    exact hk2 y1 y2 ((y3 + 1)) _ hf
  · replace hf := (if_neg c3).symm.trans hf
    refine ab_Ex.blk (k := 1) (pc' := 62) (lv' := [(0, .ref 39), (1, .int y1), (2, .int y2), (3, .int y3), (4, .int y4)]) (st' := [.int 0]) (sh' := ab_SH) (D' := ab_dD h) (fun n => rfl) ?_
    obtain rfl := Option.some.inj hf
    exact ab_Ex.ret (fun n => rfl) rfl
set_option maxRecDepth 20000 in
theorem sX1_allLeadTo_L19 (d : Nat) (X : abX) (h : abJ) (k2 : Int32 → Int32 → Int32 → Option Int32) (hk2 : ∀ (y1 : Int32) (y2 : Int32) (y3 : Int32) (z : Int32), k2 y1 y2 y3 = some z → ab_Ex X (d + 2) 15 2 [(0, .ref 39), (1, .int y1), (2, .int y2), (3, .int y3)] [] ab_SH (ab_dD h) (fun r => r = (some (.int z), ab_SH, ab_dD h))) : ∀ (n : Nat), ∀ (y1 : Int32) (y2 : Int32) (y3 : Int32) (y4 : Int32) (y5 : Int32) (z : Int32), fX1_allLeadTo_L19 h k2 n y1 y2 y3 y4 y5 = some z → ab_Ex X (d + 2) 15 19 [(0, .ref 39), (1, .int y1), (2, .int y2), (3, .int y3), (4, .int y4), (5, .int y5)] [] ab_SH (ab_dD h) (fun r => r = (some (.int z), ab_SH, ab_dD h)) := by
  intro n
  induction n with
  | zero => intro y1 y2 y3 y4 y5 z hf; cases hf
  | succ n ih =>
    intro y1 y2 y3 y4 y5 z hf
    rw [fX1_allLeadTo_L19] at hf
    refine ab_Ex.blk (k := 2) (pc' := 23) (lv' := [(0, .ref 39), (1, .int y1), (2, .int y2), (3, .int y3), (4, .int y4), (5, .int y5)]) (st' := [.int 6, .int y5]) (sh' := ab_SH) (D' := ab_dD h) (fun n => rfl) ?_
    refine ab_Ex.ifc (c := 6 ≤ y5) (SA := (55, [(0, .ref 39), (1, .int y1), (2, .int y2), (3, .int y3), (4, .int y4), (5, .int y5)], [], ab_dD h)) (SB := (26, [(0, .ref 39), (1, .int y1), (2, .int y2), (3, .int y3), (4, .int y4), (5, .int y5)], [], ab_dD h)) (fun n => rfl) (fun c2 => ?_) (fun c2 => ?_)
    · replace hf := (if_pos c2).symm.trans hf
      exact sX1_allLeadTo_J55 d X h k2 hk2 y1 y2 y3 y4 _ hf
    · replace hf := (if_neg c2).symm.trans hf
      refine ab_Ex.blk (k := 2) (pc' := 29) (lv' := [(0, .ref 39), (1, .int y1), (2, .int y2), (3, .int y3), (4, .int y4), (5, .int y5)]) (st' := [.int y1, .int y4]) (sh' := ab_SH) (D' := ab_dD h) (fun n => rfl) ?_
      refine ab_Ex.ifc (c := y4 = y1) (SA := (55, [(0, .ref 39), (1, .int y1), (2, .int y2), (3, .int y3), (4, .int y4), (5, .int y5)], [], ab_dD h)) (SB := (32, [(0, .ref 39), (1, .int y1), (2, .int y2), (3, .int y3), (4, .int y4), (5, .int y5)], [], ab_dD h)) (fun n => rfl) (fun c4 => ?_) (fun c4 => ?_)
      · replace hf := (if_pos c4).symm.trans hf
        exact sX1_allLeadTo_J55 d X h k2 hk2 y1 y2 y3 y4 _ hf
      · replace hf := (if_neg c4).symm.trans hf
        refine ab_Ex.blk (k := 5) (pc' := 41) (lv' := [(0, .ref 39), (1, .int y1), (2, .int y2), (3, .int y3), (4, .int y4), (5, .int y5)]) (st' := [.int y4, .int y2, .int y4, .ref 1]) (sh' := ab_SH) (D' := ab_dD h) (fun n => rfl) ?_
        obtain ⟨r5, hr5, hf⟩ := ab_bind_s hf
        refine ab_Ex.call (d := d + 1) (M2 := 172) (as := [.int y2, .int y4]) (rest := [.int y4, .ref 1]) (fun n => rfl) rfl (Nat.not_lt.mpr (Nat.le_of_ble_eq_true rfl)) (sX11_armOf (d + 1) X y2 y4 h _ hr5) (fun r hr => ?_)
        subst hr
        show ab_Ex X (d + 2) 15 44 [(0, .ref 39), (1, .int y1), (2, .int y2), (3, .int y3), (4, .int y4), (5, .int y5)] [.int r5, .int y4, .ref 1] ab_SH (ab_dD h) _
        obtain ⟨r6, hr6, hf⟩ := ab_bind_s hf
        refine ab_Ex.call (d := d + 1) (M2 := 36) (as := [.ref 1, .int y4, .int r5]) (rest := []) (fun n => rfl) rfl (Nat.not_lt.mpr (Nat.le_of_ble_eq_true rfl)) (sX3_leadsTo (d) X y4 r5 h _ hr6) (fun r hr => ?_)
        subst hr
        show ab_Ex X (d + 2) 15 47 [(0, .ref 39), (1, .int y1), (2, .int y2), (3, .int y3), (4, .int y4), (5, .int y5)] [.int r6] ab_SH (ab_dD h) _
        refine ab_Ex.blk (k := 3) (pc' := 19) (lv' := [(0, .ref 39), (1, .int y1), (2, .int y2), (3, .int y3), (4, .int r6), (5, .int ((y5 + 1)))]) (st' := []) (sh' := ab_SH) (D' := ab_dD h) (fun n => rfl) ?_
        exact ih y1 y2 y3 r6 ((y5 + 1)) _ hf
set_option maxRecDepth 20000 in
theorem sX1_allLeadTo_L2 (d : Nat) (X : abX) (h : abJ)   : ∀ (n : Nat), ∀ (y1 : Int32) (y2 : Int32) (y3 : Int32) (z : Int32), fX1_allLeadTo_L2 h n y1 y2 y3 = some z → ab_Ex X (d + 2) 15 2 [(0, .ref 39), (1, .int y1), (2, .int y2), (3, .int y3)] [] ab_SH (ab_dD h) (fun r => r = (some (.int z), ab_SH, ab_dD h)) := by
  intro n
  induction n with
  | zero => intro y1 y2 y3 z hf; cases hf
  | succ n ih =>
    intro y1 y2 y3 z hf
    rw [fX1_allLeadTo_L2] at hf
    refine ab_Ex.blk (k := 4) (pc' := 10) (lv' := [(0, .ref 39), (1, .int y1), (2, .int y2), (3, .int y3)]) (st' := [.int ((h.1 1 0)), .int y3]) (sh' := ab_SH) (D' := ab_dD h) (fun n => rfl) ?_
    refine ab_Ex.ifc (c := (h.1 1 0) ≤ y3) (SA := (69, [(0, .ref 39), (1, .int y1), (2, .int y2), (3, .int y3)], [], ab_dD h)) (SB := (13, [(0, .ref 39), (1, .int y1), (2, .int y2), (3, .int y3)], [], ab_dD h)) (fun n => rfl) (fun c1 => ?_) (fun c1 => ?_)
    · replace hf := (if_pos c1).symm.trans hf
      refine ab_Ex.blk (k := 1) (pc' := 70) (lv' := [(0, .ref 39), (1, .int y1), (2, .int y2), (3, .int y3)]) (st' := [.int 1]) (sh' := ab_SH) (D' := ab_dD h) (fun n => rfl) ?_
      obtain rfl := Option.some.inj hf
      exact ab_Ex.ret (fun n => rfl) rfl
    · replace hf := (if_neg c1).symm.trans hf
      refine ab_Ex.blk (k := 4) (pc' := 19) (lv' := [(0, .ref 39), (1, .int y1), (2, .int y2), (3, .int y3), (4, .int y3), (5, .int 0)]) (st' := []) (sh' := ab_SH) (D' := ab_dD h) (fun n => rfl) ?_
      exact sX1_allLeadTo_L19 d X h (fun y1 y2 y3 => fX1_allLeadTo_L2 h n y1 y2 y3) (fun y1 y2 y3 z hz => ih y1 y2 y3 z hz) ab_N y1 y2 y3 y3 0 _ hf
set_option maxRecDepth 20000 in
theorem sX1_allLeadTo (d : Nat) (X : abX) (x0 : Int32) (x1 : Int32) (h : abJ) (z : Int32) (hf : fX1_allLeadTo x0 x1 h = some z) : ab_Ex X (d + 2) 15 0 [(0, .ref 39), (1, .int x0), (2, .int x1)] [] ab_SH (ab_dD h) (fun r => r = (some (.int z), ab_SH, ab_dD h)) := by
  unfold fX1_allLeadTo at hf
  refine ab_Ex.blk (k := 2) (pc' := 2) (lv' := [(0, .ref 39), (1, .int x0), (2, .int x1), (3, .int 0)]) (st' := []) (sh' := ab_SH) (D' := ab_dD h) (fun n => rfl) ?_
  exact sX1_allLeadTo_L2 d X h ab_N x0 x1 0 _ hf
def fX1_countTrees_J90  (h : abJ) (k50 : Int32 → Int32 → Int32 → Int32 → Option Int32) (y1 : Int32) (y2 : Int32) (y3 : Int32) (y4 : Int32) : Option Int32 := k50 y1 y2 y3 ((y4 + 1))
def fX1_countTrees_L50  (h : abJ)  : Nat → Int32 → Int32 → Int32 → Int32 → Option Int32
  | 0, _, _, _, _ => none
  | n + 1, y1, y2, y3, y4 => if y2 ≤ y4 then some y3 else (fX11_armOf y4 y1 h).bind (fun r4 => if r4 = 0 then (fX3_canShow y4 h).bind (fun r6 => if r6 = 0 then fX1_countTrees_J90 h (fun y1 y2 y3 y4 => fX1_countTrees_L50 h n y1 y2 y3 y4) y1 y2 y3 y4 else (fX1_allLeadTo y1 y4 h).bind (fun r8 => if r8 = 0 then fX1_countTrees_J90 h (fun y1 y2 y3 y4 => fX1_countTrees_L50 h n y1 y2 y3 y4) y1 y2 y3 y4 else fX1_countTrees_J90 h (fun y1 y2 y3 y4 => fX1_countTrees_L50 h n y1 y2 y3 y4) y1 y2 ((y3 + 1)) y4)) else fX1_countTrees_J90 h (fun y1 y2 y3 y4 => fX1_countTrees_L50 h n y1 y2 y3 y4) y1 y2 y3 y4)
def fX1_countTrees_J31  (h : abJ) (k2 : Int32 → Int32 → Option Int32) (y1 : Int32) (y2 : Int32) : Option Int32 := k2 y1 ((y2 + 1))
def fX1_countTrees_L2  (h : abJ)  : Nat → Int32 → Int32 → Option Int32
  | 0, _, _ => none
  | n + 1, y1, y2 => if (h.1 1 0) ≤ y2 then (fX3_armLimit h).bind (fun r2 => fX1_countTrees_L50 h ab_N y1 r2 0 0) else if y2 = y1 then fX1_countTrees_J31 h (fun y1 y2 => fX1_countTrees_L2 h n y1 y2) y1 y2 else (fX3_roadsOf 1 y2 h).bind (fun r11 => if r11 = 0 then some 0 else fX1_countTrees_J31 h (fun y1 y2 => fX1_countTrees_L2 h n y1 y2) y1 y2)
def fX1_countTrees (x0 : Int32) (h : abJ) : Option Int32 := fX1_countTrees_L2 h ab_N x0 0
set_option maxRecDepth 20000 in
theorem sX1_countTrees_J90 (d : Nat) (X : abX) (h : abJ) (k50 : Int32 → Int32 → Int32 → Int32 → Option Int32) (hk50 : ∀ (y1 : Int32) (y2 : Int32) (y3 : Int32) (y4 : Int32) (z : Int32), k50 y1 y2 y3 y4 = some z → ab_Ex X (d + 3) 14 50 [(0, .ref 39), (1, .int y1), (2, .int y2), (3, .int y3), (4, .int y4)] [] ab_SH (ab_dD h) (fun r => r = (some (.int z), ab_SH, ab_dD h))) : ∀ (y1 : Int32) (y2 : Int32) (y3 : Int32) (y4 : Int32) (z : Int32), fX1_countTrees_J90 h k50 y1 y2 y3 y4 = some z → ab_Ex X (d + 3) 14 90 [(0, .ref 39), (1, .int y1), (2, .int y2), (3, .int y3), (4, .int y4)] [] ab_SH (ab_dD h) (fun r => r = (some (.int z), ab_SH, ab_dD h)) := by
  intro y1 y2 y3 y4 z hf
  unfold fX1_countTrees_J90 at hf
  refine ab_Ex.blk (k := 2) (pc' := 50) (lv' := [(0, .ref 39), (1, .int y1), (2, .int y2), (3, .int y3), (4, .int ((y4 + 1)))]) (st' := []) (sh' := ab_SH) (D' := ab_dD h) (fun n => rfl) ?_
  exact hk50 y1 y2 y3 ((y4 + 1)) _ hf
set_option maxRecDepth 20000 in
theorem sX1_countTrees_L50 (d : Nat) (X : abX) (h : abJ)   : ∀ (n : Nat), ∀ (y1 : Int32) (y2 : Int32) (y3 : Int32) (y4 : Int32) (z : Int32), fX1_countTrees_L50 h n y1 y2 y3 y4 = some z → ab_Ex X (d + 3) 14 50 [(0, .ref 39), (1, .int y1), (2, .int y2), (3, .int y3), (4, .int y4)] [] ab_SH (ab_dD h) (fun r => r = (some (.int z), ab_SH, ab_dD h)) := by
  intro n
  induction n with
  | zero => intro y1 y2 y3 y4 z hf; cases hf
  | succ n ih =>
    intro y1 y2 y3 y4 z hf
    rw [fX1_countTrees_L50] at hf
    refine ab_Ex.blk (k := 2) (pc' := 53) (lv' := [(0, .ref 39), (1, .int y1), (2, .int y2), (3, .int y3), (4, .int y4)]) (st' := [.int y2, .int y4]) (sh' := ab_SH) (D' := ab_dD h) (fun n => rfl) ?_
    refine ab_Ex.ifc (c := y2 ≤ y4) (SA := (96, [(0, .ref 39), (1, .int y1), (2, .int y2), (3, .int y3), (4, .int y4)], [], ab_dD h)) (SB := (56, [(0, .ref 39), (1, .int y1), (2, .int y2), (3, .int y3), (4, .int y4)], [], ab_dD h)) (fun n => rfl) (fun c3 => ?_) (fun c3 => ?_)
    · replace hf := (if_pos c3).symm.trans hf
      refine ab_Ex.blk (k := 1) (pc' := 97) (lv' := [(0, .ref 39), (1, .int y1), (2, .int y2), (3, .int y3), (4, .int y4)]) (st' := [.int y3]) (sh' := ab_SH) (D' := ab_dD h) (fun n => rfl) ?_
      obtain rfl := Option.some.inj hf
      exact ab_Ex.ret (fun n => rfl) rfl
    · replace hf := (if_neg c3).symm.trans hf
      refine ab_Ex.blk (k := 2) (pc' := 59) (lv' := [(0, .ref 39), (1, .int y1), (2, .int y2), (3, .int y3), (4, .int y4)]) (st' := [.int y1, .int y4]) (sh' := ab_SH) (D' := ab_dD h) (fun n => rfl) ?_
      obtain ⟨r4, hr4, hf⟩ := ab_bind_s hf
      refine ab_Ex.call (d := d + 2) (M2 := 172) (as := [.int y4, .int y1]) (rest := []) (fun n => rfl) rfl (Nat.not_lt.mpr (Nat.le_of_ble_eq_true rfl)) (sX11_armOf (d + 2) X y4 y1 h _ hr4) (fun r hr => ?_)
      subst hr
      show ab_Ex X (d + 3) 14 62 [(0, .ref 39), (1, .int y1), (2, .int y2), (3, .int y3), (4, .int y4)] [.int r4] ab_SH (ab_dD h) _
      refine ab_Ex.ifc (c := r4 = 0) (SA := (65, [(0, .ref 39), (1, .int y1), (2, .int y2), (3, .int y3), (4, .int y4)], [], ab_dD h)) (SB := (90, [(0, .ref 39), (1, .int y1), (2, .int y2), (3, .int y3), (4, .int y4)], [], ab_dD h)) (fun n => rfl) (fun c5 => ?_) (fun c5 => ?_)
      · replace hf := (if_pos c5).symm.trans hf
        refine ab_Ex.blk (k := 3) (pc' := 71) (lv' := [(0, .ref 39), (1, .int y1), (2, .int y2), (3, .int y3), (4, .int y4)]) (st' := [.int y4, .ref 1]) (sh' := ab_SH) (D' := ab_dD h) (fun n => rfl) ?_
        obtain ⟨r6, hr6, hf⟩ := ab_bind_s hf
        refine ab_Ex.call (d := d + 2) (M2 := 42) (as := [.ref 1, .int y4]) (rest := []) (fun n => rfl) rfl (Nat.not_lt.mpr (Nat.le_of_ble_eq_true rfl)) (sX3_canShow (d + 1) X y4 h _ hr6) (fun r hr => ?_)
        subst hr
        show ab_Ex X (d + 3) 14 74 [(0, .ref 39), (1, .int y1), (2, .int y2), (3, .int y3), (4, .int y4)] [.int r6] ab_SH (ab_dD h) _
        refine ab_Ex.ifc (c := r6 = 0) (SA := (90, [(0, .ref 39), (1, .int y1), (2, .int y2), (3, .int y3), (4, .int y4)], [], ab_dD h)) (SB := (77, [(0, .ref 39), (1, .int y1), (2, .int y2), (3, .int y3), (4, .int y4)], [], ab_dD h)) (fun n => rfl) (fun c7 => ?_) (fun c7 => ?_)
        · replace hf := (if_pos c7).symm.trans hf
          exact sX1_countTrees_J90 d X h (fun y1 y2 y3 y4 => fX1_countTrees_L50 h n y1 y2 y3 y4) (fun y1 y2 y3 y4 z hz => ih y1 y2 y3 y4 z hz) y1 y2 y3 y4 _ hf
        · replace hf := (if_neg c7).symm.trans hf
          refine ab_Ex.blk (k := 3) (pc' := 81) (lv' := [(0, .ref 39), (1, .int y1), (2, .int y2), (3, .int y3), (4, .int y4)]) (st' := [.int y4, .int y1, .ref 39]) (sh' := ab_SH) (D' := ab_dD h) (fun n => rfl) ?_
          obtain ⟨r8, hr8, hf⟩ := ab_bind_s hf
          refine ab_Ex.call (d := d + 2) (M2 := 15) (as := [.ref 39, .int y1, .int y4]) (rest := []) (fun n => rfl) rfl (Nat.not_lt.mpr (Nat.le_of_ble_eq_true rfl)) (sX1_allLeadTo (d) X y1 y4 h _ hr8) (fun r hr => ?_)
          subst hr
          show ab_Ex X (d + 3) 14 84 [(0, .ref 39), (1, .int y1), (2, .int y2), (3, .int y3), (4, .int y4)] [.int r8] ab_SH (ab_dD h) _
          refine ab_Ex.ifc (c := r8 = 0) (SA := (90, [(0, .ref 39), (1, .int y1), (2, .int y2), (3, .int y3), (4, .int y4)], [], ab_dD h)) (SB := (87, [(0, .ref 39), (1, .int y1), (2, .int y2), (3, .int y3), (4, .int y4)], [], ab_dD h)) (fun n => rfl) (fun c9 => ?_) (fun c9 => ?_)
          · replace hf := (if_pos c9).symm.trans hf
            exact sX1_countTrees_J90 d X h (fun y1 y2 y3 y4 => fX1_countTrees_L50 h n y1 y2 y3 y4) (fun y1 y2 y3 y4 z hz => ih y1 y2 y3 y4 z hz) y1 y2 y3 y4 _ hf
          · replace hf := (if_neg c9).symm.trans hf
            refine ab_Ex.blk (k := 1) (pc' := 90) (lv' := [(0, .ref 39), (1, .int y1), (2, .int y2), (3, .int ((y3 + 1))), (4, .int y4)]) (st' := []) (sh' := ab_SH) (D' := ab_dD h) (fun n => rfl) ?_
            exact sX1_countTrees_J90 d X h (fun y1 y2 y3 y4 => fX1_countTrees_L50 h n y1 y2 y3 y4) (fun y1 y2 y3 y4 z hz => ih y1 y2 y3 y4 z hz) y1 y2 ((y3 + 1)) y4 _ hf
      · replace hf := (if_neg c5).symm.trans hf
        exact sX1_countTrees_J90 d X h (fun y1 y2 y3 y4 => fX1_countTrees_L50 h n y1 y2 y3 y4) (fun y1 y2 y3 y4 z hz => ih y1 y2 y3 y4 z hz) y1 y2 y3 y4 _ hf
set_option maxRecDepth 20000 in
theorem sX1_countTrees_J31 (d : Nat) (X : abX) (h : abJ) (k2 : Int32 → Int32 → Option Int32) (hk2 : ∀ (y1 : Int32) (y2 : Int32) (z : Int32), k2 y1 y2 = some z → ab_Ex X (d + 3) 14 2 [(0, .ref 39), (1, .int y1), (2, .int y2)] [] ab_SH (ab_dD h) (fun r => r = (some (.int z), ab_SH, ab_dD h))) : ∀ (y1 : Int32) (y2 : Int32) (z : Int32), fX1_countTrees_J31 h k2 y1 y2 = some z → ab_Ex X (d + 3) 14 31 [(0, .ref 39), (1, .int y1), (2, .int y2)] [] ab_SH (ab_dD h) (fun r => r = (some (.int z), ab_SH, ab_dD h)) := by
  intro y1 y2 z hf
  unfold fX1_countTrees_J31 at hf
  refine ab_Ex.blk (k := 2) (pc' := 2) (lv' := [(0, .ref 39), (1, .int y1), (2, .int ((y2 + 1)))]) (st' := []) (sh' := ab_SH) (D' := ab_dD h) (fun n => rfl) ?_
  exact hk2 y1 ((y2 + 1)) _ hf
set_option maxRecDepth 20000 in
theorem sX1_countTrees_L2 (d : Nat) (X : abX) (h : abJ)   : ∀ (n : Nat), ∀ (y1 : Int32) (y2 : Int32) (z : Int32), fX1_countTrees_L2 h n y1 y2 = some z → ab_Ex X (d + 3) 14 2 [(0, .ref 39), (1, .int y1), (2, .int y2)] [] ab_SH (ab_dD h) (fun r => r = (some (.int z), ab_SH, ab_dD h)) := by
  intro n
  induction n with
  | zero => intro y1 y2 z hf; cases hf
  | succ n ih =>
    intro y1 y2 z hf
    rw [fX1_countTrees_L2] at hf
    refine ab_Ex.blk (k := 4) (pc' := 10) (lv' := [(0, .ref 39), (1, .int y1), (2, .int y2)]) (st' := [.int ((h.1 1 0)), .int y2]) (sh' := ab_SH) (D' := ab_dD h) (fun n => rfl) ?_
    refine ab_Ex.ifc (c := (h.1 1 0) ≤ y2) (SA := (37, [(0, .ref 39), (1, .int y1), (2, .int y2)], [], ab_dD h)) (SB := (13, [(0, .ref 39), (1, .int y1), (2, .int y2)], [], ab_dD h)) (fun n => rfl) (fun c1 => ?_) (fun c1 => ?_)
    · replace hf := (if_pos c1).symm.trans hf
      refine ab_Ex.blk (k := 2) (pc' := 41) (lv' := [(0, .ref 39), (1, .int y1), (2, .int y2)]) (st' := [.ref 1]) (sh' := ab_SH) (D' := ab_dD h) (fun n => rfl) ?_
      obtain ⟨r2, hr2, hf⟩ := ab_bind_s hf
      refine ab_Ex.call (d := d + 2) (M2 := 41) (as := [.ref 1]) (rest := []) (fun n => rfl) rfl (Nat.not_lt.mpr (Nat.le_of_ble_eq_true rfl)) (sX3_armLimit (d + 2) X  h _ hr2) (fun r hr => ?_)
      subst hr
      show ab_Ex X (d + 3) 14 44 [(0, .ref 39), (1, .int y1), (2, .int y2)] [.int r2] ab_SH (ab_dD h) _
      refine ab_Ex.blk (k := 5) (pc' := 50) (lv' := [(0, .ref 39), (1, .int y1), (2, .int r2), (3, .int 0), (4, .int 0)]) (st' := []) (sh' := ab_SH) (D' := ab_dD h) (fun n => rfl) ?_
      exact sX1_countTrees_L50 d X h ab_N y1 r2 0 0 _ hf
    · replace hf := (if_neg c1).symm.trans hf
      refine ab_Ex.blk (k := 2) (pc' := 15) (lv' := [(0, .ref 39), (1, .int y1), (2, .int y2)]) (st' := [.int y1, .int y2]) (sh' := ab_SH) (D' := ab_dD h) (fun n => rfl) ?_
      refine ab_Ex.ifc (c := y2 = y1) (SA := (31, [(0, .ref 39), (1, .int y1), (2, .int y2)], [], ab_dD h)) (SB := (18, [(0, .ref 39), (1, .int y1), (2, .int y2)], [], ab_dD h)) (fun n => rfl) (fun c10 => ?_) (fun c10 => ?_)
      · replace hf := (if_pos c10).symm.trans hf
        exact sX1_countTrees_J31 d X h (fun y1 y2 => fX1_countTrees_L2 h n y1 y2) (fun y1 y2 z hz => ih y1 y2 z hz) y1 y2 _ hf
      · replace hf := (if_neg c10).symm.trans hf
        refine ab_Ex.blk (k := 3) (pc' := 23) (lv' := [(0, .ref 39), (1, .int y1), (2, .int y2)]) (st' := [.int y2, .ref 1]) (sh' := ab_SH) (D' := ab_dD h) (fun n => rfl) ?_
        obtain ⟨r11, hr11, hf⟩ := ab_bind_s hf
        refine ab_Ex.call (d := d + 2) (M2 := 35) (as := [.ref 1, .int y2]) (rest := []) (fun n => rfl) rfl (Nat.not_lt.mpr (Nat.le_of_ble_eq_true rfl)) (sX3_roadsOf_1 (d + 2) X y2 h _ hr11) (fun r hr => ?_)
        subst hr
        show ab_Ex X (d + 3) 14 26 [(0, .ref 39), (1, .int y1), (2, .int y2)] [.int r11] ab_SH (ab_dD h) _
        refine ab_Ex.ifc (c := r11 = 0) (SA := (29, [(0, .ref 39), (1, .int y1), (2, .int y2)], [], ab_dD h)) (SB := (31, [(0, .ref 39), (1, .int y1), (2, .int y2)], [], ab_dD h)) (fun n => rfl) (fun c12 => ?_) (fun c12 => ?_)
        · replace hf := (if_pos c12).symm.trans hf
          refine ab_Ex.blk (k := 1) (pc' := 30) (lv' := [(0, .ref 39), (1, .int y1), (2, .int y2)]) (st' := [.int 0]) (sh' := ab_SH) (D' := ab_dD h) (fun n => rfl) ?_
          obtain rfl := Option.some.inj hf
          exact ab_Ex.ret (fun n => rfl) rfl
        · replace hf := (if_neg c12).symm.trans hf
          exact sX1_countTrees_J31 d X h (fun y1 y2 => fX1_countTrees_L2 h n y1 y2) (fun y1 y2 z hz => ih y1 y2 z hz) y1 y2 _ hf
set_option maxRecDepth 20000 in
theorem sX1_countTrees (d : Nat) (X : abX) (x0 : Int32) (h : abJ) (z : Int32) (hf : fX1_countTrees x0 h = some z) : ab_Ex X (d + 3) 14 0 [(0, .ref 39), (1, .int x0)] [] ab_SH (ab_dD h) (fun r => r = (some (.int z), ab_SH, ab_dD h)) := by
  unfold fX1_countTrees at hf
  refine ab_Ex.blk (k := 2) (pc' := 2) (lv' := [(0, .ref 39), (1, .int x0), (2, .int 0)]) (st' := []) (sh' := ab_SH) (D' := ab_dD h) (fun n => rfl) ?_
  exact sX1_countTrees_L2 d X h ab_N x0 0 _ hf
def fX3_restsAt (x0 : Int32) (h : abJ) : Option Int32 := (fX3_isHome x0 h).bind (fun r1 => if r1 = 0 then (fX3_roadsOf 1 x0 h).bind (fun r3 => if r3 = 0 then some 1 else some 0) else some 1)
set_option maxRecDepth 20000 in
theorem sX3_restsAt (d : Nat) (X : abX) (x0 : Int32) (h : abJ) (z : Int32) (hf : fX3_restsAt x0 h = some z) : ab_Ex X (d + 2) 38 0 [(0, .ref 1), (1, .int x0)] [] ab_SH (ab_dD h) (fun r => r = (some (.int z), ab_SH, ab_dD h)) := by
  unfold fX3_restsAt at hf
  refine ab_Ex.blk (k := 2) (pc' := 2) (lv' := [(0, .ref 1), (1, .int x0)]) (st' := [.int x0, .ref 1]) (sh' := ab_SH) (D' := ab_dD h) (fun n => rfl) ?_
  obtain ⟨r1, hr1, hf⟩ := ab_bind_s hf
  refine ab_Ex.call (d := d + 1) (M2 := 37) (as := [.ref 1, .int x0]) (rest := []) (fun n => rfl) rfl (Nat.not_lt.mpr (Nat.le_of_ble_eq_true rfl)) (sX3_isHome (d) X x0 h _ hr1) (fun r hr => ?_)
  subst hr
  show ab_Ex X (d + 2) 38 5 [(0, .ref 1), (1, .int x0)] [.int r1] ab_SH (ab_dD h) _
  refine ab_Ex.ifc (c := r1 = 0) (SA := (8, [(0, .ref 1), (1, .int x0)], [], ab_dD h)) (SB := (16, [(0, .ref 1), (1, .int x0)], [], ab_dD h)) (fun n => rfl) (fun c2 => ?_) (fun c2 => ?_)
  · replace hf := (if_pos c2).symm.trans hf
    refine ab_Ex.blk (k := 2) (pc' := 10) (lv' := [(0, .ref 1), (1, .int x0)]) (st' := [.int x0, .ref 1]) (sh' := ab_SH) (D' := ab_dD h) (fun n => rfl) ?_
    obtain ⟨r3, hr3, hf⟩ := ab_bind_s hf
    refine ab_Ex.call (d := d + 1) (M2 := 35) (as := [.ref 1, .int x0]) (rest := []) (fun n => rfl) rfl (Nat.not_lt.mpr (Nat.le_of_ble_eq_true rfl)) (sX3_roadsOf_1 (d + 1) X x0 h _ hr3) (fun r hr => ?_)
    subst hr
    show ab_Ex X (d + 2) 38 13 [(0, .ref 1), (1, .int x0)] [.int r3] ab_SH (ab_dD h) _
    refine ab_Ex.ifc (c := r3 = 0) (SA := (16, [(0, .ref 1), (1, .int x0)], [], ab_dD h)) (SB := (20, [(0, .ref 1), (1, .int x0)], [], ab_dD h)) (fun n => rfl) (fun c4 => ?_) (fun c4 => ?_)
    · replace hf := (if_pos c4).symm.trans hf
      refine ab_Ex.blk (k := 2) (pc' := 21) (lv' := []) (st' := [.int 1]) (sh' := ab_SH) (D' := ab_dD h) (fun n => rfl) ?_
      obtain rfl := Option.some.inj hf
      exact ab_Ex.ret (fun n => rfl) rfl
    · replace hf := (if_neg c4).symm.trans hf
      refine ab_Ex.blk (k := 1) (pc' := 21) (lv' := []) (st' := [.int 0]) (sh' := ab_SH) (D' := ab_dD h) (fun n => rfl) ?_
      obtain rfl := Option.some.inj hf
      exact ab_Ex.ret (fun n => rfl) rfl
  · replace hf := (if_neg c2).symm.trans hf
    refine ab_Ex.blk (k := 2) (pc' := 21) (lv' := []) (st' := [.int 1]) (sh' := ab_SH) (D' := ab_dD h) (fun n => rfl) ?_
    obtain rfl := Option.some.inj hf
    exact ab_Ex.ret (fun n => rfl) rfl
def fX1_roadsInto_J38  (h : abJ) (k5 : Int32 → Int32 → Int32 → Int32 → Option Int32) (y1 : Int32) (y2 : Int32) (y3 : Int32) (y4 : Int32) : Option Int32 := k5 y1 y2 y3 ((y4 + 1))
def fX1_roadsInto_L5  (h : abJ)  : Nat → Int32 → Int32 → Int32 → Int32 → Option Int32
  | 0, _, _, _, _ => none
  | n + 1, y1, y2, y3, y4 => (fX3_roadsOf 1 y1 h).bind (fun r1 => if r1 ≤ y4 then some y3 else (fX3_leadsTo y1 y4 h).bind (fun r3 => (fX11_isIn y2 r3 h).bind (fun r4 => if r4 = 0 then fX1_roadsInto_J38 h (fun y1 y2 y3 y4 => fX1_roadsInto_L5 h n y1 y2 y3 y4) y1 y2 y3 y4 else fX1_roadsInto_J38 h (fun y1 y2 y3 y4 => fX1_roadsInto_L5 h n y1 y2 y3 y4) y1 y2 ((y3 + 1)) y4)))
def fX1_roadsInto (x0 : Int32) (x1 : Int32) (h : abJ) : Option Int32 := fX1_roadsInto_L5 h ab_N x0 x1 0 0
set_option maxRecDepth 20000 in
theorem sX1_roadsInto_J38 (d : Nat) (X : abX) (h : abJ) (k5 : Int32 → Int32 → Int32 → Int32 → Option Int32) (hk5 : ∀ (y1 : Int32) (y2 : Int32) (y3 : Int32) (y4 : Int32) (z : Int32), k5 y1 y2 y3 y4 = some z → ab_Ex X (d + 2) 20 5 [(0, .ref 39), (1, .int y1), (2, .int y2), (3, .int y3), (4, .int y4)] [] ab_SH (ab_dD h) (fun r => r = (some (.int z), ab_SH, ab_dD h))) : ∀ (y1 : Int32) (y2 : Int32) (y3 : Int32) (y4 : Int32) (z : Int32), fX1_roadsInto_J38 h k5 y1 y2 y3 y4 = some z → ab_Ex X (d + 2) 20 38 [(0, .ref 39), (1, .int y1), (2, .int y2), (3, .int y3), (4, .int y4)] [] ab_SH (ab_dD h) (fun r => r = (some (.int z), ab_SH, ab_dD h)) := by
  intro y1 y2 y3 y4 z hf
  unfold fX1_roadsInto_J38 at hf
  refine ab_Ex.blk (k := 2) (pc' := 5) (lv' := [(0, .ref 39), (1, .int y1), (2, .int y2), (3, .int y3), (4, .int ((y4 + 1)))]) (st' := []) (sh' := ab_SH) (D' := ab_dD h) (fun n => rfl) ?_
  exact hk5 y1 y2 y3 ((y4 + 1)) _ hf
set_option maxRecDepth 20000 in
theorem sX1_roadsInto_L5 (d : Nat) (X : abX) (h : abJ)   : ∀ (n : Nat), ∀ (y1 : Int32) (y2 : Int32) (y3 : Int32) (y4 : Int32) (z : Int32), fX1_roadsInto_L5 h n y1 y2 y3 y4 = some z → ab_Ex X (d + 2) 20 5 [(0, .ref 39), (1, .int y1), (2, .int y2), (3, .int y3), (4, .int y4)] [] ab_SH (ab_dD h) (fun r => r = (some (.int z), ab_SH, ab_dD h)) := by
  intro n
  induction n with
  | zero => intro y1 y2 y3 y4 z hf; cases hf
  | succ n ih =>
    intro y1 y2 y3 y4 z hf
    rw [fX1_roadsInto_L5] at hf
    refine ab_Ex.blk (k := 4) (pc' := 12) (lv' := [(0, .ref 39), (1, .int y1), (2, .int y2), (3, .int y3), (4, .int y4)]) (st' := [.int y1, .ref 1, .int y4]) (sh' := ab_SH) (D' := ab_dD h) (fun n => rfl) ?_
    obtain ⟨r1, hr1, hf⟩ := ab_bind_s hf
    refine ab_Ex.call (d := d + 1) (M2 := 35) (as := [.ref 1, .int y1]) (rest := [.int y4]) (fun n => rfl) rfl (Nat.not_lt.mpr (Nat.le_of_ble_eq_true rfl)) (sX3_roadsOf_1 (d + 1) X y1 h _ hr1) (fun r hr => ?_)
    subst hr
    show ab_Ex X (d + 2) 20 15 [(0, .ref 39), (1, .int y1), (2, .int y2), (3, .int y3), (4, .int y4)] [.int r1, .int y4] ab_SH (ab_dD h) _
    refine ab_Ex.ifc (c := r1 ≤ y4) (SA := (44, [(0, .ref 39), (1, .int y1), (2, .int y2), (3, .int y3), (4, .int y4)], [], ab_dD h)) (SB := (18, [(0, .ref 39), (1, .int y1), (2, .int y2), (3, .int y3), (4, .int y4)], [], ab_dD h)) (fun n => rfl) (fun c2 => ?_) (fun c2 => ?_)
    · replace hf := (if_pos c2).symm.trans hf
      refine ab_Ex.blk (k := 1) (pc' := 45) (lv' := [(0, .ref 39), (1, .int y1), (2, .int y2), (3, .int y3), (4, .int y4)]) (st' := [.int y3]) (sh' := ab_SH) (D' := ab_dD h) (fun n => rfl) ?_
      obtain rfl := Option.some.inj hf
      exact ab_Ex.ret (fun n => rfl) rfl
    · replace hf := (if_neg c2).symm.trans hf
      refine ab_Ex.blk (k := 5) (pc' := 26) (lv' := [(0, .ref 39), (1, .int y1), (2, .int y2), (3, .int y3), (4, .int y4)]) (st' := [.int y4, .int y1, .ref 1, .int y2]) (sh' := ab_SH) (D' := ab_dD h) (fun n => rfl) ?_
      obtain ⟨r3, hr3, hf⟩ := ab_bind_s hf
      refine ab_Ex.call (d := d + 1) (M2 := 36) (as := [.ref 1, .int y1, .int y4]) (rest := [.int y2]) (fun n => rfl) rfl (Nat.not_lt.mpr (Nat.le_of_ble_eq_true rfl)) (sX3_leadsTo (d) X y1 y4 h _ hr3) (fun r hr => ?_)
      subst hr
      show ab_Ex X (d + 2) 20 29 [(0, .ref 39), (1, .int y1), (2, .int y2), (3, .int y3), (4, .int y4)] [.int r3, .int y2] ab_SH (ab_dD h) _
      obtain ⟨r4, hr4, hf⟩ := ab_bind_s hf
      refine ab_Ex.call (d := d + 1) (M2 := 174) (as := [.int y2, .int r3]) (rest := []) (fun n => rfl) rfl (Nat.not_lt.mpr (Nat.le_of_ble_eq_true rfl)) (sX11_isIn (d + 1) X y2 r3 h _ hr4) (fun r hr => ?_)
      subst hr
      show ab_Ex X (d + 2) 20 32 [(0, .ref 39), (1, .int y1), (2, .int y2), (3, .int y3), (4, .int y4)] [.int r4] ab_SH (ab_dD h) _
      refine ab_Ex.ifc (c := r4 = 0) (SA := (38, [(0, .ref 39), (1, .int y1), (2, .int y2), (3, .int y3), (4, .int y4)], [], ab_dD h)) (SB := (35, [(0, .ref 39), (1, .int y1), (2, .int y2), (3, .int y3), (4, .int y4)], [], ab_dD h)) (fun n => rfl) (fun c5 => ?_) (fun c5 => ?_)
      · replace hf := (if_pos c5).symm.trans hf
        exact sX1_roadsInto_J38 d X h (fun y1 y2 y3 y4 => fX1_roadsInto_L5 h n y1 y2 y3 y4) (fun y1 y2 y3 y4 z hz => ih y1 y2 y3 y4 z hz) y1 y2 y3 y4 _ hf
      · replace hf := (if_neg c5).symm.trans hf
        refine ab_Ex.blk (k := 1) (pc' := 38) (lv' := [(0, .ref 39), (1, .int y1), (2, .int y2), (3, .int ((y3 + 1))), (4, .int y4)]) (st' := []) (sh' := ab_SH) (D' := ab_dD h) (fun n => rfl) ?_
        exact sX1_roadsInto_J38 d X h (fun y1 y2 y3 y4 => fX1_roadsInto_L5 h n y1 y2 y3 y4) (fun y1 y2 y3 y4 z hz => ih y1 y2 y3 y4 z hz) y1 y2 ((y3 + 1)) y4 _ hf
set_option maxRecDepth 20000 in
theorem sX1_roadsInto (d : Nat) (X : abX) (x0 : Int32) (x1 : Int32) (h : abJ) (z : Int32) (hf : fX1_roadsInto x0 x1 h = some z) : ab_Ex X (d + 2) 20 0 [(0, .ref 39), (1, .int x0), (2, .int x1)] [] ab_SH (ab_dD h) (fun r => r = (some (.int z), ab_SH, ab_dD h)) := by
  unfold fX1_roadsInto at hf
  refine ab_Ex.blk (k := 4) (pc' := 5) (lv' := [(0, .ref 39), (1, .int x0), (2, .int x1), (3, .int 0), (4, .int 0)]) (st' := []) (sh' := ab_SH) (D' := ab_dD h) (fun n => rfl) ?_
  exact sX1_roadsInto_L5 d X h ab_N x0 x1 0 0 _ hf
def fX1_canLead_J41  (h : abJ) (k4 : Int32 → Int32 → Int32 → Option Int32) (y1 : Int32) (y2 : Int32) (y3 : Int32) : Option Int32 := k4 y1 y2 ((y3 + 1))
def fX1_canLead_L4  (h : abJ)  : Nat → Int32 → Int32 → Int32 → Option Int32
  | 0, _, _, _ => none
  | n + 1, y1, y2, y3 => if (h.1 1 0) ≤ y3 then some y2 else (fX3_restsAt y3 h).bind (fun r2 => if r2 = 0 then (fX1_roadsInto y3 y1 h).bind (fun r4 => if r4 ≤ 0 then fX1_canLead_J41 h (fun y1 y2 y3 => fX1_canLead_L4 h n y1 y2 y3) y1 y2 y3 else fX1_canLead_J41 h (fun y1 y2 y3 => fX1_canLead_L4 h n y1 y2 y3) y1 ((y2 ||| ((1 : Int32) <<< (y3 &&& 31)))) y3) else fX1_canLead_J41 h (fun y1 y2 y3 => fX1_canLead_L4 h n y1 y2 y3) y1 y2 y3)
def fX1_canLead (x0 : Int32) (h : abJ) : Option Int32 := fX1_canLead_L4 h ab_N x0 0 0
set_option maxRecDepth 20000 in
theorem sX1_canLead_J41 (d : Nat) (X : abX) (h : abJ) (k4 : Int32 → Int32 → Int32 → Option Int32) (hk4 : ∀ (y1 : Int32) (y2 : Int32) (y3 : Int32) (z : Int32), k4 y1 y2 y3 = some z → ab_Ex X (d + 3) 18 4 [(0, .ref 39), (1, .int y1), (2, .int y2), (3, .int y3)] [] ab_SH (ab_dD h) (fun r => r = (some (.int z), ab_SH, ab_dD h))) : ∀ (y1 : Int32) (y2 : Int32) (y3 : Int32) (z : Int32), fX1_canLead_J41 h k4 y1 y2 y3 = some z → ab_Ex X (d + 3) 18 41 [(0, .ref 39), (1, .int y1), (2, .int y2), (3, .int y3)] [] ab_SH (ab_dD h) (fun r => r = (some (.int z), ab_SH, ab_dD h)) := by
  intro y1 y2 y3 z hf
  unfold fX1_canLead_J41 at hf
  refine ab_Ex.blk (k := 2) (pc' := 4) (lv' := [(0, .ref 39), (1, .int y1), (2, .int y2), (3, .int ((y3 + 1)))]) (st' := []) (sh' := ab_SH) (D' := ab_dD h) (fun n => rfl) ?_
  exact hk4 y1 y2 ((y3 + 1)) _ hf
set_option maxRecDepth 20000 in
theorem sX1_canLead_L4 (d : Nat) (X : abX) (h : abJ)   : ∀ (n : Nat), ∀ (y1 : Int32) (y2 : Int32) (y3 : Int32) (z : Int32), fX1_canLead_L4 h n y1 y2 y3 = some z → ab_Ex X (d + 3) 18 4 [(0, .ref 39), (1, .int y1), (2, .int y2), (3, .int y3)] [] ab_SH (ab_dD h) (fun r => r = (some (.int z), ab_SH, ab_dD h)) := by
  intro n
  induction n with
  | zero => intro y1 y2 y3 z hf; cases hf
  | succ n ih =>
    intro y1 y2 y3 z hf
    rw [fX1_canLead_L4] at hf
    refine ab_Ex.blk (k := 4) (pc' := 12) (lv' := [(0, .ref 39), (1, .int y1), (2, .int y2), (3, .int y3)]) (st' := [.int ((h.1 1 0)), .int y3]) (sh' := ab_SH) (D' := ab_dD h) (fun n => rfl) ?_
    refine ab_Ex.ifc (c := (h.1 1 0) ≤ y3) (SA := (47, [(0, .ref 39), (1, .int y1), (2, .int y2), (3, .int y3)], [], ab_dD h)) (SB := (15, [(0, .ref 39), (1, .int y1), (2, .int y2), (3, .int y3)], [], ab_dD h)) (fun n => rfl) (fun c1 => ?_) (fun c1 => ?_)
    · replace hf := (if_pos c1).symm.trans hf
      refine ab_Ex.blk (k := 1) (pc' := 48) (lv' := [(0, .ref 39), (1, .int y1), (2, .int y2), (3, .int y3)]) (st' := [.int y2]) (sh' := ab_SH) (D' := ab_dD h) (fun n => rfl) ?_
      obtain rfl := Option.some.inj hf
      exact ab_Ex.ret (fun n => rfl) rfl
    · replace hf := (if_neg c1).symm.trans hf
      refine ab_Ex.blk (k := 3) (pc' := 20) (lv' := [(0, .ref 39), (1, .int y1), (2, .int y2), (3, .int y3)]) (st' := [.int y3, .ref 1]) (sh' := ab_SH) (D' := ab_dD h) (fun n => rfl) ?_
      obtain ⟨r2, hr2, hf⟩ := ab_bind_s hf
      refine ab_Ex.call (d := d + 2) (M2 := 38) (as := [.ref 1, .int y3]) (rest := []) (fun n => rfl) rfl (Nat.not_lt.mpr (Nat.le_of_ble_eq_true rfl)) (sX3_restsAt (d) X y3 h _ hr2) (fun r hr => ?_)
      subst hr
      show ab_Ex X (d + 3) 18 23 [(0, .ref 39), (1, .int y1), (2, .int y2), (3, .int y3)] [.int r2] ab_SH (ab_dD h) _
      refine ab_Ex.ifc (c := r2 = 0) (SA := (26, [(0, .ref 39), (1, .int y1), (2, .int y2), (3, .int y3)], [], ab_dD h)) (SB := (41, [(0, .ref 39), (1, .int y1), (2, .int y2), (3, .int y3)], [], ab_dD h)) (fun n => rfl) (fun c3 => ?_) (fun c3 => ?_)
      · replace hf := (if_pos c3).symm.trans hf
        refine ab_Ex.blk (k := 3) (pc' := 29) (lv' := [(0, .ref 39), (1, .int y1), (2, .int y2), (3, .int y3)]) (st' := [.int y1, .int y3, .ref 39]) (sh' := ab_SH) (D' := ab_dD h) (fun n => rfl) ?_
        obtain ⟨r4, hr4, hf⟩ := ab_bind_s hf
        refine ab_Ex.call (d := d + 2) (M2 := 20) (as := [.ref 39, .int y3, .int y1]) (rest := []) (fun n => rfl) rfl (Nat.not_lt.mpr (Nat.le_of_ble_eq_true rfl)) (sX1_roadsInto (d) X y3 y1 h _ hr4) (fun r hr => ?_)
        subst hr
        show ab_Ex X (d + 3) 18 32 [(0, .ref 39), (1, .int y1), (2, .int y2), (3, .int y3)] [.int r4] ab_SH (ab_dD h) _
        refine ab_Ex.ifc (c := r4 ≤ 0) (SA := (41, [(0, .ref 39), (1, .int y1), (2, .int y2), (3, .int y3)], [], ab_dD h)) (SB := (35, [(0, .ref 39), (1, .int y1), (2, .int y2), (3, .int y3)], [], ab_dD h)) (fun n => rfl) (fun c5 => ?_) (fun c5 => ?_)
        · replace hf := (if_pos c5).symm.trans hf
          exact sX1_canLead_J41 d X h (fun y1 y2 y3 => fX1_canLead_L4 h n y1 y2 y3) (fun y1 y2 y3 z hz => ih y1 y2 y3 z hz) y1 y2 y3 _ hf
        · replace hf := (if_neg c5).symm.trans hf
          refine ab_Ex.blk (k := 6) (pc' := 41) (lv' := [(0, .ref 39), (1, .int y1), (2, .int ((y2 ||| ((1 : Int32) <<< (y3 &&& 31))))), (3, .int y3)]) (st' := []) (sh' := ab_SH) (D' := ab_dD h) (fun n => rfl) ?_
          exact sX1_canLead_J41 d X h (fun y1 y2 y3 => fX1_canLead_L4 h n y1 y2 y3) (fun y1 y2 y3 z hz => ih y1 y2 y3 z hz) y1 ((y2 ||| ((1 : Int32) <<< (y3 &&& 31)))) y3 _ hf
      · replace hf := (if_neg c3).symm.trans hf
        exact sX1_canLead_J41 d X h (fun y1 y2 y3 => fX1_canLead_L4 h n y1 y2 y3) (fun y1 y2 y3 z hz => ih y1 y2 y3 z hz) y1 y2 y3 _ hf
set_option maxRecDepth 20000 in
theorem sX1_canLead (d : Nat) (X : abX) (x0 : Int32) (h : abJ) (z : Int32) (hf : fX1_canLead x0 h = some z) : ab_Ex X (d + 3) 18 0 [(0, .ref 39), (1, .int x0)] [] ab_SH (ab_dD h) (fun r => r = (some (.int z), ab_SH, ab_dD h)) := by
  unfold fX1_canLead at hf
  refine ab_Ex.blk (k := 4) (pc' := 4) (lv' := [(0, .ref 39), (1, .int x0), (2, .int 0), (3, .int 0)]) (st' := []) (sh' := ab_SH) (D' := ab_dD h) (fun n => rfl) ?_
  exact sX1_canLead_L4 d X h ab_N x0 0 0 _ hf
def fX1_mustLead_J49  (h : abJ) (k4 : Int32 → Int32 → Int32 → Option Int32) (y1 : Int32) (y2 : Int32) (y3 : Int32) : Option Int32 := k4 y1 y2 ((y3 + 1))
def fX1_mustLead_L4  (h : abJ)  : Nat → Int32 → Int32 → Int32 → Option Int32
  | 0, _, _, _ => none
  | n + 1, y1, y2, y3 => if (h.1 1 0) ≤ y3 then some y2 else (fX3_restsAt y3 h).bind (fun r2 => if r2 = 0 then (fX1_roadsInto y3 y1 h).bind (fun r4 => (fX3_roadsOf 1 y3 h).bind (fun r5 => if r4 = r5 then fX1_mustLead_J49 h (fun y1 y2 y3 => fX1_mustLead_L4 h n y1 y2 y3) y1 ((y2 ||| ((1 : Int32) <<< (y3 &&& 31)))) y3 else fX1_mustLead_J49 h (fun y1 y2 y3 => fX1_mustLead_L4 h n y1 y2 y3) y1 y2 y3)) else fX1_mustLead_J49 h (fun y1 y2 y3 => fX1_mustLead_L4 h n y1 y2 y3) y1 y2 y3)
def fX1_mustLead (x0 : Int32) (h : abJ) : Option Int32 := fX1_mustLead_L4 h ab_N x0 0 0
set_option maxRecDepth 20000 in
theorem sX1_mustLead_J49 (d : Nat) (X : abX) (h : abJ) (k4 : Int32 → Int32 → Int32 → Option Int32) (hk4 : ∀ (y1 : Int32) (y2 : Int32) (y3 : Int32) (z : Int32), k4 y1 y2 y3 = some z → ab_Ex X (d + 3) 19 4 [(0, .ref 39), (1, .int y1), (2, .int y2), (3, .int y3)] [] ab_SH (ab_dD h) (fun r => r = (some (.int z), ab_SH, ab_dD h))) : ∀ (y1 : Int32) (y2 : Int32) (y3 : Int32) (z : Int32), fX1_mustLead_J49 h k4 y1 y2 y3 = some z → ab_Ex X (d + 3) 19 49 [(0, .ref 39), (1, .int y1), (2, .int y2), (3, .int y3)] [] ab_SH (ab_dD h) (fun r => r = (some (.int z), ab_SH, ab_dD h)) := by
  intro y1 y2 y3 z hf
  unfold fX1_mustLead_J49 at hf
  refine ab_Ex.blk (k := 2) (pc' := 4) (lv' := [(0, .ref 39), (1, .int y1), (2, .int y2), (3, .int ((y3 + 1)))]) (st' := []) (sh' := ab_SH) (D' := ab_dD h) (fun n => rfl) ?_
  exact hk4 y1 y2 ((y3 + 1)) _ hf
set_option maxRecDepth 20000 in
theorem sX1_mustLead_L4 (d : Nat) (X : abX) (h : abJ)   : ∀ (n : Nat), ∀ (y1 : Int32) (y2 : Int32) (y3 : Int32) (z : Int32), fX1_mustLead_L4 h n y1 y2 y3 = some z → ab_Ex X (d + 3) 19 4 [(0, .ref 39), (1, .int y1), (2, .int y2), (3, .int y3)] [] ab_SH (ab_dD h) (fun r => r = (some (.int z), ab_SH, ab_dD h)) := by
  intro n
  induction n with
  | zero => intro y1 y2 y3 z hf; cases hf
  | succ n ih =>
    intro y1 y2 y3 z hf
    rw [fX1_mustLead_L4] at hf
    refine ab_Ex.blk (k := 4) (pc' := 12) (lv' := [(0, .ref 39), (1, .int y1), (2, .int y2), (3, .int y3)]) (st' := [.int ((h.1 1 0)), .int y3]) (sh' := ab_SH) (D' := ab_dD h) (fun n => rfl) ?_
    refine ab_Ex.ifc (c := (h.1 1 0) ≤ y3) (SA := (55, [(0, .ref 39), (1, .int y1), (2, .int y2), (3, .int y3)], [], ab_dD h)) (SB := (15, [(0, .ref 39), (1, .int y1), (2, .int y2), (3, .int y3)], [], ab_dD h)) (fun n => rfl) (fun c1 => ?_) (fun c1 => ?_)
    · replace hf := (if_pos c1).symm.trans hf
      refine ab_Ex.blk (k := 1) (pc' := 56) (lv' := [(0, .ref 39), (1, .int y1), (2, .int y2), (3, .int y3)]) (st' := [.int y2]) (sh' := ab_SH) (D' := ab_dD h) (fun n => rfl) ?_
      obtain rfl := Option.some.inj hf
      exact ab_Ex.ret (fun n => rfl) rfl
    · replace hf := (if_neg c1).symm.trans hf
      refine ab_Ex.blk (k := 3) (pc' := 20) (lv' := [(0, .ref 39), (1, .int y1), (2, .int y2), (3, .int y3)]) (st' := [.int y3, .ref 1]) (sh' := ab_SH) (D' := ab_dD h) (fun n => rfl) ?_
      obtain ⟨r2, hr2, hf⟩ := ab_bind_s hf
      refine ab_Ex.call (d := d + 2) (M2 := 38) (as := [.ref 1, .int y3]) (rest := []) (fun n => rfl) rfl (Nat.not_lt.mpr (Nat.le_of_ble_eq_true rfl)) (sX3_restsAt (d) X y3 h _ hr2) (fun r hr => ?_)
      subst hr
      show ab_Ex X (d + 3) 19 23 [(0, .ref 39), (1, .int y1), (2, .int y2), (3, .int y3)] [.int r2] ab_SH (ab_dD h) _
      refine ab_Ex.ifc (c := r2 = 0) (SA := (26, [(0, .ref 39), (1, .int y1), (2, .int y2), (3, .int y3)], [], ab_dD h)) (SB := (49, [(0, .ref 39), (1, .int y1), (2, .int y2), (3, .int y3)], [], ab_dD h)) (fun n => rfl) (fun c3 => ?_) (fun c3 => ?_)
      · replace hf := (if_pos c3).symm.trans hf
        refine ab_Ex.blk (k := 3) (pc' := 29) (lv' := [(0, .ref 39), (1, .int y1), (2, .int y2), (3, .int y3)]) (st' := [.int y1, .int y3, .ref 39]) (sh' := ab_SH) (D' := ab_dD h) (fun n => rfl) ?_
        obtain ⟨r4, hr4, hf⟩ := ab_bind_s hf
        refine ab_Ex.call (d := d + 2) (M2 := 20) (as := [.ref 39, .int y3, .int y1]) (rest := []) (fun n => rfl) rfl (Nat.not_lt.mpr (Nat.le_of_ble_eq_true rfl)) (sX1_roadsInto (d) X y3 y1 h _ hr4) (fun r hr => ?_)
        subst hr
        show ab_Ex X (d + 3) 19 32 [(0, .ref 39), (1, .int y1), (2, .int y2), (3, .int y3)] [.int r4] ab_SH (ab_dD h) _
        refine ab_Ex.blk (k := 3) (pc' := 37) (lv' := [(0, .ref 39), (1, .int y1), (2, .int y2), (3, .int y3)]) (st' := [.int y3, .ref 1, .int r4]) (sh' := ab_SH) (D' := ab_dD h) (fun n => rfl) ?_
        obtain ⟨r5, hr5, hf⟩ := ab_bind_s hf
        refine ab_Ex.call (d := d + 2) (M2 := 35) (as := [.ref 1, .int y3]) (rest := [.int r4]) (fun n => rfl) rfl (Nat.not_lt.mpr (Nat.le_of_ble_eq_true rfl)) (sX3_roadsOf_1 (d + 2) X y3 h _ hr5) (fun r hr => ?_)
        subst hr
        show ab_Ex X (d + 3) 19 40 [(0, .ref 39), (1, .int y1), (2, .int y2), (3, .int y3)] [.int r5, .int r4] ab_SH (ab_dD h) _
        refine ab_Ex.ifc (c := r4 = r5) (SA := (43, [(0, .ref 39), (1, .int y1), (2, .int y2), (3, .int y3)], [], ab_dD h)) (SB := (49, [(0, .ref 39), (1, .int y1), (2, .int y2), (3, .int y3)], [], ab_dD h)) (fun n => rfl) (fun c6 => ?_) (fun c6 => ?_)
        · replace hf := (if_pos c6).symm.trans hf
          refine ab_Ex.blk (k := 6) (pc' := 49) (lv' := [(0, .ref 39), (1, .int y1), (2, .int ((y2 ||| ((1 : Int32) <<< (y3 &&& 31))))), (3, .int y3)]) (st' := []) (sh' := ab_SH) (D' := ab_dD h) (fun n => rfl) ?_
          exact sX1_mustLead_J49 d X h (fun y1 y2 y3 => fX1_mustLead_L4 h n y1 y2 y3) (fun y1 y2 y3 z hz => ih y1 y2 y3 z hz) y1 ((y2 ||| ((1 : Int32) <<< (y3 &&& 31)))) y3 _ hf
        · replace hf := (if_neg c6).symm.trans hf
          exact sX1_mustLead_J49 d X h (fun y1 y2 y3 => fX1_mustLead_L4 h n y1 y2 y3) (fun y1 y2 y3 z hz => ih y1 y2 y3 z hz) y1 y2 y3 _ hf
      · replace hf := (if_neg c3).symm.trans hf
        exact sX1_mustLead_J49 d X h (fun y1 y2 y3 => fX1_mustLead_L4 h n y1 y2 y3) (fun y1 y2 y3 z hz => ih y1 y2 y3 z hz) y1 y2 y3 _ hf
set_option maxRecDepth 20000 in
theorem sX1_mustLead (d : Nat) (X : abX) (x0 : Int32) (h : abJ) (z : Int32) (hf : fX1_mustLead x0 h = some z) : ab_Ex X (d + 3) 19 0 [(0, .ref 39), (1, .int x0)] [] ab_SH (ab_dD h) (fun r => r = (some (.int z), ab_SH, ab_dD h)) := by
  unfold fX1_mustLead at hf
  refine ab_Ex.blk (k := 4) (pc' := 4) (lv' := [(0, .ref 39), (1, .int x0), (2, .int 0), (3, .int 0)]) (st' := []) (sh' := ab_SH) (D' := ab_dD h) (fun n => rfl) ?_
  exact sX1_mustLead_L4 d X h ab_N x0 0 0 _ hf
def fX1_force_L21   : Nat → Int32 → Int32 → Int32 → Int32 → abJ → Option (Int32 × abJ)
  | 0, _, _, _, _, _ => none
  | n + 1, y1, y2, y3, y4, h => if 12 < y4 then some ((-1), h) else (fX1_canLead ((h.1 39 1)) h).bind (fun r3 => (fX11_isIn ((((1 : Int32) <<< (y2 &&& 31)) ||| r3)) y1 h).bind (fun r4 => if r4 = 0 then (fX1_mustLead y3 h).bind (fun r6 => fX1_force_L21 n y1 y2 ((((1 : Int32) <<< (y2 &&& 31)) ||| r3)) ((y4 + 1)) (ab_wI h 39 1 (((1 : Int32) <<< (y2 &&& 31)) ||| r6))) else some (y4, h)))
def fX1_force (x0 : Int32) (x1 : Int32) (h : abJ) : Option (Int32 × abJ) := if x0 = x1 then some (0, (ab_wI h 39 1 ((1 : Int32) <<< (x1 &&& 31)))) else fX1_force_L21 ab_N x0 x1 (((1 : Int32) <<< (x1 &&& 31))) 1 (ab_wI h 39 1 ((1 : Int32) <<< (x1 &&& 31)))
set_option maxRecDepth 20000 in
theorem sX1_force_L21 (d : Nat) (X : abX)   : ∀ (n : Nat), ∀ (y1 : Int32) (y2 : Int32) (y3 : Int32) (y4 : Int32) (h : abJ) (z : (Int32 × abJ)), fX1_force_L21 n y1 y2 y3 y4 h = some z → ab_Ex X (d + 4) 16 21 [(0, .ref 39), (1, .int y1), (2, .int y2), (3, .int y3), (4, .int y4)] [] ab_SH (ab_dD h) (fun r => r = (some (.int z.1), ab_SH, ab_dD z.2)) := by
  intro n
  induction n with
  | zero => intro y1 y2 y3 y4 h z hf; cases hf
  | succ n ih =>
    intro y1 y2 y3 y4 h z hf
    rw [fX1_force_L21] at hf
    refine ab_Ex.blk (k := 2) (pc' := 25) (lv' := [(0, .ref 39), (1, .int y1), (2, .int y2), (3, .int y3), (4, .int y4)]) (st' := [.int 12, .int y4]) (sh' := ab_SH) (D' := ab_dD h) (fun n => rfl) ?_
    refine ab_Ex.ifc (c := 12 < y4) (SA := (76, [(0, .ref 39), (1, .int y1), (2, .int y2), (3, .int y3), (4, .int y4)], [], ab_dD h)) (SB := (28, [(0, .ref 39), (1, .int y1), (2, .int y2), (3, .int y3), (4, .int y4)], [], ab_dD h)) (fun n => rfl) (fun c2 => ?_) (fun c2 => ?_)
    · replace hf := (if_pos c2).symm.trans hf
      refine ab_Ex.blk (k := 1) (pc' := 77) (lv' := [(0, .ref 39), (1, .int y1), (2, .int y2), (3, .int y3), (4, .int y4)]) (st' := [.int ((-1))]) (sh' := ab_SH) (D' := ab_dD h) (fun n => rfl) ?_
      obtain rfl := Option.some.inj hf
      exact ab_Ex.ret (fun n => rfl) rfl
    · replace hf := (if_neg c2).symm.trans hf
      refine ab_Ex.blk (k := 6) (pc' := 36) (lv' := [(0, .ref 39), (1, .int y1), (2, .int y2), (3, .int y3), (4, .int y4)]) (st' := [.int ((h.1 39 1)), .ref 39, .int (((1 : Int32) <<< (y2 &&& 31)))]) (sh' := ab_SH) (D' := ab_dD h) (fun n => rfl) ?_
      obtain ⟨r3, hr3, hf⟩ := ab_bind_s hf
      refine ab_Ex.call (d := d + 3) (M2 := 18) (as := [.ref 39, .int ((h.1 39 1))]) (rest := [.int (((1 : Int32) <<< (y2 &&& 31)))]) (fun n => rfl) rfl (Nat.not_lt.mpr (Nat.le_of_ble_eq_true rfl)) (sX1_canLead (d) X ((h.1 39 1)) h _ hr3) (fun r hr => ?_)
      subst hr
      show ab_Ex X (d + 4) 16 39 [(0, .ref 39), (1, .int y1), (2, .int y2), (3, .int y3), (4, .int y4)] [.int r3, .int (((1 : Int32) <<< (y2 &&& 31)))] ab_SH (ab_dD h) _
      refine ab_Ex.blk (k := 4) (pc' := 45) (lv' := [(5, .int ((((1 : Int32) <<< (y2 &&& 31)) ||| r3))), (0, .ref 39), (1, .int y1), (2, .int y2), (3, .int y3), (4, .int y4)]) (st' := [.int y1, .int ((((1 : Int32) <<< (y2 &&& 31)) ||| r3))]) (sh' := ab_SH) (D' := ab_dD h) (fun n => rfl) ?_
      obtain ⟨r4, hr4, hf⟩ := ab_bind_s hf
      refine ab_Ex.call (d := d + 3) (M2 := 174) (as := [.int ((((1 : Int32) <<< (y2 &&& 31)) ||| r3)), .int y1]) (rest := []) (fun n => rfl) rfl (Nat.not_lt.mpr (Nat.le_of_ble_eq_true rfl)) (sX11_isIn (d + 3) X ((((1 : Int32) <<< (y2 &&& 31)) ||| r3)) y1 h _ hr4) (fun r hr => ?_)
      subst hr
      show ab_Ex X (d + 4) 16 48 [(5, .int ((((1 : Int32) <<< (y2 &&& 31)) ||| r3))), (0, .ref 39), (1, .int y1), (2, .int y2), (3, .int y3), (4, .int y4)] [.int r4] ab_SH (ab_dD h) _
      refine ab_Ex.ifc (c := r4 = 0) (SA := (54, [(5, .int ((((1 : Int32) <<< (y2 &&& 31)) ||| r3))), (0, .ref 39), (1, .int y1), (2, .int y2), (3, .int y3), (4, .int y4)], [], ab_dD h)) (SB := (51, [(5, .int ((((1 : Int32) <<< (y2 &&& 31)) ||| r3))), (0, .ref 39), (1, .int y1), (2, .int y2), (3, .int y3), (4, .int y4)], [], ab_dD h)) (fun n => rfl) (fun c5 => ?_) (fun c5 => ?_)
      · replace hf := (if_pos c5).symm.trans hf
        refine ab_Ex.blk (k := 6) (pc' := 60) (lv' := [(5, .int ((((1 : Int32) <<< (y2 &&& 31)) ||| r3))), (0, .ref 39), (1, .int y1), (2, .int y2), (3, .int y3), (4, .int y4)]) (st' := [.int y3, .ref 39, .int (((1 : Int32) <<< (y2 &&& 31))), .ref 39]) (sh' := ab_SH) (D' := ab_dD h) (fun n => rfl) ?_
        obtain ⟨r6, hr6, hf⟩ := ab_bind_s hf
        refine ab_Ex.call (d := d + 3) (M2 := 19) (as := [.ref 39, .int y3]) (rest := [.int (((1 : Int32) <<< (y2 &&& 31))), .ref 39]) (fun n => rfl) rfl (Nat.not_lt.mpr (Nat.le_of_ble_eq_true rfl)) (sX1_mustLead (d) X y3 h _ hr6) (fun r hr => ?_)
        subst hr
        show ab_Ex X (d + 4) 16 63 [(5, .int ((((1 : Int32) <<< (y2 &&& 31)) ||| r3))), (0, .ref 39), (1, .int y1), (2, .int y2), (3, .int y3), (4, .int y4)] [.int r6, .int (((1 : Int32) <<< (y2 &&& 31))), .ref 39] ab_SH (ab_dD h) _
        refine ab_Ex.blk (k := 6) (pc' := 21) (lv' := [(0, .ref 39), (1, .int y1), (2, .int y2), (3, .int ((((1 : Int32) <<< (y2 &&& 31)) ||| r3))), (4, .int ((y4 + 1)))]) (st' := []) (sh' := ab_SH) (D' := ab_dD (ab_wI h 39 1 (((1 : Int32) <<< (y2 &&& 31)) ||| r6))) (fun n => rfl) ?_
        exact ih y1 y2 ((((1 : Int32) <<< (y2 &&& 31)) ||| r3)) ((y4 + 1)) (ab_wI h 39 1 (((1 : Int32) <<< (y2 &&& 31)) ||| r6)) _ hf
      · replace hf := (if_neg c5).symm.trans hf
        refine ab_Ex.blk (k := 1) (pc' := 53) (lv' := [(5, .int ((((1 : Int32) <<< (y2 &&& 31)) ||| r3))), (0, .ref 39), (1, .int y1), (2, .int y2), (3, .int y3), (4, .int y4)]) (st' := [.int y4]) (sh' := ab_SH) (D' := ab_dD h) (fun n => rfl) ?_
        obtain rfl := Option.some.inj hf
        exact ab_Ex.ret (fun n => rfl) rfl
set_option maxRecDepth 20000 in
theorem sX1_force (d : Nat) (X : abX) (x0 : Int32) (x1 : Int32) (h : abJ) (z : (Int32 × abJ)) (hf : fX1_force x0 x1 h = some z) : ab_Ex X (d + 4) 16 0 [(0, .ref 39), (1, .int x0), (2, .int x1)] [] ab_SH (ab_dD h) (fun r => r = (some (.int z.1), ab_SH, ab_dD z.2)) := by
  unfold fX1_force at hf
  refine ab_Ex.blk (k := 11) (pc' := 13) (lv' := [(3, .int (((1 : Int32) <<< (x1 &&& 31)))), (0, .ref 39), (1, .int x0), (2, .int x1)]) (st' := [.int x1, .int x0]) (sh' := ab_SH) (D' := ab_dD (ab_wI h 39 1 ((1 : Int32) <<< (x1 &&& 31)))) (fun n => rfl) ?_
  refine ab_Ex.ifc (c := x0 = x1) (SA := (16, [(3, .int (((1 : Int32) <<< (x1 &&& 31)))), (0, .ref 39), (1, .int x0), (2, .int x1)], [], ab_dD (ab_wI h 39 1 ((1 : Int32) <<< (x1 &&& 31))))) (SB := (18, [(3, .int (((1 : Int32) <<< (x1 &&& 31)))), (0, .ref 39), (1, .int x0), (2, .int x1)], [], ab_dD (ab_wI h 39 1 ((1 : Int32) <<< (x1 &&& 31))))) (fun n => rfl) (fun c1 => ?_) (fun c1 => ?_)
  · replace hf := (if_pos c1).symm.trans hf
    refine ab_Ex.blk (k := 1) (pc' := 17) (lv' := [(3, .int (((1 : Int32) <<< (x1 &&& 31)))), (0, .ref 39), (1, .int x0), (2, .int x1)]) (st' := [.int 0]) (sh' := ab_SH) (D' := ab_dD (ab_wI h 39 1 ((1 : Int32) <<< (x1 &&& 31)))) (fun n => rfl) ?_
    obtain rfl := Option.some.inj hf
    exact ab_Ex.ret (fun n => rfl) rfl
  · replace hf := (if_neg c1).symm.trans hf
    refine ab_Ex.blk (k := 2) (pc' := 21) (lv' := [(0, .ref 39), (1, .int x0), (2, .int x1), (3, .int (((1 : Int32) <<< (x1 &&& 31)))), (4, .int 1)]) (st' := []) (sh' := ab_SH) (D' := ab_dD (ab_wI h 39 1 ((1 : Int32) <<< (x1 &&& 31)))) (fun n => rfl) ?_
    exact sX1_force_L21 d X  ab_N x0 x1 (((1 : Int32) <<< (x1 &&& 31))) 1 (ab_wI h 39 1 ((1 : Int32) <<< (x1 &&& 31))) _ hf
def fX1_forcingRoad_L17   : Nat → Int32 → Int32 → abJ → Option (Int32 × abJ)
  | 0, _, _, _ => none
  | n + 1, y1, y4, h => (fX3_roadsOf 1 y1 h).bind (fun r3 => if r3 ≤ y4 then some ((-1), h) else (fX3_leadsTo y1 y4 h).bind (fun r5 => (fX11_isIn ((h.1 39 1)) r5 h).bind (fun r6 => if r6 = 0 then fX1_forcingRoad_L17 n y1 ((y4 + 1)) h else some (y4, h))))
def fX1_forcingRoad (x0 : Int32) (x1 : Int32) (h : abJ) : Option (Int32 × abJ) := (fX1_force x0 x1 h).bind (fun r1 => if 1 ≤ r1.1 then fX1_forcingRoad_L17 ab_N x0 0 r1.2 else some ((-1), r1.2))
set_option maxRecDepth 20000 in
theorem sX1_forcingRoad_L17 (d : Nat) (X : abX)   : ∀ (n : Nat), ∀ (y1 : Int32) (y4 : Int32) (h : abJ) (z : (Int32 × abJ)), fX1_forcingRoad_L17 n y1 y4 h = some z → ab_Ex X (d + 5) 17 17 [(0, .ref 39), (1, .int y1), (4, .int y4)] [] ab_SH (ab_dD h) (fun r => r = (some (.int z.1), ab_SH, ab_dD z.2)) := by
  intro n
  induction n with
  | zero => intro y1 y4 h z hf; cases hf
  | succ n ih =>
    intro y1 y4 h z hf
    rw [fX1_forcingRoad_L17] at hf
    refine ab_Ex.blk (k := 4) (pc' := 24) (lv' := [(0, .ref 39), (1, .int y1), (4, .int y4)]) (st' := [.int y1, .ref 1, .int y4]) (sh' := ab_SH) (D' := ab_dD h) (fun n => rfl) ?_
    obtain ⟨r3, hr3, hf⟩ := ab_bind_s hf
    refine ab_Ex.call (d := d + 4) (M2 := 35) (as := [.ref 1, .int y1]) (rest := [.int y4]) (fun n => rfl) rfl (Nat.not_lt.mpr (Nat.le_of_ble_eq_true rfl)) (sX3_roadsOf_1 (d + 4) X y1 h _ hr3) (fun r hr => ?_)
    subst hr
    show ab_Ex X (d + 5) 17 27 [(0, .ref 39), (1, .int y1), (4, .int y4)] [.int r3, .int y4] ab_SH (ab_dD h) _
    refine ab_Ex.ifc (c := r3 ≤ y4) (SA := (59, [(0, .ref 39), (1, .int y1), (4, .int y4)], [], ab_dD h)) (SB := (30, [(0, .ref 39), (1, .int y1), (4, .int y4)], [], ab_dD h)) (fun n => rfl) (fun c4 => ?_) (fun c4 => ?_)
    · replace hf := (if_pos c4).symm.trans hf
      refine ab_Ex.blk (k := 1) (pc' := 60) (lv' := [(0, .ref 39), (1, .int y1), (4, .int y4)]) (st' := [.int ((-1))]) (sh' := ab_SH) (D' := ab_dD h) (fun n => rfl) ?_
      obtain rfl := Option.some.inj hf
      exact ab_Ex.ret (fun n => rfl) rfl
    · replace hf := (if_neg c4).symm.trans hf
      refine ab_Ex.blk (k := 6) (pc' := 41) (lv' := [(0, .ref 39), (1, .int y1), (4, .int y4)]) (st' := [.int y4, .int y1, .ref 1, .int ((h.1 39 1))]) (sh' := ab_SH) (D' := ab_dD h) (fun n => rfl) ?_
      obtain ⟨r5, hr5, hf⟩ := ab_bind_s hf
      refine ab_Ex.call (d := d + 4) (M2 := 36) (as := [.ref 1, .int y1, .int y4]) (rest := [.int ((h.1 39 1))]) (fun n => rfl) rfl (Nat.not_lt.mpr (Nat.le_of_ble_eq_true rfl)) (sX3_leadsTo (d + 3) X y1 y4 h _ hr5) (fun r hr => ?_)
      subst hr
      show ab_Ex X (d + 5) 17 44 [(0, .ref 39), (1, .int y1), (4, .int y4)] [.int r5, .int ((h.1 39 1))] ab_SH (ab_dD h) _
      obtain ⟨r6, hr6, hf⟩ := ab_bind_s hf
      refine ab_Ex.call (d := d + 4) (M2 := 174) (as := [.int ((h.1 39 1)), .int r5]) (rest := []) (fun n => rfl) rfl (Nat.not_lt.mpr (Nat.le_of_ble_eq_true rfl)) (sX11_isIn (d + 4) X ((h.1 39 1)) r5 h _ hr6) (fun r hr => ?_)
      subst hr
      show ab_Ex X (d + 5) 17 47 [(0, .ref 39), (1, .int y1), (4, .int y4)] [.int r6] ab_SH (ab_dD h) _
      refine ab_Ex.ifc (c := r6 = 0) (SA := (53, [(0, .ref 39), (1, .int y1), (4, .int y4)], [], ab_dD h)) (SB := (50, [(0, .ref 39), (1, .int y1), (4, .int y4)], [], ab_dD h)) (fun n => rfl) (fun c7 => ?_) (fun c7 => ?_)
      · replace hf := (if_pos c7).symm.trans hf
        refine ab_Ex.blk (k := 2) (pc' := 17) (lv' := [(0, .ref 39), (1, .int y1), (4, .int ((y4 + 1)))]) (st' := []) (sh' := ab_SH) (D' := ab_dD h) (fun n => rfl) ?_
        exact ih y1 ((y4 + 1)) h _ hf
      · replace hf := (if_neg c7).symm.trans hf
        refine ab_Ex.blk (k := 1) (pc' := 52) (lv' := [(0, .ref 39), (1, .int y1), (4, .int y4)]) (st' := [.int y4]) (sh' := ab_SH) (D' := ab_dD h) (fun n => rfl) ?_
        obtain rfl := Option.some.inj hf
        exact ab_Ex.ret (fun n => rfl) rfl
set_option maxRecDepth 20000 in
theorem sX1_forcingRoad (d : Nat) (X : abX) (x0 : Int32) (x1 : Int32) (h : abJ) (z : (Int32 × abJ)) (hf : fX1_forcingRoad x0 x1 h = some z) : ab_Ex X (d + 5) 17 0 [(0, .ref 39), (1, .int x0), (2, .int x1)] [] ab_SH (ab_dD h) (fun r => r = (some (.int z.1), ab_SH, ab_dD z.2)) := by
  unfold fX1_forcingRoad at hf
  refine ab_Ex.blk (k := 3) (pc' := 3) (lv' := [(0, .ref 39), (1, .int x0), (2, .int x1)]) (st' := [.int x1, .int x0, .ref 39]) (sh' := ab_SH) (D' := ab_dD h) (fun n => rfl) ?_
  obtain ⟨r1, hr1, hf⟩ := ab_bind_s hf
  refine ab_Ex.call (d := d + 4) (M2 := 16) (as := [.ref 39, .int x0, .int x1]) (rest := []) (fun n => rfl) rfl (Nat.not_lt.mpr (Nat.le_of_ble_eq_true rfl)) (sX1_force (d) X x0 x1 h _ hr1) (fun r hr => ?_)
  subst hr
  show ab_Ex X (d + 5) 17 6 [(0, .ref 39), (1, .int x0), (2, .int x1)] [.int r1.1] ab_SH (ab_dD r1.2) _
  refine ab_Ex.blk (k := 3) (pc' := 9) (lv' := [(3, .int r1.1), (0, .ref 39), (1, .int x0), (2, .int x1)]) (st' := [.int 1, .int r1.1]) (sh' := ab_SH) (D' := ab_dD r1.2) (fun n => rfl) ?_
  refine ab_Ex.ifc (c := 1 ≤ r1.1) (SA := (14, [(3, .int r1.1), (0, .ref 39), (1, .int x0), (2, .int x1)], [], ab_dD r1.2)) (SB := (12, [(3, .int r1.1), (0, .ref 39), (1, .int x0), (2, .int x1)], [], ab_dD r1.2)) (fun n => rfl) (fun c2 => ?_) (fun c2 => ?_)
  · replace hf := (if_pos c2).symm.trans hf
    refine ab_Ex.blk (k := 2) (pc' := 17) (lv' := [(0, .ref 39), (1, .int x0), (4, .int 0)]) (st' := []) (sh' := ab_SH) (D' := ab_dD r1.2) (fun n => rfl) ?_
    exact sX1_forcingRoad_L17 d X  ab_N x0 0 r1.2 _ hf
  · replace hf := (if_neg c2).symm.trans hf
    refine ab_Ex.blk (k := 1) (pc' := 13) (lv' := [(3, .int r1.1), (0, .ref 39), (1, .int x0), (2, .int x1)]) (st' := [.int ((-1))]) (sh' := ab_SH) (D' := ab_dD r1.2) (fun n => rfl) ?_
    obtain rfl := Option.some.inj hf
    exact ab_Ex.ret (fun n => rfl) rfl
def fJ7_rangeCheck_23922 (x0 : Int32) (x1 : Int32) (x2 : Int32) (h : abJ) : Option abJ := if x1 ≤ x2 then if 0 ≤ x1 then if x2 ≤ x0 then some h else none else none else none
set_option maxRecDepth 20000 in
theorem sJ7_rangeCheck_23922 (d : Nat) (X : abX) (x0 : Int32) (x1 : Int32) (x2 : Int32) (h : abJ) (z : abJ) (hf : fJ7_rangeCheck_23922 x0 x1 x2 h = some z) : ab_Ex X (d + 0) 315 0 [(0, .int x0), (1, .int x1), (2, .int x2)] [] ab_SH (ab_dD h) (fun r => r = (none, ab_SH, ab_dD h)) := by
  unfold fJ7_rangeCheck_23922 at hf
  refine ab_Ex.blk (k := 2) (pc' := 2) (lv' := [(0, .int x0), (1, .int x1), (2, .int x2)]) (st' := [.int x2, .int x1]) (sh' := ab_SH) (D' := ab_dD h) (fun n => rfl) ?_
  refine ab_Ex.ifc (c := x1 ≤ x2) (SA := (46, [(0, .int x0), (1, .int x1), (2, .int x2)], [], ab_dD h)) (SB := (5, [(0, .int x0), (1, .int x1), (2, .int x2)], [], ab_dD h)) (fun n => rfl) (fun c1 => ?_) (fun c1 => ?_)
  · replace hf := (if_pos c1).symm.trans hf
    refine ab_Ex.blk (k := 1) (pc' := 47) (lv' := [(0, .int x0), (1, .int x1), (2, .int x2)]) (st' := [.int x1]) (sh' := ab_SH) (D' := ab_dD h) (fun n => rfl) ?_
    refine ab_Ex.ifc (c := 0 ≤ x1) (SA := (59, [(0, .int x0), (1, .int x1), (2, .int x2)], [], ab_dD h)) (SB := (50, [(0, .int x0), (1, .int x1), (2, .int x2)], [], ab_dD h)) (fun n => rfl) (fun c2 => ?_) (fun c2 => ?_)
    · replace hf := (if_pos c2).symm.trans hf
      refine ab_Ex.blk (k := 2) (pc' := 61) (lv' := [(0, .int x0), (1, .int x1), (2, .int x2)]) (st' := [.int x0, .int x2]) (sh' := ab_SH) (D' := ab_dD h) (fun n => rfl) ?_
      refine ab_Ex.ifc (c := x2 ≤ x0) (SA := (73, [(0, .int x0), (1, .int x1), (2, .int x2)], [], ab_dD h)) (SB := (64, [(0, .int x0), (1, .int x1), (2, .int x2)], [], ab_dD h)) (fun n => rfl) (fun c3 => ?_) (fun c3 => ?_)
      · replace hf := (if_pos c3).symm.trans hf
        obtain rfl := Option.some.inj hf
        exact ab_Ex.ret (fun n => rfl) rfl
      · replace hf := (if_neg c3).symm.trans hf
        cases hf
    · replace hf := (if_neg c2).symm.trans hf
      cases hf
  · replace hf := (if_neg c1).symm.trans hf
    cases hf
def fJ7_fill_fda19_L10   : Nat → Int32 → Int32 → Int32 → abJ → Option abJ
  | 0, _, _, _, _ => none
  | n + 1, y2, y3, y4, h => if y2 ≤ y4 then some h else ab_ask (y4 < 0 ∨ 4374 ≤ (y4 : Int32).toNatClampNeg) (fJ7_fill_fda19_L10 n y2 y3 ((y4 + 1)) (ab_wI h 31 (y4 : Int32).toNatClampNeg y3))
def fJ7_fill_fda19 (x1 : Int32) (x2 : Int32) (x3 : Int32) (h : abJ) : Option abJ := (fJ7_rangeCheck_23922 ((Int32.ofNat 4374)) x1 x2 h).bind (fun r1 => fJ7_fill_fda19_L10 ab_N x2 x3 x1 h)
set_option maxRecDepth 20000 in
theorem sJ7_fill_fda19_L10 (d : Nat) (X : abX)   : ∀ (n : Nat), ∀ (y2 : Int32) (y3 : Int32) (y4 : Int32) (h : abJ) (z : abJ), fJ7_fill_fda19_L10 n y2 y3 y4 h = some z → ab_Ex X (d + 1) 318 10 [(0, .ref 31), (2, .int y2), (3, .int y3), (4, .int y4)] [] ab_SH (ab_dD h) (fun r => r = (none, ab_SH, ab_dD z)) := by
  intro n
  induction n with
  | zero => intro y2 y3 y4 h z hf; cases hf
  | succ n ih =>
    intro y2 y3 y4 h z hf
    rw [fJ7_fill_fda19_L10] at hf
    refine ab_Ex.blk (k := 2) (pc' := 13) (lv' := [(0, .ref 31), (2, .int y2), (3, .int y3), (4, .int y4)]) (st' := [.int y2, .int y4]) (sh' := ab_SH) (D' := ab_dD h) (fun n => rfl) ?_
    refine ab_Ex.ifc (c := y2 ≤ y4) (SA := (27, [(0, .ref 31), (2, .int y2), (3, .int y3), (4, .int y4)], [], ab_dD h)) (SB := (16, [(0, .ref 31), (2, .int y2), (3, .int y3), (4, .int y4)], [], ab_dD h)) (fun n => rfl) (fun c2 => ?_) (fun c2 => ?_)
    · replace hf := (if_pos c2).symm.trans hf
      obtain rfl := Option.some.inj hf
      exact ab_Ex.ret (fun n => rfl) rfl
    · replace hf := (if_neg c2).symm.trans hf
      refine ab_Ex.blk (k := 3) (pc' := 20) (lv' := [(0, .ref 31), (2, .int y2), (3, .int y3), (4, .int y4)]) (st' := [.int y3, .int y4, .ref 31]) (sh' := ab_SH) (D' := ab_dD h) (fun n => rfl) ?_
      obtain ⟨c3, hf⟩ := ab_ask_s hf
      refine ab_Ex.grd (c := y4 < 0 ∨ 4374 ≤ (y4 : Int32).toNatClampNeg) (S := (21, [(0, .ref 31), (2, .int y2), (3, .int y3), (4, .int y4)], [], ab_dD (ab_wI h 31 (y4 : Int32).toNatClampNeg y3))) (fun n => rfl) c3 ?_
      refine ab_Ex.blk (k := 2) (pc' := 10) (lv' := [(0, .ref 31), (2, .int y2), (3, .int y3), (4, .int ((y4 + 1)))]) (st' := []) (sh' := ab_SH) (D' := ab_dD (ab_wI h 31 (y4 : Int32).toNatClampNeg y3)) (fun n => rfl) ?_
      exact ih y2 y3 ((y4 + 1)) (ab_wI h 31 (y4 : Int32).toNatClampNeg y3) _ hf
set_option maxRecDepth 20000 in
theorem sJ7_fill_fda19 (d : Nat) (X : abX) (x1 : Int32) (x2 : Int32) (x3 : Int32) (h : abJ) (z : abJ) (hf : fJ7_fill_fda19 x1 x2 x3 h = some z) : ab_Ex X (d + 1) 318 0 [(0, .ref 31), (1, .int x1), (2, .int x2), (3, .int x3)] [] ab_SH (ab_dD h) (fun r => r = (none, ab_SH, ab_dD z)) := by
  unfold fJ7_fill_fda19 at hf
  refine ab_Ex.blk (k := 4) (pc' := 4) (lv' := [(0, .ref 31), (1, .int x1), (2, .int x2), (3, .int x3)]) (st' := [.int x2, .int x1, .int ((Int32.ofNat 4374))]) (sh' := ab_SH) (D' := ab_dD h) (fun n => rfl) ?_
  obtain ⟨r1, hr1, hf⟩ := ab_bind_s hf
  refine ab_Ex.call (d := d + 0) (M2 := 315) (as := [.int ((Int32.ofNat 4374)), .int x1, .int x2]) (rest := []) (fun n => rfl) rfl (Nat.not_lt.mpr (Nat.le_of_ble_eq_true rfl)) (sJ7_rangeCheck_23922 (d) X ((Int32.ofNat 4374)) x1 x2 h _ hr1) (fun r hr => ?_)
  subst hr
  show ab_Ex X (d + 1) 318 7 [(0, .ref 31), (1, .int x1), (2, .int x2), (3, .int x3)] [] ab_SH (ab_dD h) _
  refine ab_Ex.blk (k := 2) (pc' := 10) (lv' := [(0, .ref 31), (2, .int x2), (3, .int x3), (4, .int x1)]) (st' := []) (sh' := ab_SH) (D' := ab_dD h) (fun n => rfl) ?_
  exact sJ7_fill_fda19_L10 d X  ab_N x2 x3 x1 h _ hf
def fX2_walk_L31   : Nat → Int32 → Int32 → abJ → Option abJ
  | 0, _, _, _ => none
  | n + 1, y1, y3, h => if 4374 ≤ (h.1 32 4) then if y3 < 0 then some h else if 4374 ≤ y3 then some h else ab_ask (y3 < 0 ∨ 4374 ≤ (y3 : Int32).toNatClampNeg) (some (ab_wI h 32 5 (h.1 31 (y3 : Int32).toNatClampNeg))) else if y3 < 0 then if y3 < 0 then some h else if 4374 ≤ y3 then some h else ab_ask (y3 < 0 ∨ 4374 ≤ (y3 : Int32).toNatClampNeg) (some (ab_wI h 32 5 (h.1 31 (y3 : Int32).toNatClampNeg))) else if 4374 ≤ y3 then if y3 < 0 then some h else if 4374 ≤ y3 then some h else ab_ask (y3 < 0 ∨ 4374 ≤ (y3 : Int32).toNatClampNeg) (some (ab_wI h 32 5 (h.1 31 (y3 : Int32).toNatClampNeg))) else ab_ask (y3 < 0 ∨ 4374 ≤ (y3 : Int32).toNatClampNeg) (if (h.1 31 (y3 : Int32).toNatClampNeg) = (-1) then ab_ask (y3 < 0 ∨ 4374 ≤ (y3 : Int32).toNatClampNeg) (ab_ask ((((ab_wI h 31 (y3 : Int32).toNatClampNeg (h.1 32 4))).1 32 4) < 0 ∨ 4375 ≤ ((((ab_wI h 31 (y3 : Int32).toNatClampNeg (h.1 32 4))).1 32 4) : Int32).toNatClampNeg) ((fX7_nextStand y1 y3 (ab_wI (ab_wI (ab_wI h 31 (y3 : Int32).toNatClampNeg (h.1 32 4)) 30 ((((ab_wI h 31 (y3 : Int32).toNatClampNeg (h.1 32 4))).1 32 4) : Int32).toNatClampNeg y3) 32 4 ((((ab_wI (ab_wI h 31 (y3 : Int32).toNatClampNeg (h.1 32 4)) 30 ((((ab_wI h 31 (y3 : Int32).toNatClampNeg (h.1 32 4))).1 32 4) : Int32).toNatClampNeg y3)).1 32 4) + 1))).bind (fun r23 => fX2_walk_L31 n y1 r23 (ab_wI (ab_wI (ab_wI h 31 (y3 : Int32).toNatClampNeg (h.1 32 4)) 30 ((((ab_wI h 31 (y3 : Int32).toNatClampNeg (h.1 32 4))).1 32 4) : Int32).toNatClampNeg y3) 32 4 ((((ab_wI (ab_wI h 31 (y3 : Int32).toNatClampNeg (h.1 32 4)) 30 ((((ab_wI h 31 (y3 : Int32).toNatClampNeg (h.1 32 4))).1 32 4) : Int32).toNatClampNeg y3)).1 32 4) + 1))))) else if y3 < 0 then some h else if 4374 ≤ y3 then some h else ab_ask (y3 < 0 ∨ 4374 ≤ (y3 : Int32).toNatClampNeg) (some (ab_wI h 32 5 (h.1 31 (y3 : Int32).toNatClampNeg))))
def fX2_walk (x0 : Int32) (x1 : Int32) (h : abJ) : Option abJ := (fX3_armLimit h).bind (fun r1 => (fJ7_fill_fda19 0 ((r1 * 6)) ((-1)) h).bind (fun r2 => fX2_walk_L31 ab_N x0 x1 (ab_wI (ab_wI r2 32 4 0) 32 5 (-1))))
set_option maxRecDepth 20000 in
theorem sX2_walk_L31 (d : Nat) (X : abX)   : ∀ (n : Nat), ∀ (y1 : Int32) (y3 : Int32) (h : abJ) (z : abJ), fX2_walk_L31 n y1 y3 h = some z → ab_Ex X (d + 3) 22 31 [(0, .ref 32), (1, .int y1), (3, .int y3)] [] ab_SH (ab_dD h) (fun r => r = (none, ab_SH, ab_dD z)) := by
  intro n
  induction n with
  | zero => intro y1 y3 h z hf; cases hf
  | succ n ih =>
    intro y1 y3 h z hf
    rw [fX2_walk_L31] at hf
    refine ab_Ex.blk (k := 3) (pc' := 38) (lv' := [(0, .ref 32), (1, .int y1), (3, .int y3)]) (st' := [.int 4374, .int ((h.1 32 4))]) (sh' := ab_SH) (D' := ab_dD h) (fun n => rfl) ?_
    refine ab_Ex.ifc (c := 4374 ≤ (h.1 32 4)) (SA := (105, [(0, .ref 32), (1, .int y1), (3, .int y3)], [], ab_dD h)) (SB := (41, [(0, .ref 32), (1, .int y1), (3, .int y3)], [], ab_dD h)) (fun n => rfl) (fun c3 => ?_) (fun c3 => ?_)
    · replace hf := (if_pos c3).symm.trans hf
      refine ab_Ex.blk (k := 1) (pc' := 106) (lv' := [(0, .ref 32), (3, .int y3)]) (st' := [.int y3]) (sh' := ab_SH) (D' := ab_dD h) (fun n => rfl) ?_
      refine ab_Ex.ifc (c := y3 < 0) (SA := (126, [(0, .ref 32), (3, .int y3)], [], ab_dD h)) (SB := (109, [(0, .ref 32), (3, .int y3)], [], ab_dD h)) (fun n => rfl) (fun c4 => ?_) (fun c4 => ?_)
      · replace hf := (if_pos c4).symm.trans hf
        obtain rfl := Option.some.inj hf
        exact ab_Ex.ret (fun n => rfl) rfl
      · replace hf := (if_neg c4).symm.trans hf
        refine ab_Ex.blk (k := 2) (pc' := 113) (lv' := [(0, .ref 32), (3, .int y3)]) (st' := [.int 4374, .int y3]) (sh' := ab_SH) (D' := ab_dD h) (fun n => rfl) ?_
        refine ab_Ex.ifc (c := 4374 ≤ y3) (SA := (126, [(0, .ref 32), (3, .int y3)], [], ab_dD h)) (SB := (116, [(0, .ref 32), (3, .int y3)], [], ab_dD h)) (fun n => rfl) (fun c5 => ?_) (fun c5 => ?_)
        · replace hf := (if_pos c5).symm.trans hf
          obtain rfl := Option.some.inj hf
          exact ab_Ex.ret (fun n => rfl) rfl
        · replace hf := (if_neg c5).symm.trans hf
          refine ab_Ex.blk (k := 4) (pc' := 122) (lv' := [(0, .ref 32), (3, .int y3)]) (st' := [.int y3, .ref 31, .ref 32]) (sh' := ab_SH) (D' := ab_dD h) (fun n => rfl) ?_
          obtain ⟨c7, hf⟩ := ab_ask_s hf
          refine ab_Ex.grd (c := y3 < 0 ∨ 4374 ≤ (y3 : Int32).toNatClampNeg) (S := (123, [(0, .ref 32), (3, .int y3)], [.int ((h.1 31 (y3 : Int32).toNatClampNeg)), .ref 32], ab_dD h)) (fun n => rfl) c7 ?_
          refine ab_Ex.blk (k := 1) (pc' := 126) (lv' := []) (st' := []) (sh' := ab_SH) (D' := ab_dD (ab_wI h 32 5 (h.1 31 (y3 : Int32).toNatClampNeg))) (fun n => rfl) ?_
          obtain rfl := Option.some.inj hf
          exact ab_Ex.ret (fun n => rfl) rfl
    · replace hf := (if_neg c3).symm.trans hf
      refine ab_Ex.blk (k := 1) (pc' := 42) (lv' := [(0, .ref 32), (1, .int y1), (3, .int y3)]) (st' := [.int y3]) (sh' := ab_SH) (D' := ab_dD h) (fun n => rfl) ?_
      refine ab_Ex.ifc (c := y3 < 0) (SA := (105, [(0, .ref 32), (1, .int y1), (3, .int y3)], [], ab_dD h)) (SB := (45, [(0, .ref 32), (1, .int y1), (3, .int y3)], [], ab_dD h)) (fun n => rfl) (fun c8 => ?_) (fun c8 => ?_)
      · replace hf := (if_pos c8).symm.trans hf
        refine ab_Ex.blk (k := 1) (pc' := 106) (lv' := [(0, .ref 32), (3, .int y3)]) (st' := [.int y3]) (sh' := ab_SH) (D' := ab_dD h) (fun n => rfl) ?_
        refine ab_Ex.ifc (c := y3 < 0) (SA := (126, [(0, .ref 32), (3, .int y3)], [], ab_dD h)) (SB := (109, [(0, .ref 32), (3, .int y3)], [], ab_dD h)) (fun n => rfl) (fun c9 => ?_) (fun c9 => ?_)
        · replace hf := (if_pos c9).symm.trans hf
          obtain rfl := Option.some.inj hf
          exact ab_Ex.ret (fun n => rfl) rfl
        · replace hf := (if_neg c9).symm.trans hf
          refine ab_Ex.blk (k := 2) (pc' := 113) (lv' := [(0, .ref 32), (3, .int y3)]) (st' := [.int 4374, .int y3]) (sh' := ab_SH) (D' := ab_dD h) (fun n => rfl) ?_
          refine ab_Ex.ifc (c := 4374 ≤ y3) (SA := (126, [(0, .ref 32), (3, .int y3)], [], ab_dD h)) (SB := (116, [(0, .ref 32), (3, .int y3)], [], ab_dD h)) (fun n => rfl) (fun c10 => ?_) (fun c10 => ?_)
          · replace hf := (if_pos c10).symm.trans hf
            obtain rfl := Option.some.inj hf
            exact ab_Ex.ret (fun n => rfl) rfl
          · replace hf := (if_neg c10).symm.trans hf
            refine ab_Ex.blk (k := 4) (pc' := 122) (lv' := [(0, .ref 32), (3, .int y3)]) (st' := [.int y3, .ref 31, .ref 32]) (sh' := ab_SH) (D' := ab_dD h) (fun n => rfl) ?_
            obtain ⟨c12, hf⟩ := ab_ask_s hf
            refine ab_Ex.grd (c := y3 < 0 ∨ 4374 ≤ (y3 : Int32).toNatClampNeg) (S := (123, [(0, .ref 32), (3, .int y3)], [.int ((h.1 31 (y3 : Int32).toNatClampNeg)), .ref 32], ab_dD h)) (fun n => rfl) c12 ?_
            refine ab_Ex.blk (k := 1) (pc' := 126) (lv' := []) (st' := []) (sh' := ab_SH) (D' := ab_dD (ab_wI h 32 5 (h.1 31 (y3 : Int32).toNatClampNeg))) (fun n => rfl) ?_
            obtain rfl := Option.some.inj hf
            exact ab_Ex.ret (fun n => rfl) rfl
      · replace hf := (if_neg c8).symm.trans hf
        refine ab_Ex.blk (k := 2) (pc' := 49) (lv' := [(0, .ref 32), (1, .int y1), (3, .int y3)]) (st' := [.int 4374, .int y3]) (sh' := ab_SH) (D' := ab_dD h) (fun n => rfl) ?_
        refine ab_Ex.ifc (c := 4374 ≤ y3) (SA := (105, [(0, .ref 32), (1, .int y1), (3, .int y3)], [], ab_dD h)) (SB := (52, [(0, .ref 32), (1, .int y1), (3, .int y3)], [], ab_dD h)) (fun n => rfl) (fun c13 => ?_) (fun c13 => ?_)
        · replace hf := (if_pos c13).symm.trans hf
          refine ab_Ex.blk (k := 1) (pc' := 106) (lv' := [(0, .ref 32), (3, .int y3)]) (st' := [.int y3]) (sh' := ab_SH) (D' := ab_dD h) (fun n => rfl) ?_
          refine ab_Ex.ifc (c := y3 < 0) (SA := (126, [(0, .ref 32), (3, .int y3)], [], ab_dD h)) (SB := (109, [(0, .ref 32), (3, .int y3)], [], ab_dD h)) (fun n => rfl) (fun c14 => ?_) (fun c14 => ?_)
          · replace hf := (if_pos c14).symm.trans hf
            obtain rfl := Option.some.inj hf
            exact ab_Ex.ret (fun n => rfl) rfl
          · replace hf := (if_neg c14).symm.trans hf
            refine ab_Ex.blk (k := 2) (pc' := 113) (lv' := [(0, .ref 32), (3, .int y3)]) (st' := [.int 4374, .int y3]) (sh' := ab_SH) (D' := ab_dD h) (fun n => rfl) ?_
            refine ab_Ex.ifc (c := 4374 ≤ y3) (SA := (126, [(0, .ref 32), (3, .int y3)], [], ab_dD h)) (SB := (116, [(0, .ref 32), (3, .int y3)], [], ab_dD h)) (fun n => rfl) (fun c15 => ?_) (fun c15 => ?_)
            · replace hf := (if_pos c15).symm.trans hf
              obtain rfl := Option.some.inj hf
              exact ab_Ex.ret (fun n => rfl) rfl
            · replace hf := (if_neg c15).symm.trans hf
              refine ab_Ex.blk (k := 4) (pc' := 122) (lv' := [(0, .ref 32), (3, .int y3)]) (st' := [.int y3, .ref 31, .ref 32]) (sh' := ab_SH) (D' := ab_dD h) (fun n => rfl) ?_
              obtain ⟨c17, hf⟩ := ab_ask_s hf
              refine ab_Ex.grd (c := y3 < 0 ∨ 4374 ≤ (y3 : Int32).toNatClampNeg) (S := (123, [(0, .ref 32), (3, .int y3)], [.int ((h.1 31 (y3 : Int32).toNatClampNeg)), .ref 32], ab_dD h)) (fun n => rfl) c17 ?_
              refine ab_Ex.blk (k := 1) (pc' := 126) (lv' := []) (st' := []) (sh' := ab_SH) (D' := ab_dD (ab_wI h 32 5 (h.1 31 (y3 : Int32).toNatClampNeg))) (fun n => rfl) ?_
              obtain rfl := Option.some.inj hf
              exact ab_Ex.ret (fun n => rfl) rfl
        · replace hf := (if_neg c13).symm.trans hf
          refine ab_Ex.blk (k := 3) (pc' := 57) (lv' := [(0, .ref 32), (1, .int y1), (3, .int y3)]) (st' := [.int y3, .ref 31]) (sh' := ab_SH) (D' := ab_dD h) (fun n => rfl) ?_
          obtain ⟨c19, hf⟩ := ab_ask_s hf
          refine ab_Ex.grd (c := y3 < 0 ∨ 4374 ≤ (y3 : Int32).toNatClampNeg) (S := (58, [(0, .ref 32), (1, .int y1), (3, .int y3)], [.int ((h.1 31 (y3 : Int32).toNatClampNeg))], ab_dD h)) (fun n => rfl) c19 ?_
          refine ab_Ex.blk (k := 1) (pc' := 59) (lv' := [(0, .ref 32), (1, .int y1), (3, .int y3)]) (st' := [.int ((-1)), .int ((h.1 31 (y3 : Int32).toNatClampNeg))]) (sh' := ab_SH) (D' := ab_dD h) (fun n => rfl) ?_
          refine ab_Ex.ifc (c := (h.1 31 (y3 : Int32).toNatClampNeg) = (-1)) (SA := (62, [(0, .ref 32), (1, .int y1), (3, .int y3)], [], ab_dD h)) (SB := (105, [(0, .ref 32), (1, .int y1), (3, .int y3)], [], ab_dD h)) (fun n => rfl) (fun c20 => ?_) (fun c20 => ?_)
          · replace hf := (if_pos c20).symm.trans hf
            refine ab_Ex.blk (k := 5) (pc' := 71) (lv' := [(0, .ref 32), (1, .int y1), (3, .int y3)]) (st' := [.int ((h.1 32 4)), .int y3, .ref 31]) (sh' := ab_SH) (D' := ab_dD h) (fun n => rfl) ?_
            obtain ⟨c21, hf⟩ := ab_ask_s hf
            refine ab_Ex.grd (c := y3 < 0 ∨ 4374 ≤ (y3 : Int32).toNatClampNeg) (S := (72, [(0, .ref 32), (1, .int y1), (3, .int y3)], [], ab_dD (ab_wI h 31 (y3 : Int32).toNatClampNeg (h.1 32 4)))) (fun n => rfl) c21 ?_
            refine ab_Ex.blk (k := 5) (pc' := 81) (lv' := [(0, .ref 32), (1, .int y1), (3, .int y3)]) (st' := [.int y3, .int ((((ab_wI h 31 (y3 : Int32).toNatClampNeg (h.1 32 4))).1 32 4)), .ref 30]) (sh' := ab_SH) (D' := ab_dD (ab_wI h 31 (y3 : Int32).toNatClampNeg (h.1 32 4))) (fun n => rfl) ?_
            obtain ⟨c22, hf⟩ := ab_ask_s hf
            refine ab_Ex.grd (c := (((ab_wI h 31 (y3 : Int32).toNatClampNeg (h.1 32 4))).1 32 4) < 0 ∨ 4375 ≤ ((((ab_wI h 31 (y3 : Int32).toNatClampNeg (h.1 32 4))).1 32 4) : Int32).toNatClampNeg) (S := (82, [(0, .ref 32), (1, .int y1), (3, .int y3)], [], ab_dD (ab_wI (ab_wI h 31 (y3 : Int32).toNatClampNeg (h.1 32 4)) 30 ((((ab_wI h 31 (y3 : Int32).toNatClampNeg (h.1 32 4))).1 32 4) : Int32).toNatClampNeg y3))) (fun n => rfl) c22 ?_
            refine ab_Ex.blk (k := 10) (pc' := 98) (lv' := [(0, .ref 32), (1, .int y1), (3, .int y3)]) (st' := [.int y3, .int y1, .ref 13]) (sh' := ab_SH) (D' := ab_dD (ab_wI (ab_wI (ab_wI h 31 (y3 : Int32).toNatClampNeg (h.1 32 4)) 30 ((((ab_wI h 31 (y3 : Int32).toNatClampNeg (h.1 32 4))).1 32 4) : Int32).toNatClampNeg y3) 32 4 ((((ab_wI (ab_wI h 31 (y3 : Int32).toNatClampNeg (h.1 32 4)) 30 ((((ab_wI h 31 (y3 : Int32).toNatClampNeg (h.1 32 4))).1 32 4) : Int32).toNatClampNeg y3)).1 32 4) + 1))) (fun n => rfl) ?_
            obtain ⟨r23, hr23, hf⟩ := ab_bind_s hf
            refine ab_Ex.call (d := d + 2) (M2 := 99) (as := [.ref 13, .int y1, .int y3]) (rest := []) (fun n => rfl) rfl (Nat.not_lt.mpr (Nat.le_of_ble_eq_true rfl)) (sX7_nextStand (d) X y1 y3 (ab_wI (ab_wI (ab_wI h 31 (y3 : Int32).toNatClampNeg (h.1 32 4)) 30 ((((ab_wI h 31 (y3 : Int32).toNatClampNeg (h.1 32 4))).1 32 4) : Int32).toNatClampNeg y3) 32 4 ((((ab_wI (ab_wI h 31 (y3 : Int32).toNatClampNeg (h.1 32 4)) 30 ((((ab_wI h 31 (y3 : Int32).toNatClampNeg (h.1 32 4))).1 32 4) : Int32).toNatClampNeg y3)).1 32 4) + 1)) _ hr23) (fun r hr => ?_)
            subst hr
            show ab_Ex X (d + 3) 22 101 [(0, .ref 32), (1, .int y1), (3, .int y3)] [.int r23] ab_SH (ab_dD (ab_wI (ab_wI (ab_wI h 31 (y3 : Int32).toNatClampNeg (h.1 32 4)) 30 ((((ab_wI h 31 (y3 : Int32).toNatClampNeg (h.1 32 4))).1 32 4) : Int32).toNatClampNeg y3) 32 4 ((((ab_wI (ab_wI h 31 (y3 : Int32).toNatClampNeg (h.1 32 4)) 30 ((((ab_wI h 31 (y3 : Int32).toNatClampNeg (h.1 32 4))).1 32 4) : Int32).toNatClampNeg y3)).1 32 4) + 1))) _
            refine ab_Ex.blk (k := 2) (pc' := 31) (lv' := [(0, .ref 32), (1, .int y1), (3, .int r23)]) (st' := []) (sh' := ab_SH) (D' := ab_dD (ab_wI (ab_wI (ab_wI h 31 (y3 : Int32).toNatClampNeg (h.1 32 4)) 30 ((((ab_wI h 31 (y3 : Int32).toNatClampNeg (h.1 32 4))).1 32 4) : Int32).toNatClampNeg y3) 32 4 ((((ab_wI (ab_wI h 31 (y3 : Int32).toNatClampNeg (h.1 32 4)) 30 ((((ab_wI h 31 (y3 : Int32).toNatClampNeg (h.1 32 4))).1 32 4) : Int32).toNatClampNeg y3)).1 32 4) + 1))) (fun n => rfl) ?_
            exact ih y1 r23 (ab_wI (ab_wI (ab_wI h 31 (y3 : Int32).toNatClampNeg (h.1 32 4)) 30 ((((ab_wI h 31 (y3 : Int32).toNatClampNeg (h.1 32 4))).1 32 4) : Int32).toNatClampNeg y3) 32 4 ((((ab_wI (ab_wI h 31 (y3 : Int32).toNatClampNeg (h.1 32 4)) 30 ((((ab_wI h 31 (y3 : Int32).toNatClampNeg (h.1 32 4))).1 32 4) : Int32).toNatClampNeg y3)).1 32 4) + 1)) _ hf
          · replace hf := (if_neg c20).symm.trans hf
            refine ab_Ex.blk (k := 1) (pc' := 106) (lv' := [(0, .ref 32), (3, .int y3)]) (st' := [.int y3]) (sh' := ab_SH) (D' := ab_dD h) (fun n => rfl) ?_
            refine ab_Ex.ifc (c := y3 < 0) (SA := (126, [(0, .ref 32), (3, .int y3)], [], ab_dD h)) (SB := (109, [(0, .ref 32), (3, .int y3)], [], ab_dD h)) (fun n => rfl) (fun c24 => ?_) (fun c24 => ?_)
            · replace hf := (if_pos c24).symm.trans hf
              obtain rfl := Option.some.inj hf
              exact ab_Ex.ret (fun n => rfl) rfl
            · replace hf := (if_neg c24).symm.trans hf
              refine ab_Ex.blk (k := 2) (pc' := 113) (lv' := [(0, .ref 32), (3, .int y3)]) (st' := [.int 4374, .int y3]) (sh' := ab_SH) (D' := ab_dD h) (fun n => rfl) ?_
              refine ab_Ex.ifc (c := 4374 ≤ y3) (SA := (126, [(0, .ref 32), (3, .int y3)], [], ab_dD h)) (SB := (116, [(0, .ref 32), (3, .int y3)], [], ab_dD h)) (fun n => rfl) (fun c25 => ?_) (fun c25 => ?_)
              · replace hf := (if_pos c25).symm.trans hf
                obtain rfl := Option.some.inj hf
                exact ab_Ex.ret (fun n => rfl) rfl
              · replace hf := (if_neg c25).symm.trans hf
                refine ab_Ex.blk (k := 4) (pc' := 122) (lv' := [(0, .ref 32), (3, .int y3)]) (st' := [.int y3, .ref 31, .ref 32]) (sh' := ab_SH) (D' := ab_dD h) (fun n => rfl) ?_
                obtain ⟨c27, hf⟩ := ab_ask_s hf
                refine ab_Ex.grd (c := y3 < 0 ∨ 4374 ≤ (y3 : Int32).toNatClampNeg) (S := (123, [(0, .ref 32), (3, .int y3)], [.int ((h.1 31 (y3 : Int32).toNatClampNeg)), .ref 32], ab_dD h)) (fun n => rfl) c27 ?_
                refine ab_Ex.blk (k := 1) (pc' := 126) (lv' := []) (st' := []) (sh' := ab_SH) (D' := ab_dD (ab_wI h 32 5 (h.1 31 (y3 : Int32).toNatClampNeg))) (fun n => rfl) ?_
                obtain rfl := Option.some.inj hf
                exact ab_Ex.ret (fun n => rfl) rfl
set_option maxRecDepth 20000 in
theorem sX2_walk (d : Nat) (X : abX) (x0 : Int32) (x1 : Int32) (h : abJ) (z : abJ) (hf : fX2_walk x0 x1 h = some z) : ab_Ex X (d + 3) 22 0 [(0, .ref 32), (1, .int x0), (2, .int x1)] [] ab_SH (ab_dD h) (fun r => r = (none, ab_SH, ab_dD z)) := by
  unfold fX2_walk at hf
  refine ab_Ex.blk (k := 5) (pc' := 9) (lv' := [(0, .ref 32), (1, .int x0), (2, .int x1)]) (st' := [.ref 1, .int 0, .ref 31]) (sh' := ab_SH) (D' := ab_dD h) (fun n => rfl) ?_
  obtain ⟨r1, hr1, hf⟩ := ab_bind_s hf
  refine ab_Ex.call (d := d + 2) (M2 := 41) (as := [.ref 1]) (rest := [.int 0, .ref 31]) (fun n => rfl) rfl (Nat.not_lt.mpr (Nat.le_of_ble_eq_true rfl)) (sX3_armLimit (d + 2) X  h _ hr1) (fun r hr => ?_)
  subst hr
  show ab_Ex X (d + 3) 22 12 [(0, .ref 32), (1, .int x0), (2, .int x1)] [.int r1, .int 0, .ref 31] ab_SH (ab_dD h) _
  refine ab_Ex.blk (k := 3) (pc' := 16) (lv' := [(0, .ref 32), (1, .int x0), (2, .int x1)]) (st' := [.int ((-1)), .int ((r1 * 6)), .int 0, .ref 31]) (sh' := ab_SH) (D' := ab_dD h) (fun n => rfl) ?_
  obtain ⟨r2, hr2, hf⟩ := ab_bind_s hf
  refine ab_Ex.call (d := d + 2) (M2 := 318) (as := [.ref 31, .int 0, .int ((r1 * 6)), .int ((-1))]) (rest := []) (fun n => rfl) rfl (Nat.not_lt.mpr (Nat.le_of_ble_eq_true rfl)) (sJ7_fill_fda19 (d + 1) X 0 ((r1 * 6)) ((-1)) h _ hr2) (fun r hr => ?_)
  subst hr
  show ab_Ex X (d + 3) 22 19 [(0, .ref 32), (1, .int x0), (2, .int x1)] [] ab_SH (ab_dD r2) _
  refine ab_Ex.blk (k := 8) (pc' := 31) (lv' := [(0, .ref 32), (1, .int x0), (3, .int x1)]) (st' := []) (sh' := ab_SH) (D' := ab_dD (ab_wI (ab_wI r2 32 4 0) 32 5 (-1))) (fun n => rfl) ?_
  exact sX2_walk_L31 d X  ab_N x0 x1 (ab_wI (ab_wI r2 32 4 0) 32 5 (-1)) _ hf
