def fX2_standBehind (x0 : Int64) (h : abJ) : Option Int32 := if (lg_cmp x0 0) < 0 then some 0 else if 1 ≤ (h.1 32 4) then if 0 ≤ (lg_cmp x0 ((h.1 32 4) : Int32).toInt64) then if (h.1 32 5) = (-1) then ab_ask (((h.1 32 4) - 1) < 0 ∨ 4375 ≤ (((h.1 32 4) - 1) : Int32).toNatClampNeg) (some (h.1 30 (((h.1 32 4) - 1) : Int32).toNatClampNeg)) else if 1 ≤ ((h.1 32 4) - (h.1 32 5)) then ab_ask ((((h.1 32 4) - (h.1 32 5)) : Int32).toInt64 = 0) (ab_ask (((h.1 32 5) + (((x0 - ((h.1 32 5) : Int32).toInt64) - (x0 - ((h.1 32 5) : Int32).toInt64) / (((h.1 32 4) - (h.1 32 5)) : Int32).toInt64 * (((h.1 32 4) - (h.1 32 5)) : Int32).toInt64) : Int64).toInt32) < 0 ∨ 4375 ≤ (((h.1 32 5) + (((x0 - ((h.1 32 5) : Int32).toInt64) - (x0 - ((h.1 32 5) : Int32).toInt64) / (((h.1 32 4) - (h.1 32 5)) : Int32).toInt64 * (((h.1 32 4) - (h.1 32 5)) : Int32).toInt64) : Int64).toInt32) : Int32).toNatClampNeg) (some (h.1 30 (((h.1 32 5) + (((x0 - ((h.1 32 5) : Int32).toInt64) - (x0 - ((h.1 32 5) : Int32).toInt64) / (((h.1 32 4) - (h.1 32 5)) : Int32).toInt64 * (((h.1 32 4) - (h.1 32 5)) : Int32).toInt64) : Int64).toInt32) : Int32).toNatClampNeg))) else ab_ask (((h.1 32 4) - 1) < 0 ∨ 4375 ≤ (((h.1 32 4) - 1) : Int32).toNatClampNeg) (some (h.1 30 (((h.1 32 4) - 1) : Int32).toNatClampNeg)) else ab_ask ((x0 : Int64).toInt32 < 0 ∨ 4375 ≤ ((x0 : Int64).toInt32 : Int32).toNatClampNeg) (some (h.1 30 ((x0 : Int64).toInt32 : Int32).toNatClampNeg)) else some 0
set_option maxRecDepth 20000 in
theorem sX2_standBehind (d : Nat) (X : abX) (x0 : Int64) (h : abJ) (z : Int32) (hf : fX2_standBehind x0 h = some z) : ab_Ex X (d + 0) 23 0 [(0, .ref 32), (1, .long x0)] [] ab_SH (ab_dD h) (fun r => r = (some (.int z), ab_SH, ab_dD h)) := by
  unfold fX2_standBehind at hf
  refine ab_Ex.blk (k := 3) (pc' := 3) (lv' := [(0, .ref 32), (1, .long x0)]) (st' := [.int ((lg_cmp x0 0))]) (sh' := ab_SH) (D' := ab_dD h) (fun n => rfl) ?_
  refine ab_Ex.ifc (c := (lg_cmp x0 0) < 0) (SA := (14, [(0, .ref 32), (1, .long x0)], [], ab_dD h)) (SB := (6, [(0, .ref 32), (1, .long x0)], [], ab_dD h)) (fun n => rfl) (fun c1 => ?_) (fun c1 => ?_)
  · replace hf := (if_pos c1).symm.trans hf
    refine ab_Ex.blk (k := 1) (pc' := 15) (lv' := []) (st' := [.int 0]) (sh' := ab_SH) (D' := ab_dD h) (fun n => rfl) ?_
    obtain rfl := Option.some.inj hf
    exact ab_Ex.ret (fun n => rfl) rfl
  · replace hf := (if_neg c1).symm.trans hf
    refine ab_Ex.blk (k := 3) (pc' := 11) (lv' := [(0, .ref 32), (1, .long x0)]) (st' := [.int 1, .int ((h.1 32 4))]) (sh' := ab_SH) (D' := ab_dD h) (fun n => rfl) ?_
    refine ab_Ex.ifc (c := 1 ≤ (h.1 32 4)) (SA := (16, [(0, .ref 32), (1, .long x0)], [], ab_dD h)) (SB := (14, [(0, .ref 32), (1, .long x0)], [], ab_dD h)) (fun n => rfl) (fun c2 => ?_) (fun c2 => ?_)
    · replace hf := (if_pos c2).symm.trans hf
      refine ab_Ex.blk (k := 5) (pc' := 23) (lv' := [(0, .ref 32), (1, .long x0)]) (st' := [.int ((lg_cmp x0 ((h.1 32 4) : Int32).toInt64))]) (sh' := ab_SH) (D' := ab_dD h) (fun n => rfl) ?_
      refine ab_Ex.ifc (c := 0 ≤ (lg_cmp x0 ((h.1 32 4) : Int32).toInt64)) (SA := (34, [(0, .ref 32), (1, .long x0)], [], ab_dD h)) (SB := (26, [(0, .ref 32), (1, .long x0)], [], ab_dD h)) (fun n => rfl) (fun c3 => ?_) (fun c3 => ?_)
      · replace hf := (if_pos c3).symm.trans hf
        refine ab_Ex.blk (k := 9) (pc' := 49) (lv' := [(3, .int (((h.1 32 4) - (h.1 32 5)))), (0, .ref 32), (1, .long x0)]) (st' := [.int ((-1)), .int ((h.1 32 5))]) (sh' := ab_SH) (D' := ab_dD h) (fun n => rfl) ?_
        refine ab_Ex.ifc (c := (h.1 32 5) = (-1)) (SA := (57, [(3, .int (((h.1 32 4) - (h.1 32 5)))), (0, .ref 32), (1, .long x0)], [], ab_dD h)) (SB := (52, [(3, .int (((h.1 32 4) - (h.1 32 5)))), (0, .ref 32), (1, .long x0)], [], ab_dD h)) (fun n => rfl) (fun c4 => ?_) (fun c4 => ?_)
        · replace hf := (if_pos c4).symm.trans hf
          refine ab_Ex.blk (k := 6) (pc' := 67) (lv' := [(0, .ref 32)]) (st' := [.int (((h.1 32 4) - 1)), .ref 30]) (sh' := ab_SH) (D' := ab_dD h) (fun n => rfl) ?_
          obtain ⟨c6, hf⟩ := ab_ask_s hf
          refine ab_Ex.grd (c := ((h.1 32 4) - 1) < 0 ∨ 4375 ≤ (((h.1 32 4) - 1) : Int32).toNatClampNeg) (S := (68, [(0, .ref 32)], [.int ((h.1 30 (((h.1 32 4) - 1) : Int32).toNatClampNeg))], ab_dD h)) (fun n => rfl) c6 ?_
          obtain rfl := Option.some.inj hf
          exact ab_Ex.ret (fun n => rfl) rfl
        · replace hf := (if_neg c4).symm.trans hf
          refine ab_Ex.blk (k := 2) (pc' := 54) (lv' := [(3, .int (((h.1 32 4) - (h.1 32 5)))), (0, .ref 32), (1, .long x0)]) (st' := [.int 1, .int (((h.1 32 4) - (h.1 32 5)))]) (sh' := ab_SH) (D' := ab_dD h) (fun n => rfl) ?_
          refine ab_Ex.ifc (c := 1 ≤ ((h.1 32 4) - (h.1 32 5))) (SA := (69, [(3, .int (((h.1 32 4) - (h.1 32 5)))), (0, .ref 32), (1, .long x0)], [], ab_dD h)) (SB := (57, [(3, .int (((h.1 32 4) - (h.1 32 5)))), (0, .ref 32), (1, .long x0)], [], ab_dD h)) (fun n => rfl) (fun c7 => ?_) (fun c7 => ?_)
          · replace hf := (if_pos c7).symm.trans hf
            refine ab_Ex.blk (k := 11) (pc' := 86) (lv' := [(3, .int (((h.1 32 4) - (h.1 32 5)))), (0, .ref 32), (1, .long x0)]) (st' := [.long ((((h.1 32 4) - (h.1 32 5)) : Int32).toInt64), .long ((x0 - ((h.1 32 5) : Int32).toInt64)), .int ((h.1 32 5)), .ref 30]) (sh' := ab_SH) (D' := ab_dD h) (fun n => rfl) ?_
            obtain ⟨c8, hf⟩ := ab_ask_s hf
            refine ab_Ex.grd (c := (((h.1 32 4) - (h.1 32 5)) : Int32).toInt64 = 0) (S := (87, [(3, .int (((h.1 32 4) - (h.1 32 5)))), (0, .ref 32), (1, .long x0)], [.long (((x0 - ((h.1 32 5) : Int32).toInt64) - (x0 - ((h.1 32 5) : Int32).toInt64) / (((h.1 32 4) - (h.1 32 5)) : Int32).toInt64 * (((h.1 32 4) - (h.1 32 5)) : Int32).toInt64)), .int ((h.1 32 5)), .ref 30], ab_dD h)) (fun n => rfl) c8 ?_
            refine ab_Ex.blk (k := 2) (pc' := 89) (lv' := [(3, .int (((h.1 32 4) - (h.1 32 5)))), (0, .ref 32), (1, .long x0)]) (st' := [.int (((h.1 32 5) + (((x0 - ((h.1 32 5) : Int32).toInt64) - (x0 - ((h.1 32 5) : Int32).toInt64) / (((h.1 32 4) - (h.1 32 5)) : Int32).toInt64 * (((h.1 32 4) - (h.1 32 5)) : Int32).toInt64) : Int64).toInt32)), .ref 30]) (sh' := ab_SH) (D' := ab_dD h) (fun n => rfl) ?_
            obtain ⟨c10, hf⟩ := ab_ask_s hf
            refine ab_Ex.grd (c := ((h.1 32 5) + (((x0 - ((h.1 32 5) : Int32).toInt64) - (x0 - ((h.1 32 5) : Int32).toInt64) / (((h.1 32 4) - (h.1 32 5)) : Int32).toInt64 * (((h.1 32 4) - (h.1 32 5)) : Int32).toInt64) : Int64).toInt32) < 0 ∨ 4375 ≤ (((h.1 32 5) + (((x0 - ((h.1 32 5) : Int32).toInt64) - (x0 - ((h.1 32 5) : Int32).toInt64) / (((h.1 32 4) - (h.1 32 5)) : Int32).toInt64 * (((h.1 32 4) - (h.1 32 5)) : Int32).toInt64) : Int64).toInt32) : Int32).toNatClampNeg) (S := (90, [(3, .int (((h.1 32 4) - (h.1 32 5)))), (0, .ref 32), (1, .long x0)], [.int ((h.1 30 (((h.1 32 5) + (((x0 - ((h.1 32 5) : Int32).toInt64) - (x0 - ((h.1 32 5) : Int32).toInt64) / (((h.1 32 4) - (h.1 32 5)) : Int32).toInt64 * (((h.1 32 4) - (h.1 32 5)) : Int32).toInt64) : Int64).toInt32) : Int32).toNatClampNeg))], ab_dD h)) (fun n => rfl) c10 ?_
            obtain rfl := Option.some.inj hf
            exact ab_Ex.ret (fun n => rfl) rfl
          · replace hf := (if_neg c7).symm.trans hf
            refine ab_Ex.blk (k := 6) (pc' := 67) (lv' := [(0, .ref 32)]) (st' := [.int (((h.1 32 4) - 1)), .ref 30]) (sh' := ab_SH) (D' := ab_dD h) (fun n => rfl) ?_
            obtain ⟨c12, hf⟩ := ab_ask_s hf
            refine ab_Ex.grd (c := ((h.1 32 4) - 1) < 0 ∨ 4375 ≤ (((h.1 32 4) - 1) : Int32).toNatClampNeg) (S := (68, [(0, .ref 32)], [.int ((h.1 30 (((h.1 32 4) - 1) : Int32).toNatClampNeg))], ab_dD h)) (fun n => rfl) c12 ?_
            obtain rfl := Option.some.inj hf
            exact ab_Ex.ret (fun n => rfl) rfl
      · replace hf := (if_neg c3).symm.trans hf
        refine ab_Ex.blk (k := 4) (pc' := 32) (lv' := [(0, .ref 32), (1, .long x0)]) (st' := [.int ((x0 : Int64).toInt32), .ref 30]) (sh' := ab_SH) (D' := ab_dD h) (fun n => rfl) ?_
        obtain ⟨c14, hf⟩ := ab_ask_s hf
        refine ab_Ex.grd (c := (x0 : Int64).toInt32 < 0 ∨ 4375 ≤ ((x0 : Int64).toInt32 : Int32).toNatClampNeg) (S := (33, [(0, .ref 32), (1, .long x0)], [.int ((h.1 30 ((x0 : Int64).toInt32 : Int32).toNatClampNeg))], ab_dD h)) (fun n => rfl) c14 ?_
        obtain rfl := Option.some.inj hf
        exact ab_Ex.ret (fun n => rfl) rfl
    · replace hf := (if_neg c2).symm.trans hf
      refine ab_Ex.blk (k := 1) (pc' := 15) (lv' := []) (st' := [.int 0]) (sh' := ab_SH) (D' := ab_dD h) (fun n => rfl) ?_
      obtain rfl := Option.some.inj hf
      exact ab_Ex.ret (fun n => rfl) rfl
def fX2_timesAt_J9  (h : abJ)  (y1 : Int32) (y2 : Int64) (t0 : Int64) : Option Int64 := if (h.1 32 5) = (-1) then some t0 else if y1 < (h.1 32 5) then some t0 else if ((h.1 32 4) - (h.1 32 5)) ≤ 0 then some t0 else ab_ask ((((h.1 32 4) - (h.1 32 5)) : Int32).toInt64 = 0) (some (t0 + ((y2 - (y1 : Int32).toInt64) / (((h.1 32 4) - (h.1 32 5)) : Int32).toInt64)))
def fX2_timesAt (x0 : Int32) (x1 : Int64) (h : abJ) : Option Int64 := if x0 = 0 then fX2_timesAt_J9 h x0 x1 0 else fX2_timesAt_J9 h x0 x1 1
set_option maxRecDepth 20000 in
theorem sX2_timesAt_J9 (d : Nat) (X : abX) (h : abJ)   : ∀ (y1 : Int32) (y2 : Int64) (t0 : Int64) (z : Int64), fX2_timesAt_J9 h y1 y2 t0 = some z → ab_Ex X (d + 0) 25 9 [(0, .ref 32), (1, .int y1), (2, .long y2)] [.long t0] ab_SH (ab_dD h) (fun r => r = (some (.long z), ab_SH, ab_dD h)) := by
  intro y1 y2 t0 z hf
  unfold fX2_timesAt_J9 at hf
  refine ab_Ex.blk (k := 10) (pc' := 27) (lv' := [(6, .int (((h.1 32 4) - (h.1 32 5)))), (4, .long t0), (0, .ref 32), (1, .int y1), (2, .long y2)]) (st' := [.int ((-1)), .int ((h.1 32 5))]) (sh' := ab_SH) (D' := ab_dD h) (fun n => rfl) ?_
  refine ab_Ex.ifc (c := (h.1 32 5) = (-1)) (SA := (56, [(6, .int (((h.1 32 4) - (h.1 32 5)))), (4, .long t0), (0, .ref 32), (1, .int y1), (2, .long y2)], [], ab_dD h)) (SB := (30, [(6, .int (((h.1 32 4) - (h.1 32 5)))), (4, .long t0), (0, .ref 32), (1, .int y1), (2, .long y2)], [], ab_dD h)) (fun n => rfl) (fun c2 => ?_) (fun c2 => ?_)
  · replace hf := (if_pos c2).symm.trans hf
    refine ab_Ex.blk (k := 1) (pc' := 58) (lv' := [(4, .long t0)]) (st' := [.long t0]) (sh' := ab_SH) (D' := ab_dD h) (fun n => rfl) ?_
    obtain rfl := Option.some.inj hf
    exact ab_Ex.ret (fun n => rfl) rfl
  · replace hf := (if_neg c2).symm.trans hf
    refine ab_Ex.blk (k := 3) (pc' := 35) (lv' := [(6, .int (((h.1 32 4) - (h.1 32 5)))), (4, .long t0), (0, .ref 32), (1, .int y1), (2, .long y2)]) (st' := [.int ((h.1 32 5)), .int y1]) (sh' := ab_SH) (D' := ab_dD h) (fun n => rfl) ?_
    refine ab_Ex.ifc (c := y1 < (h.1 32 5)) (SA := (56, [(6, .int (((h.1 32 4) - (h.1 32 5)))), (4, .long t0), (0, .ref 32), (1, .int y1), (2, .long y2)], [], ab_dD h)) (SB := (38, [(6, .int (((h.1 32 4) - (h.1 32 5)))), (4, .long t0), (0, .ref 32), (1, .int y1), (2, .long y2)], [], ab_dD h)) (fun n => rfl) (fun c3 => ?_) (fun c3 => ?_)
    · replace hf := (if_pos c3).symm.trans hf
      refine ab_Ex.blk (k := 1) (pc' := 58) (lv' := [(4, .long t0)]) (st' := [.long t0]) (sh' := ab_SH) (D' := ab_dD h) (fun n => rfl) ?_
      obtain rfl := Option.some.inj hf
      exact ab_Ex.ret (fun n => rfl) rfl
    · replace hf := (if_neg c3).symm.trans hf
      refine ab_Ex.blk (k := 1) (pc' := 40) (lv' := [(6, .int (((h.1 32 4) - (h.1 32 5)))), (4, .long t0), (0, .ref 32), (1, .int y1), (2, .long y2)]) (st' := [.int (((h.1 32 4) - (h.1 32 5)))]) (sh' := ab_SH) (D' := ab_dD h) (fun n => rfl) ?_
      refine ab_Ex.ifc (c := ((h.1 32 4) - (h.1 32 5)) ≤ 0) (SA := (56, [(6, .int (((h.1 32 4) - (h.1 32 5)))), (4, .long t0), (0, .ref 32), (1, .int y1), (2, .long y2)], [], ab_dD h)) (SB := (43, [(6, .int (((h.1 32 4) - (h.1 32 5)))), (4, .long t0), (0, .ref 32), (1, .int y1), (2, .long y2)], [], ab_dD h)) (fun n => rfl) (fun c4 => ?_) (fun c4 => ?_)
      · replace hf := (if_pos c4).symm.trans hf
        refine ab_Ex.blk (k := 1) (pc' := 58) (lv' := [(4, .long t0)]) (st' := [.long t0]) (sh' := ab_SH) (D' := ab_dD h) (fun n => rfl) ?_
        obtain rfl := Option.some.inj hf
        exact ab_Ex.ret (fun n => rfl) rfl
      · replace hf := (if_neg c4).symm.trans hf
        refine ab_Ex.blk (k := 7) (pc' := 52) (lv' := [(6, .int (((h.1 32 4) - (h.1 32 5)))), (4, .long t0), (0, .ref 32), (1, .int y1), (2, .long y2)]) (st' := [.long ((((h.1 32 4) - (h.1 32 5)) : Int32).toInt64), .long ((y2 - (y1 : Int32).toInt64)), .long t0]) (sh' := ab_SH) (D' := ab_dD h) (fun n => rfl) ?_
        obtain ⟨c5, hf⟩ := ab_ask_s hf
        refine ab_Ex.grd (c := (((h.1 32 4) - (h.1 32 5)) : Int32).toInt64 = 0) (S := (53, [(6, .int (((h.1 32 4) - (h.1 32 5)))), (4, .long t0), (0, .ref 32), (1, .int y1), (2, .long y2)], [.long (((y2 - (y1 : Int32).toInt64) / (((h.1 32 4) - (h.1 32 5)) : Int32).toInt64)), .long t0], ab_dD h)) (fun n => rfl) c5 ?_
        refine ab_Ex.blk (k := 3) (pc' := 58) (lv' := [(4, .long ((t0 + ((y2 - (y1 : Int32).toInt64) / (((h.1 32 4) - (h.1 32 5)) : Int32).toInt64))))]) (st' := [.long ((t0 + ((y2 - (y1 : Int32).toInt64) / (((h.1 32 4) - (h.1 32 5)) : Int32).toInt64)))]) (sh' := ab_SH) (D' := ab_dD h) (fun n => rfl) ?_
        obtain rfl := Option.some.inj hf
        exact ab_Ex.ret (fun n => rfl) rfl
set_option maxRecDepth 20000 in
theorem sX2_timesAt (d : Nat) (X : abX) (x0 : Int32) (x1 : Int64) (h : abJ) (z : Int64) (hf : fX2_timesAt x0 x1 h = some z) : ab_Ex X (d + 0) 25 0 [(0, .ref 32), (1, .int x0), (2, .long x1)] [] ab_SH (ab_dD h) (fun r => r = (some (.long z), ab_SH, ab_dD h)) := by
  unfold fX2_timesAt at hf
  refine ab_Ex.blk (k := 1) (pc' := 1) (lv' := [(0, .ref 32), (1, .int x0), (2, .long x1)]) (st' := [.int x0]) (sh' := ab_SH) (D' := ab_dD h) (fun n => rfl) ?_
  refine ab_Ex.ifc (c := x0 = 0) (SA := (4, [(0, .ref 32), (1, .int x0), (2, .long x1)], [], ab_dD h)) (SB := (8, [(0, .ref 32), (1, .int x0), (2, .long x1)], [], ab_dD h)) (fun n => rfl) (fun c1 => ?_) (fun c1 => ?_)
  · replace hf := (if_pos c1).symm.trans hf
    refine ab_Ex.blk (k := 2) (pc' := 9) (lv' := [(0, .ref 32), (1, .int x0), (2, .long x1)]) (st' := [.long 0]) (sh' := ab_SH) (D' := ab_dD h) (fun n => rfl) ?_
    exact sX2_timesAt_J9 d X h x0 x1 0 _ hf
  · replace hf := (if_neg c1).symm.trans hf
    refine ab_Ex.blk (k := 1) (pc' := 9) (lv' := [(0, .ref 32), (1, .int x0), (2, .long x1)]) (st' := [.long 1]) (sh' := ab_SH) (D' := ab_dD h) (fun n => rfl) ?_
    exact sX2_timesAt_J9 d X h x0 x1 1 _ hf
def fX2_visitsTo_J49  (h : abJ) (k6 : Int32 → Int64 → Int64 → Int32 → Option Int64) (y1 : Int32) (y2 : Int64) (y4 : Int64) (y6 : Int32) : Option Int64 := k6 y1 y2 y4 ((y6 + 1))
def fX2_visitsTo_L6  (h : abJ)  : Nat → Int32 → Int64 → Int64 → Int32 → Option Int64
  | 0, _, _, _, _ => none
  | n + 1, y1, y2, y4, y6 => if (h.1 32 4) ≤ y6 then some y4 else if 0 < (lg_cmp (y6 : Int32).toInt64 y2) then some y4 else ab_ask (y6 < 0 ∨ 4375 ≤ (y6 : Int32).toNatClampNeg) (if ((h.1 30 (y6 : Int32).toNatClampNeg) - (h.1 30 (y6 : Int32).toNatClampNeg) / 6 * 6) = y1 then (fX2_timesAt y6 y2 h).bind (fun r6 => fX2_visitsTo_J49 h (fun y1 y2 y4 y6 => fX2_visitsTo_L6 h n y1 y2 y4 y6) y1 y2 ((y4 + r6)) y6) else fX2_visitsTo_J49 h (fun y1 y2 y4 y6 => fX2_visitsTo_L6 h n y1 y2 y4 y6) y1 y2 y4 y6)
def fX2_visitsTo (x0 : Int32) (x1 : Int64) (h : abJ) : Option Int64 := fX2_visitsTo_L6 h ab_N x0 x1 0 0
set_option maxRecDepth 20000 in
theorem sX2_visitsTo_J49 (d : Nat) (X : abX) (h : abJ) (k6 : Int32 → Int64 → Int64 → Int32 → Option Int64) (hk6 : ∀ (y1 : Int32) (y2 : Int64) (y4 : Int64) (y6 : Int32) (z : Int64), k6 y1 y2 y4 y6 = some z → ab_Ex X (d + 1) 24 6 [(0, .ref 32), (1, .int y1), (2, .long y2), (4, .long y4), (6, .int y6)] [] ab_SH (ab_dD h) (fun r => r = (some (.long z), ab_SH, ab_dD h))) : ∀ (y1 : Int32) (y2 : Int64) (y4 : Int64) (y6 : Int32) (z : Int64), fX2_visitsTo_J49 h k6 y1 y2 y4 y6 = some z → ab_Ex X (d + 1) 24 49 [(0, .ref 32), (1, .int y1), (2, .long y2), (4, .long y4), (6, .int y6)] [] ab_SH (ab_dD h) (fun r => r = (some (.long z), ab_SH, ab_dD h)) := by
  intro y1 y2 y4 y6 z hf
  unfold fX2_visitsTo_J49 at hf
  refine ab_Ex.blk (k := 2) (pc' := 6) (lv' := [(0, .ref 32), (1, .int y1), (2, .long y2), (4, .long y4), (6, .int ((y6 + 1)))]) (st' := []) (sh' := ab_SH) (D' := ab_dD h) (fun n => rfl) ?_
  exact hk6 y1 y2 y4 ((y6 + 1)) _ hf
set_option maxRecDepth 20000 in
theorem sX2_visitsTo_L6 (d : Nat) (X : abX) (h : abJ)   : ∀ (n : Nat), ∀ (y1 : Int32) (y2 : Int64) (y4 : Int64) (y6 : Int32) (z : Int64), fX2_visitsTo_L6 h n y1 y2 y4 y6 = some z → ab_Ex X (d + 1) 24 6 [(0, .ref 32), (1, .int y1), (2, .long y2), (4, .long y4), (6, .int y6)] [] ab_SH (ab_dD h) (fun r => r = (some (.long z), ab_SH, ab_dD h)) := by
  intro n
  induction n with
  | zero => intro y1 y2 y4 y6 z hf; cases hf
  | succ n ih =>
    intro y1 y2 y4 y6 z hf
    rw [fX2_visitsTo_L6] at hf
    refine ab_Ex.blk (k := 3) (pc' := 12) (lv' := [(0, .ref 32), (1, .int y1), (2, .long y2), (4, .long y4), (6, .int y6)]) (st' := [.int ((h.1 32 4)), .int y6]) (sh' := ab_SH) (D' := ab_dD h) (fun n => rfl) ?_
    refine ab_Ex.ifc (c := (h.1 32 4) ≤ y6) (SA := (55, [(0, .ref 32), (1, .int y1), (2, .long y2), (4, .long y4), (6, .int y6)], [], ab_dD h)) (SB := (15, [(0, .ref 32), (1, .int y1), (2, .long y2), (4, .long y4), (6, .int y6)], [], ab_dD h)) (fun n => rfl) (fun c1 => ?_) (fun c1 => ?_)
    · replace hf := (if_pos c1).symm.trans hf
      refine ab_Ex.blk (k := 1) (pc' := 57) (lv' := [(4, .long y4)]) (st' := [.long y4]) (sh' := ab_SH) (D' := ab_dD h) (fun n => rfl) ?_
      obtain rfl := Option.some.inj hf
      exact ab_Ex.ret (fun n => rfl) rfl
    · replace hf := (if_neg c1).symm.trans hf
      refine ab_Ex.blk (k := 4) (pc' := 20) (lv' := [(0, .ref 32), (1, .int y1), (2, .long y2), (4, .long y4), (6, .int y6)]) (st' := [.int ((lg_cmp (y6 : Int32).toInt64 y2))]) (sh' := ab_SH) (D' := ab_dD h) (fun n => rfl) ?_
      refine ab_Ex.ifc (c := 0 < (lg_cmp (y6 : Int32).toInt64 y2)) (SA := (55, [(0, .ref 32), (1, .int y1), (2, .long y2), (4, .long y4), (6, .int y6)], [], ab_dD h)) (SB := (23, [(0, .ref 32), (1, .int y1), (2, .long y2), (4, .long y4), (6, .int y6)], [], ab_dD h)) (fun n => rfl) (fun c2 => ?_) (fun c2 => ?_)
      · replace hf := (if_pos c2).symm.trans hf
        refine ab_Ex.blk (k := 1) (pc' := 57) (lv' := [(4, .long y4)]) (st' := [.long y4]) (sh' := ab_SH) (D' := ab_dD h) (fun n => rfl) ?_
        obtain rfl := Option.some.inj hf
        exact ab_Ex.ret (fun n => rfl) rfl
      · replace hf := (if_neg c2).symm.trans hf
        refine ab_Ex.blk (k := 3) (pc' := 29) (lv' := [(0, .ref 32), (1, .int y1), (2, .long y2), (4, .long y4), (6, .int y6)]) (st' := [.int y6, .ref 30]) (sh' := ab_SH) (D' := ab_dD h) (fun n => rfl) ?_
        obtain ⟨c4, hf⟩ := ab_ask_s hf
        refine ab_Ex.grd (c := y6 < 0 ∨ 4375 ≤ (y6 : Int32).toNatClampNeg) (S := (30, [(0, .ref 32), (1, .int y1), (2, .long y2), (4, .long y4), (6, .int y6)], [.int ((h.1 30 (y6 : Int32).toNatClampNeg))], ab_dD h)) (fun n => rfl) c4 ?_
        refine ab_Ex.blk (k := 1) (pc' := 32) (lv' := [(0, .ref 32), (1, .int y1), (2, .long y2), (4, .long y4), (6, .int y6)]) (st' := [.int 6, .int ((h.1 30 (y6 : Int32).toNatClampNeg))]) (sh' := ab_SH) (D' := ab_dD h) (fun n => rfl) ?_
        refine ab_Ex.blk (k := 1) (pc' := 33) (lv' := [(0, .ref 32), (1, .int y1), (2, .long y2), (4, .long y4), (6, .int y6)]) (st' := [.int (((h.1 30 (y6 : Int32).toNatClampNeg) - (h.1 30 (y6 : Int32).toNatClampNeg) / 6 * 6))]) (sh' := ab_SH) (D' := ab_dD h) (fun n => rfl) ?_
        refine ab_Ex.blk (k := 1) (pc' := 34) (lv' := [(0, .ref 32), (1, .int y1), (2, .long y2), (4, .long y4), (6, .int y6)]) (st' := [.int y1, .int (((h.1 30 (y6 : Int32).toNatClampNeg) - (h.1 30 (y6 : Int32).toNatClampNeg) / 6 * 6))]) (sh' := ab_SH) (D' := ab_dD h) (fun n => rfl) ?_
        refine ab_Ex.ifc (c := ((h.1 30 (y6 : Int32).toNatClampNeg) - (h.1 30 (y6 : Int32).toNatClampNeg) / 6 * 6) = y1) (SA := (37, [(0, .ref 32), (1, .int y1), (2, .long y2), (4, .long y4), (6, .int y6)], [], ab_dD h)) (SB := (49, [(0, .ref 32), (1, .int y1), (2, .long y2), (4, .long y4), (6, .int y6)], [], ab_dD h)) (fun n => rfl) (fun c5 => ?_) (fun c5 => ?_)
        · replace hf := (if_pos c5).symm.trans hf
          refine ab_Ex.blk (k := 4) (pc' := 43) (lv' := [(0, .ref 32), (1, .int y1), (2, .long y2), (4, .long y4), (6, .int y6)]) (st' := [.long y2, .int y6, .ref 32, .long y4]) (sh' := ab_SH) (D' := ab_dD h) (fun n => rfl) ?_
          obtain ⟨r6, hr6, hf⟩ := ab_bind_s hf
          refine ab_Ex.call (d := d + 0) (M2 := 25) (as := [.ref 32, .int y6, .long y2]) (rest := [.long y4]) (fun n => rfl) rfl (Nat.not_lt.mpr (Nat.le_of_ble_eq_true rfl)) (sX2_timesAt (d) X y6 y2 h _ hr6) (fun r hr => ?_)
          subst hr
          show ab_Ex X (d + 1) 24 46 [(0, .ref 32), (1, .int y1), (2, .long y2), (4, .long y4), (6, .int y6)] [.long r6, .long y4] ab_SH (ab_dD h) _
          refine ab_Ex.blk (k := 2) (pc' := 49) (lv' := [(0, .ref 32), (1, .int y1), (2, .long y2), (4, .long ((y4 + r6))), (6, .int y6)]) (st' := []) (sh' := ab_SH) (D' := ab_dD h) (fun n => rfl) ?_
          exact sX2_visitsTo_J49 d X h (fun y1 y2 y4 y6 => fX2_visitsTo_L6 h n y1 y2 y4 y6) (fun y1 y2 y4 y6 z hz => ih y1 y2 y4 y6 z hz) y1 y2 ((y4 + r6)) y6 _ hf
        · replace hf := (if_neg c5).symm.trans hf
          exact sX2_visitsTo_J49 d X h (fun y1 y2 y4 y6 => fX2_visitsTo_L6 h n y1 y2 y4 y6) (fun y1 y2 y4 y6 z hz => ih y1 y2 y4 y6 z hz) y1 y2 y4 y6 _ hf
set_option maxRecDepth 20000 in
theorem sX2_visitsTo (d : Nat) (X : abX) (x0 : Int32) (x1 : Int64) (h : abJ) (z : Int64) (hf : fX2_visitsTo x0 x1 h = some z) : ab_Ex X (d + 1) 24 0 [(0, .ref 32), (1, .int x0), (2, .long x1)] [] ab_SH (ab_dD h) (fun r => r = (some (.long z), ab_SH, ab_dD h)) := by
  unfold fX2_visitsTo at hf
  refine ab_Ex.blk (k := 4) (pc' := 6) (lv' := [(0, .ref 32), (1, .int x0), (2, .long x1), (4, .long 0), (6, .int 0)]) (st' := []) (sh' := ab_SH) (D' := ab_dD h) (fun n => rfl) ?_
  exact sX2_visitsTo_L6 d X h ab_N x0 x1 0 0 _ hf
def fX2_firstAt_L2  (h : abJ)  : Nat → Int32 → Int32 → Option Int32
  | 0, _, _ => none
  | n + 1, y1, y2 => if (h.1 32 4) ≤ y2 then some (-1) else ab_ask (y2 < 0 ∨ 4375 ≤ (y2 : Int32).toNatClampNeg) (if ((h.1 30 (y2 : Int32).toNatClampNeg) - (h.1 30 (y2 : Int32).toNatClampNeg) / 6 * 6) = y1 then some y2 else fX2_firstAt_L2 h n y1 ((y2 + 1)))
def fX2_firstAt (x0 : Int32) (h : abJ) : Option Int32 := fX2_firstAt_L2 h ab_N x0 0
set_option maxRecDepth 20000 in
theorem sX2_firstAt_L2 (d : Nat) (X : abX) (h : abJ)   : ∀ (n : Nat), ∀ (y1 : Int32) (y2 : Int32) (z : Int32), fX2_firstAt_L2 h n y1 y2 = some z → ab_Ex X (d + 0) 26 2 [(0, .ref 32), (1, .int y1), (2, .int y2)] [] ab_SH (ab_dD h) (fun r => r = (some (.int z), ab_SH, ab_dD h)) := by
  intro n
  induction n with
  | zero => intro y1 y2 z hf; cases hf
  | succ n ih =>
    intro y1 y2 z hf
    rw [fX2_firstAt_L2] at hf
    refine ab_Ex.blk (k := 3) (pc' := 7) (lv' := [(0, .ref 32), (1, .int y1), (2, .int y2)]) (st' := [.int ((h.1 32 4)), .int y2]) (sh' := ab_SH) (D' := ab_dD h) (fun n => rfl) ?_
    refine ab_Ex.ifc (c := (h.1 32 4) ≤ y2) (SA := (31, [(0, .ref 32), (1, .int y1), (2, .int y2)], [], ab_dD h)) (SB := (10, [(0, .ref 32), (1, .int y1), (2, .int y2)], [], ab_dD h)) (fun n => rfl) (fun c1 => ?_) (fun c1 => ?_)
    · replace hf := (if_pos c1).symm.trans hf
      refine ab_Ex.blk (k := 1) (pc' := 32) (lv' := [(0, .ref 32), (1, .int y1), (2, .int y2)]) (st' := [.int ((-1))]) (sh' := ab_SH) (D' := ab_dD h) (fun n => rfl) ?_
      obtain rfl := Option.some.inj hf
      exact ab_Ex.ret (fun n => rfl) rfl
    · replace hf := (if_neg c1).symm.trans hf
      refine ab_Ex.blk (k := 3) (pc' := 15) (lv' := [(0, .ref 32), (1, .int y1), (2, .int y2)]) (st' := [.int y2, .ref 30]) (sh' := ab_SH) (D' := ab_dD h) (fun n => rfl) ?_
      obtain ⟨c3, hf⟩ := ab_ask_s hf
      refine ab_Ex.grd (c := y2 < 0 ∨ 4375 ≤ (y2 : Int32).toNatClampNeg) (S := (16, [(0, .ref 32), (1, .int y1), (2, .int y2)], [.int ((h.1 30 (y2 : Int32).toNatClampNeg))], ab_dD h)) (fun n => rfl) c3 ?_
      refine ab_Ex.blk (k := 1) (pc' := 18) (lv' := [(0, .ref 32), (1, .int y1), (2, .int y2)]) (st' := [.int 6, .int ((h.1 30 (y2 : Int32).toNatClampNeg))]) (sh' := ab_SH) (D' := ab_dD h) (fun n => rfl) ?_
      refine ab_Ex.blk (k := 1) (pc' := 19) (lv' := [(0, .ref 32), (1, .int y1), (2, .int y2)]) (st' := [.int (((h.1 30 (y2 : Int32).toNatClampNeg) - (h.1 30 (y2 : Int32).toNatClampNeg) / 6 * 6))]) (sh' := ab_SH) (D' := ab_dD h) (fun n => rfl) ?_
      refine ab_Ex.blk (k := 1) (pc' := 20) (lv' := [(0, .ref 32), (1, .int y1), (2, .int y2)]) (st' := [.int y1, .int (((h.1 30 (y2 : Int32).toNatClampNeg) - (h.1 30 (y2 : Int32).toNatClampNeg) / 6 * 6))]) (sh' := ab_SH) (D' := ab_dD h) (fun n => rfl) ?_
      refine ab_Ex.ifc (c := ((h.1 30 (y2 : Int32).toNatClampNeg) - (h.1 30 (y2 : Int32).toNatClampNeg) / 6 * 6) = y1) (SA := (23, [(0, .ref 32), (1, .int y1), (2, .int y2)], [], ab_dD h)) (SB := (25, [(0, .ref 32), (1, .int y1), (2, .int y2)], [], ab_dD h)) (fun n => rfl) (fun c4 => ?_) (fun c4 => ?_)
      · replace hf := (if_pos c4).symm.trans hf
        refine ab_Ex.blk (k := 1) (pc' := 24) (lv' := [(0, .ref 32), (1, .int y1), (2, .int y2)]) (st' := [.int y2]) (sh' := ab_SH) (D' := ab_dD h) (fun n => rfl) ?_
        obtain rfl := Option.some.inj hf
        exact ab_Ex.ret (fun n => rfl) rfl
      · replace hf := (if_neg c4).symm.trans hf
        refine ab_Ex.blk (k := 2) (pc' := 2) (lv' := [(0, .ref 32), (1, .int y1), (2, .int ((y2 + 1)))]) (st' := []) (sh' := ab_SH) (D' := ab_dD h) (fun n => rfl) ?_
        exact ih y1 ((y2 + 1)) _ hf
set_option maxRecDepth 20000 in
theorem sX2_firstAt (d : Nat) (X : abX) (x0 : Int32) (h : abJ) (z : Int32) (hf : fX2_firstAt x0 h = some z) : ab_Ex X (d + 0) 26 0 [(0, .ref 32), (1, .int x0)] [] ab_SH (ab_dD h) (fun r => r = (some (.int z), ab_SH, ab_dD h)) := by
  unfold fX2_firstAt at hf
  refine ab_Ex.blk (k := 2) (pc' := 2) (lv' := [(0, .ref 32), (1, .int x0), (2, .int 0)]) (st' := []) (sh' := ab_SH) (D' := ab_dD h) (fun n => rfl) ?_
  exact sX2_firstAt_L2 d X h ab_N x0 0 _ hf
def fX2_stepsOut_L6  (h : abJ)  : Nat → Int32 → Int32 → Int32 → Int32 → Option Int32
  | 0, _, _, _, _ => none
  | n + 1, y1, y3, y4, y5 => if 4374 < y5 then some (-1) else if y4 = (-1) then some (-1) else (fX11_isIn y3 ((y4 - y4 / 6 * 6)) h).bind (fun r3 => if r3 = 0 then some y5 else (fX7_nextStand y1 y4 h).bind (fun r5 => fX2_stepsOut_L6 h n y1 y3 r5 ((y5 + 1))))
def fX2_stepsOut (x0 : Int32) (x1 : Int32) (x2 : Int32) (h : abJ) : Option Int32 := fX2_stepsOut_L6 h ab_N x0 x2 x1 0
set_option maxRecDepth 20000 in
theorem sX2_stepsOut_L6 (d : Nat) (X : abX) (h : abJ)   : ∀ (n : Nat), ∀ (y1 : Int32) (y3 : Int32) (y4 : Int32) (y5 : Int32) (z : Int32), fX2_stepsOut_L6 h n y1 y3 y4 y5 = some z → ab_Ex X (d + 3) 28 6 [(0, .ref 32), (1, .int y1), (3, .int y3), (4, .int y4), (5, .int y5)] [] ab_SH (ab_dD h) (fun r => r = (some (.int z), ab_SH, ab_dD h)) := by
  intro n
  induction n with
  | zero => intro y1 y3 y4 y5 z hf; cases hf
  | succ n ih =>
    intro y1 y3 y4 y5 z hf
    rw [fX2_stepsOut_L6] at hf
    refine ab_Ex.blk (k := 2) (pc' := 11) (lv' := [(0, .ref 32), (1, .int y1), (3, .int y3), (4, .int y4), (5, .int y5)]) (st' := [.int 4374, .int y5]) (sh' := ab_SH) (D' := ab_dD h) (fun n => rfl) ?_
    refine ab_Ex.ifc (c := 4374 < y5) (SA := (53, [(0, .ref 32), (1, .int y1), (3, .int y3), (4, .int y4), (5, .int y5)], [], ab_dD h)) (SB := (14, [(0, .ref 32), (1, .int y1), (3, .int y3), (4, .int y4), (5, .int y5)], [], ab_dD h)) (fun n => rfl) (fun c1 => ?_) (fun c1 => ?_)
    · replace hf := (if_pos c1).symm.trans hf
      refine ab_Ex.blk (k := 1) (pc' := 54) (lv' := []) (st' := [.int ((-1))]) (sh' := ab_SH) (D' := ab_dD h) (fun n => rfl) ?_
      obtain rfl := Option.some.inj hf
      exact ab_Ex.ret (fun n => rfl) rfl
    · replace hf := (if_neg c1).symm.trans hf
      refine ab_Ex.blk (k := 2) (pc' := 17) (lv' := [(0, .ref 32), (1, .int y1), (3, .int y3), (4, .int y4), (5, .int y5)]) (st' := [.int ((-1)), .int y4]) (sh' := ab_SH) (D' := ab_dD h) (fun n => rfl) ?_
      refine ab_Ex.ifc (c := y4 = (-1)) (SA := (53, [(0, .ref 32), (1, .int y1), (3, .int y3), (4, .int y4), (5, .int y5)], [], ab_dD h)) (SB := (20, [(0, .ref 32), (1, .int y1), (3, .int y3), (4, .int y4), (5, .int y5)], [], ab_dD h)) (fun n => rfl) (fun c2 => ?_) (fun c2 => ?_)
      · replace hf := (if_pos c2).symm.trans hf
        refine ab_Ex.blk (k := 1) (pc' := 54) (lv' := []) (st' := [.int ((-1))]) (sh' := ab_SH) (D' := ab_dD h) (fun n => rfl) ?_
        obtain rfl := Option.some.inj hf
        exact ab_Ex.ret (fun n => rfl) rfl
      · replace hf := (if_neg c2).symm.trans hf
        refine ab_Ex.blk (k := 3) (pc' := 25) (lv' := [(0, .ref 32), (1, .int y1), (3, .int y3), (4, .int y4), (5, .int y5)]) (st' := [.int 6, .int y4, .int y3]) (sh' := ab_SH) (D' := ab_dD h) (fun n => rfl) ?_
        refine ab_Ex.blk (k := 1) (pc' := 26) (lv' := [(0, .ref 32), (1, .int y1), (3, .int y3), (4, .int y4), (5, .int y5)]) (st' := [.int ((y4 - y4 / 6 * 6)), .int y3]) (sh' := ab_SH) (D' := ab_dD h) (fun n => rfl) ?_
        obtain ⟨r3, hr3, hf⟩ := ab_bind_s hf
        refine ab_Ex.call (d := d + 2) (M2 := 174) (as := [.int y3, .int ((y4 - y4 / 6 * 6))]) (rest := []) (fun n => rfl) rfl (Nat.not_lt.mpr (Nat.le_of_ble_eq_true rfl)) (sX11_isIn (d + 2) X y3 ((y4 - y4 / 6 * 6)) h _ hr3) (fun r hr => ?_)
        subst hr
        show ab_Ex X (d + 3) 28 29 [(0, .ref 32), (1, .int y1), (3, .int y3), (4, .int y4), (5, .int y5)] [.int r3] ab_SH (ab_dD h) _
        refine ab_Ex.ifc (c := r3 = 0) (SA := (32, [(0, .ref 32), (1, .int y1), (3, .int y3), (4, .int y4), (5, .int y5)], [], ab_dD h)) (SB := (35, [(0, .ref 32), (1, .int y1), (3, .int y3), (4, .int y4), (5, .int y5)], [], ab_dD h)) (fun n => rfl) (fun c4 => ?_) (fun c4 => ?_)
        · replace hf := (if_pos c4).symm.trans hf
          refine ab_Ex.blk (k := 1) (pc' := 34) (lv' := [(0, .ref 32), (1, .int y1), (3, .int y3), (4, .int y4), (5, .int y5)]) (st' := [.int y5]) (sh' := ab_SH) (D' := ab_dD h) (fun n => rfl) ?_
          obtain rfl := Option.some.inj hf
          exact ab_Ex.ret (fun n => rfl) rfl
        · replace hf := (if_neg c4).symm.trans hf
          refine ab_Ex.blk (k := 4) (pc' := 42) (lv' := [(0, .ref 32), (1, .int y1), (3, .int y3), (4, .int y4), (5, .int y5)]) (st' := [.int y4, .int y1, .ref 13]) (sh' := ab_SH) (D' := ab_dD h) (fun n => rfl) ?_
          obtain ⟨r5, hr5, hf⟩ := ab_bind_s hf
          refine ab_Ex.call (d := d + 2) (M2 := 99) (as := [.ref 13, .int y1, .int y4]) (rest := []) (fun n => rfl) rfl (Nat.not_lt.mpr (Nat.le_of_ble_eq_true rfl)) (sX7_nextStand (d) X y1 y4 h _ hr5) (fun r hr => ?_)
          subst hr
          show ab_Ex X (d + 3) 28 45 [(0, .ref 32), (1, .int y1), (3, .int y3), (4, .int y4), (5, .int y5)] [.int r5] ab_SH (ab_dD h) _
          refine ab_Ex.blk (k := 3) (pc' := 6) (lv' := [(0, .ref 32), (1, .int y1), (3, .int y3), (4, .int r5), (5, .int ((y5 + 1)))]) (st' := []) (sh' := ab_SH) (D' := ab_dD h) (fun n => rfl) ?_
          exact ih y1 y3 r5 ((y5 + 1)) _ hf
set_option maxRecDepth 20000 in
theorem sX2_stepsOut (d : Nat) (X : abX) (x0 : Int32) (x1 : Int32) (x2 : Int32) (h : abJ) (z : Int32) (hf : fX2_stepsOut x0 x1 x2 h = some z) : ab_Ex X (d + 3) 28 0 [(0, .ref 32), (1, .int x0), (2, .int x1), (3, .int x2)] [] ab_SH (ab_dD h) (fun r => r = (some (.int z), ab_SH, ab_dD h)) := by
  unfold fX2_stepsOut at hf
  refine ab_Ex.blk (k := 4) (pc' := 6) (lv' := [(0, .ref 32), (1, .int x0), (3, .int x2), (4, .int x1), (5, .int 0)]) (st' := []) (sh' := ab_SH) (D' := ab_dD h) (fun n => rfl) ?_
  exact sX2_stepsOut_L6 d X h ab_N x0 x2 x1 0 _ hf
def fX2_standAfter_L6  (h : abJ)  : Nat → Int32 → Int32 → Int32 → Int32 → Option Int32
  | 0, _, _, _, _ => none
  | n + 1, y1, y3, y4, y5 => if y3 ≤ y5 then (fJ9_max_7cf53 0 y4 h).bind (fun r2 => some r2) else (fX7_nextStand y1 y4 h).bind (fun r3 => fX2_standAfter_L6 h n y1 y3 r3 ((y5 + 1)))
def fX2_standAfter (x0 : Int32) (x1 : Int32) (x2 : Int32) (h : abJ) : Option Int32 := fX2_standAfter_L6 h ab_N x0 x2 x1 0
set_option maxRecDepth 20000 in
theorem sX2_standAfter_L6 (d : Nat) (X : abX) (h : abJ)   : ∀ (n : Nat), ∀ (y1 : Int32) (y3 : Int32) (y4 : Int32) (y5 : Int32) (z : Int32), fX2_standAfter_L6 h n y1 y3 y4 y5 = some z → ab_Ex X (d + 3) 29 6 [(0, .ref 32), (1, .int y1), (3, .int y3), (4, .int y4), (5, .int y5)] [] ab_SH (ab_dD h) (fun r => r = (some (.int z), ab_SH, ab_dD h)) := by
  intro n
  induction n with
  | zero => intro y1 y3 y4 y5 z hf; cases hf
  | succ n ih =>
    intro y1 y3 y4 y5 z hf
    rw [fX2_standAfter_L6] at hf
    refine ab_Ex.blk (k := 2) (pc' := 9) (lv' := [(0, .ref 32), (1, .int y1), (3, .int y3), (4, .int y4), (5, .int y5)]) (st' := [.int y3, .int y5]) (sh' := ab_SH) (D' := ab_dD h) (fun n => rfl) ?_
    refine ab_Ex.ifc (c := y3 ≤ y5) (SA := (30, [(0, .ref 32), (1, .int y1), (3, .int y3), (4, .int y4), (5, .int y5)], [], ab_dD h)) (SB := (12, [(0, .ref 32), (1, .int y1), (3, .int y3), (4, .int y4), (5, .int y5)], [], ab_dD h)) (fun n => rfl) (fun c1 => ?_) (fun c1 => ?_)
    · replace hf := (if_pos c1).symm.trans hf
      refine ab_Ex.blk (k := 2) (pc' := 33) (lv' := [(0, .ref 32), (1, .int y1), (3, .int y3), (4, .int y4), (5, .int y5)]) (st' := [.int y4, .int 0]) (sh' := ab_SH) (D' := ab_dD h) (fun n => rfl) ?_
      obtain ⟨r2, hr2, hf⟩ := ab_bind_s hf
      refine ab_Ex.call (d := d + 2) (M2 := 302) (as := [.int 0, .int y4]) (rest := []) (fun n => rfl) rfl (Nat.not_lt.mpr (Nat.le_of_ble_eq_true rfl)) (sJ9_max_7cf53 (d + 2) X 0 y4 h _ hr2) (fun r hr => ?_)
      subst hr
      show ab_Ex X (d + 3) 29 36 [(0, .ref 32), (1, .int y1), (3, .int y3), (4, .int y4), (5, .int y5)] [.int r2] ab_SH (ab_dD h) _
      obtain rfl := Option.some.inj hf
      exact ab_Ex.ret (fun n => rfl) rfl
    · replace hf := (if_neg c1).symm.trans hf
      refine ab_Ex.blk (k := 4) (pc' := 19) (lv' := [(0, .ref 32), (1, .int y1), (3, .int y3), (4, .int y4), (5, .int y5)]) (st' := [.int y4, .int y1, .ref 13]) (sh' := ab_SH) (D' := ab_dD h) (fun n => rfl) ?_
      obtain ⟨r3, hr3, hf⟩ := ab_bind_s hf
      refine ab_Ex.call (d := d + 2) (M2 := 99) (as := [.ref 13, .int y1, .int y4]) (rest := []) (fun n => rfl) rfl (Nat.not_lt.mpr (Nat.le_of_ble_eq_true rfl)) (sX7_nextStand (d) X y1 y4 h _ hr3) (fun r hr => ?_)
      subst hr
      show ab_Ex X (d + 3) 29 22 [(0, .ref 32), (1, .int y1), (3, .int y3), (4, .int y4), (5, .int y5)] [.int r3] ab_SH (ab_dD h) _
      refine ab_Ex.blk (k := 3) (pc' := 6) (lv' := [(0, .ref 32), (1, .int y1), (3, .int y3), (4, .int r3), (5, .int ((y5 + 1)))]) (st' := []) (sh' := ab_SH) (D' := ab_dD h) (fun n => rfl) ?_
      exact ih y1 y3 r3 ((y5 + 1)) _ hf
set_option maxRecDepth 20000 in
theorem sX2_standAfter (d : Nat) (X : abX) (x0 : Int32) (x1 : Int32) (x2 : Int32) (h : abJ) (z : Int32) (hf : fX2_standAfter x0 x1 x2 h = some z) : ab_Ex X (d + 3) 29 0 [(0, .ref 32), (1, .int x0), (2, .int x1), (3, .int x2)] [] ab_SH (ab_dD h) (fun r => r = (some (.int z), ab_SH, ab_dD h)) := by
  unfold fX2_standAfter at hf
  refine ab_Ex.blk (k := 4) (pc' := 6) (lv' := [(0, .ref 32), (1, .int x0), (3, .int x2), (4, .int x1), (5, .int 0)]) (st' := []) (sh' := ab_SH) (D' := ab_dD h) (fun n => rfl) ?_
  exact sX2_standAfter_L6 d X h ab_N x0 x2 x1 0 _ hf
def fX2_fill_L18   : Nat → Int32 → Int32 → Int32 → abJ → Option abJ
  | 0, _, _, _, _ => none
  | n + 1, y2, y3, y4, h => if 6 ≤ (h.1 32 7) then some h else (fX2_stepsOut ((h.1 12 2)) (((y4 * 6) + y2)) y3 h).bind (fun r2 => if r2 = (-1) then some h else (fX2_standAfter ((h.1 12 2)) (((y4 * 6) + y2)) r2 h).bind (fun r4 => ab_ask ((h.1 32 7) < 0 ∨ 6 ≤ ((h.1 32 7) : Int32).toNatClampNeg) (fX2_fill_L18 n y2 ((y3 ||| ((1 : Int32) <<< ((r4 - r4 / 6 * 6) &&& 31)))) ((r4 / 6)) (ab_wI (ab_wI (ab_wI h 33 ((h.1 32 7) : Int32).toNatClampNeg (r4 - r4 / 6 * 6)) 32 7 ((((ab_wI h 33 ((h.1 32 7) : Int32).toNatClampNeg (r4 - r4 / 6 * 6))).1 32 7) + 1)) 32 8 ((((ab_wI (ab_wI h 33 ((h.1 32 7) : Int32).toNatClampNeg (r4 - r4 / 6 * 6)) 32 7 ((((ab_wI h 33 ((h.1 32 7) : Int32).toNatClampNeg (r4 - r4 / 6 * 6))).1 32 7) + 1))).1 32 8) + r2)))))
def fX2_fill (x1 : Int32) (h : abJ) : Option abJ := fX2_fill_L18 ab_N x1 0 ((((ab_wI (ab_wI h 32 7 0) 32 8 0)).1 12 1)) (ab_wI (ab_wI h 32 7 0) 32 8 0)
set_option maxRecDepth 20000 in
theorem sX2_fill_L18 (d : Nat) (X : abX)   : ∀ (n : Nat), ∀ (y2 : Int32) (y3 : Int32) (y4 : Int32) (h : abJ) (z : abJ), fX2_fill_L18 n y2 y3 y4 h = some z → ab_Ex X (d + 4) 27 18 [(0, .ref 32), (1, .ref 12), (2, .int y2), (3, .int y3), (4, .int y4)] [] ab_SH (ab_dD h) (fun r => r = (none, ab_SH, ab_dD z)) := by
  intro n
  induction n with
  | zero => intro y2 y3 y4 h z hf; cases hf
  | succ n ih =>
    intro y2 y3 y4 h z hf
    rw [fX2_fill_L18] at hf
    refine ab_Ex.blk (k := 3) (pc' := 24) (lv' := [(0, .ref 32), (1, .ref 12), (2, .int y2), (3, .int y3), (4, .int y4)]) (st' := [.int 6, .int ((h.1 32 7))]) (sh' := ab_SH) (D' := ab_dD h) (fun n => rfl) ?_
    refine ab_Ex.ifc (c := 6 ≤ (h.1 32 7)) (SA := (126, [(0, .ref 32), (1, .ref 12), (2, .int y2), (3, .int y3), (4, .int y4)], [], ab_dD h)) (SB := (27, [(0, .ref 32), (1, .ref 12), (2, .int y2), (3, .int y3), (4, .int y4)], [], ab_dD h)) (fun n => rfl) (fun c1 => ?_) (fun c1 => ?_)
    · replace hf := (if_pos c1).symm.trans hf
      obtain rfl := Option.some.inj hf
      exact ab_Ex.ret (fun n => rfl) rfl
    · replace hf := (if_neg c1).symm.trans hf
      refine ab_Ex.blk (k := 9) (pc' := 40) (lv' := [(0, .ref 32), (1, .ref 12), (2, .int y2), (3, .int y3), (4, .int y4)]) (st' := [.int y3, .int (((y4 * 6) + y2)), .int ((h.1 12 2)), .ref 32]) (sh' := ab_SH) (D' := ab_dD h) (fun n => rfl) ?_
      obtain ⟨r2, hr2, hf⟩ := ab_bind_s hf
      refine ab_Ex.call (d := d + 3) (M2 := 28) (as := [.ref 32, .int ((h.1 12 2)), .int (((y4 * 6) + y2)), .int y3]) (rest := []) (fun n => rfl) rfl (Nat.not_lt.mpr (Nat.le_of_ble_eq_true rfl)) (sX2_stepsOut (d) X ((h.1 12 2)) (((y4 * 6) + y2)) y3 h _ hr2) (fun r hr => ?_)
      subst hr
      show ab_Ex X (d + 4) 27 43 [(0, .ref 32), (1, .ref 12), (2, .int y2), (3, .int y3), (4, .int y4)] [.int r2] ab_SH (ab_dD h) _
      refine ab_Ex.blk (k := 3) (pc' := 48) (lv' := [(5, .int r2), (0, .ref 32), (1, .ref 12), (2, .int y2), (3, .int y3), (4, .int y4)]) (st' := [.int ((-1)), .int r2]) (sh' := ab_SH) (D' := ab_dD h) (fun n => rfl) ?_
      refine ab_Ex.ifc (c := r2 = (-1)) (SA := (51, [(5, .int r2), (0, .ref 32), (1, .ref 12), (2, .int y2), (3, .int y3), (4, .int y4)], [], ab_dD h)) (SB := (52, [(5, .int r2), (0, .ref 32), (1, .ref 12), (2, .int y2), (3, .int y3), (4, .int y4)], [], ab_dD h)) (fun n => rfl) (fun c3 => ?_) (fun c3 => ?_)
      · replace hf := (if_pos c3).symm.trans hf
        obtain rfl := Option.some.inj hf
        exact ab_Ex.ret (fun n => rfl) rfl
      · replace hf := (if_neg c3).symm.trans hf
        refine ab_Ex.blk (k := 9) (pc' := 66) (lv' := [(5, .int r2), (0, .ref 32), (1, .ref 12), (2, .int y2), (3, .int y3), (4, .int y4)]) (st' := [.int r2, .int (((y4 * 6) + y2)), .int ((h.1 12 2)), .ref 32]) (sh' := ab_SH) (D' := ab_dD h) (fun n => rfl) ?_
        obtain ⟨r4, hr4, hf⟩ := ab_bind_s hf
        refine ab_Ex.call (d := d + 3) (M2 := 29) (as := [.ref 32, .int ((h.1 12 2)), .int (((y4 * 6) + y2)), .int r2]) (rest := []) (fun n => rfl) rfl (Nat.not_lt.mpr (Nat.le_of_ble_eq_true rfl)) (sX2_standAfter (d) X ((h.1 12 2)) (((y4 * 6) + y2)) r2 h _ hr4) (fun r hr => ?_)
        subst hr
        show ab_Ex X (d + 4) 27 69 [(5, .int r2), (0, .ref 32), (1, .ref 12), (2, .int y2), (3, .int y3), (4, .int y4)] [.int r4] ab_SH (ab_dD h) _
        refine ab_Ex.blk (k := 5) (pc' := 77) (lv' := [(6, .int r4), (5, .int r2), (0, .ref 32), (1, .ref 12), (2, .int y2), (3, .int y3), (4, .int y4)]) (st' := [.int 6, .int r4, .int 1, .int y3]) (sh' := ab_SH) (D' := ab_dD h) (fun n => rfl) ?_
        refine ab_Ex.blk (k := 1) (pc' := 78) (lv' := [(6, .int r4), (5, .int r2), (0, .ref 32), (1, .ref 12), (2, .int y2), (3, .int y3), (4, .int y4)]) (st' := [.int ((r4 - r4 / 6 * 6)), .int 1, .int y3]) (sh' := ab_SH) (D' := ab_dD h) (fun n => rfl) ?_
        refine ab_Ex.blk (k := 9) (pc' := 93) (lv' := [(3, .int ((y3 ||| ((1 : Int32) <<< ((r4 - r4 / 6 * 6) &&& 31))))), (6, .int r4), (5, .int r2), (0, .ref 32), (1, .ref 12), (2, .int y2), (4, .int y4)]) (st' := [.int 6, .int r4, .int ((h.1 32 7)), .ref 33]) (sh' := ab_SH) (D' := ab_dD h) (fun n => rfl) ?_
        refine ab_Ex.blk (k := 1) (pc' := 94) (lv' := [(3, .int ((y3 ||| ((1 : Int32) <<< ((r4 - r4 / 6 * 6) &&& 31))))), (6, .int r4), (5, .int r2), (0, .ref 32), (1, .ref 12), (2, .int y2), (4, .int y4)]) (st' := [.int ((r4 - r4 / 6 * 6)), .int ((h.1 32 7)), .ref 33]) (sh' := ab_SH) (D' := ab_dD h) (fun n => rfl) ?_
        obtain ⟨c5, hf⟩ := ab_ask_s hf
        refine ab_Ex.grd (c := (h.1 32 7) < 0 ∨ 6 ≤ ((h.1 32 7) : Int32).toNatClampNeg) (S := (95, [(3, .int ((y3 ||| ((1 : Int32) <<< ((r4 - r4 / 6 * 6) &&& 31))))), (6, .int r4), (5, .int r2), (0, .ref 32), (1, .ref 12), (2, .int y2), (4, .int y4)], [], ab_dD (ab_wI h 33 ((h.1 32 7) : Int32).toNatClampNeg (r4 - r4 / 6 * 6)))) (fun n => rfl) c5 ?_
        refine ab_Ex.blk (k := 14) (pc' := 120) (lv' := [(3, .int ((y3 ||| ((1 : Int32) <<< ((r4 - r4 / 6 * 6) &&& 31))))), (6, .int r4), (5, .int r2), (0, .ref 32), (1, .ref 12), (2, .int y2), (4, .int y4)]) (st' := [.int 6, .int r4]) (sh' := ab_SH) (D' := ab_dD (ab_wI (ab_wI (ab_wI h 33 ((h.1 32 7) : Int32).toNatClampNeg (r4 - r4 / 6 * 6)) 32 7 ((((ab_wI h 33 ((h.1 32 7) : Int32).toNatClampNeg (r4 - r4 / 6 * 6))).1 32 7) + 1)) 32 8 ((((ab_wI (ab_wI h 33 ((h.1 32 7) : Int32).toNatClampNeg (r4 - r4 / 6 * 6)) 32 7 ((((ab_wI h 33 ((h.1 32 7) : Int32).toNatClampNeg (r4 - r4 / 6 * 6))).1 32 7) + 1))).1 32 8) + r2))) (fun n => rfl) ?_
        refine ab_Ex.blk (k := 1) (pc' := 121) (lv' := [(3, .int ((y3 ||| ((1 : Int32) <<< ((r4 - r4 / 6 * 6) &&& 31))))), (6, .int r4), (5, .int r2), (0, .ref 32), (1, .ref 12), (2, .int y2), (4, .int y4)]) (st' := [.int ((r4 / 6))]) (sh' := ab_SH) (D' := ab_dD (ab_wI (ab_wI (ab_wI h 33 ((h.1 32 7) : Int32).toNatClampNeg (r4 - r4 / 6 * 6)) 32 7 ((((ab_wI h 33 ((h.1 32 7) : Int32).toNatClampNeg (r4 - r4 / 6 * 6))).1 32 7) + 1)) 32 8 ((((ab_wI (ab_wI h 33 ((h.1 32 7) : Int32).toNatClampNeg (r4 - r4 / 6 * 6)) 32 7 ((((ab_wI h 33 ((h.1 32 7) : Int32).toNatClampNeg (r4 - r4 / 6 * 6))).1 32 7) + 1))).1 32 8) + r2))) (fun n => rfl) ?_
        refine ab_Ex.blk (k := 2) (pc' := 18) (lv' := [(0, .ref 32), (1, .ref 12), (2, .int y2), (3, .int ((y3 ||| ((1 : Int32) <<< ((r4 - r4 / 6 * 6) &&& 31))))), (4, .int ((r4 / 6)))]) (st' := []) (sh' := ab_SH) (D' := ab_dD (ab_wI (ab_wI (ab_wI h 33 ((h.1 32 7) : Int32).toNatClampNeg (r4 - r4 / 6 * 6)) 32 7 ((((ab_wI h 33 ((h.1 32 7) : Int32).toNatClampNeg (r4 - r4 / 6 * 6))).1 32 7) + 1)) 32 8 ((((ab_wI (ab_wI h 33 ((h.1 32 7) : Int32).toNatClampNeg (r4 - r4 / 6 * 6)) 32 7 ((((ab_wI h 33 ((h.1 32 7) : Int32).toNatClampNeg (r4 - r4 / 6 * 6))).1 32 7) + 1))).1 32 8) + r2))) (fun n => rfl) ?_
        exact ih y2 ((y3 ||| ((1 : Int32) <<< ((r4 - r4 / 6 * 6) &&& 31)))) ((r4 / 6)) (ab_wI (ab_wI (ab_wI h 33 ((h.1 32 7) : Int32).toNatClampNeg (r4 - r4 / 6 * 6)) 32 7 ((((ab_wI h 33 ((h.1 32 7) : Int32).toNatClampNeg (r4 - r4 / 6 * 6))).1 32 7) + 1)) 32 8 ((((ab_wI (ab_wI h 33 ((h.1 32 7) : Int32).toNatClampNeg (r4 - r4 / 6 * 6)) 32 7 ((((ab_wI h 33 ((h.1 32 7) : Int32).toNatClampNeg (r4 - r4 / 6 * 6))).1 32 7) + 1))).1 32 8) + r2)) _ hf
set_option maxRecDepth 20000 in
theorem sX2_fill (d : Nat) (X : abX) (x1 : Int32) (h : abJ) (z : abJ) (hf : fX2_fill x1 h = some z) : ab_Ex X (d + 4) 27 0 [(0, .ref 32), (1, .ref 12), (2, .int x1)] [] ab_SH (ab_dD h) (fun r => r = (none, ab_SH, ab_dD z)) := by
  unfold fX2_fill at hf
  refine ab_Ex.blk (k := 11) (pc' := 18) (lv' := [(0, .ref 32), (1, .ref 12), (2, .int x1), (3, .int 0), (4, .int ((((ab_wI (ab_wI h 32 7 0) 32 8 0)).1 12 1)))]) (st' := []) (sh' := ab_SH) (D' := ab_dD (ab_wI (ab_wI h 32 7 0) 32 8 0)) (fun n => rfl) ?_
  exact sX2_fill_L18 d X  ab_N x1 0 ((((ab_wI (ab_wI h 32 7 0) 32 8 0)).1 12 1)) (ab_wI (ab_wI h 32 7 0) 32 8 0) _ hf
def fJ7_fill_53178_L5 (x0 : Nat)  : Nat → Int32 → Int32 → Int32 → abJ → Option abJ
  | 0, _, _, _, _ => none
  | n + 1, y1, y2, y3, h => if y3 ≤ y2 then some h else ab_ask (y2 < 0 ∨ (ab_ln x0) ≤ (y2 : Int32).toNatClampNeg) (fJ7_fill_53178_L5 x0 n y1 ((y2 + 1)) y3 (ab_wI h x0 (y2 : Int32).toNatClampNeg y1))
def fJ7_fill_53178 (x0 : Nat) (x1 : Int32) (h : abJ) : Option abJ := fJ7_fill_53178_L5 x0 ab_N x1 0 ((Int32.ofNat (ab_ln x0))) h
set_option maxRecDepth 20000 in
theorem sJ7_fill_53178_L5_14 (d : Nat) (X : abX)   : ∀ (n : Nat), ∀ (y1 : Int32) (y2 : Int32) (y3 : Int32) (h : abJ) (z : abJ), fJ7_fill_53178_L5 14 n y1 y2 y3 h = some z → ab_Ex X (d + 0) 317 5 [(0, .ref 14), (1, .int y1), (2, .int y2), (3, .int y3)] [] ab_SH (ab_dD h) (fun r => r = (none, ab_SH, ab_dD z)) := by
  intro n
  induction n with
  | zero => intro y1 y2 y3 h z hf; cases hf
  | succ n ih =>
    intro y1 y2 y3 h z hf
    rw [fJ7_fill_53178_L5] at hf
    try simp only [Nat.reduceAdd] at hf
    refine ab_Ex.blk (k := 2) (pc' := 7) (lv' := [(0, .ref 14), (1, .int y1), (2, .int y2), (3, .int y3)]) (st' := [.int y3, .int y2]) (sh' := ab_SH) (D' := ab_dD h) (fun n => rfl) ?_
    refine ab_Ex.ifc (c := y3 ≤ y2) (SA := (20, [(0, .ref 14), (1, .int y1), (2, .int y2), (3, .int y3)], [], ab_dD h)) (SB := (10, [(0, .ref 14), (1, .int y1), (2, .int y2), (3, .int y3)], [], ab_dD h)) (fun n => rfl) (fun c1 => ?_) (fun c1 => ?_)
    · replace hf := (if_pos c1).symm.trans hf
      obtain rfl := Option.some.inj hf
      exact ab_Ex.ret (fun n => rfl) rfl
    · replace hf := (if_neg c1).symm.trans hf
      refine ab_Ex.blk (k := 3) (pc' := 13) (lv' := [(0, .ref 14), (1, .int y1), (2, .int y2), (3, .int y3)]) (st' := [.int y1, .int y2, .ref 14]) (sh' := ab_SH) (D' := ab_dD h) (fun n => rfl) ?_
      obtain ⟨c2, hf⟩ := ab_ask_s hf
      refine ab_Ex.grd (c := y2 < 0 ∨ 180 ≤ (y2 : Int32).toNatClampNeg) (S := (14, [(0, .ref 14), (1, .int y1), (2, .int y2), (3, .int y3)], [], ab_dD (ab_wI h 14 (y2 : Int32).toNatClampNeg y1))) (fun n => rfl) c2 ?_
      refine ab_Ex.blk (k := 2) (pc' := 5) (lv' := [(0, .ref 14), (1, .int y1), (2, .int ((y2 + 1))), (3, .int y3)]) (st' := []) (sh' := ab_SH) (D' := ab_dD (ab_wI h 14 (y2 : Int32).toNatClampNeg y1)) (fun n => rfl) ?_
      exact ih y1 ((y2 + 1)) y3 (ab_wI h 14 (y2 : Int32).toNatClampNeg y1) _ hf
set_option maxRecDepth 20000 in
theorem sJ7_fill_53178_14 (d : Nat) (X : abX) (x1 : Int32) (h : abJ) (z : abJ) (hf : fJ7_fill_53178 14 x1 h = some z) : ab_Ex X (d + 0) 317 0 [(0, .ref 14), (1, .int x1)] [] ab_SH (ab_dD h) (fun r => r = (none, ab_SH, ab_dD z)) := by
  unfold fJ7_fill_53178 at hf
  try simp only [Nat.reduceAdd] at hf
  refine ab_Ex.blk (k := 5) (pc' := 5) (lv' := [(0, .ref 14), (1, .int x1), (2, .int 0), (3, .int ((Int32.ofNat 180)))]) (st' := []) (sh' := ab_SH) (D' := ab_dD h) (fun n => rfl) ?_
  exact sJ7_fill_53178_L5_14 d X  ab_N x1 0 ((Int32.ofNat 180)) h _ hf
set_option maxRecDepth 20000 in
theorem sJ7_fill_53178_L5_38 (d : Nat) (X : abX)   : ∀ (n : Nat), ∀ (y1 : Int32) (y2 : Int32) (y3 : Int32) (h : abJ) (z : abJ), fJ7_fill_53178_L5 38 n y1 y2 y3 h = some z → ab_Ex X (d + 0) 317 5 [(0, .ref 38), (1, .int y1), (2, .int y2), (3, .int y3)] [] ab_SH (ab_dD h) (fun r => r = (none, ab_SH, ab_dD z)) := by
  intro n
  induction n with
  | zero => intro y1 y2 y3 h z hf; cases hf
  | succ n ih =>
    intro y1 y2 y3 h z hf
    rw [fJ7_fill_53178_L5] at hf
    try simp only [Nat.reduceAdd] at hf
    refine ab_Ex.blk (k := 2) (pc' := 7) (lv' := [(0, .ref 38), (1, .int y1), (2, .int y2), (3, .int y3)]) (st' := [.int y3, .int y2]) (sh' := ab_SH) (D' := ab_dD h) (fun n => rfl) ?_
    refine ab_Ex.ifc (c := y3 ≤ y2) (SA := (20, [(0, .ref 38), (1, .int y1), (2, .int y2), (3, .int y3)], [], ab_dD h)) (SB := (10, [(0, .ref 38), (1, .int y1), (2, .int y2), (3, .int y3)], [], ab_dD h)) (fun n => rfl) (fun c1 => ?_) (fun c1 => ?_)
    · replace hf := (if_pos c1).symm.trans hf
      obtain rfl := Option.some.inj hf
      exact ab_Ex.ret (fun n => rfl) rfl
    · replace hf := (if_neg c1).symm.trans hf
      refine ab_Ex.blk (k := 3) (pc' := 13) (lv' := [(0, .ref 38), (1, .int y1), (2, .int y2), (3, .int y3)]) (st' := [.int y1, .int y2, .ref 38]) (sh' := ab_SH) (D' := ab_dD h) (fun n => rfl) ?_
      obtain ⟨c2, hf⟩ := ab_ask_s hf
      refine ab_Ex.grd (c := y2 < 0 ∨ 18 ≤ (y2 : Int32).toNatClampNeg) (S := (14, [(0, .ref 38), (1, .int y1), (2, .int y2), (3, .int y3)], [], ab_dD (ab_wI h 38 (y2 : Int32).toNatClampNeg y1))) (fun n => rfl) c2 ?_
      refine ab_Ex.blk (k := 2) (pc' := 5) (lv' := [(0, .ref 38), (1, .int y1), (2, .int ((y2 + 1))), (3, .int y3)]) (st' := []) (sh' := ab_SH) (D' := ab_dD (ab_wI h 38 (y2 : Int32).toNatClampNeg y1)) (fun n => rfl) ?_
      exact ih y1 ((y2 + 1)) y3 (ab_wI h 38 (y2 : Int32).toNatClampNeg y1) _ hf
set_option maxRecDepth 20000 in
theorem sJ7_fill_53178_38 (d : Nat) (X : abX) (x1 : Int32) (h : abJ) (z : abJ) (hf : fJ7_fill_53178 38 x1 h = some z) : ab_Ex X (d + 0) 317 0 [(0, .ref 38), (1, .int x1)] [] ab_SH (ab_dD h) (fun r => r = (none, ab_SH, ab_dD z)) := by
  unfold fJ7_fill_53178 at hf
  try simp only [Nat.reduceAdd] at hf
  refine ab_Ex.blk (k := 5) (pc' := 5) (lv' := [(0, .ref 38), (1, .int x1), (2, .int 0), (3, .int ((Int32.ofNat 18)))]) (st' := []) (sh' := ab_SH) (D' := ab_dD h) (fun n => rfl) ?_
  exact sJ7_fill_53178_L5_38 d X  ab_N x1 0 ((Int32.ofNat 18)) h _ hf
set_option maxRecDepth 20000 in
theorem sJ7_fill_53178_L5_34 (d : Nat) (X : abX)   : ∀ (n : Nat), ∀ (y1 : Int32) (y2 : Int32) (y3 : Int32) (h : abJ) (z : abJ), fJ7_fill_53178_L5 34 n y1 y2 y3 h = some z → ab_Ex X (d + 0) 317 5 [(0, .ref 34), (1, .int y1), (2, .int y2), (3, .int y3)] [] ab_SH (ab_dD h) (fun r => r = (none, ab_SH, ab_dD z)) := by
  intro n
  induction n with
  | zero => intro y1 y2 y3 h z hf; cases hf
  | succ n ih =>
    intro y1 y2 y3 h z hf
    rw [fJ7_fill_53178_L5] at hf
    try simp only [Nat.reduceAdd] at hf
    refine ab_Ex.blk (k := 2) (pc' := 7) (lv' := [(0, .ref 34), (1, .int y1), (2, .int y2), (3, .int y3)]) (st' := [.int y3, .int y2]) (sh' := ab_SH) (D' := ab_dD h) (fun n => rfl) ?_
    refine ab_Ex.ifc (c := y3 ≤ y2) (SA := (20, [(0, .ref 34), (1, .int y1), (2, .int y2), (3, .int y3)], [], ab_dD h)) (SB := (10, [(0, .ref 34), (1, .int y1), (2, .int y2), (3, .int y3)], [], ab_dD h)) (fun n => rfl) (fun c1 => ?_) (fun c1 => ?_)
    · replace hf := (if_pos c1).symm.trans hf
      obtain rfl := Option.some.inj hf
      exact ab_Ex.ret (fun n => rfl) rfl
    · replace hf := (if_neg c1).symm.trans hf
      refine ab_Ex.blk (k := 3) (pc' := 13) (lv' := [(0, .ref 34), (1, .int y1), (2, .int y2), (3, .int y3)]) (st' := [.int y1, .int y2, .ref 34]) (sh' := ab_SH) (D' := ab_dD h) (fun n => rfl) ?_
      obtain ⟨c2, hf⟩ := ab_ask_s hf
      refine ab_Ex.grd (c := y2 < 0 ∨ 729 ≤ (y2 : Int32).toNatClampNeg) (S := (14, [(0, .ref 34), (1, .int y1), (2, .int y2), (3, .int y3)], [], ab_dD (ab_wI h 34 (y2 : Int32).toNatClampNeg y1))) (fun n => rfl) c2 ?_
      refine ab_Ex.blk (k := 2) (pc' := 5) (lv' := [(0, .ref 34), (1, .int y1), (2, .int ((y2 + 1))), (3, .int y3)]) (st' := []) (sh' := ab_SH) (D' := ab_dD (ab_wI h 34 (y2 : Int32).toNatClampNeg y1)) (fun n => rfl) ?_
      exact ih y1 ((y2 + 1)) y3 (ab_wI h 34 (y2 : Int32).toNatClampNeg y1) _ hf
set_option maxRecDepth 20000 in
theorem sJ7_fill_53178_34 (d : Nat) (X : abX) (x1 : Int32) (h : abJ) (z : abJ) (hf : fJ7_fill_53178 34 x1 h = some z) : ab_Ex X (d + 0) 317 0 [(0, .ref 34), (1, .int x1)] [] ab_SH (ab_dD h) (fun r => r = (none, ab_SH, ab_dD z)) := by
  unfold fJ7_fill_53178 at hf
  try simp only [Nat.reduceAdd] at hf
  refine ab_Ex.blk (k := 5) (pc' := 5) (lv' := [(0, .ref 34), (1, .int x1), (2, .int 0), (3, .int ((Int32.ofNat 729)))]) (st' := []) (sh' := ab_SH) (D' := ab_dD h) (fun n => rfl) ?_
  exact sJ7_fill_53178_L5_34 d X  ab_N x1 0 ((Int32.ofNat 729)) h _ hf
set_option maxRecDepth 20000 in
theorem sJ7_fill_53178_L5_6 (d : Nat) (X : abX)   : ∀ (n : Nat), ∀ (y1 : Int32) (y2 : Int32) (y3 : Int32) (h : abJ) (z : abJ), fJ7_fill_53178_L5 6 n y1 y2 y3 h = some z → ab_Ex X (d + 0) 317 5 [(0, .ref 6), (1, .int y1), (2, .int y2), (3, .int y3)] [] ab_SH (ab_dD h) (fun r => r = (none, ab_SH, ab_dD z)) := by
  intro n
  induction n with
  | zero => intro y1 y2 y3 h z hf; cases hf
  | succ n ih =>
    intro y1 y2 y3 h z hf
    rw [fJ7_fill_53178_L5] at hf
    try simp only [Nat.reduceAdd] at hf
    refine ab_Ex.blk (k := 2) (pc' := 7) (lv' := [(0, .ref 6), (1, .int y1), (2, .int y2), (3, .int y3)]) (st' := [.int y3, .int y2]) (sh' := ab_SH) (D' := ab_dD h) (fun n => rfl) ?_
    refine ab_Ex.ifc (c := y3 ≤ y2) (SA := (20, [(0, .ref 6), (1, .int y1), (2, .int y2), (3, .int y3)], [], ab_dD h)) (SB := (10, [(0, .ref 6), (1, .int y1), (2, .int y2), (3, .int y3)], [], ab_dD h)) (fun n => rfl) (fun c1 => ?_) (fun c1 => ?_)
    · replace hf := (if_pos c1).symm.trans hf
      obtain rfl := Option.some.inj hf
      exact ab_Ex.ret (fun n => rfl) rfl
    · replace hf := (if_neg c1).symm.trans hf
      refine ab_Ex.blk (k := 3) (pc' := 13) (lv' := [(0, .ref 6), (1, .int y1), (2, .int y2), (3, .int y3)]) (st' := [.int y1, .int y2, .ref 6]) (sh' := ab_SH) (D' := ab_dD h) (fun n => rfl) ?_
      obtain ⟨c2, hf⟩ := ab_ask_s hf
      refine ab_Ex.grd (c := y2 < 0 ∨ 6 ≤ (y2 : Int32).toNatClampNeg) (S := (14, [(0, .ref 6), (1, .int y1), (2, .int y2), (3, .int y3)], [], ab_dD (ab_wI h 6 (y2 : Int32).toNatClampNeg y1))) (fun n => rfl) c2 ?_
      refine ab_Ex.blk (k := 2) (pc' := 5) (lv' := [(0, .ref 6), (1, .int y1), (2, .int ((y2 + 1))), (3, .int y3)]) (st' := []) (sh' := ab_SH) (D' := ab_dD (ab_wI h 6 (y2 : Int32).toNatClampNeg y1)) (fun n => rfl) ?_
      exact ih y1 ((y2 + 1)) y3 (ab_wI h 6 (y2 : Int32).toNatClampNeg y1) _ hf
set_option maxRecDepth 20000 in
theorem sJ7_fill_53178_6 (d : Nat) (X : abX) (x1 : Int32) (h : abJ) (z : abJ) (hf : fJ7_fill_53178 6 x1 h = some z) : ab_Ex X (d + 0) 317 0 [(0, .ref 6), (1, .int x1)] [] ab_SH (ab_dD h) (fun r => r = (none, ab_SH, ab_dD z)) := by
  unfold fJ7_fill_53178 at hf
  try simp only [Nat.reduceAdd] at hf
  refine ab_Ex.blk (k := 5) (pc' := 5) (lv' := [(0, .ref 6), (1, .int x1), (2, .int 0), (3, .int ((Int32.ofNat 6)))]) (st' := []) (sh' := ab_SH) (D' := ab_dD h) (fun n => rfl) ?_
  exact sJ7_fill_53178_L5_6 d X  ab_N x1 0 ((Int32.ofNat 6)) h _ hf
def fX2_countHits_J142  (k36 : Int32 → Int32 → Int32 → Int32 → Int32 → Int32 → abJ → Option (Int32 × abJ)) (y2 : Int32) (y4 : Int32) (y5 : Int32) (y6 : Int32) (y7 : Int32) (y8 : Int32) (h : abJ) : Option (Int32 × abJ) := ab_ask (y6 < 0 ∨ 729 ≤ (y6 : Int32).toNatClampNeg) (k36 y2 y4 y5 (((h.1 34 (y6 : Int32).toNatClampNeg) / 6)) y7 ((y8 + 1)) h)
def fX2_countHits_J125  (k36 : Int32 → Int32 → Int32 → Int32 → Int32 → Int32 → abJ → Option (Int32 × abJ)) (y2 : Int32) (y4 : Int32) (y5 : Int32) (y6 : Int32) (y7 : Int32) (y8 : Int32) (h : abJ) : Option (Int32 × abJ) := ab_ask (y6 < 0 ∨ 729 ≤ (y6 : Int32).toNatClampNeg) (if ((h.1 34 (y6 : Int32).toNatClampNeg) - (h.1 34 (y6 : Int32).toNatClampNeg) / 6 * 6) = y2 then fX2_countHits_J142 k36 y2 y4 y5 y6 ((y7 + 1)) y8 h else fX2_countHits_J142 k36 y2 y4 y5 y6 y7 y8 h)
def fX2_countHits_L36   : Nat → Int32 → Int32 → Int32 → Int32 → Int32 → Int32 → abJ → Option (Int32 × abJ)
  | 0, _, _, _, _, _, _, _ => none
  | n + 1, y2, y4, y5, y6, y7, y8, h => if y4 ≤ y8 then some (y7, h) else if y6 < 0 then some (y7, h) else if 729 ≤ y6 then some (y7, h) else ab_ask (y6 < 0 ∨ 729 ≤ (y6 : Int32).toNatClampNeg) (if (h.1 34 (y6 : Int32).toNatClampNeg) = (-1) then (fX2_stepsOut ((h.1 12 2)) (((y6 * 6) + (h.1 12 0))) y5 h).bind (fun r8 => if r8 = (-1) then some ((-5), h) else (fX2_standAfter ((h.1 12 2)) (((y6 * 6) + (h.1 12 0))) r8 h).bind (fun r10 => ab_ask (y6 < 0 ∨ 729 ≤ (y6 : Int32).toNatClampNeg) (fX2_countHits_J125 (fun y2 y4 y5 y6 y7 y8 h => fX2_countHits_L36 n y2 y4 y5 y6 y7 y8 h) y2 y4 y5 y6 y7 y8 (ab_wI h 34 (y6 : Int32).toNatClampNeg r10)))) else fX2_countHits_J125 (fun y2 y4 y5 y6 y7 y8 h => fX2_countHits_L36 n y2 y4 y5 y6 y7 y8 h) y2 y4 y5 y6 y7 y8 h)
def fX2_countHits (x1 : Int32) (x2 : Int32) (x3 : Int32) (h : abJ) : Option (Int32 × abJ) := (fJ7_fill_53178 34 ((-1)) h).bind (fun r1 => fX2_countHits_L36 ab_N x1 x3 (((63 &&& (((1 : Int32) <<< (x1 &&& 31)) ^^^ (-1))) &&& (((1 : Int32) <<< (x2 &&& 31)) ^^^ (-1)))) (((r1).1 12 1)) 0 0 r1)
set_option maxRecDepth 20000 in
theorem sX2_countHits_J142 (d : Nat) (X : abX) (k36 : Int32 → Int32 → Int32 → Int32 → Int32 → Int32 → abJ → Option (Int32 × abJ)) (hk36 : ∀ (y2 : Int32) (y4 : Int32) (y5 : Int32) (y6 : Int32) (y7 : Int32) (y8 : Int32) (h : abJ) (z : (Int32 × abJ)), k36 y2 y4 y5 y6 y7 y8 h = some z → ab_Ex X (d + 4) 30 36 [(0, .ref 32), (1, .ref 12), (2, .int y2), (4, .int y4), (5, .int y5), (6, .int y6), (7, .int y7), (8, .int y8)] [] ab_SH (ab_dD h) (fun r => r = (some (.int z.1), ab_SH, ab_dD z.2))) : ∀ (y2 : Int32) (y4 : Int32) (y5 : Int32) (y6 : Int32) (y7 : Int32) (y8 : Int32) (h : abJ) (z : (Int32 × abJ)), fX2_countHits_J142 k36 y2 y4 y5 y6 y7 y8 h = some z → ab_Ex X (d + 4) 30 142 [(0, .ref 32), (1, .ref 12), (2, .int y2), (4, .int y4), (5, .int y5), (6, .int y6), (7, .int y7), (8, .int y8)] [] ab_SH (ab_dD h) (fun r => r = (some (.int z.1), ab_SH, ab_dD z.2)) := by
  intro y2 y4 y5 y6 y7 y8 h z hf
  unfold fX2_countHits_J142 at hf
  refine ab_Ex.blk (k := 3) (pc' := 148) (lv' := [(0, .ref 32), (1, .ref 12), (2, .int y2), (4, .int y4), (5, .int y5), (6, .int y6), (7, .int y7), (8, .int y8)]) (st' := [.int y6, .ref 34]) (sh' := ab_SH) (D' := ab_dD h) (fun n => rfl) ?_
  obtain ⟨c16, hf⟩ := ab_ask_s hf
  refine ab_Ex.grd (c := y6 < 0 ∨ 729 ≤ (y6 : Int32).toNatClampNeg) (S := (149, [(0, .ref 32), (1, .ref 12), (2, .int y2), (4, .int y4), (5, .int y5), (6, .int y6), (7, .int y7), (8, .int y8)], [.int ((h.1 34 (y6 : Int32).toNatClampNeg))], ab_dD h)) (fun n => rfl) c16 ?_
  refine ab_Ex.blk (k := 1) (pc' := 151) (lv' := [(0, .ref 32), (1, .ref 12), (2, .int y2), (4, .int y4), (5, .int y5), (6, .int y6), (7, .int y7), (8, .int y8)]) (st' := [.int 6, .int ((h.1 34 (y6 : Int32).toNatClampNeg))]) (sh' := ab_SH) (D' := ab_dD h) (fun n => rfl) ?_
  refine ab_Ex.blk (k := 1) (pc' := 152) (lv' := [(0, .ref 32), (1, .ref 12), (2, .int y2), (4, .int y4), (5, .int y5), (6, .int y6), (7, .int y7), (8, .int y8)]) (st' := [.int (((h.1 34 (y6 : Int32).toNatClampNeg) / 6))]) (sh' := ab_SH) (D' := ab_dD h) (fun n => rfl) ?_
  refine ab_Ex.blk (k := 3) (pc' := 36) (lv' := [(0, .ref 32), (1, .ref 12), (2, .int y2), (4, .int y4), (5, .int y5), (6, .int (((h.1 34 (y6 : Int32).toNatClampNeg) / 6))), (7, .int y7), (8, .int ((y8 + 1)))]) (st' := []) (sh' := ab_SH) (D' := ab_dD h) (fun n => rfl) ?_
  exact hk36 y2 y4 y5 (((h.1 34 (y6 : Int32).toNatClampNeg) / 6)) y7 ((y8 + 1)) h _ hf
set_option maxRecDepth 20000 in
theorem sX2_countHits_J125 (d : Nat) (X : abX) (k36 : Int32 → Int32 → Int32 → Int32 → Int32 → Int32 → abJ → Option (Int32 × abJ)) (hk36 : ∀ (y2 : Int32) (y4 : Int32) (y5 : Int32) (y6 : Int32) (y7 : Int32) (y8 : Int32) (h : abJ) (z : (Int32 × abJ)), k36 y2 y4 y5 y6 y7 y8 h = some z → ab_Ex X (d + 4) 30 36 [(0, .ref 32), (1, .ref 12), (2, .int y2), (4, .int y4), (5, .int y5), (6, .int y6), (7, .int y7), (8, .int y8)] [] ab_SH (ab_dD h) (fun r => r = (some (.int z.1), ab_SH, ab_dD z.2))) : ∀ (y2 : Int32) (y4 : Int32) (y5 : Int32) (y6 : Int32) (y7 : Int32) (y8 : Int32) (h : abJ) (z : (Int32 × abJ)), fX2_countHits_J125 k36 y2 y4 y5 y6 y7 y8 h = some z → ab_Ex X (d + 4) 30 125 [(0, .ref 32), (1, .ref 12), (2, .int y2), (4, .int y4), (5, .int y5), (6, .int y6), (7, .int y7), (8, .int y8)] [] ab_SH (ab_dD h) (fun r => r = (some (.int z.1), ab_SH, ab_dD z.2)) := by
  intro y2 y4 y5 y6 y7 y8 h z hf
  unfold fX2_countHits_J125 at hf
  refine ab_Ex.blk (k := 3) (pc' := 131) (lv' := [(0, .ref 32), (1, .ref 12), (2, .int y2), (4, .int y4), (5, .int y5), (6, .int y6), (7, .int y7), (8, .int y8)]) (st' := [.int y6, .ref 34]) (sh' := ab_SH) (D' := ab_dD h) (fun n => rfl) ?_
  obtain ⟨c13, hf⟩ := ab_ask_s hf
  refine ab_Ex.grd (c := y6 < 0 ∨ 729 ≤ (y6 : Int32).toNatClampNeg) (S := (132, [(0, .ref 32), (1, .ref 12), (2, .int y2), (4, .int y4), (5, .int y5), (6, .int y6), (7, .int y7), (8, .int y8)], [.int ((h.1 34 (y6 : Int32).toNatClampNeg))], ab_dD h)) (fun n => rfl) c13 ?_
  refine ab_Ex.blk (k := 1) (pc' := 134) (lv' := [(0, .ref 32), (1, .ref 12), (2, .int y2), (4, .int y4), (5, .int y5), (6, .int y6), (7, .int y7), (8, .int y8)]) (st' := [.int 6, .int ((h.1 34 (y6 : Int32).toNatClampNeg))]) (sh' := ab_SH) (D' := ab_dD h) (fun n => rfl) ?_
  refine ab_Ex.blk (k := 1) (pc' := 135) (lv' := [(0, .ref 32), (1, .ref 12), (2, .int y2), (4, .int y4), (5, .int y5), (6, .int y6), (7, .int y7), (8, .int y8)]) (st' := [.int (((h.1 34 (y6 : Int32).toNatClampNeg) - (h.1 34 (y6 : Int32).toNatClampNeg) / 6 * 6))]) (sh' := ab_SH) (D' := ab_dD h) (fun n => rfl) ?_
  refine ab_Ex.blk (k := 1) (pc' := 136) (lv' := [(0, .ref 32), (1, .ref 12), (2, .int y2), (4, .int y4), (5, .int y5), (6, .int y6), (7, .int y7), (8, .int y8)]) (st' := [.int y2, .int (((h.1 34 (y6 : Int32).toNatClampNeg) - (h.1 34 (y6 : Int32).toNatClampNeg) / 6 * 6))]) (sh' := ab_SH) (D' := ab_dD h) (fun n => rfl) ?_
  refine ab_Ex.ifc (c := ((h.1 34 (y6 : Int32).toNatClampNeg) - (h.1 34 (y6 : Int32).toNatClampNeg) / 6 * 6) = y2) (SA := (139, [(0, .ref 32), (1, .ref 12), (2, .int y2), (4, .int y4), (5, .int y5), (6, .int y6), (7, .int y7), (8, .int y8)], [], ab_dD h)) (SB := (142, [(0, .ref 32), (1, .ref 12), (2, .int y2), (4, .int y4), (5, .int y5), (6, .int y6), (7, .int y7), (8, .int y8)], [], ab_dD h)) (fun n => rfl) (fun c14 => ?_) (fun c14 => ?_)
  · replace hf := (if_pos c14).symm.trans hf
    refine ab_Ex.blk (k := 1) (pc' := 142) (lv' := [(0, .ref 32), (1, .ref 12), (2, .int y2), (4, .int y4), (5, .int y5), (6, .int y6), (7, .int ((y7 + 1))), (8, .int y8)]) (st' := []) (sh' := ab_SH) (D' := ab_dD h) (fun n => rfl) ?_
    exact sX2_countHits_J142 d X k36 hk36 y2 y4 y5 y6 ((y7 + 1)) y8 h _ hf
  · replace hf := (if_neg c14).symm.trans hf
    exact sX2_countHits_J142 d X k36 hk36 y2 y4 y5 y6 y7 y8 h _ hf
set_option maxRecDepth 20000 in
theorem sX2_countHits_L36 (d : Nat) (X : abX)   : ∀ (n : Nat), ∀ (y2 : Int32) (y4 : Int32) (y5 : Int32) (y6 : Int32) (y7 : Int32) (y8 : Int32) (h : abJ) (z : (Int32 × abJ)), fX2_countHits_L36 n y2 y4 y5 y6 y7 y8 h = some z → ab_Ex X (d + 4) 30 36 [(0, .ref 32), (1, .ref 12), (2, .int y2), (4, .int y4), (5, .int y5), (6, .int y6), (7, .int y7), (8, .int y8)] [] ab_SH (ab_dD h) (fun r => r = (some (.int z.1), ab_SH, ab_dD z.2)) := by
  intro n
  induction n with
  | zero => intro y2 y4 y5 y6 y7 y8 h z hf; cases hf
  | succ n ih =>
    intro y2 y4 y5 y6 y7 y8 h z hf
    rw [fX2_countHits_L36] at hf
    refine ab_Ex.blk (k := 2) (pc' := 40) (lv' := [(0, .ref 32), (1, .ref 12), (2, .int y2), (4, .int y4), (5, .int y5), (6, .int y6), (7, .int y7), (8, .int y8)]) (st' := [.int y4, .int y8]) (sh' := ab_SH) (D' := ab_dD h) (fun n => rfl) ?_
    refine ab_Ex.ifc (c := y4 ≤ y8) (SA := (160, [(0, .ref 32), (1, .ref 12), (2, .int y2), (4, .int y4), (5, .int y5), (6, .int y6), (7, .int y7), (8, .int y8)], [], ab_dD h)) (SB := (43, [(0, .ref 32), (1, .ref 12), (2, .int y2), (4, .int y4), (5, .int y5), (6, .int y6), (7, .int y7), (8, .int y8)], [], ab_dD h)) (fun n => rfl) (fun c2 => ?_) (fun c2 => ?_)
    · replace hf := (if_pos c2).symm.trans hf
      refine ab_Ex.blk (k := 1) (pc' := 162) (lv' := [(7, .int y7)]) (st' := [.int y7]) (sh' := ab_SH) (D' := ab_dD h) (fun n => rfl) ?_
      obtain rfl := Option.some.inj hf
      exact ab_Ex.ret (fun n => rfl) rfl
    · replace hf := (if_neg c2).symm.trans hf
      refine ab_Ex.blk (k := 1) (pc' := 45) (lv' := [(0, .ref 32), (1, .ref 12), (2, .int y2), (4, .int y4), (5, .int y5), (6, .int y6), (7, .int y7), (8, .int y8)]) (st' := [.int y6]) (sh' := ab_SH) (D' := ab_dD h) (fun n => rfl) ?_
      refine ab_Ex.ifc (c := y6 < 0) (SA := (160, [(0, .ref 32), (1, .ref 12), (2, .int y2), (4, .int y4), (5, .int y5), (6, .int y6), (7, .int y7), (8, .int y8)], [], ab_dD h)) (SB := (48, [(0, .ref 32), (1, .ref 12), (2, .int y2), (4, .int y4), (5, .int y5), (6, .int y6), (7, .int y7), (8, .int y8)], [], ab_dD h)) (fun n => rfl) (fun c3 => ?_) (fun c3 => ?_)
      · replace hf := (if_pos c3).symm.trans hf
        refine ab_Ex.blk (k := 1) (pc' := 162) (lv' := [(7, .int y7)]) (st' := [.int y7]) (sh' := ab_SH) (D' := ab_dD h) (fun n => rfl) ?_
        obtain rfl := Option.some.inj hf
        exact ab_Ex.ret (fun n => rfl) rfl
      · replace hf := (if_neg c3).symm.trans hf
        refine ab_Ex.blk (k := 2) (pc' := 53) (lv' := [(0, .ref 32), (1, .ref 12), (2, .int y2), (4, .int y4), (5, .int y5), (6, .int y6), (7, .int y7), (8, .int y8)]) (st' := [.int 729, .int y6]) (sh' := ab_SH) (D' := ab_dD h) (fun n => rfl) ?_
        refine ab_Ex.ifc (c := 729 ≤ y6) (SA := (160, [(0, .ref 32), (1, .ref 12), (2, .int y2), (4, .int y4), (5, .int y5), (6, .int y6), (7, .int y7), (8, .int y8)], [], ab_dD h)) (SB := (56, [(0, .ref 32), (1, .ref 12), (2, .int y2), (4, .int y4), (5, .int y5), (6, .int y6), (7, .int y7), (8, .int y8)], [], ab_dD h)) (fun n => rfl) (fun c4 => ?_) (fun c4 => ?_)
        · replace hf := (if_pos c4).symm.trans hf
          refine ab_Ex.blk (k := 1) (pc' := 162) (lv' := [(7, .int y7)]) (st' := [.int y7]) (sh' := ab_SH) (D' := ab_dD h) (fun n => rfl) ?_
          obtain rfl := Option.some.inj hf
          exact ab_Ex.ret (fun n => rfl) rfl
        · replace hf := (if_neg c4).symm.trans hf
          refine ab_Ex.blk (k := 3) (pc' := 62) (lv' := [(0, .ref 32), (1, .ref 12), (2, .int y2), (4, .int y4), (5, .int y5), (6, .int y6), (7, .int y7), (8, .int y8)]) (st' := [.int y6, .ref 34]) (sh' := ab_SH) (D' := ab_dD h) (fun n => rfl) ?_
          obtain ⟨c6, hf⟩ := ab_ask_s hf
          refine ab_Ex.grd (c := y6 < 0 ∨ 729 ≤ (y6 : Int32).toNatClampNeg) (S := (63, [(0, .ref 32), (1, .ref 12), (2, .int y2), (4, .int y4), (5, .int y5), (6, .int y6), (7, .int y7), (8, .int y8)], [.int ((h.1 34 (y6 : Int32).toNatClampNeg))], ab_dD h)) (fun n => rfl) c6 ?_
          refine ab_Ex.blk (k := 1) (pc' := 64) (lv' := [(0, .ref 32), (1, .ref 12), (2, .int y2), (4, .int y4), (5, .int y5), (6, .int y6), (7, .int y7), (8, .int y8)]) (st' := [.int ((-1)), .int ((h.1 34 (y6 : Int32).toNatClampNeg))]) (sh' := ab_SH) (D' := ab_dD h) (fun n => rfl) ?_
          refine ab_Ex.ifc (c := (h.1 34 (y6 : Int32).toNatClampNeg) = (-1)) (SA := (67, [(0, .ref 32), (1, .ref 12), (2, .int y2), (4, .int y4), (5, .int y5), (6, .int y6), (7, .int y7), (8, .int y8)], [], ab_dD h)) (SB := (125, [(0, .ref 32), (1, .ref 12), (2, .int y2), (4, .int y4), (5, .int y5), (6, .int y6), (7, .int y7), (8, .int y8)], [], ab_dD h)) (fun n => rfl) (fun c7 => ?_) (fun c7 => ?_)
          · replace hf := (if_pos c7).symm.trans hf
            refine ab_Ex.blk (k := 10) (pc' := 84) (lv' := [(0, .ref 32), (1, .ref 12), (2, .int y2), (4, .int y4), (5, .int y5), (6, .int y6), (7, .int y7), (8, .int y8)]) (st' := [.int y5, .int (((y6 * 6) + (h.1 12 0))), .int ((h.1 12 2)), .ref 32]) (sh' := ab_SH) (D' := ab_dD h) (fun n => rfl) ?_
            obtain ⟨r8, hr8, hf⟩ := ab_bind_s hf
            refine ab_Ex.call (d := d + 3) (M2 := 28) (as := [.ref 32, .int ((h.1 12 2)), .int (((y6 * 6) + (h.1 12 0))), .int y5]) (rest := []) (fun n => rfl) rfl (Nat.not_lt.mpr (Nat.le_of_ble_eq_true rfl)) (sX2_stepsOut (d) X ((h.1 12 2)) (((y6 * 6) + (h.1 12 0))) y5 h _ hr8) (fun r hr => ?_)
            subst hr
            show ab_Ex X (d + 4) 30 87 [(0, .ref 32), (1, .ref 12), (2, .int y2), (4, .int y4), (5, .int y5), (6, .int y6), (7, .int y7), (8, .int y8)] [.int r8] ab_SH (ab_dD h) _
            refine ab_Ex.blk (k := 3) (pc' := 92) (lv' := [(9, .int r8), (0, .ref 32), (1, .ref 12), (2, .int y2), (4, .int y4), (5, .int y5), (6, .int y6), (7, .int y7), (8, .int y8)]) (st' := [.int ((-1)), .int r8]) (sh' := ab_SH) (D' := ab_dD h) (fun n => rfl) ?_
            refine ab_Ex.ifc (c := r8 = (-1)) (SA := (95, [(9, .int r8), (0, .ref 32), (1, .ref 12), (2, .int y2), (4, .int y4), (5, .int y5), (6, .int y6), (7, .int y7), (8, .int y8)], [], ab_dD h)) (SB := (98, [(9, .int r8), (0, .ref 32), (1, .ref 12), (2, .int y2), (4, .int y4), (5, .int y5), (6, .int y6), (7, .int y7), (8, .int y8)], [], ab_dD h)) (fun n => rfl) (fun c9 => ?_) (fun c9 => ?_)
            · replace hf := (if_pos c9).symm.trans hf
              refine ab_Ex.blk (k := 1) (pc' := 97) (lv' := [(9, .int r8), (0, .ref 32), (1, .ref 12), (2, .int y2), (4, .int y4), (5, .int y5), (6, .int y6), (7, .int y7), (8, .int y8)]) (st' := [.int ((-5))]) (sh' := ab_SH) (D' := ab_dD h) (fun n => rfl) ?_
              obtain rfl := Option.some.inj hf
              exact ab_Ex.ret (fun n => rfl) rfl
            · replace hf := (if_neg c9).symm.trans hf
              refine ab_Ex.blk (k := 13) (pc' := 121) (lv' := [(9, .int r8), (0, .ref 32), (1, .ref 12), (2, .int y2), (4, .int y4), (5, .int y5), (6, .int y6), (7, .int y7), (8, .int y8)]) (st' := [.int r8, .int (((y6 * 6) + (h.1 12 0))), .int ((h.1 12 2)), .ref 32, .int y6, .ref 34]) (sh' := ab_SH) (D' := ab_dD h) (fun n => rfl) ?_
              obtain ⟨r10, hr10, hf⟩ := ab_bind_s hf
              refine ab_Ex.call (d := d + 3) (M2 := 29) (as := [.ref 32, .int ((h.1 12 2)), .int (((y6 * 6) + (h.1 12 0))), .int r8]) (rest := [.int y6, .ref 34]) (fun n => rfl) rfl (Nat.not_lt.mpr (Nat.le_of_ble_eq_true rfl)) (sX2_standAfter (d) X ((h.1 12 2)) (((y6 * 6) + (h.1 12 0))) r8 h _ hr10) (fun r hr => ?_)
              subst hr
              show ab_Ex X (d + 4) 30 124 [(9, .int r8), (0, .ref 32), (1, .ref 12), (2, .int y2), (4, .int y4), (5, .int y5), (6, .int y6), (7, .int y7), (8, .int y8)] [.int r10, .int y6, .ref 34] ab_SH (ab_dD h) _
              obtain ⟨c11, hf⟩ := ab_ask_s hf
              refine ab_Ex.grd (c := y6 < 0 ∨ 729 ≤ (y6 : Int32).toNatClampNeg) (S := (125, [(9, .int r8), (0, .ref 32), (1, .ref 12), (2, .int y2), (4, .int y4), (5, .int y5), (6, .int y6), (7, .int y7), (8, .int y8)], [], ab_dD (ab_wI h 34 (y6 : Int32).toNatClampNeg r10))) (fun n => rfl) c11 ?_
              exact sX2_countHits_J125 d X (fun y2 y4 y5 y6 y7 y8 h => fX2_countHits_L36 n y2 y4 y5 y6 y7 y8 h) (fun y2 y4 y5 y6 y7 y8 h z hz => ih y2 y4 y5 y6 y7 y8 h z hz) y2 y4 y5 y6 y7 y8 (ab_wI h 34 (y6 : Int32).toNatClampNeg r10) _ hf
          · replace hf := (if_neg c7).symm.trans hf
            exact sX2_countHits_J125 d X (fun y2 y4 y5 y6 y7 y8 h => fX2_countHits_L36 n y2 y4 y5 y6 y7 y8 h) (fun y2 y4 y5 y6 y7 y8 h z hz => ih y2 y4 y5 y6 y7 y8 h z hz) y2 y4 y5 y6 y7 y8 h _ hf
set_option maxRecDepth 20000 in
theorem sX2_countHits (d : Nat) (X : abX) (x1 : Int32) (x2 : Int32) (x3 : Int32) (h : abJ) (z : (Int32 × abJ)) (hf : fX2_countHits x1 x2 x3 h = some z) : ab_Ex X (d + 4) 30 0 [(0, .ref 32), (1, .ref 12), (2, .int x1), (3, .int x2), (4, .int x3)] [] ab_SH (ab_dD h) (fun r => r = (some (.int z.1), ab_SH, ab_dD z.2)) := by
  unfold fX2_countHits at hf
  refine ab_Ex.blk (k := 3) (pc' := 5) (lv' := [(0, .ref 32), (1, .ref 12), (2, .int x1), (3, .int x2), (4, .int x3)]) (st' := [.int ((-1)), .ref 34]) (sh' := ab_SH) (D' := ab_dD h) (fun n => rfl) ?_
  obtain ⟨r1, hr1, hf⟩ := ab_bind_s hf
  refine ab_Ex.call (d := d + 3) (M2 := 317) (as := [.ref 34, .int ((-1))]) (rest := []) (fun n => rfl) rfl (Nat.not_lt.mpr (Nat.le_of_ble_eq_true rfl)) (sJ7_fill_53178_34 (d + 3) X ((-1)) h _ hr1) (fun r hr => ?_)
  subst hr
  show ab_Ex X (d + 4) 30 8 [(0, .ref 32), (1, .ref 12), (2, .int x1), (3, .int x2), (4, .int x3)] [] ab_SH (ab_dD r1) _
  refine ab_Ex.blk (k := 21) (pc' := 36) (lv' := [(0, .ref 32), (1, .ref 12), (2, .int x1), (4, .int x3), (5, .int (((63 &&& (((1 : Int32) <<< (x1 &&& 31)) ^^^ (-1))) &&& (((1 : Int32) <<< (x2 &&& 31)) ^^^ (-1))))), (6, .int (((r1).1 12 1))), (7, .int 0), (8, .int 0)]) (st' := []) (sh' := ab_SH) (D' := ab_dD r1) (fun n => rfl) ?_
  exact sX2_countHits_L36 d X  ab_N x1 x3 (((63 &&& (((1 : Int32) <<< (x1 &&& 31)) ^^^ (-1))) &&& (((1 : Int32) <<< (x2 &&& 31)) ^^^ (-1)))) (((r1).1 12 1)) 0 0 r1 _ hf
def fX3_clear  (h : abJ) : Option abJ := (fJ7_fill_53178 6 0 (ab_wI (ab_wI (ab_wI (ab_wI (ab_wI (ab_wI (ab_wI h 5 0 0) 5 1 0) 5 2 0) 5 3 0) 5 4 0) 5 5 0) 5 6 0)).bind (fun r1 => some r1)
set_option maxRecDepth 20000 in
theorem sX3_clear (d : Nat) (X : abX)  (h : abJ) (z : abJ) (hf : fX3_clear  h = some z) : ab_Ex X (d + 1) 32 0 [(0, .ref 5)] [] ab_SH (ab_dD h) (fun r => r = (none, ab_SH, ab_dD z)) := by
  unfold fX3_clear at hf
  refine ab_Ex.blk (k := 24) (pc' := 40) (lv' := [(0, .ref 5)]) (st' := [.int 0, .ref 6]) (sh' := ab_SH) (D' := ab_dD (ab_wI (ab_wI (ab_wI (ab_wI (ab_wI (ab_wI (ab_wI h 5 0 0) 5 1 0) 5 2 0) 5 3 0) 5 4 0) 5 5 0) 5 6 0)) (fun n => rfl) ?_
  obtain ⟨r1, hr1, hf⟩ := ab_bind_s hf
  refine ab_Ex.call (d := d + 0) (M2 := 317) (as := [.ref 6, .int 0]) (rest := []) (fun n => rfl) rfl (Nat.not_lt.mpr (Nat.le_of_ble_eq_true rfl)) (sJ7_fill_53178_6 (d) X 0 (ab_wI (ab_wI (ab_wI (ab_wI (ab_wI (ab_wI (ab_wI h 5 0 0) 5 1 0) 5 2 0) 5 3 0) 5 4 0) 5 5 0) 5 6 0) _ hr1) (fun r hr => ?_)
  subst hr
  show ab_Ex X (d + 1) 32 43 [(0, .ref 5)] [] ab_SH (ab_dD r1) _
  obtain rfl := Option.some.inj hf
  exact ab_Ex.ret (fun n => rfl) rfl
def fX3_copy (o : Nat) (x0 : Nat) (h : abJ) : Option abJ := some (ab_cp (ab_cp (ab_cp (ab_wI (ab_wI (ab_wI (ab_wI (ab_wI (ab_wI (ab_wI h o 0 (h.1 x0 0)) o 1 (((ab_wI h o 0 (h.1 x0 0))).1 x0 1)) o 2 (((ab_wI (ab_wI h o 0 (h.1 x0 0)) o 1 (((ab_wI h o 0 (h.1 x0 0))).1 x0 1))).1 x0 2)) o 3 (((ab_wI (ab_wI (ab_wI h o 0 (h.1 x0 0)) o 1 (((ab_wI h o 0 (h.1 x0 0))).1 x0 1)) o 2 (((ab_wI (ab_wI h o 0 (h.1 x0 0)) o 1 (((ab_wI h o 0 (h.1 x0 0))).1 x0 1))).1 x0 2))).1 x0 3)) o 4 (((ab_wI (ab_wI (ab_wI (ab_wI h o 0 (h.1 x0 0)) o 1 (((ab_wI h o 0 (h.1 x0 0))).1 x0 1)) o 2 (((ab_wI (ab_wI h o 0 (h.1 x0 0)) o 1 (((ab_wI h o 0 (h.1 x0 0))).1 x0 1))).1 x0 2)) o 3 (((ab_wI (ab_wI (ab_wI h o 0 (h.1 x0 0)) o 1 (((ab_wI h o 0 (h.1 x0 0))).1 x0 1)) o 2 (((ab_wI (ab_wI h o 0 (h.1 x0 0)) o 1 (((ab_wI h o 0 (h.1 x0 0))).1 x0 1))).1 x0 2))).1 x0 3))).1 x0 4)) o 5 (((ab_wI (ab_wI (ab_wI (ab_wI (ab_wI h o 0 (h.1 x0 0)) o 1 (((ab_wI h o 0 (h.1 x0 0))).1 x0 1)) o 2 (((ab_wI (ab_wI h o 0 (h.1 x0 0)) o 1 (((ab_wI h o 0 (h.1 x0 0))).1 x0 1))).1 x0 2)) o 3 (((ab_wI (ab_wI (ab_wI h o 0 (h.1 x0 0)) o 1 (((ab_wI h o 0 (h.1 x0 0))).1 x0 1)) o 2 (((ab_wI (ab_wI h o 0 (h.1 x0 0)) o 1 (((ab_wI h o 0 (h.1 x0 0))).1 x0 1))).1 x0 2))).1 x0 3)) o 4 (((ab_wI (ab_wI (ab_wI (ab_wI h o 0 (h.1 x0 0)) o 1 (((ab_wI h o 0 (h.1 x0 0))).1 x0 1)) o 2 (((ab_wI (ab_wI h o 0 (h.1 x0 0)) o 1 (((ab_wI h o 0 (h.1 x0 0))).1 x0 1))).1 x0 2)) o 3 (((ab_wI (ab_wI (ab_wI h o 0 (h.1 x0 0)) o 1 (((ab_wI h o 0 (h.1 x0 0))).1 x0 1)) o 2 (((ab_wI (ab_wI h o 0 (h.1 x0 0)) o 1 (((ab_wI h o 0 (h.1 x0 0))).1 x0 1))).1 x0 2))).1 x0 3))).1 x0 4))).1 x0 5)) o 6 (((ab_wI (ab_wI (ab_wI (ab_wI (ab_wI (ab_wI h o 0 (h.1 x0 0)) o 1 (((ab_wI h o 0 (h.1 x0 0))).1 x0 1)) o 2 (((ab_wI (ab_wI h o 0 (h.1 x0 0)) o 1 (((ab_wI h o 0 (h.1 x0 0))).1 x0 1))).1 x0 2)) o 3 (((ab_wI (ab_wI (ab_wI h o 0 (h.1 x0 0)) o 1 (((ab_wI h o 0 (h.1 x0 0))).1 x0 1)) o 2 (((ab_wI (ab_wI h o 0 (h.1 x0 0)) o 1 (((ab_wI h o 0 (h.1 x0 0))).1 x0 1))).1 x0 2))).1 x0 3)) o 4 (((ab_wI (ab_wI (ab_wI (ab_wI h o 0 (h.1 x0 0)) o 1 (((ab_wI h o 0 (h.1 x0 0))).1 x0 1)) o 2 (((ab_wI (ab_wI h o 0 (h.1 x0 0)) o 1 (((ab_wI h o 0 (h.1 x0 0))).1 x0 1))).1 x0 2)) o 3 (((ab_wI (ab_wI (ab_wI h o 0 (h.1 x0 0)) o 1 (((ab_wI h o 0 (h.1 x0 0))).1 x0 1)) o 2 (((ab_wI (ab_wI h o 0 (h.1 x0 0)) o 1 (((ab_wI h o 0 (h.1 x0 0))).1 x0 1))).1 x0 2))).1 x0 3))).1 x0 4)) o 5 (((ab_wI (ab_wI (ab_wI (ab_wI (ab_wI h o 0 (h.1 x0 0)) o 1 (((ab_wI h o 0 (h.1 x0 0))).1 x0 1)) o 2 (((ab_wI (ab_wI h o 0 (h.1 x0 0)) o 1 (((ab_wI h o 0 (h.1 x0 0))).1 x0 1))).1 x0 2)) o 3 (((ab_wI (ab_wI (ab_wI h o 0 (h.1 x0 0)) o 1 (((ab_wI h o 0 (h.1 x0 0))).1 x0 1)) o 2 (((ab_wI (ab_wI h o 0 (h.1 x0 0)) o 1 (((ab_wI h o 0 (h.1 x0 0))).1 x0 1))).1 x0 2))).1 x0 3)) o 4 (((ab_wI (ab_wI (ab_wI (ab_wI h o 0 (h.1 x0 0)) o 1 (((ab_wI h o 0 (h.1 x0 0))).1 x0 1)) o 2 (((ab_wI (ab_wI h o 0 (h.1 x0 0)) o 1 (((ab_wI h o 0 (h.1 x0 0))).1 x0 1))).1 x0 2)) o 3 (((ab_wI (ab_wI (ab_wI h o 0 (h.1 x0 0)) o 1 (((ab_wI h o 0 (h.1 x0 0))).1 x0 1)) o 2 (((ab_wI (ab_wI h o 0 (h.1 x0 0)) o 1 (((ab_wI h o 0 (h.1 x0 0))).1 x0 1))).1 x0 2))).1 x0 3))).1 x0 4))).1 x0 5))).1 x0 6)) (x0 + 1) (o + 1) 0 0 6) (x0 + 2) (o + 2) 0 0 18) (x0 + 3) (o + 3) 0 0 900)
set_option maxRecDepth 20000 in
theorem sX3_copy_1_5 (d : Nat) (X : abX)  (h : abJ) (z : abJ) (hf : fX3_copy 1 5 h = some z) : ab_Ex X (d + 0) 33 0 [(0, .ref 1), (1, .ref 5)] [] ab_SH (ab_dD h) (fun r => r = (none, ab_SH, ab_dD z)) := by
  unfold fX3_copy at hf
  try simp only [Nat.reduceAdd] at hf
  refine ab_Ex.blk (k := 35) (pc' := 68) (lv' := [(0, .ref 1), (1, .ref 5)]) (st' := [.int 6, .int 0, .ref 2, .int 0, .ref 6]) (sh' := ab_SH) (D' := ab_dD (ab_wI (ab_wI (ab_wI (ab_wI (ab_wI (ab_wI (ab_wI h 1 0 (h.1 5 0)) 1 1 (((ab_wI h 1 0 (h.1 5 0))).1 5 1)) 1 2 (((ab_wI (ab_wI h 1 0 (h.1 5 0)) 1 1 (((ab_wI h 1 0 (h.1 5 0))).1 5 1))).1 5 2)) 1 3 (((ab_wI (ab_wI (ab_wI h 1 0 (h.1 5 0)) 1 1 (((ab_wI h 1 0 (h.1 5 0))).1 5 1)) 1 2 (((ab_wI (ab_wI h 1 0 (h.1 5 0)) 1 1 (((ab_wI h 1 0 (h.1 5 0))).1 5 1))).1 5 2))).1 5 3)) 1 4 (((ab_wI (ab_wI (ab_wI (ab_wI h 1 0 (h.1 5 0)) 1 1 (((ab_wI h 1 0 (h.1 5 0))).1 5 1)) 1 2 (((ab_wI (ab_wI h 1 0 (h.1 5 0)) 1 1 (((ab_wI h 1 0 (h.1 5 0))).1 5 1))).1 5 2)) 1 3 (((ab_wI (ab_wI (ab_wI h 1 0 (h.1 5 0)) 1 1 (((ab_wI h 1 0 (h.1 5 0))).1 5 1)) 1 2 (((ab_wI (ab_wI h 1 0 (h.1 5 0)) 1 1 (((ab_wI h 1 0 (h.1 5 0))).1 5 1))).1 5 2))).1 5 3))).1 5 4)) 1 5 (((ab_wI (ab_wI (ab_wI (ab_wI (ab_wI h 1 0 (h.1 5 0)) 1 1 (((ab_wI h 1 0 (h.1 5 0))).1 5 1)) 1 2 (((ab_wI (ab_wI h 1 0 (h.1 5 0)) 1 1 (((ab_wI h 1 0 (h.1 5 0))).1 5 1))).1 5 2)) 1 3 (((ab_wI (ab_wI (ab_wI h 1 0 (h.1 5 0)) 1 1 (((ab_wI h 1 0 (h.1 5 0))).1 5 1)) 1 2 (((ab_wI (ab_wI h 1 0 (h.1 5 0)) 1 1 (((ab_wI h 1 0 (h.1 5 0))).1 5 1))).1 5 2))).1 5 3)) 1 4 (((ab_wI (ab_wI (ab_wI (ab_wI h 1 0 (h.1 5 0)) 1 1 (((ab_wI h 1 0 (h.1 5 0))).1 5 1)) 1 2 (((ab_wI (ab_wI h 1 0 (h.1 5 0)) 1 1 (((ab_wI h 1 0 (h.1 5 0))).1 5 1))).1 5 2)) 1 3 (((ab_wI (ab_wI (ab_wI h 1 0 (h.1 5 0)) 1 1 (((ab_wI h 1 0 (h.1 5 0))).1 5 1)) 1 2 (((ab_wI (ab_wI h 1 0 (h.1 5 0)) 1 1 (((ab_wI h 1 0 (h.1 5 0))).1 5 1))).1 5 2))).1 5 3))).1 5 4))).1 5 5)) 1 6 (((ab_wI (ab_wI (ab_wI (ab_wI (ab_wI (ab_wI h 1 0 (h.1 5 0)) 1 1 (((ab_wI h 1 0 (h.1 5 0))).1 5 1)) 1 2 (((ab_wI (ab_wI h 1 0 (h.1 5 0)) 1 1 (((ab_wI h 1 0 (h.1 5 0))).1 5 1))).1 5 2)) 1 3 (((ab_wI (ab_wI (ab_wI h 1 0 (h.1 5 0)) 1 1 (((ab_wI h 1 0 (h.1 5 0))).1 5 1)) 1 2 (((ab_wI (ab_wI h 1 0 (h.1 5 0)) 1 1 (((ab_wI h 1 0 (h.1 5 0))).1 5 1))).1 5 2))).1 5 3)) 1 4 (((ab_wI (ab_wI (ab_wI (ab_wI h 1 0 (h.1 5 0)) 1 1 (((ab_wI h 1 0 (h.1 5 0))).1 5 1)) 1 2 (((ab_wI (ab_wI h 1 0 (h.1 5 0)) 1 1 (((ab_wI h 1 0 (h.1 5 0))).1 5 1))).1 5 2)) 1 3 (((ab_wI (ab_wI (ab_wI h 1 0 (h.1 5 0)) 1 1 (((ab_wI h 1 0 (h.1 5 0))).1 5 1)) 1 2 (((ab_wI (ab_wI h 1 0 (h.1 5 0)) 1 1 (((ab_wI h 1 0 (h.1 5 0))).1 5 1))).1 5 2))).1 5 3))).1 5 4)) 1 5 (((ab_wI (ab_wI (ab_wI (ab_wI (ab_wI h 1 0 (h.1 5 0)) 1 1 (((ab_wI h 1 0 (h.1 5 0))).1 5 1)) 1 2 (((ab_wI (ab_wI h 1 0 (h.1 5 0)) 1 1 (((ab_wI h 1 0 (h.1 5 0))).1 5 1))).1 5 2)) 1 3 (((ab_wI (ab_wI (ab_wI h 1 0 (h.1 5 0)) 1 1 (((ab_wI h 1 0 (h.1 5 0))).1 5 1)) 1 2 (((ab_wI (ab_wI h 1 0 (h.1 5 0)) 1 1 (((ab_wI h 1 0 (h.1 5 0))).1 5 1))).1 5 2))).1 5 3)) 1 4 (((ab_wI (ab_wI (ab_wI (ab_wI h 1 0 (h.1 5 0)) 1 1 (((ab_wI h 1 0 (h.1 5 0))).1 5 1)) 1 2 (((ab_wI (ab_wI h 1 0 (h.1 5 0)) 1 1 (((ab_wI h 1 0 (h.1 5 0))).1 5 1))).1 5 2)) 1 3 (((ab_wI (ab_wI (ab_wI h 1 0 (h.1 5 0)) 1 1 (((ab_wI h 1 0 (h.1 5 0))).1 5 1)) 1 2 (((ab_wI (ab_wI h 1 0 (h.1 5 0)) 1 1 (((ab_wI h 1 0 (h.1 5 0))).1 5 1))).1 5 2))).1 5 3))).1 5 4))).1 5 5))).1 5 6))) (fun n => rfl) ?_
  refine ab_Ex.blk (k := 1) (pc' := 71) (lv' := [(0, .ref 1), (1, .ref 5)]) (st' := []) (sh' := ab_SH) (D' := ab_dD (ab_cp (ab_wI (ab_wI (ab_wI (ab_wI (ab_wI (ab_wI (ab_wI h 1 0 (h.1 5 0)) 1 1 (((ab_wI h 1 0 (h.1 5 0))).1 5 1)) 1 2 (((ab_wI (ab_wI h 1 0 (h.1 5 0)) 1 1 (((ab_wI h 1 0 (h.1 5 0))).1 5 1))).1 5 2)) 1 3 (((ab_wI (ab_wI (ab_wI h 1 0 (h.1 5 0)) 1 1 (((ab_wI h 1 0 (h.1 5 0))).1 5 1)) 1 2 (((ab_wI (ab_wI h 1 0 (h.1 5 0)) 1 1 (((ab_wI h 1 0 (h.1 5 0))).1 5 1))).1 5 2))).1 5 3)) 1 4 (((ab_wI (ab_wI (ab_wI (ab_wI h 1 0 (h.1 5 0)) 1 1 (((ab_wI h 1 0 (h.1 5 0))).1 5 1)) 1 2 (((ab_wI (ab_wI h 1 0 (h.1 5 0)) 1 1 (((ab_wI h 1 0 (h.1 5 0))).1 5 1))).1 5 2)) 1 3 (((ab_wI (ab_wI (ab_wI h 1 0 (h.1 5 0)) 1 1 (((ab_wI h 1 0 (h.1 5 0))).1 5 1)) 1 2 (((ab_wI (ab_wI h 1 0 (h.1 5 0)) 1 1 (((ab_wI h 1 0 (h.1 5 0))).1 5 1))).1 5 2))).1 5 3))).1 5 4)) 1 5 (((ab_wI (ab_wI (ab_wI (ab_wI (ab_wI h 1 0 (h.1 5 0)) 1 1 (((ab_wI h 1 0 (h.1 5 0))).1 5 1)) 1 2 (((ab_wI (ab_wI h 1 0 (h.1 5 0)) 1 1 (((ab_wI h 1 0 (h.1 5 0))).1 5 1))).1 5 2)) 1 3 (((ab_wI (ab_wI (ab_wI h 1 0 (h.1 5 0)) 1 1 (((ab_wI h 1 0 (h.1 5 0))).1 5 1)) 1 2 (((ab_wI (ab_wI h 1 0 (h.1 5 0)) 1 1 (((ab_wI h 1 0 (h.1 5 0))).1 5 1))).1 5 2))).1 5 3)) 1 4 (((ab_wI (ab_wI (ab_wI (ab_wI h 1 0 (h.1 5 0)) 1 1 (((ab_wI h 1 0 (h.1 5 0))).1 5 1)) 1 2 (((ab_wI (ab_wI h 1 0 (h.1 5 0)) 1 1 (((ab_wI h 1 0 (h.1 5 0))).1 5 1))).1 5 2)) 1 3 (((ab_wI (ab_wI (ab_wI h 1 0 (h.1 5 0)) 1 1 (((ab_wI h 1 0 (h.1 5 0))).1 5 1)) 1 2 (((ab_wI (ab_wI h 1 0 (h.1 5 0)) 1 1 (((ab_wI h 1 0 (h.1 5 0))).1 5 1))).1 5 2))).1 5 3))).1 5 4))).1 5 5)) 1 6 (((ab_wI (ab_wI (ab_wI (ab_wI (ab_wI (ab_wI h 1 0 (h.1 5 0)) 1 1 (((ab_wI h 1 0 (h.1 5 0))).1 5 1)) 1 2 (((ab_wI (ab_wI h 1 0 (h.1 5 0)) 1 1 (((ab_wI h 1 0 (h.1 5 0))).1 5 1))).1 5 2)) 1 3 (((ab_wI (ab_wI (ab_wI h 1 0 (h.1 5 0)) 1 1 (((ab_wI h 1 0 (h.1 5 0))).1 5 1)) 1 2 (((ab_wI (ab_wI h 1 0 (h.1 5 0)) 1 1 (((ab_wI h 1 0 (h.1 5 0))).1 5 1))).1 5 2))).1 5 3)) 1 4 (((ab_wI (ab_wI (ab_wI (ab_wI h 1 0 (h.1 5 0)) 1 1 (((ab_wI h 1 0 (h.1 5 0))).1 5 1)) 1 2 (((ab_wI (ab_wI h 1 0 (h.1 5 0)) 1 1 (((ab_wI h 1 0 (h.1 5 0))).1 5 1))).1 5 2)) 1 3 (((ab_wI (ab_wI (ab_wI h 1 0 (h.1 5 0)) 1 1 (((ab_wI h 1 0 (h.1 5 0))).1 5 1)) 1 2 (((ab_wI (ab_wI h 1 0 (h.1 5 0)) 1 1 (((ab_wI h 1 0 (h.1 5 0))).1 5 1))).1 5 2))).1 5 3))).1 5 4)) 1 5 (((ab_wI (ab_wI (ab_wI (ab_wI (ab_wI h 1 0 (h.1 5 0)) 1 1 (((ab_wI h 1 0 (h.1 5 0))).1 5 1)) 1 2 (((ab_wI (ab_wI h 1 0 (h.1 5 0)) 1 1 (((ab_wI h 1 0 (h.1 5 0))).1 5 1))).1 5 2)) 1 3 (((ab_wI (ab_wI (ab_wI h 1 0 (h.1 5 0)) 1 1 (((ab_wI h 1 0 (h.1 5 0))).1 5 1)) 1 2 (((ab_wI (ab_wI h 1 0 (h.1 5 0)) 1 1 (((ab_wI h 1 0 (h.1 5 0))).1 5 1))).1 5 2))).1 5 3)) 1 4 (((ab_wI (ab_wI (ab_wI (ab_wI h 1 0 (h.1 5 0)) 1 1 (((ab_wI h 1 0 (h.1 5 0))).1 5 1)) 1 2 (((ab_wI (ab_wI h 1 0 (h.1 5 0)) 1 1 (((ab_wI h 1 0 (h.1 5 0))).1 5 1))).1 5 2)) 1 3 (((ab_wI (ab_wI (ab_wI h 1 0 (h.1 5 0)) 1 1 (((ab_wI h 1 0 (h.1 5 0))).1 5 1)) 1 2 (((ab_wI (ab_wI h 1 0 (h.1 5 0)) 1 1 (((ab_wI h 1 0 (h.1 5 0))).1 5 1))).1 5 2))).1 5 3))).1 5 4))).1 5 5))).1 5 6)) 6 2 0 0 6)) (fun n => rfl) ?_
  refine ab_Ex.blk (k := 7) (pc' := 83) (lv' := [(0, .ref 1), (1, .ref 5)]) (st' := [.int 18, .int 0, .ref 3, .int 0, .ref 7]) (sh' := ab_SH) (D' := ab_dD (ab_cp (ab_wI (ab_wI (ab_wI (ab_wI (ab_wI (ab_wI (ab_wI h 1 0 (h.1 5 0)) 1 1 (((ab_wI h 1 0 (h.1 5 0))).1 5 1)) 1 2 (((ab_wI (ab_wI h 1 0 (h.1 5 0)) 1 1 (((ab_wI h 1 0 (h.1 5 0))).1 5 1))).1 5 2)) 1 3 (((ab_wI (ab_wI (ab_wI h 1 0 (h.1 5 0)) 1 1 (((ab_wI h 1 0 (h.1 5 0))).1 5 1)) 1 2 (((ab_wI (ab_wI h 1 0 (h.1 5 0)) 1 1 (((ab_wI h 1 0 (h.1 5 0))).1 5 1))).1 5 2))).1 5 3)) 1 4 (((ab_wI (ab_wI (ab_wI (ab_wI h 1 0 (h.1 5 0)) 1 1 (((ab_wI h 1 0 (h.1 5 0))).1 5 1)) 1 2 (((ab_wI (ab_wI h 1 0 (h.1 5 0)) 1 1 (((ab_wI h 1 0 (h.1 5 0))).1 5 1))).1 5 2)) 1 3 (((ab_wI (ab_wI (ab_wI h 1 0 (h.1 5 0)) 1 1 (((ab_wI h 1 0 (h.1 5 0))).1 5 1)) 1 2 (((ab_wI (ab_wI h 1 0 (h.1 5 0)) 1 1 (((ab_wI h 1 0 (h.1 5 0))).1 5 1))).1 5 2))).1 5 3))).1 5 4)) 1 5 (((ab_wI (ab_wI (ab_wI (ab_wI (ab_wI h 1 0 (h.1 5 0)) 1 1 (((ab_wI h 1 0 (h.1 5 0))).1 5 1)) 1 2 (((ab_wI (ab_wI h 1 0 (h.1 5 0)) 1 1 (((ab_wI h 1 0 (h.1 5 0))).1 5 1))).1 5 2)) 1 3 (((ab_wI (ab_wI (ab_wI h 1 0 (h.1 5 0)) 1 1 (((ab_wI h 1 0 (h.1 5 0))).1 5 1)) 1 2 (((ab_wI (ab_wI h 1 0 (h.1 5 0)) 1 1 (((ab_wI h 1 0 (h.1 5 0))).1 5 1))).1 5 2))).1 5 3)) 1 4 (((ab_wI (ab_wI (ab_wI (ab_wI h 1 0 (h.1 5 0)) 1 1 (((ab_wI h 1 0 (h.1 5 0))).1 5 1)) 1 2 (((ab_wI (ab_wI h 1 0 (h.1 5 0)) 1 1 (((ab_wI h 1 0 (h.1 5 0))).1 5 1))).1 5 2)) 1 3 (((ab_wI (ab_wI (ab_wI h 1 0 (h.1 5 0)) 1 1 (((ab_wI h 1 0 (h.1 5 0))).1 5 1)) 1 2 (((ab_wI (ab_wI h 1 0 (h.1 5 0)) 1 1 (((ab_wI h 1 0 (h.1 5 0))).1 5 1))).1 5 2))).1 5 3))).1 5 4))).1 5 5)) 1 6 (((ab_wI (ab_wI (ab_wI (ab_wI (ab_wI (ab_wI h 1 0 (h.1 5 0)) 1 1 (((ab_wI h 1 0 (h.1 5 0))).1 5 1)) 1 2 (((ab_wI (ab_wI h 1 0 (h.1 5 0)) 1 1 (((ab_wI h 1 0 (h.1 5 0))).1 5 1))).1 5 2)) 1 3 (((ab_wI (ab_wI (ab_wI h 1 0 (h.1 5 0)) 1 1 (((ab_wI h 1 0 (h.1 5 0))).1 5 1)) 1 2 (((ab_wI (ab_wI h 1 0 (h.1 5 0)) 1 1 (((ab_wI h 1 0 (h.1 5 0))).1 5 1))).1 5 2))).1 5 3)) 1 4 (((ab_wI (ab_wI (ab_wI (ab_wI h 1 0 (h.1 5 0)) 1 1 (((ab_wI h 1 0 (h.1 5 0))).1 5 1)) 1 2 (((ab_wI (ab_wI h 1 0 (h.1 5 0)) 1 1 (((ab_wI h 1 0 (h.1 5 0))).1 5 1))).1 5 2)) 1 3 (((ab_wI (ab_wI (ab_wI h 1 0 (h.1 5 0)) 1 1 (((ab_wI h 1 0 (h.1 5 0))).1 5 1)) 1 2 (((ab_wI (ab_wI h 1 0 (h.1 5 0)) 1 1 (((ab_wI h 1 0 (h.1 5 0))).1 5 1))).1 5 2))).1 5 3))).1 5 4)) 1 5 (((ab_wI (ab_wI (ab_wI (ab_wI (ab_wI h 1 0 (h.1 5 0)) 1 1 (((ab_wI h 1 0 (h.1 5 0))).1 5 1)) 1 2 (((ab_wI (ab_wI h 1 0 (h.1 5 0)) 1 1 (((ab_wI h 1 0 (h.1 5 0))).1 5 1))).1 5 2)) 1 3 (((ab_wI (ab_wI (ab_wI h 1 0 (h.1 5 0)) 1 1 (((ab_wI h 1 0 (h.1 5 0))).1 5 1)) 1 2 (((ab_wI (ab_wI h 1 0 (h.1 5 0)) 1 1 (((ab_wI h 1 0 (h.1 5 0))).1 5 1))).1 5 2))).1 5 3)) 1 4 (((ab_wI (ab_wI (ab_wI (ab_wI h 1 0 (h.1 5 0)) 1 1 (((ab_wI h 1 0 (h.1 5 0))).1 5 1)) 1 2 (((ab_wI (ab_wI h 1 0 (h.1 5 0)) 1 1 (((ab_wI h 1 0 (h.1 5 0))).1 5 1))).1 5 2)) 1 3 (((ab_wI (ab_wI (ab_wI h 1 0 (h.1 5 0)) 1 1 (((ab_wI h 1 0 (h.1 5 0))).1 5 1)) 1 2 (((ab_wI (ab_wI h 1 0 (h.1 5 0)) 1 1 (((ab_wI h 1 0 (h.1 5 0))).1 5 1))).1 5 2))).1 5 3))).1 5 4))).1 5 5))).1 5 6)) 6 2 0 0 6)) (fun n => rfl) ?_
  refine ab_Ex.blk (k := 1) (pc' := 86) (lv' := [(0, .ref 1), (1, .ref 5)]) (st' := []) (sh' := ab_SH) (D' := ab_dD (ab_cp (ab_cp (ab_wI (ab_wI (ab_wI (ab_wI (ab_wI (ab_wI (ab_wI h 1 0 (h.1 5 0)) 1 1 (((ab_wI h 1 0 (h.1 5 0))).1 5 1)) 1 2 (((ab_wI (ab_wI h 1 0 (h.1 5 0)) 1 1 (((ab_wI h 1 0 (h.1 5 0))).1 5 1))).1 5 2)) 1 3 (((ab_wI (ab_wI (ab_wI h 1 0 (h.1 5 0)) 1 1 (((ab_wI h 1 0 (h.1 5 0))).1 5 1)) 1 2 (((ab_wI (ab_wI h 1 0 (h.1 5 0)) 1 1 (((ab_wI h 1 0 (h.1 5 0))).1 5 1))).1 5 2))).1 5 3)) 1 4 (((ab_wI (ab_wI (ab_wI (ab_wI h 1 0 (h.1 5 0)) 1 1 (((ab_wI h 1 0 (h.1 5 0))).1 5 1)) 1 2 (((ab_wI (ab_wI h 1 0 (h.1 5 0)) 1 1 (((ab_wI h 1 0 (h.1 5 0))).1 5 1))).1 5 2)) 1 3 (((ab_wI (ab_wI (ab_wI h 1 0 (h.1 5 0)) 1 1 (((ab_wI h 1 0 (h.1 5 0))).1 5 1)) 1 2 (((ab_wI (ab_wI h 1 0 (h.1 5 0)) 1 1 (((ab_wI h 1 0 (h.1 5 0))).1 5 1))).1 5 2))).1 5 3))).1 5 4)) 1 5 (((ab_wI (ab_wI (ab_wI (ab_wI (ab_wI h 1 0 (h.1 5 0)) 1 1 (((ab_wI h 1 0 (h.1 5 0))).1 5 1)) 1 2 (((ab_wI (ab_wI h 1 0 (h.1 5 0)) 1 1 (((ab_wI h 1 0 (h.1 5 0))).1 5 1))).1 5 2)) 1 3 (((ab_wI (ab_wI (ab_wI h 1 0 (h.1 5 0)) 1 1 (((ab_wI h 1 0 (h.1 5 0))).1 5 1)) 1 2 (((ab_wI (ab_wI h 1 0 (h.1 5 0)) 1 1 (((ab_wI h 1 0 (h.1 5 0))).1 5 1))).1 5 2))).1 5 3)) 1 4 (((ab_wI (ab_wI (ab_wI (ab_wI h 1 0 (h.1 5 0)) 1 1 (((ab_wI h 1 0 (h.1 5 0))).1 5 1)) 1 2 (((ab_wI (ab_wI h 1 0 (h.1 5 0)) 1 1 (((ab_wI h 1 0 (h.1 5 0))).1 5 1))).1 5 2)) 1 3 (((ab_wI (ab_wI (ab_wI h 1 0 (h.1 5 0)) 1 1 (((ab_wI h 1 0 (h.1 5 0))).1 5 1)) 1 2 (((ab_wI (ab_wI h 1 0 (h.1 5 0)) 1 1 (((ab_wI h 1 0 (h.1 5 0))).1 5 1))).1 5 2))).1 5 3))).1 5 4))).1 5 5)) 1 6 (((ab_wI (ab_wI (ab_wI (ab_wI (ab_wI (ab_wI h 1 0 (h.1 5 0)) 1 1 (((ab_wI h 1 0 (h.1 5 0))).1 5 1)) 1 2 (((ab_wI (ab_wI h 1 0 (h.1 5 0)) 1 1 (((ab_wI h 1 0 (h.1 5 0))).1 5 1))).1 5 2)) 1 3 (((ab_wI (ab_wI (ab_wI h 1 0 (h.1 5 0)) 1 1 (((ab_wI h 1 0 (h.1 5 0))).1 5 1)) 1 2 (((ab_wI (ab_wI h 1 0 (h.1 5 0)) 1 1 (((ab_wI h 1 0 (h.1 5 0))).1 5 1))).1 5 2))).1 5 3)) 1 4 (((ab_wI (ab_wI (ab_wI (ab_wI h 1 0 (h.1 5 0)) 1 1 (((ab_wI h 1 0 (h.1 5 0))).1 5 1)) 1 2 (((ab_wI (ab_wI h 1 0 (h.1 5 0)) 1 1 (((ab_wI h 1 0 (h.1 5 0))).1 5 1))).1 5 2)) 1 3 (((ab_wI (ab_wI (ab_wI h 1 0 (h.1 5 0)) 1 1 (((ab_wI h 1 0 (h.1 5 0))).1 5 1)) 1 2 (((ab_wI (ab_wI h 1 0 (h.1 5 0)) 1 1 (((ab_wI h 1 0 (h.1 5 0))).1 5 1))).1 5 2))).1 5 3))).1 5 4)) 1 5 (((ab_wI (ab_wI (ab_wI (ab_wI (ab_wI h 1 0 (h.1 5 0)) 1 1 (((ab_wI h 1 0 (h.1 5 0))).1 5 1)) 1 2 (((ab_wI (ab_wI h 1 0 (h.1 5 0)) 1 1 (((ab_wI h 1 0 (h.1 5 0))).1 5 1))).1 5 2)) 1 3 (((ab_wI (ab_wI (ab_wI h 1 0 (h.1 5 0)) 1 1 (((ab_wI h 1 0 (h.1 5 0))).1 5 1)) 1 2 (((ab_wI (ab_wI h 1 0 (h.1 5 0)) 1 1 (((ab_wI h 1 0 (h.1 5 0))).1 5 1))).1 5 2))).1 5 3)) 1 4 (((ab_wI (ab_wI (ab_wI (ab_wI h 1 0 (h.1 5 0)) 1 1 (((ab_wI h 1 0 (h.1 5 0))).1 5 1)) 1 2 (((ab_wI (ab_wI h 1 0 (h.1 5 0)) 1 1 (((ab_wI h 1 0 (h.1 5 0))).1 5 1))).1 5 2)) 1 3 (((ab_wI (ab_wI (ab_wI h 1 0 (h.1 5 0)) 1 1 (((ab_wI h 1 0 (h.1 5 0))).1 5 1)) 1 2 (((ab_wI (ab_wI h 1 0 (h.1 5 0)) 1 1 (((ab_wI h 1 0 (h.1 5 0))).1 5 1))).1 5 2))).1 5 3))).1 5 4))).1 5 5))).1 5 6)) 6 2 0 0 6) 7 3 0 0 18)) (fun n => rfl) ?_
  refine ab_Ex.blk (k := 7) (pc' := 99) (lv' := [(0, .ref 1), (1, .ref 5)]) (st' := [.int 900, .int 0, .ref 4, .int 0, .ref 8]) (sh' := ab_SH) (D' := ab_dD (ab_cp (ab_cp (ab_wI (ab_wI (ab_wI (ab_wI (ab_wI (ab_wI (ab_wI h 1 0 (h.1 5 0)) 1 1 (((ab_wI h 1 0 (h.1 5 0))).1 5 1)) 1 2 (((ab_wI (ab_wI h 1 0 (h.1 5 0)) 1 1 (((ab_wI h 1 0 (h.1 5 0))).1 5 1))).1 5 2)) 1 3 (((ab_wI (ab_wI (ab_wI h 1 0 (h.1 5 0)) 1 1 (((ab_wI h 1 0 (h.1 5 0))).1 5 1)) 1 2 (((ab_wI (ab_wI h 1 0 (h.1 5 0)) 1 1 (((ab_wI h 1 0 (h.1 5 0))).1 5 1))).1 5 2))).1 5 3)) 1 4 (((ab_wI (ab_wI (ab_wI (ab_wI h 1 0 (h.1 5 0)) 1 1 (((ab_wI h 1 0 (h.1 5 0))).1 5 1)) 1 2 (((ab_wI (ab_wI h 1 0 (h.1 5 0)) 1 1 (((ab_wI h 1 0 (h.1 5 0))).1 5 1))).1 5 2)) 1 3 (((ab_wI (ab_wI (ab_wI h 1 0 (h.1 5 0)) 1 1 (((ab_wI h 1 0 (h.1 5 0))).1 5 1)) 1 2 (((ab_wI (ab_wI h 1 0 (h.1 5 0)) 1 1 (((ab_wI h 1 0 (h.1 5 0))).1 5 1))).1 5 2))).1 5 3))).1 5 4)) 1 5 (((ab_wI (ab_wI (ab_wI (ab_wI (ab_wI h 1 0 (h.1 5 0)) 1 1 (((ab_wI h 1 0 (h.1 5 0))).1 5 1)) 1 2 (((ab_wI (ab_wI h 1 0 (h.1 5 0)) 1 1 (((ab_wI h 1 0 (h.1 5 0))).1 5 1))).1 5 2)) 1 3 (((ab_wI (ab_wI (ab_wI h 1 0 (h.1 5 0)) 1 1 (((ab_wI h 1 0 (h.1 5 0))).1 5 1)) 1 2 (((ab_wI (ab_wI h 1 0 (h.1 5 0)) 1 1 (((ab_wI h 1 0 (h.1 5 0))).1 5 1))).1 5 2))).1 5 3)) 1 4 (((ab_wI (ab_wI (ab_wI (ab_wI h 1 0 (h.1 5 0)) 1 1 (((ab_wI h 1 0 (h.1 5 0))).1 5 1)) 1 2 (((ab_wI (ab_wI h 1 0 (h.1 5 0)) 1 1 (((ab_wI h 1 0 (h.1 5 0))).1 5 1))).1 5 2)) 1 3 (((ab_wI (ab_wI (ab_wI h 1 0 (h.1 5 0)) 1 1 (((ab_wI h 1 0 (h.1 5 0))).1 5 1)) 1 2 (((ab_wI (ab_wI h 1 0 (h.1 5 0)) 1 1 (((ab_wI h 1 0 (h.1 5 0))).1 5 1))).1 5 2))).1 5 3))).1 5 4))).1 5 5)) 1 6 (((ab_wI (ab_wI (ab_wI (ab_wI (ab_wI (ab_wI h 1 0 (h.1 5 0)) 1 1 (((ab_wI h 1 0 (h.1 5 0))).1 5 1)) 1 2 (((ab_wI (ab_wI h 1 0 (h.1 5 0)) 1 1 (((ab_wI h 1 0 (h.1 5 0))).1 5 1))).1 5 2)) 1 3 (((ab_wI (ab_wI (ab_wI h 1 0 (h.1 5 0)) 1 1 (((ab_wI h 1 0 (h.1 5 0))).1 5 1)) 1 2 (((ab_wI (ab_wI h 1 0 (h.1 5 0)) 1 1 (((ab_wI h 1 0 (h.1 5 0))).1 5 1))).1 5 2))).1 5 3)) 1 4 (((ab_wI (ab_wI (ab_wI (ab_wI h 1 0 (h.1 5 0)) 1 1 (((ab_wI h 1 0 (h.1 5 0))).1 5 1)) 1 2 (((ab_wI (ab_wI h 1 0 (h.1 5 0)) 1 1 (((ab_wI h 1 0 (h.1 5 0))).1 5 1))).1 5 2)) 1 3 (((ab_wI (ab_wI (ab_wI h 1 0 (h.1 5 0)) 1 1 (((ab_wI h 1 0 (h.1 5 0))).1 5 1)) 1 2 (((ab_wI (ab_wI h 1 0 (h.1 5 0)) 1 1 (((ab_wI h 1 0 (h.1 5 0))).1 5 1))).1 5 2))).1 5 3))).1 5 4)) 1 5 (((ab_wI (ab_wI (ab_wI (ab_wI (ab_wI h 1 0 (h.1 5 0)) 1 1 (((ab_wI h 1 0 (h.1 5 0))).1 5 1)) 1 2 (((ab_wI (ab_wI h 1 0 (h.1 5 0)) 1 1 (((ab_wI h 1 0 (h.1 5 0))).1 5 1))).1 5 2)) 1 3 (((ab_wI (ab_wI (ab_wI h 1 0 (h.1 5 0)) 1 1 (((ab_wI h 1 0 (h.1 5 0))).1 5 1)) 1 2 (((ab_wI (ab_wI h 1 0 (h.1 5 0)) 1 1 (((ab_wI h 1 0 (h.1 5 0))).1 5 1))).1 5 2))).1 5 3)) 1 4 (((ab_wI (ab_wI (ab_wI (ab_wI h 1 0 (h.1 5 0)) 1 1 (((ab_wI h 1 0 (h.1 5 0))).1 5 1)) 1 2 (((ab_wI (ab_wI h 1 0 (h.1 5 0)) 1 1 (((ab_wI h 1 0 (h.1 5 0))).1 5 1))).1 5 2)) 1 3 (((ab_wI (ab_wI (ab_wI h 1 0 (h.1 5 0)) 1 1 (((ab_wI h 1 0 (h.1 5 0))).1 5 1)) 1 2 (((ab_wI (ab_wI h 1 0 (h.1 5 0)) 1 1 (((ab_wI h 1 0 (h.1 5 0))).1 5 1))).1 5 2))).1 5 3))).1 5 4))).1 5 5))).1 5 6)) 6 2 0 0 6) 7 3 0 0 18)) (fun n => rfl) ?_
  refine ab_Ex.blk (k := 1) (pc' := 102) (lv' := [(0, .ref 1), (1, .ref 5)]) (st' := []) (sh' := ab_SH) (D' := ab_dD (ab_cp (ab_cp (ab_cp (ab_wI (ab_wI (ab_wI (ab_wI (ab_wI (ab_wI (ab_wI h 1 0 (h.1 5 0)) 1 1 (((ab_wI h 1 0 (h.1 5 0))).1 5 1)) 1 2 (((ab_wI (ab_wI h 1 0 (h.1 5 0)) 1 1 (((ab_wI h 1 0 (h.1 5 0))).1 5 1))).1 5 2)) 1 3 (((ab_wI (ab_wI (ab_wI h 1 0 (h.1 5 0)) 1 1 (((ab_wI h 1 0 (h.1 5 0))).1 5 1)) 1 2 (((ab_wI (ab_wI h 1 0 (h.1 5 0)) 1 1 (((ab_wI h 1 0 (h.1 5 0))).1 5 1))).1 5 2))).1 5 3)) 1 4 (((ab_wI (ab_wI (ab_wI (ab_wI h 1 0 (h.1 5 0)) 1 1 (((ab_wI h 1 0 (h.1 5 0))).1 5 1)) 1 2 (((ab_wI (ab_wI h 1 0 (h.1 5 0)) 1 1 (((ab_wI h 1 0 (h.1 5 0))).1 5 1))).1 5 2)) 1 3 (((ab_wI (ab_wI (ab_wI h 1 0 (h.1 5 0)) 1 1 (((ab_wI h 1 0 (h.1 5 0))).1 5 1)) 1 2 (((ab_wI (ab_wI h 1 0 (h.1 5 0)) 1 1 (((ab_wI h 1 0 (h.1 5 0))).1 5 1))).1 5 2))).1 5 3))).1 5 4)) 1 5 (((ab_wI (ab_wI (ab_wI (ab_wI (ab_wI h 1 0 (h.1 5 0)) 1 1 (((ab_wI h 1 0 (h.1 5 0))).1 5 1)) 1 2 (((ab_wI (ab_wI h 1 0 (h.1 5 0)) 1 1 (((ab_wI h 1 0 (h.1 5 0))).1 5 1))).1 5 2)) 1 3 (((ab_wI (ab_wI (ab_wI h 1 0 (h.1 5 0)) 1 1 (((ab_wI h 1 0 (h.1 5 0))).1 5 1)) 1 2 (((ab_wI (ab_wI h 1 0 (h.1 5 0)) 1 1 (((ab_wI h 1 0 (h.1 5 0))).1 5 1))).1 5 2))).1 5 3)) 1 4 (((ab_wI (ab_wI (ab_wI (ab_wI h 1 0 (h.1 5 0)) 1 1 (((ab_wI h 1 0 (h.1 5 0))).1 5 1)) 1 2 (((ab_wI (ab_wI h 1 0 (h.1 5 0)) 1 1 (((ab_wI h 1 0 (h.1 5 0))).1 5 1))).1 5 2)) 1 3 (((ab_wI (ab_wI (ab_wI h 1 0 (h.1 5 0)) 1 1 (((ab_wI h 1 0 (h.1 5 0))).1 5 1)) 1 2 (((ab_wI (ab_wI h 1 0 (h.1 5 0)) 1 1 (((ab_wI h 1 0 (h.1 5 0))).1 5 1))).1 5 2))).1 5 3))).1 5 4))).1 5 5)) 1 6 (((ab_wI (ab_wI (ab_wI (ab_wI (ab_wI (ab_wI h 1 0 (h.1 5 0)) 1 1 (((ab_wI h 1 0 (h.1 5 0))).1 5 1)) 1 2 (((ab_wI (ab_wI h 1 0 (h.1 5 0)) 1 1 (((ab_wI h 1 0 (h.1 5 0))).1 5 1))).1 5 2)) 1 3 (((ab_wI (ab_wI (ab_wI h 1 0 (h.1 5 0)) 1 1 (((ab_wI h 1 0 (h.1 5 0))).1 5 1)) 1 2 (((ab_wI (ab_wI h 1 0 (h.1 5 0)) 1 1 (((ab_wI h 1 0 (h.1 5 0))).1 5 1))).1 5 2))).1 5 3)) 1 4 (((ab_wI (ab_wI (ab_wI (ab_wI h 1 0 (h.1 5 0)) 1 1 (((ab_wI h 1 0 (h.1 5 0))).1 5 1)) 1 2 (((ab_wI (ab_wI h 1 0 (h.1 5 0)) 1 1 (((ab_wI h 1 0 (h.1 5 0))).1 5 1))).1 5 2)) 1 3 (((ab_wI (ab_wI (ab_wI h 1 0 (h.1 5 0)) 1 1 (((ab_wI h 1 0 (h.1 5 0))).1 5 1)) 1 2 (((ab_wI (ab_wI h 1 0 (h.1 5 0)) 1 1 (((ab_wI h 1 0 (h.1 5 0))).1 5 1))).1 5 2))).1 5 3))).1 5 4)) 1 5 (((ab_wI (ab_wI (ab_wI (ab_wI (ab_wI h 1 0 (h.1 5 0)) 1 1 (((ab_wI h 1 0 (h.1 5 0))).1 5 1)) 1 2 (((ab_wI (ab_wI h 1 0 (h.1 5 0)) 1 1 (((ab_wI h 1 0 (h.1 5 0))).1 5 1))).1 5 2)) 1 3 (((ab_wI (ab_wI (ab_wI h 1 0 (h.1 5 0)) 1 1 (((ab_wI h 1 0 (h.1 5 0))).1 5 1)) 1 2 (((ab_wI (ab_wI h 1 0 (h.1 5 0)) 1 1 (((ab_wI h 1 0 (h.1 5 0))).1 5 1))).1 5 2))).1 5 3)) 1 4 (((ab_wI (ab_wI (ab_wI (ab_wI h 1 0 (h.1 5 0)) 1 1 (((ab_wI h 1 0 (h.1 5 0))).1 5 1)) 1 2 (((ab_wI (ab_wI h 1 0 (h.1 5 0)) 1 1 (((ab_wI h 1 0 (h.1 5 0))).1 5 1))).1 5 2)) 1 3 (((ab_wI (ab_wI (ab_wI h 1 0 (h.1 5 0)) 1 1 (((ab_wI h 1 0 (h.1 5 0))).1 5 1)) 1 2 (((ab_wI (ab_wI h 1 0 (h.1 5 0)) 1 1 (((ab_wI h 1 0 (h.1 5 0))).1 5 1))).1 5 2))).1 5 3))).1 5 4))).1 5 5))).1 5 6)) 6 2 0 0 6) 7 3 0 0 18) 8 4 0 0 900)) (fun n => rfl) ?_
  obtain rfl := Option.some.inj hf
  exact ab_Ex.ret (fun n => rfl) rfl
set_option maxRecDepth 20000 in
theorem sX3_copy_54_1 (d : Nat) (X : abX)  (h : abJ) (z : abJ) (hf : fX3_copy 54 1 h = some z) : ab_Ex X (d + 0) 33 0 [(0, .ref 54), (1, .ref 1)] [] ab_SH (ab_dD h) (fun r => r = (none, ab_SH, ab_dD z)) := by
  unfold fX3_copy at hf
  try simp only [Nat.reduceAdd] at hf
  refine ab_Ex.blk (k := 35) (pc' := 68) (lv' := [(0, .ref 54), (1, .ref 1)]) (st' := [.int 6, .int 0, .ref 55, .int 0, .ref 2]) (sh' := ab_SH) (D' := ab_dD (ab_wI (ab_wI (ab_wI (ab_wI (ab_wI (ab_wI (ab_wI h 54 0 (h.1 1 0)) 54 1 (((ab_wI h 54 0 (h.1 1 0))).1 1 1)) 54 2 (((ab_wI (ab_wI h 54 0 (h.1 1 0)) 54 1 (((ab_wI h 54 0 (h.1 1 0))).1 1 1))).1 1 2)) 54 3 (((ab_wI (ab_wI (ab_wI h 54 0 (h.1 1 0)) 54 1 (((ab_wI h 54 0 (h.1 1 0))).1 1 1)) 54 2 (((ab_wI (ab_wI h 54 0 (h.1 1 0)) 54 1 (((ab_wI h 54 0 (h.1 1 0))).1 1 1))).1 1 2))).1 1 3)) 54 4 (((ab_wI (ab_wI (ab_wI (ab_wI h 54 0 (h.1 1 0)) 54 1 (((ab_wI h 54 0 (h.1 1 0))).1 1 1)) 54 2 (((ab_wI (ab_wI h 54 0 (h.1 1 0)) 54 1 (((ab_wI h 54 0 (h.1 1 0))).1 1 1))).1 1 2)) 54 3 (((ab_wI (ab_wI (ab_wI h 54 0 (h.1 1 0)) 54 1 (((ab_wI h 54 0 (h.1 1 0))).1 1 1)) 54 2 (((ab_wI (ab_wI h 54 0 (h.1 1 0)) 54 1 (((ab_wI h 54 0 (h.1 1 0))).1 1 1))).1 1 2))).1 1 3))).1 1 4)) 54 5 (((ab_wI (ab_wI (ab_wI (ab_wI (ab_wI h 54 0 (h.1 1 0)) 54 1 (((ab_wI h 54 0 (h.1 1 0))).1 1 1)) 54 2 (((ab_wI (ab_wI h 54 0 (h.1 1 0)) 54 1 (((ab_wI h 54 0 (h.1 1 0))).1 1 1))).1 1 2)) 54 3 (((ab_wI (ab_wI (ab_wI h 54 0 (h.1 1 0)) 54 1 (((ab_wI h 54 0 (h.1 1 0))).1 1 1)) 54 2 (((ab_wI (ab_wI h 54 0 (h.1 1 0)) 54 1 (((ab_wI h 54 0 (h.1 1 0))).1 1 1))).1 1 2))).1 1 3)) 54 4 (((ab_wI (ab_wI (ab_wI (ab_wI h 54 0 (h.1 1 0)) 54 1 (((ab_wI h 54 0 (h.1 1 0))).1 1 1)) 54 2 (((ab_wI (ab_wI h 54 0 (h.1 1 0)) 54 1 (((ab_wI h 54 0 (h.1 1 0))).1 1 1))).1 1 2)) 54 3 (((ab_wI (ab_wI (ab_wI h 54 0 (h.1 1 0)) 54 1 (((ab_wI h 54 0 (h.1 1 0))).1 1 1)) 54 2 (((ab_wI (ab_wI h 54 0 (h.1 1 0)) 54 1 (((ab_wI h 54 0 (h.1 1 0))).1 1 1))).1 1 2))).1 1 3))).1 1 4))).1 1 5)) 54 6 (((ab_wI (ab_wI (ab_wI (ab_wI (ab_wI (ab_wI h 54 0 (h.1 1 0)) 54 1 (((ab_wI h 54 0 (h.1 1 0))).1 1 1)) 54 2 (((ab_wI (ab_wI h 54 0 (h.1 1 0)) 54 1 (((ab_wI h 54 0 (h.1 1 0))).1 1 1))).1 1 2)) 54 3 (((ab_wI (ab_wI (ab_wI h 54 0 (h.1 1 0)) 54 1 (((ab_wI h 54 0 (h.1 1 0))).1 1 1)) 54 2 (((ab_wI (ab_wI h 54 0 (h.1 1 0)) 54 1 (((ab_wI h 54 0 (h.1 1 0))).1 1 1))).1 1 2))).1 1 3)) 54 4 (((ab_wI (ab_wI (ab_wI (ab_wI h 54 0 (h.1 1 0)) 54 1 (((ab_wI h 54 0 (h.1 1 0))).1 1 1)) 54 2 (((ab_wI (ab_wI h 54 0 (h.1 1 0)) 54 1 (((ab_wI h 54 0 (h.1 1 0))).1 1 1))).1 1 2)) 54 3 (((ab_wI (ab_wI (ab_wI h 54 0 (h.1 1 0)) 54 1 (((ab_wI h 54 0 (h.1 1 0))).1 1 1)) 54 2 (((ab_wI (ab_wI h 54 0 (h.1 1 0)) 54 1 (((ab_wI h 54 0 (h.1 1 0))).1 1 1))).1 1 2))).1 1 3))).1 1 4)) 54 5 (((ab_wI (ab_wI (ab_wI (ab_wI (ab_wI h 54 0 (h.1 1 0)) 54 1 (((ab_wI h 54 0 (h.1 1 0))).1 1 1)) 54 2 (((ab_wI (ab_wI h 54 0 (h.1 1 0)) 54 1 (((ab_wI h 54 0 (h.1 1 0))).1 1 1))).1 1 2)) 54 3 (((ab_wI (ab_wI (ab_wI h 54 0 (h.1 1 0)) 54 1 (((ab_wI h 54 0 (h.1 1 0))).1 1 1)) 54 2 (((ab_wI (ab_wI h 54 0 (h.1 1 0)) 54 1 (((ab_wI h 54 0 (h.1 1 0))).1 1 1))).1 1 2))).1 1 3)) 54 4 (((ab_wI (ab_wI (ab_wI (ab_wI h 54 0 (h.1 1 0)) 54 1 (((ab_wI h 54 0 (h.1 1 0))).1 1 1)) 54 2 (((ab_wI (ab_wI h 54 0 (h.1 1 0)) 54 1 (((ab_wI h 54 0 (h.1 1 0))).1 1 1))).1 1 2)) 54 3 (((ab_wI (ab_wI (ab_wI h 54 0 (h.1 1 0)) 54 1 (((ab_wI h 54 0 (h.1 1 0))).1 1 1)) 54 2 (((ab_wI (ab_wI h 54 0 (h.1 1 0)) 54 1 (((ab_wI h 54 0 (h.1 1 0))).1 1 1))).1 1 2))).1 1 3))).1 1 4))).1 1 5))).1 1 6))) (fun n => rfl) ?_
  refine ab_Ex.blk (k := 1) (pc' := 71) (lv' := [(0, .ref 54), (1, .ref 1)]) (st' := []) (sh' := ab_SH) (D' := ab_dD (ab_cp (ab_wI (ab_wI (ab_wI (ab_wI (ab_wI (ab_wI (ab_wI h 54 0 (h.1 1 0)) 54 1 (((ab_wI h 54 0 (h.1 1 0))).1 1 1)) 54 2 (((ab_wI (ab_wI h 54 0 (h.1 1 0)) 54 1 (((ab_wI h 54 0 (h.1 1 0))).1 1 1))).1 1 2)) 54 3 (((ab_wI (ab_wI (ab_wI h 54 0 (h.1 1 0)) 54 1 (((ab_wI h 54 0 (h.1 1 0))).1 1 1)) 54 2 (((ab_wI (ab_wI h 54 0 (h.1 1 0)) 54 1 (((ab_wI h 54 0 (h.1 1 0))).1 1 1))).1 1 2))).1 1 3)) 54 4 (((ab_wI (ab_wI (ab_wI (ab_wI h 54 0 (h.1 1 0)) 54 1 (((ab_wI h 54 0 (h.1 1 0))).1 1 1)) 54 2 (((ab_wI (ab_wI h 54 0 (h.1 1 0)) 54 1 (((ab_wI h 54 0 (h.1 1 0))).1 1 1))).1 1 2)) 54 3 (((ab_wI (ab_wI (ab_wI h 54 0 (h.1 1 0)) 54 1 (((ab_wI h 54 0 (h.1 1 0))).1 1 1)) 54 2 (((ab_wI (ab_wI h 54 0 (h.1 1 0)) 54 1 (((ab_wI h 54 0 (h.1 1 0))).1 1 1))).1 1 2))).1 1 3))).1 1 4)) 54 5 (((ab_wI (ab_wI (ab_wI (ab_wI (ab_wI h 54 0 (h.1 1 0)) 54 1 (((ab_wI h 54 0 (h.1 1 0))).1 1 1)) 54 2 (((ab_wI (ab_wI h 54 0 (h.1 1 0)) 54 1 (((ab_wI h 54 0 (h.1 1 0))).1 1 1))).1 1 2)) 54 3 (((ab_wI (ab_wI (ab_wI h 54 0 (h.1 1 0)) 54 1 (((ab_wI h 54 0 (h.1 1 0))).1 1 1)) 54 2 (((ab_wI (ab_wI h 54 0 (h.1 1 0)) 54 1 (((ab_wI h 54 0 (h.1 1 0))).1 1 1))).1 1 2))).1 1 3)) 54 4 (((ab_wI (ab_wI (ab_wI (ab_wI h 54 0 (h.1 1 0)) 54 1 (((ab_wI h 54 0 (h.1 1 0))).1 1 1)) 54 2 (((ab_wI (ab_wI h 54 0 (h.1 1 0)) 54 1 (((ab_wI h 54 0 (h.1 1 0))).1 1 1))).1 1 2)) 54 3 (((ab_wI (ab_wI (ab_wI h 54 0 (h.1 1 0)) 54 1 (((ab_wI h 54 0 (h.1 1 0))).1 1 1)) 54 2 (((ab_wI (ab_wI h 54 0 (h.1 1 0)) 54 1 (((ab_wI h 54 0 (h.1 1 0))).1 1 1))).1 1 2))).1 1 3))).1 1 4))).1 1 5)) 54 6 (((ab_wI (ab_wI (ab_wI (ab_wI (ab_wI (ab_wI h 54 0 (h.1 1 0)) 54 1 (((ab_wI h 54 0 (h.1 1 0))).1 1 1)) 54 2 (((ab_wI (ab_wI h 54 0 (h.1 1 0)) 54 1 (((ab_wI h 54 0 (h.1 1 0))).1 1 1))).1 1 2)) 54 3 (((ab_wI (ab_wI (ab_wI h 54 0 (h.1 1 0)) 54 1 (((ab_wI h 54 0 (h.1 1 0))).1 1 1)) 54 2 (((ab_wI (ab_wI h 54 0 (h.1 1 0)) 54 1 (((ab_wI h 54 0 (h.1 1 0))).1 1 1))).1 1 2))).1 1 3)) 54 4 (((ab_wI (ab_wI (ab_wI (ab_wI h 54 0 (h.1 1 0)) 54 1 (((ab_wI h 54 0 (h.1 1 0))).1 1 1)) 54 2 (((ab_wI (ab_wI h 54 0 (h.1 1 0)) 54 1 (((ab_wI h 54 0 (h.1 1 0))).1 1 1))).1 1 2)) 54 3 (((ab_wI (ab_wI (ab_wI h 54 0 (h.1 1 0)) 54 1 (((ab_wI h 54 0 (h.1 1 0))).1 1 1)) 54 2 (((ab_wI (ab_wI h 54 0 (h.1 1 0)) 54 1 (((ab_wI h 54 0 (h.1 1 0))).1 1 1))).1 1 2))).1 1 3))).1 1 4)) 54 5 (((ab_wI (ab_wI (ab_wI (ab_wI (ab_wI h 54 0 (h.1 1 0)) 54 1 (((ab_wI h 54 0 (h.1 1 0))).1 1 1)) 54 2 (((ab_wI (ab_wI h 54 0 (h.1 1 0)) 54 1 (((ab_wI h 54 0 (h.1 1 0))).1 1 1))).1 1 2)) 54 3 (((ab_wI (ab_wI (ab_wI h 54 0 (h.1 1 0)) 54 1 (((ab_wI h 54 0 (h.1 1 0))).1 1 1)) 54 2 (((ab_wI (ab_wI h 54 0 (h.1 1 0)) 54 1 (((ab_wI h 54 0 (h.1 1 0))).1 1 1))).1 1 2))).1 1 3)) 54 4 (((ab_wI (ab_wI (ab_wI (ab_wI h 54 0 (h.1 1 0)) 54 1 (((ab_wI h 54 0 (h.1 1 0))).1 1 1)) 54 2 (((ab_wI (ab_wI h 54 0 (h.1 1 0)) 54 1 (((ab_wI h 54 0 (h.1 1 0))).1 1 1))).1 1 2)) 54 3 (((ab_wI (ab_wI (ab_wI h 54 0 (h.1 1 0)) 54 1 (((ab_wI h 54 0 (h.1 1 0))).1 1 1)) 54 2 (((ab_wI (ab_wI h 54 0 (h.1 1 0)) 54 1 (((ab_wI h 54 0 (h.1 1 0))).1 1 1))).1 1 2))).1 1 3))).1 1 4))).1 1 5))).1 1 6)) 2 55 0 0 6)) (fun n => rfl) ?_
  refine ab_Ex.blk (k := 7) (pc' := 83) (lv' := [(0, .ref 54), (1, .ref 1)]) (st' := [.int 18, .int 0, .ref 56, .int 0, .ref 3]) (sh' := ab_SH) (D' := ab_dD (ab_cp (ab_wI (ab_wI (ab_wI (ab_wI (ab_wI (ab_wI (ab_wI h 54 0 (h.1 1 0)) 54 1 (((ab_wI h 54 0 (h.1 1 0))).1 1 1)) 54 2 (((ab_wI (ab_wI h 54 0 (h.1 1 0)) 54 1 (((ab_wI h 54 0 (h.1 1 0))).1 1 1))).1 1 2)) 54 3 (((ab_wI (ab_wI (ab_wI h 54 0 (h.1 1 0)) 54 1 (((ab_wI h 54 0 (h.1 1 0))).1 1 1)) 54 2 (((ab_wI (ab_wI h 54 0 (h.1 1 0)) 54 1 (((ab_wI h 54 0 (h.1 1 0))).1 1 1))).1 1 2))).1 1 3)) 54 4 (((ab_wI (ab_wI (ab_wI (ab_wI h 54 0 (h.1 1 0)) 54 1 (((ab_wI h 54 0 (h.1 1 0))).1 1 1)) 54 2 (((ab_wI (ab_wI h 54 0 (h.1 1 0)) 54 1 (((ab_wI h 54 0 (h.1 1 0))).1 1 1))).1 1 2)) 54 3 (((ab_wI (ab_wI (ab_wI h 54 0 (h.1 1 0)) 54 1 (((ab_wI h 54 0 (h.1 1 0))).1 1 1)) 54 2 (((ab_wI (ab_wI h 54 0 (h.1 1 0)) 54 1 (((ab_wI h 54 0 (h.1 1 0))).1 1 1))).1 1 2))).1 1 3))).1 1 4)) 54 5 (((ab_wI (ab_wI (ab_wI (ab_wI (ab_wI h 54 0 (h.1 1 0)) 54 1 (((ab_wI h 54 0 (h.1 1 0))).1 1 1)) 54 2 (((ab_wI (ab_wI h 54 0 (h.1 1 0)) 54 1 (((ab_wI h 54 0 (h.1 1 0))).1 1 1))).1 1 2)) 54 3 (((ab_wI (ab_wI (ab_wI h 54 0 (h.1 1 0)) 54 1 (((ab_wI h 54 0 (h.1 1 0))).1 1 1)) 54 2 (((ab_wI (ab_wI h 54 0 (h.1 1 0)) 54 1 (((ab_wI h 54 0 (h.1 1 0))).1 1 1))).1 1 2))).1 1 3)) 54 4 (((ab_wI (ab_wI (ab_wI (ab_wI h 54 0 (h.1 1 0)) 54 1 (((ab_wI h 54 0 (h.1 1 0))).1 1 1)) 54 2 (((ab_wI (ab_wI h 54 0 (h.1 1 0)) 54 1 (((ab_wI h 54 0 (h.1 1 0))).1 1 1))).1 1 2)) 54 3 (((ab_wI (ab_wI (ab_wI h 54 0 (h.1 1 0)) 54 1 (((ab_wI h 54 0 (h.1 1 0))).1 1 1)) 54 2 (((ab_wI (ab_wI h 54 0 (h.1 1 0)) 54 1 (((ab_wI h 54 0 (h.1 1 0))).1 1 1))).1 1 2))).1 1 3))).1 1 4))).1 1 5)) 54 6 (((ab_wI (ab_wI (ab_wI (ab_wI (ab_wI (ab_wI h 54 0 (h.1 1 0)) 54 1 (((ab_wI h 54 0 (h.1 1 0))).1 1 1)) 54 2 (((ab_wI (ab_wI h 54 0 (h.1 1 0)) 54 1 (((ab_wI h 54 0 (h.1 1 0))).1 1 1))).1 1 2)) 54 3 (((ab_wI (ab_wI (ab_wI h 54 0 (h.1 1 0)) 54 1 (((ab_wI h 54 0 (h.1 1 0))).1 1 1)) 54 2 (((ab_wI (ab_wI h 54 0 (h.1 1 0)) 54 1 (((ab_wI h 54 0 (h.1 1 0))).1 1 1))).1 1 2))).1 1 3)) 54 4 (((ab_wI (ab_wI (ab_wI (ab_wI h 54 0 (h.1 1 0)) 54 1 (((ab_wI h 54 0 (h.1 1 0))).1 1 1)) 54 2 (((ab_wI (ab_wI h 54 0 (h.1 1 0)) 54 1 (((ab_wI h 54 0 (h.1 1 0))).1 1 1))).1 1 2)) 54 3 (((ab_wI (ab_wI (ab_wI h 54 0 (h.1 1 0)) 54 1 (((ab_wI h 54 0 (h.1 1 0))).1 1 1)) 54 2 (((ab_wI (ab_wI h 54 0 (h.1 1 0)) 54 1 (((ab_wI h 54 0 (h.1 1 0))).1 1 1))).1 1 2))).1 1 3))).1 1 4)) 54 5 (((ab_wI (ab_wI (ab_wI (ab_wI (ab_wI h 54 0 (h.1 1 0)) 54 1 (((ab_wI h 54 0 (h.1 1 0))).1 1 1)) 54 2 (((ab_wI (ab_wI h 54 0 (h.1 1 0)) 54 1 (((ab_wI h 54 0 (h.1 1 0))).1 1 1))).1 1 2)) 54 3 (((ab_wI (ab_wI (ab_wI h 54 0 (h.1 1 0)) 54 1 (((ab_wI h 54 0 (h.1 1 0))).1 1 1)) 54 2 (((ab_wI (ab_wI h 54 0 (h.1 1 0)) 54 1 (((ab_wI h 54 0 (h.1 1 0))).1 1 1))).1 1 2))).1 1 3)) 54 4 (((ab_wI (ab_wI (ab_wI (ab_wI h 54 0 (h.1 1 0)) 54 1 (((ab_wI h 54 0 (h.1 1 0))).1 1 1)) 54 2 (((ab_wI (ab_wI h 54 0 (h.1 1 0)) 54 1 (((ab_wI h 54 0 (h.1 1 0))).1 1 1))).1 1 2)) 54 3 (((ab_wI (ab_wI (ab_wI h 54 0 (h.1 1 0)) 54 1 (((ab_wI h 54 0 (h.1 1 0))).1 1 1)) 54 2 (((ab_wI (ab_wI h 54 0 (h.1 1 0)) 54 1 (((ab_wI h 54 0 (h.1 1 0))).1 1 1))).1 1 2))).1 1 3))).1 1 4))).1 1 5))).1 1 6)) 2 55 0 0 6)) (fun n => rfl) ?_
  refine ab_Ex.blk (k := 1) (pc' := 86) (lv' := [(0, .ref 54), (1, .ref 1)]) (st' := []) (sh' := ab_SH) (D' := ab_dD (ab_cp (ab_cp (ab_wI (ab_wI (ab_wI (ab_wI (ab_wI (ab_wI (ab_wI h 54 0 (h.1 1 0)) 54 1 (((ab_wI h 54 0 (h.1 1 0))).1 1 1)) 54 2 (((ab_wI (ab_wI h 54 0 (h.1 1 0)) 54 1 (((ab_wI h 54 0 (h.1 1 0))).1 1 1))).1 1 2)) 54 3 (((ab_wI (ab_wI (ab_wI h 54 0 (h.1 1 0)) 54 1 (((ab_wI h 54 0 (h.1 1 0))).1 1 1)) 54 2 (((ab_wI (ab_wI h 54 0 (h.1 1 0)) 54 1 (((ab_wI h 54 0 (h.1 1 0))).1 1 1))).1 1 2))).1 1 3)) 54 4 (((ab_wI (ab_wI (ab_wI (ab_wI h 54 0 (h.1 1 0)) 54 1 (((ab_wI h 54 0 (h.1 1 0))).1 1 1)) 54 2 (((ab_wI (ab_wI h 54 0 (h.1 1 0)) 54 1 (((ab_wI h 54 0 (h.1 1 0))).1 1 1))).1 1 2)) 54 3 (((ab_wI (ab_wI (ab_wI h 54 0 (h.1 1 0)) 54 1 (((ab_wI h 54 0 (h.1 1 0))).1 1 1)) 54 2 (((ab_wI (ab_wI h 54 0 (h.1 1 0)) 54 1 (((ab_wI h 54 0 (h.1 1 0))).1 1 1))).1 1 2))).1 1 3))).1 1 4)) 54 5 (((ab_wI (ab_wI (ab_wI (ab_wI (ab_wI h 54 0 (h.1 1 0)) 54 1 (((ab_wI h 54 0 (h.1 1 0))).1 1 1)) 54 2 (((ab_wI (ab_wI h 54 0 (h.1 1 0)) 54 1 (((ab_wI h 54 0 (h.1 1 0))).1 1 1))).1 1 2)) 54 3 (((ab_wI (ab_wI (ab_wI h 54 0 (h.1 1 0)) 54 1 (((ab_wI h 54 0 (h.1 1 0))).1 1 1)) 54 2 (((ab_wI (ab_wI h 54 0 (h.1 1 0)) 54 1 (((ab_wI h 54 0 (h.1 1 0))).1 1 1))).1 1 2))).1 1 3)) 54 4 (((ab_wI (ab_wI (ab_wI (ab_wI h 54 0 (h.1 1 0)) 54 1 (((ab_wI h 54 0 (h.1 1 0))).1 1 1)) 54 2 (((ab_wI (ab_wI h 54 0 (h.1 1 0)) 54 1 (((ab_wI h 54 0 (h.1 1 0))).1 1 1))).1 1 2)) 54 3 (((ab_wI (ab_wI (ab_wI h 54 0 (h.1 1 0)) 54 1 (((ab_wI h 54 0 (h.1 1 0))).1 1 1)) 54 2 (((ab_wI (ab_wI h 54 0 (h.1 1 0)) 54 1 (((ab_wI h 54 0 (h.1 1 0))).1 1 1))).1 1 2))).1 1 3))).1 1 4))).1 1 5)) 54 6 (((ab_wI (ab_wI (ab_wI (ab_wI (ab_wI (ab_wI h 54 0 (h.1 1 0)) 54 1 (((ab_wI h 54 0 (h.1 1 0))).1 1 1)) 54 2 (((ab_wI (ab_wI h 54 0 (h.1 1 0)) 54 1 (((ab_wI h 54 0 (h.1 1 0))).1 1 1))).1 1 2)) 54 3 (((ab_wI (ab_wI (ab_wI h 54 0 (h.1 1 0)) 54 1 (((ab_wI h 54 0 (h.1 1 0))).1 1 1)) 54 2 (((ab_wI (ab_wI h 54 0 (h.1 1 0)) 54 1 (((ab_wI h 54 0 (h.1 1 0))).1 1 1))).1 1 2))).1 1 3)) 54 4 (((ab_wI (ab_wI (ab_wI (ab_wI h 54 0 (h.1 1 0)) 54 1 (((ab_wI h 54 0 (h.1 1 0))).1 1 1)) 54 2 (((ab_wI (ab_wI h 54 0 (h.1 1 0)) 54 1 (((ab_wI h 54 0 (h.1 1 0))).1 1 1))).1 1 2)) 54 3 (((ab_wI (ab_wI (ab_wI h 54 0 (h.1 1 0)) 54 1 (((ab_wI h 54 0 (h.1 1 0))).1 1 1)) 54 2 (((ab_wI (ab_wI h 54 0 (h.1 1 0)) 54 1 (((ab_wI h 54 0 (h.1 1 0))).1 1 1))).1 1 2))).1 1 3))).1 1 4)) 54 5 (((ab_wI (ab_wI (ab_wI (ab_wI (ab_wI h 54 0 (h.1 1 0)) 54 1 (((ab_wI h 54 0 (h.1 1 0))).1 1 1)) 54 2 (((ab_wI (ab_wI h 54 0 (h.1 1 0)) 54 1 (((ab_wI h 54 0 (h.1 1 0))).1 1 1))).1 1 2)) 54 3 (((ab_wI (ab_wI (ab_wI h 54 0 (h.1 1 0)) 54 1 (((ab_wI h 54 0 (h.1 1 0))).1 1 1)) 54 2 (((ab_wI (ab_wI h 54 0 (h.1 1 0)) 54 1 (((ab_wI h 54 0 (h.1 1 0))).1 1 1))).1 1 2))).1 1 3)) 54 4 (((ab_wI (ab_wI (ab_wI (ab_wI h 54 0 (h.1 1 0)) 54 1 (((ab_wI h 54 0 (h.1 1 0))).1 1 1)) 54 2 (((ab_wI (ab_wI h 54 0 (h.1 1 0)) 54 1 (((ab_wI h 54 0 (h.1 1 0))).1 1 1))).1 1 2)) 54 3 (((ab_wI (ab_wI (ab_wI h 54 0 (h.1 1 0)) 54 1 (((ab_wI h 54 0 (h.1 1 0))).1 1 1)) 54 2 (((ab_wI (ab_wI h 54 0 (h.1 1 0)) 54 1 (((ab_wI h 54 0 (h.1 1 0))).1 1 1))).1 1 2))).1 1 3))).1 1 4))).1 1 5))).1 1 6)) 2 55 0 0 6) 3 56 0 0 18)) (fun n => rfl) ?_
  refine ab_Ex.blk (k := 7) (pc' := 99) (lv' := [(0, .ref 54), (1, .ref 1)]) (st' := [.int 900, .int 0, .ref 57, .int 0, .ref 4]) (sh' := ab_SH) (D' := ab_dD (ab_cp (ab_cp (ab_wI (ab_wI (ab_wI (ab_wI (ab_wI (ab_wI (ab_wI h 54 0 (h.1 1 0)) 54 1 (((ab_wI h 54 0 (h.1 1 0))).1 1 1)) 54 2 (((ab_wI (ab_wI h 54 0 (h.1 1 0)) 54 1 (((ab_wI h 54 0 (h.1 1 0))).1 1 1))).1 1 2)) 54 3 (((ab_wI (ab_wI (ab_wI h 54 0 (h.1 1 0)) 54 1 (((ab_wI h 54 0 (h.1 1 0))).1 1 1)) 54 2 (((ab_wI (ab_wI h 54 0 (h.1 1 0)) 54 1 (((ab_wI h 54 0 (h.1 1 0))).1 1 1))).1 1 2))).1 1 3)) 54 4 (((ab_wI (ab_wI (ab_wI (ab_wI h 54 0 (h.1 1 0)) 54 1 (((ab_wI h 54 0 (h.1 1 0))).1 1 1)) 54 2 (((ab_wI (ab_wI h 54 0 (h.1 1 0)) 54 1 (((ab_wI h 54 0 (h.1 1 0))).1 1 1))).1 1 2)) 54 3 (((ab_wI (ab_wI (ab_wI h 54 0 (h.1 1 0)) 54 1 (((ab_wI h 54 0 (h.1 1 0))).1 1 1)) 54 2 (((ab_wI (ab_wI h 54 0 (h.1 1 0)) 54 1 (((ab_wI h 54 0 (h.1 1 0))).1 1 1))).1 1 2))).1 1 3))).1 1 4)) 54 5 (((ab_wI (ab_wI (ab_wI (ab_wI (ab_wI h 54 0 (h.1 1 0)) 54 1 (((ab_wI h 54 0 (h.1 1 0))).1 1 1)) 54 2 (((ab_wI (ab_wI h 54 0 (h.1 1 0)) 54 1 (((ab_wI h 54 0 (h.1 1 0))).1 1 1))).1 1 2)) 54 3 (((ab_wI (ab_wI (ab_wI h 54 0 (h.1 1 0)) 54 1 (((ab_wI h 54 0 (h.1 1 0))).1 1 1)) 54 2 (((ab_wI (ab_wI h 54 0 (h.1 1 0)) 54 1 (((ab_wI h 54 0 (h.1 1 0))).1 1 1))).1 1 2))).1 1 3)) 54 4 (((ab_wI (ab_wI (ab_wI (ab_wI h 54 0 (h.1 1 0)) 54 1 (((ab_wI h 54 0 (h.1 1 0))).1 1 1)) 54 2 (((ab_wI (ab_wI h 54 0 (h.1 1 0)) 54 1 (((ab_wI h 54 0 (h.1 1 0))).1 1 1))).1 1 2)) 54 3 (((ab_wI (ab_wI (ab_wI h 54 0 (h.1 1 0)) 54 1 (((ab_wI h 54 0 (h.1 1 0))).1 1 1)) 54 2 (((ab_wI (ab_wI h 54 0 (h.1 1 0)) 54 1 (((ab_wI h 54 0 (h.1 1 0))).1 1 1))).1 1 2))).1 1 3))).1 1 4))).1 1 5)) 54 6 (((ab_wI (ab_wI (ab_wI (ab_wI (ab_wI (ab_wI h 54 0 (h.1 1 0)) 54 1 (((ab_wI h 54 0 (h.1 1 0))).1 1 1)) 54 2 (((ab_wI (ab_wI h 54 0 (h.1 1 0)) 54 1 (((ab_wI h 54 0 (h.1 1 0))).1 1 1))).1 1 2)) 54 3 (((ab_wI (ab_wI (ab_wI h 54 0 (h.1 1 0)) 54 1 (((ab_wI h 54 0 (h.1 1 0))).1 1 1)) 54 2 (((ab_wI (ab_wI h 54 0 (h.1 1 0)) 54 1 (((ab_wI h 54 0 (h.1 1 0))).1 1 1))).1 1 2))).1 1 3)) 54 4 (((ab_wI (ab_wI (ab_wI (ab_wI h 54 0 (h.1 1 0)) 54 1 (((ab_wI h 54 0 (h.1 1 0))).1 1 1)) 54 2 (((ab_wI (ab_wI h 54 0 (h.1 1 0)) 54 1 (((ab_wI h 54 0 (h.1 1 0))).1 1 1))).1 1 2)) 54 3 (((ab_wI (ab_wI (ab_wI h 54 0 (h.1 1 0)) 54 1 (((ab_wI h 54 0 (h.1 1 0))).1 1 1)) 54 2 (((ab_wI (ab_wI h 54 0 (h.1 1 0)) 54 1 (((ab_wI h 54 0 (h.1 1 0))).1 1 1))).1 1 2))).1 1 3))).1 1 4)) 54 5 (((ab_wI (ab_wI (ab_wI (ab_wI (ab_wI h 54 0 (h.1 1 0)) 54 1 (((ab_wI h 54 0 (h.1 1 0))).1 1 1)) 54 2 (((ab_wI (ab_wI h 54 0 (h.1 1 0)) 54 1 (((ab_wI h 54 0 (h.1 1 0))).1 1 1))).1 1 2)) 54 3 (((ab_wI (ab_wI (ab_wI h 54 0 (h.1 1 0)) 54 1 (((ab_wI h 54 0 (h.1 1 0))).1 1 1)) 54 2 (((ab_wI (ab_wI h 54 0 (h.1 1 0)) 54 1 (((ab_wI h 54 0 (h.1 1 0))).1 1 1))).1 1 2))).1 1 3)) 54 4 (((ab_wI (ab_wI (ab_wI (ab_wI h 54 0 (h.1 1 0)) 54 1 (((ab_wI h 54 0 (h.1 1 0))).1 1 1)) 54 2 (((ab_wI (ab_wI h 54 0 (h.1 1 0)) 54 1 (((ab_wI h 54 0 (h.1 1 0))).1 1 1))).1 1 2)) 54 3 (((ab_wI (ab_wI (ab_wI h 54 0 (h.1 1 0)) 54 1 (((ab_wI h 54 0 (h.1 1 0))).1 1 1)) 54 2 (((ab_wI (ab_wI h 54 0 (h.1 1 0)) 54 1 (((ab_wI h 54 0 (h.1 1 0))).1 1 1))).1 1 2))).1 1 3))).1 1 4))).1 1 5))).1 1 6)) 2 55 0 0 6) 3 56 0 0 18)) (fun n => rfl) ?_
  refine ab_Ex.blk (k := 1) (pc' := 102) (lv' := [(0, .ref 54), (1, .ref 1)]) (st' := []) (sh' := ab_SH) (D' := ab_dD (ab_cp (ab_cp (ab_cp (ab_wI (ab_wI (ab_wI (ab_wI (ab_wI (ab_wI (ab_wI h 54 0 (h.1 1 0)) 54 1 (((ab_wI h 54 0 (h.1 1 0))).1 1 1)) 54 2 (((ab_wI (ab_wI h 54 0 (h.1 1 0)) 54 1 (((ab_wI h 54 0 (h.1 1 0))).1 1 1))).1 1 2)) 54 3 (((ab_wI (ab_wI (ab_wI h 54 0 (h.1 1 0)) 54 1 (((ab_wI h 54 0 (h.1 1 0))).1 1 1)) 54 2 (((ab_wI (ab_wI h 54 0 (h.1 1 0)) 54 1 (((ab_wI h 54 0 (h.1 1 0))).1 1 1))).1 1 2))).1 1 3)) 54 4 (((ab_wI (ab_wI (ab_wI (ab_wI h 54 0 (h.1 1 0)) 54 1 (((ab_wI h 54 0 (h.1 1 0))).1 1 1)) 54 2 (((ab_wI (ab_wI h 54 0 (h.1 1 0)) 54 1 (((ab_wI h 54 0 (h.1 1 0))).1 1 1))).1 1 2)) 54 3 (((ab_wI (ab_wI (ab_wI h 54 0 (h.1 1 0)) 54 1 (((ab_wI h 54 0 (h.1 1 0))).1 1 1)) 54 2 (((ab_wI (ab_wI h 54 0 (h.1 1 0)) 54 1 (((ab_wI h 54 0 (h.1 1 0))).1 1 1))).1 1 2))).1 1 3))).1 1 4)) 54 5 (((ab_wI (ab_wI (ab_wI (ab_wI (ab_wI h 54 0 (h.1 1 0)) 54 1 (((ab_wI h 54 0 (h.1 1 0))).1 1 1)) 54 2 (((ab_wI (ab_wI h 54 0 (h.1 1 0)) 54 1 (((ab_wI h 54 0 (h.1 1 0))).1 1 1))).1 1 2)) 54 3 (((ab_wI (ab_wI (ab_wI h 54 0 (h.1 1 0)) 54 1 (((ab_wI h 54 0 (h.1 1 0))).1 1 1)) 54 2 (((ab_wI (ab_wI h 54 0 (h.1 1 0)) 54 1 (((ab_wI h 54 0 (h.1 1 0))).1 1 1))).1 1 2))).1 1 3)) 54 4 (((ab_wI (ab_wI (ab_wI (ab_wI h 54 0 (h.1 1 0)) 54 1 (((ab_wI h 54 0 (h.1 1 0))).1 1 1)) 54 2 (((ab_wI (ab_wI h 54 0 (h.1 1 0)) 54 1 (((ab_wI h 54 0 (h.1 1 0))).1 1 1))).1 1 2)) 54 3 (((ab_wI (ab_wI (ab_wI h 54 0 (h.1 1 0)) 54 1 (((ab_wI h 54 0 (h.1 1 0))).1 1 1)) 54 2 (((ab_wI (ab_wI h 54 0 (h.1 1 0)) 54 1 (((ab_wI h 54 0 (h.1 1 0))).1 1 1))).1 1 2))).1 1 3))).1 1 4))).1 1 5)) 54 6 (((ab_wI (ab_wI (ab_wI (ab_wI (ab_wI (ab_wI h 54 0 (h.1 1 0)) 54 1 (((ab_wI h 54 0 (h.1 1 0))).1 1 1)) 54 2 (((ab_wI (ab_wI h 54 0 (h.1 1 0)) 54 1 (((ab_wI h 54 0 (h.1 1 0))).1 1 1))).1 1 2)) 54 3 (((ab_wI (ab_wI (ab_wI h 54 0 (h.1 1 0)) 54 1 (((ab_wI h 54 0 (h.1 1 0))).1 1 1)) 54 2 (((ab_wI (ab_wI h 54 0 (h.1 1 0)) 54 1 (((ab_wI h 54 0 (h.1 1 0))).1 1 1))).1 1 2))).1 1 3)) 54 4 (((ab_wI (ab_wI (ab_wI (ab_wI h 54 0 (h.1 1 0)) 54 1 (((ab_wI h 54 0 (h.1 1 0))).1 1 1)) 54 2 (((ab_wI (ab_wI h 54 0 (h.1 1 0)) 54 1 (((ab_wI h 54 0 (h.1 1 0))).1 1 1))).1 1 2)) 54 3 (((ab_wI (ab_wI (ab_wI h 54 0 (h.1 1 0)) 54 1 (((ab_wI h 54 0 (h.1 1 0))).1 1 1)) 54 2 (((ab_wI (ab_wI h 54 0 (h.1 1 0)) 54 1 (((ab_wI h 54 0 (h.1 1 0))).1 1 1))).1 1 2))).1 1 3))).1 1 4)) 54 5 (((ab_wI (ab_wI (ab_wI (ab_wI (ab_wI h 54 0 (h.1 1 0)) 54 1 (((ab_wI h 54 0 (h.1 1 0))).1 1 1)) 54 2 (((ab_wI (ab_wI h 54 0 (h.1 1 0)) 54 1 (((ab_wI h 54 0 (h.1 1 0))).1 1 1))).1 1 2)) 54 3 (((ab_wI (ab_wI (ab_wI h 54 0 (h.1 1 0)) 54 1 (((ab_wI h 54 0 (h.1 1 0))).1 1 1)) 54 2 (((ab_wI (ab_wI h 54 0 (h.1 1 0)) 54 1 (((ab_wI h 54 0 (h.1 1 0))).1 1 1))).1 1 2))).1 1 3)) 54 4 (((ab_wI (ab_wI (ab_wI (ab_wI h 54 0 (h.1 1 0)) 54 1 (((ab_wI h 54 0 (h.1 1 0))).1 1 1)) 54 2 (((ab_wI (ab_wI h 54 0 (h.1 1 0)) 54 1 (((ab_wI h 54 0 (h.1 1 0))).1 1 1))).1 1 2)) 54 3 (((ab_wI (ab_wI (ab_wI h 54 0 (h.1 1 0)) 54 1 (((ab_wI h 54 0 (h.1 1 0))).1 1 1)) 54 2 (((ab_wI (ab_wI h 54 0 (h.1 1 0)) 54 1 (((ab_wI h 54 0 (h.1 1 0))).1 1 1))).1 1 2))).1 1 3))).1 1 4))).1 1 5))).1 1 6)) 2 55 0 0 6) 3 56 0 0 18) 4 57 0 0 900)) (fun n => rfl) ?_
  obtain rfl := Option.some.inj hf
  exact ab_Ex.ret (fun n => rfl) rfl
set_option maxRecDepth 20000 in
theorem sX3_copy_59_1 (d : Nat) (X : abX)  (h : abJ) (z : abJ) (hf : fX3_copy 59 1 h = some z) : ab_Ex X (d + 0) 33 0 [(0, .ref 59), (1, .ref 1)] [] ab_SH (ab_dD h) (fun r => r = (none, ab_SH, ab_dD z)) := by
  unfold fX3_copy at hf
  try simp only [Nat.reduceAdd] at hf
  refine ab_Ex.blk (k := 35) (pc' := 68) (lv' := [(0, .ref 59), (1, .ref 1)]) (st' := [.int 6, .int 0, .ref 60, .int 0, .ref 2]) (sh' := ab_SH) (D' := ab_dD (ab_wI (ab_wI (ab_wI (ab_wI (ab_wI (ab_wI (ab_wI h 59 0 (h.1 1 0)) 59 1 (((ab_wI h 59 0 (h.1 1 0))).1 1 1)) 59 2 (((ab_wI (ab_wI h 59 0 (h.1 1 0)) 59 1 (((ab_wI h 59 0 (h.1 1 0))).1 1 1))).1 1 2)) 59 3 (((ab_wI (ab_wI (ab_wI h 59 0 (h.1 1 0)) 59 1 (((ab_wI h 59 0 (h.1 1 0))).1 1 1)) 59 2 (((ab_wI (ab_wI h 59 0 (h.1 1 0)) 59 1 (((ab_wI h 59 0 (h.1 1 0))).1 1 1))).1 1 2))).1 1 3)) 59 4 (((ab_wI (ab_wI (ab_wI (ab_wI h 59 0 (h.1 1 0)) 59 1 (((ab_wI h 59 0 (h.1 1 0))).1 1 1)) 59 2 (((ab_wI (ab_wI h 59 0 (h.1 1 0)) 59 1 (((ab_wI h 59 0 (h.1 1 0))).1 1 1))).1 1 2)) 59 3 (((ab_wI (ab_wI (ab_wI h 59 0 (h.1 1 0)) 59 1 (((ab_wI h 59 0 (h.1 1 0))).1 1 1)) 59 2 (((ab_wI (ab_wI h 59 0 (h.1 1 0)) 59 1 (((ab_wI h 59 0 (h.1 1 0))).1 1 1))).1 1 2))).1 1 3))).1 1 4)) 59 5 (((ab_wI (ab_wI (ab_wI (ab_wI (ab_wI h 59 0 (h.1 1 0)) 59 1 (((ab_wI h 59 0 (h.1 1 0))).1 1 1)) 59 2 (((ab_wI (ab_wI h 59 0 (h.1 1 0)) 59 1 (((ab_wI h 59 0 (h.1 1 0))).1 1 1))).1 1 2)) 59 3 (((ab_wI (ab_wI (ab_wI h 59 0 (h.1 1 0)) 59 1 (((ab_wI h 59 0 (h.1 1 0))).1 1 1)) 59 2 (((ab_wI (ab_wI h 59 0 (h.1 1 0)) 59 1 (((ab_wI h 59 0 (h.1 1 0))).1 1 1))).1 1 2))).1 1 3)) 59 4 (((ab_wI (ab_wI (ab_wI (ab_wI h 59 0 (h.1 1 0)) 59 1 (((ab_wI h 59 0 (h.1 1 0))).1 1 1)) 59 2 (((ab_wI (ab_wI h 59 0 (h.1 1 0)) 59 1 (((ab_wI h 59 0 (h.1 1 0))).1 1 1))).1 1 2)) 59 3 (((ab_wI (ab_wI (ab_wI h 59 0 (h.1 1 0)) 59 1 (((ab_wI h 59 0 (h.1 1 0))).1 1 1)) 59 2 (((ab_wI (ab_wI h 59 0 (h.1 1 0)) 59 1 (((ab_wI h 59 0 (h.1 1 0))).1 1 1))).1 1 2))).1 1 3))).1 1 4))).1 1 5)) 59 6 (((ab_wI (ab_wI (ab_wI (ab_wI (ab_wI (ab_wI h 59 0 (h.1 1 0)) 59 1 (((ab_wI h 59 0 (h.1 1 0))).1 1 1)) 59 2 (((ab_wI (ab_wI h 59 0 (h.1 1 0)) 59 1 (((ab_wI h 59 0 (h.1 1 0))).1 1 1))).1 1 2)) 59 3 (((ab_wI (ab_wI (ab_wI h 59 0 (h.1 1 0)) 59 1 (((ab_wI h 59 0 (h.1 1 0))).1 1 1)) 59 2 (((ab_wI (ab_wI h 59 0 (h.1 1 0)) 59 1 (((ab_wI h 59 0 (h.1 1 0))).1 1 1))).1 1 2))).1 1 3)) 59 4 (((ab_wI (ab_wI (ab_wI (ab_wI h 59 0 (h.1 1 0)) 59 1 (((ab_wI h 59 0 (h.1 1 0))).1 1 1)) 59 2 (((ab_wI (ab_wI h 59 0 (h.1 1 0)) 59 1 (((ab_wI h 59 0 (h.1 1 0))).1 1 1))).1 1 2)) 59 3 (((ab_wI (ab_wI (ab_wI h 59 0 (h.1 1 0)) 59 1 (((ab_wI h 59 0 (h.1 1 0))).1 1 1)) 59 2 (((ab_wI (ab_wI h 59 0 (h.1 1 0)) 59 1 (((ab_wI h 59 0 (h.1 1 0))).1 1 1))).1 1 2))).1 1 3))).1 1 4)) 59 5 (((ab_wI (ab_wI (ab_wI (ab_wI (ab_wI h 59 0 (h.1 1 0)) 59 1 (((ab_wI h 59 0 (h.1 1 0))).1 1 1)) 59 2 (((ab_wI (ab_wI h 59 0 (h.1 1 0)) 59 1 (((ab_wI h 59 0 (h.1 1 0))).1 1 1))).1 1 2)) 59 3 (((ab_wI (ab_wI (ab_wI h 59 0 (h.1 1 0)) 59 1 (((ab_wI h 59 0 (h.1 1 0))).1 1 1)) 59 2 (((ab_wI (ab_wI h 59 0 (h.1 1 0)) 59 1 (((ab_wI h 59 0 (h.1 1 0))).1 1 1))).1 1 2))).1 1 3)) 59 4 (((ab_wI (ab_wI (ab_wI (ab_wI h 59 0 (h.1 1 0)) 59 1 (((ab_wI h 59 0 (h.1 1 0))).1 1 1)) 59 2 (((ab_wI (ab_wI h 59 0 (h.1 1 0)) 59 1 (((ab_wI h 59 0 (h.1 1 0))).1 1 1))).1 1 2)) 59 3 (((ab_wI (ab_wI (ab_wI h 59 0 (h.1 1 0)) 59 1 (((ab_wI h 59 0 (h.1 1 0))).1 1 1)) 59 2 (((ab_wI (ab_wI h 59 0 (h.1 1 0)) 59 1 (((ab_wI h 59 0 (h.1 1 0))).1 1 1))).1 1 2))).1 1 3))).1 1 4))).1 1 5))).1 1 6))) (fun n => rfl) ?_
  refine ab_Ex.blk (k := 1) (pc' := 71) (lv' := [(0, .ref 59), (1, .ref 1)]) (st' := []) (sh' := ab_SH) (D' := ab_dD (ab_cp (ab_wI (ab_wI (ab_wI (ab_wI (ab_wI (ab_wI (ab_wI h 59 0 (h.1 1 0)) 59 1 (((ab_wI h 59 0 (h.1 1 0))).1 1 1)) 59 2 (((ab_wI (ab_wI h 59 0 (h.1 1 0)) 59 1 (((ab_wI h 59 0 (h.1 1 0))).1 1 1))).1 1 2)) 59 3 (((ab_wI (ab_wI (ab_wI h 59 0 (h.1 1 0)) 59 1 (((ab_wI h 59 0 (h.1 1 0))).1 1 1)) 59 2 (((ab_wI (ab_wI h 59 0 (h.1 1 0)) 59 1 (((ab_wI h 59 0 (h.1 1 0))).1 1 1))).1 1 2))).1 1 3)) 59 4 (((ab_wI (ab_wI (ab_wI (ab_wI h 59 0 (h.1 1 0)) 59 1 (((ab_wI h 59 0 (h.1 1 0))).1 1 1)) 59 2 (((ab_wI (ab_wI h 59 0 (h.1 1 0)) 59 1 (((ab_wI h 59 0 (h.1 1 0))).1 1 1))).1 1 2)) 59 3 (((ab_wI (ab_wI (ab_wI h 59 0 (h.1 1 0)) 59 1 (((ab_wI h 59 0 (h.1 1 0))).1 1 1)) 59 2 (((ab_wI (ab_wI h 59 0 (h.1 1 0)) 59 1 (((ab_wI h 59 0 (h.1 1 0))).1 1 1))).1 1 2))).1 1 3))).1 1 4)) 59 5 (((ab_wI (ab_wI (ab_wI (ab_wI (ab_wI h 59 0 (h.1 1 0)) 59 1 (((ab_wI h 59 0 (h.1 1 0))).1 1 1)) 59 2 (((ab_wI (ab_wI h 59 0 (h.1 1 0)) 59 1 (((ab_wI h 59 0 (h.1 1 0))).1 1 1))).1 1 2)) 59 3 (((ab_wI (ab_wI (ab_wI h 59 0 (h.1 1 0)) 59 1 (((ab_wI h 59 0 (h.1 1 0))).1 1 1)) 59 2 (((ab_wI (ab_wI h 59 0 (h.1 1 0)) 59 1 (((ab_wI h 59 0 (h.1 1 0))).1 1 1))).1 1 2))).1 1 3)) 59 4 (((ab_wI (ab_wI (ab_wI (ab_wI h 59 0 (h.1 1 0)) 59 1 (((ab_wI h 59 0 (h.1 1 0))).1 1 1)) 59 2 (((ab_wI (ab_wI h 59 0 (h.1 1 0)) 59 1 (((ab_wI h 59 0 (h.1 1 0))).1 1 1))).1 1 2)) 59 3 (((ab_wI (ab_wI (ab_wI h 59 0 (h.1 1 0)) 59 1 (((ab_wI h 59 0 (h.1 1 0))).1 1 1)) 59 2 (((ab_wI (ab_wI h 59 0 (h.1 1 0)) 59 1 (((ab_wI h 59 0 (h.1 1 0))).1 1 1))).1 1 2))).1 1 3))).1 1 4))).1 1 5)) 59 6 (((ab_wI (ab_wI (ab_wI (ab_wI (ab_wI (ab_wI h 59 0 (h.1 1 0)) 59 1 (((ab_wI h 59 0 (h.1 1 0))).1 1 1)) 59 2 (((ab_wI (ab_wI h 59 0 (h.1 1 0)) 59 1 (((ab_wI h 59 0 (h.1 1 0))).1 1 1))).1 1 2)) 59 3 (((ab_wI (ab_wI (ab_wI h 59 0 (h.1 1 0)) 59 1 (((ab_wI h 59 0 (h.1 1 0))).1 1 1)) 59 2 (((ab_wI (ab_wI h 59 0 (h.1 1 0)) 59 1 (((ab_wI h 59 0 (h.1 1 0))).1 1 1))).1 1 2))).1 1 3)) 59 4 (((ab_wI (ab_wI (ab_wI (ab_wI h 59 0 (h.1 1 0)) 59 1 (((ab_wI h 59 0 (h.1 1 0))).1 1 1)) 59 2 (((ab_wI (ab_wI h 59 0 (h.1 1 0)) 59 1 (((ab_wI h 59 0 (h.1 1 0))).1 1 1))).1 1 2)) 59 3 (((ab_wI (ab_wI (ab_wI h 59 0 (h.1 1 0)) 59 1 (((ab_wI h 59 0 (h.1 1 0))).1 1 1)) 59 2 (((ab_wI (ab_wI h 59 0 (h.1 1 0)) 59 1 (((ab_wI h 59 0 (h.1 1 0))).1 1 1))).1 1 2))).1 1 3))).1 1 4)) 59 5 (((ab_wI (ab_wI (ab_wI (ab_wI (ab_wI h 59 0 (h.1 1 0)) 59 1 (((ab_wI h 59 0 (h.1 1 0))).1 1 1)) 59 2 (((ab_wI (ab_wI h 59 0 (h.1 1 0)) 59 1 (((ab_wI h 59 0 (h.1 1 0))).1 1 1))).1 1 2)) 59 3 (((ab_wI (ab_wI (ab_wI h 59 0 (h.1 1 0)) 59 1 (((ab_wI h 59 0 (h.1 1 0))).1 1 1)) 59 2 (((ab_wI (ab_wI h 59 0 (h.1 1 0)) 59 1 (((ab_wI h 59 0 (h.1 1 0))).1 1 1))).1 1 2))).1 1 3)) 59 4 (((ab_wI (ab_wI (ab_wI (ab_wI h 59 0 (h.1 1 0)) 59 1 (((ab_wI h 59 0 (h.1 1 0))).1 1 1)) 59 2 (((ab_wI (ab_wI h 59 0 (h.1 1 0)) 59 1 (((ab_wI h 59 0 (h.1 1 0))).1 1 1))).1 1 2)) 59 3 (((ab_wI (ab_wI (ab_wI h 59 0 (h.1 1 0)) 59 1 (((ab_wI h 59 0 (h.1 1 0))).1 1 1)) 59 2 (((ab_wI (ab_wI h 59 0 (h.1 1 0)) 59 1 (((ab_wI h 59 0 (h.1 1 0))).1 1 1))).1 1 2))).1 1 3))).1 1 4))).1 1 5))).1 1 6)) 2 60 0 0 6)) (fun n => rfl) ?_
  refine ab_Ex.blk (k := 7) (pc' := 83) (lv' := [(0, .ref 59), (1, .ref 1)]) (st' := [.int 18, .int 0, .ref 61, .int 0, .ref 3]) (sh' := ab_SH) (D' := ab_dD (ab_cp (ab_wI (ab_wI (ab_wI (ab_wI (ab_wI (ab_wI (ab_wI h 59 0 (h.1 1 0)) 59 1 (((ab_wI h 59 0 (h.1 1 0))).1 1 1)) 59 2 (((ab_wI (ab_wI h 59 0 (h.1 1 0)) 59 1 (((ab_wI h 59 0 (h.1 1 0))).1 1 1))).1 1 2)) 59 3 (((ab_wI (ab_wI (ab_wI h 59 0 (h.1 1 0)) 59 1 (((ab_wI h 59 0 (h.1 1 0))).1 1 1)) 59 2 (((ab_wI (ab_wI h 59 0 (h.1 1 0)) 59 1 (((ab_wI h 59 0 (h.1 1 0))).1 1 1))).1 1 2))).1 1 3)) 59 4 (((ab_wI (ab_wI (ab_wI (ab_wI h 59 0 (h.1 1 0)) 59 1 (((ab_wI h 59 0 (h.1 1 0))).1 1 1)) 59 2 (((ab_wI (ab_wI h 59 0 (h.1 1 0)) 59 1 (((ab_wI h 59 0 (h.1 1 0))).1 1 1))).1 1 2)) 59 3 (((ab_wI (ab_wI (ab_wI h 59 0 (h.1 1 0)) 59 1 (((ab_wI h 59 0 (h.1 1 0))).1 1 1)) 59 2 (((ab_wI (ab_wI h 59 0 (h.1 1 0)) 59 1 (((ab_wI h 59 0 (h.1 1 0))).1 1 1))).1 1 2))).1 1 3))).1 1 4)) 59 5 (((ab_wI (ab_wI (ab_wI (ab_wI (ab_wI h 59 0 (h.1 1 0)) 59 1 (((ab_wI h 59 0 (h.1 1 0))).1 1 1)) 59 2 (((ab_wI (ab_wI h 59 0 (h.1 1 0)) 59 1 (((ab_wI h 59 0 (h.1 1 0))).1 1 1))).1 1 2)) 59 3 (((ab_wI (ab_wI (ab_wI h 59 0 (h.1 1 0)) 59 1 (((ab_wI h 59 0 (h.1 1 0))).1 1 1)) 59 2 (((ab_wI (ab_wI h 59 0 (h.1 1 0)) 59 1 (((ab_wI h 59 0 (h.1 1 0))).1 1 1))).1 1 2))).1 1 3)) 59 4 (((ab_wI (ab_wI (ab_wI (ab_wI h 59 0 (h.1 1 0)) 59 1 (((ab_wI h 59 0 (h.1 1 0))).1 1 1)) 59 2 (((ab_wI (ab_wI h 59 0 (h.1 1 0)) 59 1 (((ab_wI h 59 0 (h.1 1 0))).1 1 1))).1 1 2)) 59 3 (((ab_wI (ab_wI (ab_wI h 59 0 (h.1 1 0)) 59 1 (((ab_wI h 59 0 (h.1 1 0))).1 1 1)) 59 2 (((ab_wI (ab_wI h 59 0 (h.1 1 0)) 59 1 (((ab_wI h 59 0 (h.1 1 0))).1 1 1))).1 1 2))).1 1 3))).1 1 4))).1 1 5)) 59 6 (((ab_wI (ab_wI (ab_wI (ab_wI (ab_wI (ab_wI h 59 0 (h.1 1 0)) 59 1 (((ab_wI h 59 0 (h.1 1 0))).1 1 1)) 59 2 (((ab_wI (ab_wI h 59 0 (h.1 1 0)) 59 1 (((ab_wI h 59 0 (h.1 1 0))).1 1 1))).1 1 2)) 59 3 (((ab_wI (ab_wI (ab_wI h 59 0 (h.1 1 0)) 59 1 (((ab_wI h 59 0 (h.1 1 0))).1 1 1)) 59 2 (((ab_wI (ab_wI h 59 0 (h.1 1 0)) 59 1 (((ab_wI h 59 0 (h.1 1 0))).1 1 1))).1 1 2))).1 1 3)) 59 4 (((ab_wI (ab_wI (ab_wI (ab_wI h 59 0 (h.1 1 0)) 59 1 (((ab_wI h 59 0 (h.1 1 0))).1 1 1)) 59 2 (((ab_wI (ab_wI h 59 0 (h.1 1 0)) 59 1 (((ab_wI h 59 0 (h.1 1 0))).1 1 1))).1 1 2)) 59 3 (((ab_wI (ab_wI (ab_wI h 59 0 (h.1 1 0)) 59 1 (((ab_wI h 59 0 (h.1 1 0))).1 1 1)) 59 2 (((ab_wI (ab_wI h 59 0 (h.1 1 0)) 59 1 (((ab_wI h 59 0 (h.1 1 0))).1 1 1))).1 1 2))).1 1 3))).1 1 4)) 59 5 (((ab_wI (ab_wI (ab_wI (ab_wI (ab_wI h 59 0 (h.1 1 0)) 59 1 (((ab_wI h 59 0 (h.1 1 0))).1 1 1)) 59 2 (((ab_wI (ab_wI h 59 0 (h.1 1 0)) 59 1 (((ab_wI h 59 0 (h.1 1 0))).1 1 1))).1 1 2)) 59 3 (((ab_wI (ab_wI (ab_wI h 59 0 (h.1 1 0)) 59 1 (((ab_wI h 59 0 (h.1 1 0))).1 1 1)) 59 2 (((ab_wI (ab_wI h 59 0 (h.1 1 0)) 59 1 (((ab_wI h 59 0 (h.1 1 0))).1 1 1))).1 1 2))).1 1 3)) 59 4 (((ab_wI (ab_wI (ab_wI (ab_wI h 59 0 (h.1 1 0)) 59 1 (((ab_wI h 59 0 (h.1 1 0))).1 1 1)) 59 2 (((ab_wI (ab_wI h 59 0 (h.1 1 0)) 59 1 (((ab_wI h 59 0 (h.1 1 0))).1 1 1))).1 1 2)) 59 3 (((ab_wI (ab_wI (ab_wI h 59 0 (h.1 1 0)) 59 1 (((ab_wI h 59 0 (h.1 1 0))).1 1 1)) 59 2 (((ab_wI (ab_wI h 59 0 (h.1 1 0)) 59 1 (((ab_wI h 59 0 (h.1 1 0))).1 1 1))).1 1 2))).1 1 3))).1 1 4))).1 1 5))).1 1 6)) 2 60 0 0 6)) (fun n => rfl) ?_
  refine ab_Ex.blk (k := 1) (pc' := 86) (lv' := [(0, .ref 59), (1, .ref 1)]) (st' := []) (sh' := ab_SH) (D' := ab_dD (ab_cp (ab_cp (ab_wI (ab_wI (ab_wI (ab_wI (ab_wI (ab_wI (ab_wI h 59 0 (h.1 1 0)) 59 1 (((ab_wI h 59 0 (h.1 1 0))).1 1 1)) 59 2 (((ab_wI (ab_wI h 59 0 (h.1 1 0)) 59 1 (((ab_wI h 59 0 (h.1 1 0))).1 1 1))).1 1 2)) 59 3 (((ab_wI (ab_wI (ab_wI h 59 0 (h.1 1 0)) 59 1 (((ab_wI h 59 0 (h.1 1 0))).1 1 1)) 59 2 (((ab_wI (ab_wI h 59 0 (h.1 1 0)) 59 1 (((ab_wI h 59 0 (h.1 1 0))).1 1 1))).1 1 2))).1 1 3)) 59 4 (((ab_wI (ab_wI (ab_wI (ab_wI h 59 0 (h.1 1 0)) 59 1 (((ab_wI h 59 0 (h.1 1 0))).1 1 1)) 59 2 (((ab_wI (ab_wI h 59 0 (h.1 1 0)) 59 1 (((ab_wI h 59 0 (h.1 1 0))).1 1 1))).1 1 2)) 59 3 (((ab_wI (ab_wI (ab_wI h 59 0 (h.1 1 0)) 59 1 (((ab_wI h 59 0 (h.1 1 0))).1 1 1)) 59 2 (((ab_wI (ab_wI h 59 0 (h.1 1 0)) 59 1 (((ab_wI h 59 0 (h.1 1 0))).1 1 1))).1 1 2))).1 1 3))).1 1 4)) 59 5 (((ab_wI (ab_wI (ab_wI (ab_wI (ab_wI h 59 0 (h.1 1 0)) 59 1 (((ab_wI h 59 0 (h.1 1 0))).1 1 1)) 59 2 (((ab_wI (ab_wI h 59 0 (h.1 1 0)) 59 1 (((ab_wI h 59 0 (h.1 1 0))).1 1 1))).1 1 2)) 59 3 (((ab_wI (ab_wI (ab_wI h 59 0 (h.1 1 0)) 59 1 (((ab_wI h 59 0 (h.1 1 0))).1 1 1)) 59 2 (((ab_wI (ab_wI h 59 0 (h.1 1 0)) 59 1 (((ab_wI h 59 0 (h.1 1 0))).1 1 1))).1 1 2))).1 1 3)) 59 4 (((ab_wI (ab_wI (ab_wI (ab_wI h 59 0 (h.1 1 0)) 59 1 (((ab_wI h 59 0 (h.1 1 0))).1 1 1)) 59 2 (((ab_wI (ab_wI h 59 0 (h.1 1 0)) 59 1 (((ab_wI h 59 0 (h.1 1 0))).1 1 1))).1 1 2)) 59 3 (((ab_wI (ab_wI (ab_wI h 59 0 (h.1 1 0)) 59 1 (((ab_wI h 59 0 (h.1 1 0))).1 1 1)) 59 2 (((ab_wI (ab_wI h 59 0 (h.1 1 0)) 59 1 (((ab_wI h 59 0 (h.1 1 0))).1 1 1))).1 1 2))).1 1 3))).1 1 4))).1 1 5)) 59 6 (((ab_wI (ab_wI (ab_wI (ab_wI (ab_wI (ab_wI h 59 0 (h.1 1 0)) 59 1 (((ab_wI h 59 0 (h.1 1 0))).1 1 1)) 59 2 (((ab_wI (ab_wI h 59 0 (h.1 1 0)) 59 1 (((ab_wI h 59 0 (h.1 1 0))).1 1 1))).1 1 2)) 59 3 (((ab_wI (ab_wI (ab_wI h 59 0 (h.1 1 0)) 59 1 (((ab_wI h 59 0 (h.1 1 0))).1 1 1)) 59 2 (((ab_wI (ab_wI h 59 0 (h.1 1 0)) 59 1 (((ab_wI h 59 0 (h.1 1 0))).1 1 1))).1 1 2))).1 1 3)) 59 4 (((ab_wI (ab_wI (ab_wI (ab_wI h 59 0 (h.1 1 0)) 59 1 (((ab_wI h 59 0 (h.1 1 0))).1 1 1)) 59 2 (((ab_wI (ab_wI h 59 0 (h.1 1 0)) 59 1 (((ab_wI h 59 0 (h.1 1 0))).1 1 1))).1 1 2)) 59 3 (((ab_wI (ab_wI (ab_wI h 59 0 (h.1 1 0)) 59 1 (((ab_wI h 59 0 (h.1 1 0))).1 1 1)) 59 2 (((ab_wI (ab_wI h 59 0 (h.1 1 0)) 59 1 (((ab_wI h 59 0 (h.1 1 0))).1 1 1))).1 1 2))).1 1 3))).1 1 4)) 59 5 (((ab_wI (ab_wI (ab_wI (ab_wI (ab_wI h 59 0 (h.1 1 0)) 59 1 (((ab_wI h 59 0 (h.1 1 0))).1 1 1)) 59 2 (((ab_wI (ab_wI h 59 0 (h.1 1 0)) 59 1 (((ab_wI h 59 0 (h.1 1 0))).1 1 1))).1 1 2)) 59 3 (((ab_wI (ab_wI (ab_wI h 59 0 (h.1 1 0)) 59 1 (((ab_wI h 59 0 (h.1 1 0))).1 1 1)) 59 2 (((ab_wI (ab_wI h 59 0 (h.1 1 0)) 59 1 (((ab_wI h 59 0 (h.1 1 0))).1 1 1))).1 1 2))).1 1 3)) 59 4 (((ab_wI (ab_wI (ab_wI (ab_wI h 59 0 (h.1 1 0)) 59 1 (((ab_wI h 59 0 (h.1 1 0))).1 1 1)) 59 2 (((ab_wI (ab_wI h 59 0 (h.1 1 0)) 59 1 (((ab_wI h 59 0 (h.1 1 0))).1 1 1))).1 1 2)) 59 3 (((ab_wI (ab_wI (ab_wI h 59 0 (h.1 1 0)) 59 1 (((ab_wI h 59 0 (h.1 1 0))).1 1 1)) 59 2 (((ab_wI (ab_wI h 59 0 (h.1 1 0)) 59 1 (((ab_wI h 59 0 (h.1 1 0))).1 1 1))).1 1 2))).1 1 3))).1 1 4))).1 1 5))).1 1 6)) 2 60 0 0 6) 3 61 0 0 18)) (fun n => rfl) ?_
  refine ab_Ex.blk (k := 7) (pc' := 99) (lv' := [(0, .ref 59), (1, .ref 1)]) (st' := [.int 900, .int 0, .ref 62, .int 0, .ref 4]) (sh' := ab_SH) (D' := ab_dD (ab_cp (ab_cp (ab_wI (ab_wI (ab_wI (ab_wI (ab_wI (ab_wI (ab_wI h 59 0 (h.1 1 0)) 59 1 (((ab_wI h 59 0 (h.1 1 0))).1 1 1)) 59 2 (((ab_wI (ab_wI h 59 0 (h.1 1 0)) 59 1 (((ab_wI h 59 0 (h.1 1 0))).1 1 1))).1 1 2)) 59 3 (((ab_wI (ab_wI (ab_wI h 59 0 (h.1 1 0)) 59 1 (((ab_wI h 59 0 (h.1 1 0))).1 1 1)) 59 2 (((ab_wI (ab_wI h 59 0 (h.1 1 0)) 59 1 (((ab_wI h 59 0 (h.1 1 0))).1 1 1))).1 1 2))).1 1 3)) 59 4 (((ab_wI (ab_wI (ab_wI (ab_wI h 59 0 (h.1 1 0)) 59 1 (((ab_wI h 59 0 (h.1 1 0))).1 1 1)) 59 2 (((ab_wI (ab_wI h 59 0 (h.1 1 0)) 59 1 (((ab_wI h 59 0 (h.1 1 0))).1 1 1))).1 1 2)) 59 3 (((ab_wI (ab_wI (ab_wI h 59 0 (h.1 1 0)) 59 1 (((ab_wI h 59 0 (h.1 1 0))).1 1 1)) 59 2 (((ab_wI (ab_wI h 59 0 (h.1 1 0)) 59 1 (((ab_wI h 59 0 (h.1 1 0))).1 1 1))).1 1 2))).1 1 3))).1 1 4)) 59 5 (((ab_wI (ab_wI (ab_wI (ab_wI (ab_wI h 59 0 (h.1 1 0)) 59 1 (((ab_wI h 59 0 (h.1 1 0))).1 1 1)) 59 2 (((ab_wI (ab_wI h 59 0 (h.1 1 0)) 59 1 (((ab_wI h 59 0 (h.1 1 0))).1 1 1))).1 1 2)) 59 3 (((ab_wI (ab_wI (ab_wI h 59 0 (h.1 1 0)) 59 1 (((ab_wI h 59 0 (h.1 1 0))).1 1 1)) 59 2 (((ab_wI (ab_wI h 59 0 (h.1 1 0)) 59 1 (((ab_wI h 59 0 (h.1 1 0))).1 1 1))).1 1 2))).1 1 3)) 59 4 (((ab_wI (ab_wI (ab_wI (ab_wI h 59 0 (h.1 1 0)) 59 1 (((ab_wI h 59 0 (h.1 1 0))).1 1 1)) 59 2 (((ab_wI (ab_wI h 59 0 (h.1 1 0)) 59 1 (((ab_wI h 59 0 (h.1 1 0))).1 1 1))).1 1 2)) 59 3 (((ab_wI (ab_wI (ab_wI h 59 0 (h.1 1 0)) 59 1 (((ab_wI h 59 0 (h.1 1 0))).1 1 1)) 59 2 (((ab_wI (ab_wI h 59 0 (h.1 1 0)) 59 1 (((ab_wI h 59 0 (h.1 1 0))).1 1 1))).1 1 2))).1 1 3))).1 1 4))).1 1 5)) 59 6 (((ab_wI (ab_wI (ab_wI (ab_wI (ab_wI (ab_wI h 59 0 (h.1 1 0)) 59 1 (((ab_wI h 59 0 (h.1 1 0))).1 1 1)) 59 2 (((ab_wI (ab_wI h 59 0 (h.1 1 0)) 59 1 (((ab_wI h 59 0 (h.1 1 0))).1 1 1))).1 1 2)) 59 3 (((ab_wI (ab_wI (ab_wI h 59 0 (h.1 1 0)) 59 1 (((ab_wI h 59 0 (h.1 1 0))).1 1 1)) 59 2 (((ab_wI (ab_wI h 59 0 (h.1 1 0)) 59 1 (((ab_wI h 59 0 (h.1 1 0))).1 1 1))).1 1 2))).1 1 3)) 59 4 (((ab_wI (ab_wI (ab_wI (ab_wI h 59 0 (h.1 1 0)) 59 1 (((ab_wI h 59 0 (h.1 1 0))).1 1 1)) 59 2 (((ab_wI (ab_wI h 59 0 (h.1 1 0)) 59 1 (((ab_wI h 59 0 (h.1 1 0))).1 1 1))).1 1 2)) 59 3 (((ab_wI (ab_wI (ab_wI h 59 0 (h.1 1 0)) 59 1 (((ab_wI h 59 0 (h.1 1 0))).1 1 1)) 59 2 (((ab_wI (ab_wI h 59 0 (h.1 1 0)) 59 1 (((ab_wI h 59 0 (h.1 1 0))).1 1 1))).1 1 2))).1 1 3))).1 1 4)) 59 5 (((ab_wI (ab_wI (ab_wI (ab_wI (ab_wI h 59 0 (h.1 1 0)) 59 1 (((ab_wI h 59 0 (h.1 1 0))).1 1 1)) 59 2 (((ab_wI (ab_wI h 59 0 (h.1 1 0)) 59 1 (((ab_wI h 59 0 (h.1 1 0))).1 1 1))).1 1 2)) 59 3 (((ab_wI (ab_wI (ab_wI h 59 0 (h.1 1 0)) 59 1 (((ab_wI h 59 0 (h.1 1 0))).1 1 1)) 59 2 (((ab_wI (ab_wI h 59 0 (h.1 1 0)) 59 1 (((ab_wI h 59 0 (h.1 1 0))).1 1 1))).1 1 2))).1 1 3)) 59 4 (((ab_wI (ab_wI (ab_wI (ab_wI h 59 0 (h.1 1 0)) 59 1 (((ab_wI h 59 0 (h.1 1 0))).1 1 1)) 59 2 (((ab_wI (ab_wI h 59 0 (h.1 1 0)) 59 1 (((ab_wI h 59 0 (h.1 1 0))).1 1 1))).1 1 2)) 59 3 (((ab_wI (ab_wI (ab_wI h 59 0 (h.1 1 0)) 59 1 (((ab_wI h 59 0 (h.1 1 0))).1 1 1)) 59 2 (((ab_wI (ab_wI h 59 0 (h.1 1 0)) 59 1 (((ab_wI h 59 0 (h.1 1 0))).1 1 1))).1 1 2))).1 1 3))).1 1 4))).1 1 5))).1 1 6)) 2 60 0 0 6) 3 61 0 0 18)) (fun n => rfl) ?_
  refine ab_Ex.blk (k := 1) (pc' := 102) (lv' := [(0, .ref 59), (1, .ref 1)]) (st' := []) (sh' := ab_SH) (D' := ab_dD (ab_cp (ab_cp (ab_cp (ab_wI (ab_wI (ab_wI (ab_wI (ab_wI (ab_wI (ab_wI h 59 0 (h.1 1 0)) 59 1 (((ab_wI h 59 0 (h.1 1 0))).1 1 1)) 59 2 (((ab_wI (ab_wI h 59 0 (h.1 1 0)) 59 1 (((ab_wI h 59 0 (h.1 1 0))).1 1 1))).1 1 2)) 59 3 (((ab_wI (ab_wI (ab_wI h 59 0 (h.1 1 0)) 59 1 (((ab_wI h 59 0 (h.1 1 0))).1 1 1)) 59 2 (((ab_wI (ab_wI h 59 0 (h.1 1 0)) 59 1 (((ab_wI h 59 0 (h.1 1 0))).1 1 1))).1 1 2))).1 1 3)) 59 4 (((ab_wI (ab_wI (ab_wI (ab_wI h 59 0 (h.1 1 0)) 59 1 (((ab_wI h 59 0 (h.1 1 0))).1 1 1)) 59 2 (((ab_wI (ab_wI h 59 0 (h.1 1 0)) 59 1 (((ab_wI h 59 0 (h.1 1 0))).1 1 1))).1 1 2)) 59 3 (((ab_wI (ab_wI (ab_wI h 59 0 (h.1 1 0)) 59 1 (((ab_wI h 59 0 (h.1 1 0))).1 1 1)) 59 2 (((ab_wI (ab_wI h 59 0 (h.1 1 0)) 59 1 (((ab_wI h 59 0 (h.1 1 0))).1 1 1))).1 1 2))).1 1 3))).1 1 4)) 59 5 (((ab_wI (ab_wI (ab_wI (ab_wI (ab_wI h 59 0 (h.1 1 0)) 59 1 (((ab_wI h 59 0 (h.1 1 0))).1 1 1)) 59 2 (((ab_wI (ab_wI h 59 0 (h.1 1 0)) 59 1 (((ab_wI h 59 0 (h.1 1 0))).1 1 1))).1 1 2)) 59 3 (((ab_wI (ab_wI (ab_wI h 59 0 (h.1 1 0)) 59 1 (((ab_wI h 59 0 (h.1 1 0))).1 1 1)) 59 2 (((ab_wI (ab_wI h 59 0 (h.1 1 0)) 59 1 (((ab_wI h 59 0 (h.1 1 0))).1 1 1))).1 1 2))).1 1 3)) 59 4 (((ab_wI (ab_wI (ab_wI (ab_wI h 59 0 (h.1 1 0)) 59 1 (((ab_wI h 59 0 (h.1 1 0))).1 1 1)) 59 2 (((ab_wI (ab_wI h 59 0 (h.1 1 0)) 59 1 (((ab_wI h 59 0 (h.1 1 0))).1 1 1))).1 1 2)) 59 3 (((ab_wI (ab_wI (ab_wI h 59 0 (h.1 1 0)) 59 1 (((ab_wI h 59 0 (h.1 1 0))).1 1 1)) 59 2 (((ab_wI (ab_wI h 59 0 (h.1 1 0)) 59 1 (((ab_wI h 59 0 (h.1 1 0))).1 1 1))).1 1 2))).1 1 3))).1 1 4))).1 1 5)) 59 6 (((ab_wI (ab_wI (ab_wI (ab_wI (ab_wI (ab_wI h 59 0 (h.1 1 0)) 59 1 (((ab_wI h 59 0 (h.1 1 0))).1 1 1)) 59 2 (((ab_wI (ab_wI h 59 0 (h.1 1 0)) 59 1 (((ab_wI h 59 0 (h.1 1 0))).1 1 1))).1 1 2)) 59 3 (((ab_wI (ab_wI (ab_wI h 59 0 (h.1 1 0)) 59 1 (((ab_wI h 59 0 (h.1 1 0))).1 1 1)) 59 2 (((ab_wI (ab_wI h 59 0 (h.1 1 0)) 59 1 (((ab_wI h 59 0 (h.1 1 0))).1 1 1))).1 1 2))).1 1 3)) 59 4 (((ab_wI (ab_wI (ab_wI (ab_wI h 59 0 (h.1 1 0)) 59 1 (((ab_wI h 59 0 (h.1 1 0))).1 1 1)) 59 2 (((ab_wI (ab_wI h 59 0 (h.1 1 0)) 59 1 (((ab_wI h 59 0 (h.1 1 0))).1 1 1))).1 1 2)) 59 3 (((ab_wI (ab_wI (ab_wI h 59 0 (h.1 1 0)) 59 1 (((ab_wI h 59 0 (h.1 1 0))).1 1 1)) 59 2 (((ab_wI (ab_wI h 59 0 (h.1 1 0)) 59 1 (((ab_wI h 59 0 (h.1 1 0))).1 1 1))).1 1 2))).1 1 3))).1 1 4)) 59 5 (((ab_wI (ab_wI (ab_wI (ab_wI (ab_wI h 59 0 (h.1 1 0)) 59 1 (((ab_wI h 59 0 (h.1 1 0))).1 1 1)) 59 2 (((ab_wI (ab_wI h 59 0 (h.1 1 0)) 59 1 (((ab_wI h 59 0 (h.1 1 0))).1 1 1))).1 1 2)) 59 3 (((ab_wI (ab_wI (ab_wI h 59 0 (h.1 1 0)) 59 1 (((ab_wI h 59 0 (h.1 1 0))).1 1 1)) 59 2 (((ab_wI (ab_wI h 59 0 (h.1 1 0)) 59 1 (((ab_wI h 59 0 (h.1 1 0))).1 1 1))).1 1 2))).1 1 3)) 59 4 (((ab_wI (ab_wI (ab_wI (ab_wI h 59 0 (h.1 1 0)) 59 1 (((ab_wI h 59 0 (h.1 1 0))).1 1 1)) 59 2 (((ab_wI (ab_wI h 59 0 (h.1 1 0)) 59 1 (((ab_wI h 59 0 (h.1 1 0))).1 1 1))).1 1 2)) 59 3 (((ab_wI (ab_wI (ab_wI h 59 0 (h.1 1 0)) 59 1 (((ab_wI h 59 0 (h.1 1 0))).1 1 1)) 59 2 (((ab_wI (ab_wI h 59 0 (h.1 1 0)) 59 1 (((ab_wI h 59 0 (h.1 1 0))).1 1 1))).1 1 2))).1 1 3))).1 1 4))).1 1 5))).1 1 6)) 2 60 0 0 6) 3 61 0 0 18) 4 62 0 0 900)) (fun n => rfl) ?_
  obtain rfl := Option.some.inj hf
  exact ab_Ex.ret (fun n => rfl) rfl
set_option maxRecDepth 20000 in
theorem sX3_copy_1_54 (d : Nat) (X : abX)  (h : abJ) (z : abJ) (hf : fX3_copy 1 54 h = some z) : ab_Ex X (d + 0) 33 0 [(0, .ref 1), (1, .ref 54)] [] ab_SH (ab_dD h) (fun r => r = (none, ab_SH, ab_dD z)) := by
  unfold fX3_copy at hf
  try simp only [Nat.reduceAdd] at hf
  refine ab_Ex.blk (k := 35) (pc' := 68) (lv' := [(0, .ref 1), (1, .ref 54)]) (st' := [.int 6, .int 0, .ref 2, .int 0, .ref 55]) (sh' := ab_SH) (D' := ab_dD (ab_wI (ab_wI (ab_wI (ab_wI (ab_wI (ab_wI (ab_wI h 1 0 (h.1 54 0)) 1 1 (((ab_wI h 1 0 (h.1 54 0))).1 54 1)) 1 2 (((ab_wI (ab_wI h 1 0 (h.1 54 0)) 1 1 (((ab_wI h 1 0 (h.1 54 0))).1 54 1))).1 54 2)) 1 3 (((ab_wI (ab_wI (ab_wI h 1 0 (h.1 54 0)) 1 1 (((ab_wI h 1 0 (h.1 54 0))).1 54 1)) 1 2 (((ab_wI (ab_wI h 1 0 (h.1 54 0)) 1 1 (((ab_wI h 1 0 (h.1 54 0))).1 54 1))).1 54 2))).1 54 3)) 1 4 (((ab_wI (ab_wI (ab_wI (ab_wI h 1 0 (h.1 54 0)) 1 1 (((ab_wI h 1 0 (h.1 54 0))).1 54 1)) 1 2 (((ab_wI (ab_wI h 1 0 (h.1 54 0)) 1 1 (((ab_wI h 1 0 (h.1 54 0))).1 54 1))).1 54 2)) 1 3 (((ab_wI (ab_wI (ab_wI h 1 0 (h.1 54 0)) 1 1 (((ab_wI h 1 0 (h.1 54 0))).1 54 1)) 1 2 (((ab_wI (ab_wI h 1 0 (h.1 54 0)) 1 1 (((ab_wI h 1 0 (h.1 54 0))).1 54 1))).1 54 2))).1 54 3))).1 54 4)) 1 5 (((ab_wI (ab_wI (ab_wI (ab_wI (ab_wI h 1 0 (h.1 54 0)) 1 1 (((ab_wI h 1 0 (h.1 54 0))).1 54 1)) 1 2 (((ab_wI (ab_wI h 1 0 (h.1 54 0)) 1 1 (((ab_wI h 1 0 (h.1 54 0))).1 54 1))).1 54 2)) 1 3 (((ab_wI (ab_wI (ab_wI h 1 0 (h.1 54 0)) 1 1 (((ab_wI h 1 0 (h.1 54 0))).1 54 1)) 1 2 (((ab_wI (ab_wI h 1 0 (h.1 54 0)) 1 1 (((ab_wI h 1 0 (h.1 54 0))).1 54 1))).1 54 2))).1 54 3)) 1 4 (((ab_wI (ab_wI (ab_wI (ab_wI h 1 0 (h.1 54 0)) 1 1 (((ab_wI h 1 0 (h.1 54 0))).1 54 1)) 1 2 (((ab_wI (ab_wI h 1 0 (h.1 54 0)) 1 1 (((ab_wI h 1 0 (h.1 54 0))).1 54 1))).1 54 2)) 1 3 (((ab_wI (ab_wI (ab_wI h 1 0 (h.1 54 0)) 1 1 (((ab_wI h 1 0 (h.1 54 0))).1 54 1)) 1 2 (((ab_wI (ab_wI h 1 0 (h.1 54 0)) 1 1 (((ab_wI h 1 0 (h.1 54 0))).1 54 1))).1 54 2))).1 54 3))).1 54 4))).1 54 5)) 1 6 (((ab_wI (ab_wI (ab_wI (ab_wI (ab_wI (ab_wI h 1 0 (h.1 54 0)) 1 1 (((ab_wI h 1 0 (h.1 54 0))).1 54 1)) 1 2 (((ab_wI (ab_wI h 1 0 (h.1 54 0)) 1 1 (((ab_wI h 1 0 (h.1 54 0))).1 54 1))).1 54 2)) 1 3 (((ab_wI (ab_wI (ab_wI h 1 0 (h.1 54 0)) 1 1 (((ab_wI h 1 0 (h.1 54 0))).1 54 1)) 1 2 (((ab_wI (ab_wI h 1 0 (h.1 54 0)) 1 1 (((ab_wI h 1 0 (h.1 54 0))).1 54 1))).1 54 2))).1 54 3)) 1 4 (((ab_wI (ab_wI (ab_wI (ab_wI h 1 0 (h.1 54 0)) 1 1 (((ab_wI h 1 0 (h.1 54 0))).1 54 1)) 1 2 (((ab_wI (ab_wI h 1 0 (h.1 54 0)) 1 1 (((ab_wI h 1 0 (h.1 54 0))).1 54 1))).1 54 2)) 1 3 (((ab_wI (ab_wI (ab_wI h 1 0 (h.1 54 0)) 1 1 (((ab_wI h 1 0 (h.1 54 0))).1 54 1)) 1 2 (((ab_wI (ab_wI h 1 0 (h.1 54 0)) 1 1 (((ab_wI h 1 0 (h.1 54 0))).1 54 1))).1 54 2))).1 54 3))).1 54 4)) 1 5 (((ab_wI (ab_wI (ab_wI (ab_wI (ab_wI h 1 0 (h.1 54 0)) 1 1 (((ab_wI h 1 0 (h.1 54 0))).1 54 1)) 1 2 (((ab_wI (ab_wI h 1 0 (h.1 54 0)) 1 1 (((ab_wI h 1 0 (h.1 54 0))).1 54 1))).1 54 2)) 1 3 (((ab_wI (ab_wI (ab_wI h 1 0 (h.1 54 0)) 1 1 (((ab_wI h 1 0 (h.1 54 0))).1 54 1)) 1 2 (((ab_wI (ab_wI h 1 0 (h.1 54 0)) 1 1 (((ab_wI h 1 0 (h.1 54 0))).1 54 1))).1 54 2))).1 54 3)) 1 4 (((ab_wI (ab_wI (ab_wI (ab_wI h 1 0 (h.1 54 0)) 1 1 (((ab_wI h 1 0 (h.1 54 0))).1 54 1)) 1 2 (((ab_wI (ab_wI h 1 0 (h.1 54 0)) 1 1 (((ab_wI h 1 0 (h.1 54 0))).1 54 1))).1 54 2)) 1 3 (((ab_wI (ab_wI (ab_wI h 1 0 (h.1 54 0)) 1 1 (((ab_wI h 1 0 (h.1 54 0))).1 54 1)) 1 2 (((ab_wI (ab_wI h 1 0 (h.1 54 0)) 1 1 (((ab_wI h 1 0 (h.1 54 0))).1 54 1))).1 54 2))).1 54 3))).1 54 4))).1 54 5))).1 54 6))) (fun n => rfl) ?_
  refine ab_Ex.blk (k := 1) (pc' := 71) (lv' := [(0, .ref 1), (1, .ref 54)]) (st' := []) (sh' := ab_SH) (D' := ab_dD (ab_cp (ab_wI (ab_wI (ab_wI (ab_wI (ab_wI (ab_wI (ab_wI h 1 0 (h.1 54 0)) 1 1 (((ab_wI h 1 0 (h.1 54 0))).1 54 1)) 1 2 (((ab_wI (ab_wI h 1 0 (h.1 54 0)) 1 1 (((ab_wI h 1 0 (h.1 54 0))).1 54 1))).1 54 2)) 1 3 (((ab_wI (ab_wI (ab_wI h 1 0 (h.1 54 0)) 1 1 (((ab_wI h 1 0 (h.1 54 0))).1 54 1)) 1 2 (((ab_wI (ab_wI h 1 0 (h.1 54 0)) 1 1 (((ab_wI h 1 0 (h.1 54 0))).1 54 1))).1 54 2))).1 54 3)) 1 4 (((ab_wI (ab_wI (ab_wI (ab_wI h 1 0 (h.1 54 0)) 1 1 (((ab_wI h 1 0 (h.1 54 0))).1 54 1)) 1 2 (((ab_wI (ab_wI h 1 0 (h.1 54 0)) 1 1 (((ab_wI h 1 0 (h.1 54 0))).1 54 1))).1 54 2)) 1 3 (((ab_wI (ab_wI (ab_wI h 1 0 (h.1 54 0)) 1 1 (((ab_wI h 1 0 (h.1 54 0))).1 54 1)) 1 2 (((ab_wI (ab_wI h 1 0 (h.1 54 0)) 1 1 (((ab_wI h 1 0 (h.1 54 0))).1 54 1))).1 54 2))).1 54 3))).1 54 4)) 1 5 (((ab_wI (ab_wI (ab_wI (ab_wI (ab_wI h 1 0 (h.1 54 0)) 1 1 (((ab_wI h 1 0 (h.1 54 0))).1 54 1)) 1 2 (((ab_wI (ab_wI h 1 0 (h.1 54 0)) 1 1 (((ab_wI h 1 0 (h.1 54 0))).1 54 1))).1 54 2)) 1 3 (((ab_wI (ab_wI (ab_wI h 1 0 (h.1 54 0)) 1 1 (((ab_wI h 1 0 (h.1 54 0))).1 54 1)) 1 2 (((ab_wI (ab_wI h 1 0 (h.1 54 0)) 1 1 (((ab_wI h 1 0 (h.1 54 0))).1 54 1))).1 54 2))).1 54 3)) 1 4 (((ab_wI (ab_wI (ab_wI (ab_wI h 1 0 (h.1 54 0)) 1 1 (((ab_wI h 1 0 (h.1 54 0))).1 54 1)) 1 2 (((ab_wI (ab_wI h 1 0 (h.1 54 0)) 1 1 (((ab_wI h 1 0 (h.1 54 0))).1 54 1))).1 54 2)) 1 3 (((ab_wI (ab_wI (ab_wI h 1 0 (h.1 54 0)) 1 1 (((ab_wI h 1 0 (h.1 54 0))).1 54 1)) 1 2 (((ab_wI (ab_wI h 1 0 (h.1 54 0)) 1 1 (((ab_wI h 1 0 (h.1 54 0))).1 54 1))).1 54 2))).1 54 3))).1 54 4))).1 54 5)) 1 6 (((ab_wI (ab_wI (ab_wI (ab_wI (ab_wI (ab_wI h 1 0 (h.1 54 0)) 1 1 (((ab_wI h 1 0 (h.1 54 0))).1 54 1)) 1 2 (((ab_wI (ab_wI h 1 0 (h.1 54 0)) 1 1 (((ab_wI h 1 0 (h.1 54 0))).1 54 1))).1 54 2)) 1 3 (((ab_wI (ab_wI (ab_wI h 1 0 (h.1 54 0)) 1 1 (((ab_wI h 1 0 (h.1 54 0))).1 54 1)) 1 2 (((ab_wI (ab_wI h 1 0 (h.1 54 0)) 1 1 (((ab_wI h 1 0 (h.1 54 0))).1 54 1))).1 54 2))).1 54 3)) 1 4 (((ab_wI (ab_wI (ab_wI (ab_wI h 1 0 (h.1 54 0)) 1 1 (((ab_wI h 1 0 (h.1 54 0))).1 54 1)) 1 2 (((ab_wI (ab_wI h 1 0 (h.1 54 0)) 1 1 (((ab_wI h 1 0 (h.1 54 0))).1 54 1))).1 54 2)) 1 3 (((ab_wI (ab_wI (ab_wI h 1 0 (h.1 54 0)) 1 1 (((ab_wI h 1 0 (h.1 54 0))).1 54 1)) 1 2 (((ab_wI (ab_wI h 1 0 (h.1 54 0)) 1 1 (((ab_wI h 1 0 (h.1 54 0))).1 54 1))).1 54 2))).1 54 3))).1 54 4)) 1 5 (((ab_wI (ab_wI (ab_wI (ab_wI (ab_wI h 1 0 (h.1 54 0)) 1 1 (((ab_wI h 1 0 (h.1 54 0))).1 54 1)) 1 2 (((ab_wI (ab_wI h 1 0 (h.1 54 0)) 1 1 (((ab_wI h 1 0 (h.1 54 0))).1 54 1))).1 54 2)) 1 3 (((ab_wI (ab_wI (ab_wI h 1 0 (h.1 54 0)) 1 1 (((ab_wI h 1 0 (h.1 54 0))).1 54 1)) 1 2 (((ab_wI (ab_wI h 1 0 (h.1 54 0)) 1 1 (((ab_wI h 1 0 (h.1 54 0))).1 54 1))).1 54 2))).1 54 3)) 1 4 (((ab_wI (ab_wI (ab_wI (ab_wI h 1 0 (h.1 54 0)) 1 1 (((ab_wI h 1 0 (h.1 54 0))).1 54 1)) 1 2 (((ab_wI (ab_wI h 1 0 (h.1 54 0)) 1 1 (((ab_wI h 1 0 (h.1 54 0))).1 54 1))).1 54 2)) 1 3 (((ab_wI (ab_wI (ab_wI h 1 0 (h.1 54 0)) 1 1 (((ab_wI h 1 0 (h.1 54 0))).1 54 1)) 1 2 (((ab_wI (ab_wI h 1 0 (h.1 54 0)) 1 1 (((ab_wI h 1 0 (h.1 54 0))).1 54 1))).1 54 2))).1 54 3))).1 54 4))).1 54 5))).1 54 6)) 55 2 0 0 6)) (fun n => rfl) ?_
  refine ab_Ex.blk (k := 7) (pc' := 83) (lv' := [(0, .ref 1), (1, .ref 54)]) (st' := [.int 18, .int 0, .ref 3, .int 0, .ref 56]) (sh' := ab_SH) (D' := ab_dD (ab_cp (ab_wI (ab_wI (ab_wI (ab_wI (ab_wI (ab_wI (ab_wI h 1 0 (h.1 54 0)) 1 1 (((ab_wI h 1 0 (h.1 54 0))).1 54 1)) 1 2 (((ab_wI (ab_wI h 1 0 (h.1 54 0)) 1 1 (((ab_wI h 1 0 (h.1 54 0))).1 54 1))).1 54 2)) 1 3 (((ab_wI (ab_wI (ab_wI h 1 0 (h.1 54 0)) 1 1 (((ab_wI h 1 0 (h.1 54 0))).1 54 1)) 1 2 (((ab_wI (ab_wI h 1 0 (h.1 54 0)) 1 1 (((ab_wI h 1 0 (h.1 54 0))).1 54 1))).1 54 2))).1 54 3)) 1 4 (((ab_wI (ab_wI (ab_wI (ab_wI h 1 0 (h.1 54 0)) 1 1 (((ab_wI h 1 0 (h.1 54 0))).1 54 1)) 1 2 (((ab_wI (ab_wI h 1 0 (h.1 54 0)) 1 1 (((ab_wI h 1 0 (h.1 54 0))).1 54 1))).1 54 2)) 1 3 (((ab_wI (ab_wI (ab_wI h 1 0 (h.1 54 0)) 1 1 (((ab_wI h 1 0 (h.1 54 0))).1 54 1)) 1 2 (((ab_wI (ab_wI h 1 0 (h.1 54 0)) 1 1 (((ab_wI h 1 0 (h.1 54 0))).1 54 1))).1 54 2))).1 54 3))).1 54 4)) 1 5 (((ab_wI (ab_wI (ab_wI (ab_wI (ab_wI h 1 0 (h.1 54 0)) 1 1 (((ab_wI h 1 0 (h.1 54 0))).1 54 1)) 1 2 (((ab_wI (ab_wI h 1 0 (h.1 54 0)) 1 1 (((ab_wI h 1 0 (h.1 54 0))).1 54 1))).1 54 2)) 1 3 (((ab_wI (ab_wI (ab_wI h 1 0 (h.1 54 0)) 1 1 (((ab_wI h 1 0 (h.1 54 0))).1 54 1)) 1 2 (((ab_wI (ab_wI h 1 0 (h.1 54 0)) 1 1 (((ab_wI h 1 0 (h.1 54 0))).1 54 1))).1 54 2))).1 54 3)) 1 4 (((ab_wI (ab_wI (ab_wI (ab_wI h 1 0 (h.1 54 0)) 1 1 (((ab_wI h 1 0 (h.1 54 0))).1 54 1)) 1 2 (((ab_wI (ab_wI h 1 0 (h.1 54 0)) 1 1 (((ab_wI h 1 0 (h.1 54 0))).1 54 1))).1 54 2)) 1 3 (((ab_wI (ab_wI (ab_wI h 1 0 (h.1 54 0)) 1 1 (((ab_wI h 1 0 (h.1 54 0))).1 54 1)) 1 2 (((ab_wI (ab_wI h 1 0 (h.1 54 0)) 1 1 (((ab_wI h 1 0 (h.1 54 0))).1 54 1))).1 54 2))).1 54 3))).1 54 4))).1 54 5)) 1 6 (((ab_wI (ab_wI (ab_wI (ab_wI (ab_wI (ab_wI h 1 0 (h.1 54 0)) 1 1 (((ab_wI h 1 0 (h.1 54 0))).1 54 1)) 1 2 (((ab_wI (ab_wI h 1 0 (h.1 54 0)) 1 1 (((ab_wI h 1 0 (h.1 54 0))).1 54 1))).1 54 2)) 1 3 (((ab_wI (ab_wI (ab_wI h 1 0 (h.1 54 0)) 1 1 (((ab_wI h 1 0 (h.1 54 0))).1 54 1)) 1 2 (((ab_wI (ab_wI h 1 0 (h.1 54 0)) 1 1 (((ab_wI h 1 0 (h.1 54 0))).1 54 1))).1 54 2))).1 54 3)) 1 4 (((ab_wI (ab_wI (ab_wI (ab_wI h 1 0 (h.1 54 0)) 1 1 (((ab_wI h 1 0 (h.1 54 0))).1 54 1)) 1 2 (((ab_wI (ab_wI h 1 0 (h.1 54 0)) 1 1 (((ab_wI h 1 0 (h.1 54 0))).1 54 1))).1 54 2)) 1 3 (((ab_wI (ab_wI (ab_wI h 1 0 (h.1 54 0)) 1 1 (((ab_wI h 1 0 (h.1 54 0))).1 54 1)) 1 2 (((ab_wI (ab_wI h 1 0 (h.1 54 0)) 1 1 (((ab_wI h 1 0 (h.1 54 0))).1 54 1))).1 54 2))).1 54 3))).1 54 4)) 1 5 (((ab_wI (ab_wI (ab_wI (ab_wI (ab_wI h 1 0 (h.1 54 0)) 1 1 (((ab_wI h 1 0 (h.1 54 0))).1 54 1)) 1 2 (((ab_wI (ab_wI h 1 0 (h.1 54 0)) 1 1 (((ab_wI h 1 0 (h.1 54 0))).1 54 1))).1 54 2)) 1 3 (((ab_wI (ab_wI (ab_wI h 1 0 (h.1 54 0)) 1 1 (((ab_wI h 1 0 (h.1 54 0))).1 54 1)) 1 2 (((ab_wI (ab_wI h 1 0 (h.1 54 0)) 1 1 (((ab_wI h 1 0 (h.1 54 0))).1 54 1))).1 54 2))).1 54 3)) 1 4 (((ab_wI (ab_wI (ab_wI (ab_wI h 1 0 (h.1 54 0)) 1 1 (((ab_wI h 1 0 (h.1 54 0))).1 54 1)) 1 2 (((ab_wI (ab_wI h 1 0 (h.1 54 0)) 1 1 (((ab_wI h 1 0 (h.1 54 0))).1 54 1))).1 54 2)) 1 3 (((ab_wI (ab_wI (ab_wI h 1 0 (h.1 54 0)) 1 1 (((ab_wI h 1 0 (h.1 54 0))).1 54 1)) 1 2 (((ab_wI (ab_wI h 1 0 (h.1 54 0)) 1 1 (((ab_wI h 1 0 (h.1 54 0))).1 54 1))).1 54 2))).1 54 3))).1 54 4))).1 54 5))).1 54 6)) 55 2 0 0 6)) (fun n => rfl) ?_
  refine ab_Ex.blk (k := 1) (pc' := 86) (lv' := [(0, .ref 1), (1, .ref 54)]) (st' := []) (sh' := ab_SH) (D' := ab_dD (ab_cp (ab_cp (ab_wI (ab_wI (ab_wI (ab_wI (ab_wI (ab_wI (ab_wI h 1 0 (h.1 54 0)) 1 1 (((ab_wI h 1 0 (h.1 54 0))).1 54 1)) 1 2 (((ab_wI (ab_wI h 1 0 (h.1 54 0)) 1 1 (((ab_wI h 1 0 (h.1 54 0))).1 54 1))).1 54 2)) 1 3 (((ab_wI (ab_wI (ab_wI h 1 0 (h.1 54 0)) 1 1 (((ab_wI h 1 0 (h.1 54 0))).1 54 1)) 1 2 (((ab_wI (ab_wI h 1 0 (h.1 54 0)) 1 1 (((ab_wI h 1 0 (h.1 54 0))).1 54 1))).1 54 2))).1 54 3)) 1 4 (((ab_wI (ab_wI (ab_wI (ab_wI h 1 0 (h.1 54 0)) 1 1 (((ab_wI h 1 0 (h.1 54 0))).1 54 1)) 1 2 (((ab_wI (ab_wI h 1 0 (h.1 54 0)) 1 1 (((ab_wI h 1 0 (h.1 54 0))).1 54 1))).1 54 2)) 1 3 (((ab_wI (ab_wI (ab_wI h 1 0 (h.1 54 0)) 1 1 (((ab_wI h 1 0 (h.1 54 0))).1 54 1)) 1 2 (((ab_wI (ab_wI h 1 0 (h.1 54 0)) 1 1 (((ab_wI h 1 0 (h.1 54 0))).1 54 1))).1 54 2))).1 54 3))).1 54 4)) 1 5 (((ab_wI (ab_wI (ab_wI (ab_wI (ab_wI h 1 0 (h.1 54 0)) 1 1 (((ab_wI h 1 0 (h.1 54 0))).1 54 1)) 1 2 (((ab_wI (ab_wI h 1 0 (h.1 54 0)) 1 1 (((ab_wI h 1 0 (h.1 54 0))).1 54 1))).1 54 2)) 1 3 (((ab_wI (ab_wI (ab_wI h 1 0 (h.1 54 0)) 1 1 (((ab_wI h 1 0 (h.1 54 0))).1 54 1)) 1 2 (((ab_wI (ab_wI h 1 0 (h.1 54 0)) 1 1 (((ab_wI h 1 0 (h.1 54 0))).1 54 1))).1 54 2))).1 54 3)) 1 4 (((ab_wI (ab_wI (ab_wI (ab_wI h 1 0 (h.1 54 0)) 1 1 (((ab_wI h 1 0 (h.1 54 0))).1 54 1)) 1 2 (((ab_wI (ab_wI h 1 0 (h.1 54 0)) 1 1 (((ab_wI h 1 0 (h.1 54 0))).1 54 1))).1 54 2)) 1 3 (((ab_wI (ab_wI (ab_wI h 1 0 (h.1 54 0)) 1 1 (((ab_wI h 1 0 (h.1 54 0))).1 54 1)) 1 2 (((ab_wI (ab_wI h 1 0 (h.1 54 0)) 1 1 (((ab_wI h 1 0 (h.1 54 0))).1 54 1))).1 54 2))).1 54 3))).1 54 4))).1 54 5)) 1 6 (((ab_wI (ab_wI (ab_wI (ab_wI (ab_wI (ab_wI h 1 0 (h.1 54 0)) 1 1 (((ab_wI h 1 0 (h.1 54 0))).1 54 1)) 1 2 (((ab_wI (ab_wI h 1 0 (h.1 54 0)) 1 1 (((ab_wI h 1 0 (h.1 54 0))).1 54 1))).1 54 2)) 1 3 (((ab_wI (ab_wI (ab_wI h 1 0 (h.1 54 0)) 1 1 (((ab_wI h 1 0 (h.1 54 0))).1 54 1)) 1 2 (((ab_wI (ab_wI h 1 0 (h.1 54 0)) 1 1 (((ab_wI h 1 0 (h.1 54 0))).1 54 1))).1 54 2))).1 54 3)) 1 4 (((ab_wI (ab_wI (ab_wI (ab_wI h 1 0 (h.1 54 0)) 1 1 (((ab_wI h 1 0 (h.1 54 0))).1 54 1)) 1 2 (((ab_wI (ab_wI h 1 0 (h.1 54 0)) 1 1 (((ab_wI h 1 0 (h.1 54 0))).1 54 1))).1 54 2)) 1 3 (((ab_wI (ab_wI (ab_wI h 1 0 (h.1 54 0)) 1 1 (((ab_wI h 1 0 (h.1 54 0))).1 54 1)) 1 2 (((ab_wI (ab_wI h 1 0 (h.1 54 0)) 1 1 (((ab_wI h 1 0 (h.1 54 0))).1 54 1))).1 54 2))).1 54 3))).1 54 4)) 1 5 (((ab_wI (ab_wI (ab_wI (ab_wI (ab_wI h 1 0 (h.1 54 0)) 1 1 (((ab_wI h 1 0 (h.1 54 0))).1 54 1)) 1 2 (((ab_wI (ab_wI h 1 0 (h.1 54 0)) 1 1 (((ab_wI h 1 0 (h.1 54 0))).1 54 1))).1 54 2)) 1 3 (((ab_wI (ab_wI (ab_wI h 1 0 (h.1 54 0)) 1 1 (((ab_wI h 1 0 (h.1 54 0))).1 54 1)) 1 2 (((ab_wI (ab_wI h 1 0 (h.1 54 0)) 1 1 (((ab_wI h 1 0 (h.1 54 0))).1 54 1))).1 54 2))).1 54 3)) 1 4 (((ab_wI (ab_wI (ab_wI (ab_wI h 1 0 (h.1 54 0)) 1 1 (((ab_wI h 1 0 (h.1 54 0))).1 54 1)) 1 2 (((ab_wI (ab_wI h 1 0 (h.1 54 0)) 1 1 (((ab_wI h 1 0 (h.1 54 0))).1 54 1))).1 54 2)) 1 3 (((ab_wI (ab_wI (ab_wI h 1 0 (h.1 54 0)) 1 1 (((ab_wI h 1 0 (h.1 54 0))).1 54 1)) 1 2 (((ab_wI (ab_wI h 1 0 (h.1 54 0)) 1 1 (((ab_wI h 1 0 (h.1 54 0))).1 54 1))).1 54 2))).1 54 3))).1 54 4))).1 54 5))).1 54 6)) 55 2 0 0 6) 56 3 0 0 18)) (fun n => rfl) ?_
  refine ab_Ex.blk (k := 7) (pc' := 99) (lv' := [(0, .ref 1), (1, .ref 54)]) (st' := [.int 900, .int 0, .ref 4, .int 0, .ref 57]) (sh' := ab_SH) (D' := ab_dD (ab_cp (ab_cp (ab_wI (ab_wI (ab_wI (ab_wI (ab_wI (ab_wI (ab_wI h 1 0 (h.1 54 0)) 1 1 (((ab_wI h 1 0 (h.1 54 0))).1 54 1)) 1 2 (((ab_wI (ab_wI h 1 0 (h.1 54 0)) 1 1 (((ab_wI h 1 0 (h.1 54 0))).1 54 1))).1 54 2)) 1 3 (((ab_wI (ab_wI (ab_wI h 1 0 (h.1 54 0)) 1 1 (((ab_wI h 1 0 (h.1 54 0))).1 54 1)) 1 2 (((ab_wI (ab_wI h 1 0 (h.1 54 0)) 1 1 (((ab_wI h 1 0 (h.1 54 0))).1 54 1))).1 54 2))).1 54 3)) 1 4 (((ab_wI (ab_wI (ab_wI (ab_wI h 1 0 (h.1 54 0)) 1 1 (((ab_wI h 1 0 (h.1 54 0))).1 54 1)) 1 2 (((ab_wI (ab_wI h 1 0 (h.1 54 0)) 1 1 (((ab_wI h 1 0 (h.1 54 0))).1 54 1))).1 54 2)) 1 3 (((ab_wI (ab_wI (ab_wI h 1 0 (h.1 54 0)) 1 1 (((ab_wI h 1 0 (h.1 54 0))).1 54 1)) 1 2 (((ab_wI (ab_wI h 1 0 (h.1 54 0)) 1 1 (((ab_wI h 1 0 (h.1 54 0))).1 54 1))).1 54 2))).1 54 3))).1 54 4)) 1 5 (((ab_wI (ab_wI (ab_wI (ab_wI (ab_wI h 1 0 (h.1 54 0)) 1 1 (((ab_wI h 1 0 (h.1 54 0))).1 54 1)) 1 2 (((ab_wI (ab_wI h 1 0 (h.1 54 0)) 1 1 (((ab_wI h 1 0 (h.1 54 0))).1 54 1))).1 54 2)) 1 3 (((ab_wI (ab_wI (ab_wI h 1 0 (h.1 54 0)) 1 1 (((ab_wI h 1 0 (h.1 54 0))).1 54 1)) 1 2 (((ab_wI (ab_wI h 1 0 (h.1 54 0)) 1 1 (((ab_wI h 1 0 (h.1 54 0))).1 54 1))).1 54 2))).1 54 3)) 1 4 (((ab_wI (ab_wI (ab_wI (ab_wI h 1 0 (h.1 54 0)) 1 1 (((ab_wI h 1 0 (h.1 54 0))).1 54 1)) 1 2 (((ab_wI (ab_wI h 1 0 (h.1 54 0)) 1 1 (((ab_wI h 1 0 (h.1 54 0))).1 54 1))).1 54 2)) 1 3 (((ab_wI (ab_wI (ab_wI h 1 0 (h.1 54 0)) 1 1 (((ab_wI h 1 0 (h.1 54 0))).1 54 1)) 1 2 (((ab_wI (ab_wI h 1 0 (h.1 54 0)) 1 1 (((ab_wI h 1 0 (h.1 54 0))).1 54 1))).1 54 2))).1 54 3))).1 54 4))).1 54 5)) 1 6 (((ab_wI (ab_wI (ab_wI (ab_wI (ab_wI (ab_wI h 1 0 (h.1 54 0)) 1 1 (((ab_wI h 1 0 (h.1 54 0))).1 54 1)) 1 2 (((ab_wI (ab_wI h 1 0 (h.1 54 0)) 1 1 (((ab_wI h 1 0 (h.1 54 0))).1 54 1))).1 54 2)) 1 3 (((ab_wI (ab_wI (ab_wI h 1 0 (h.1 54 0)) 1 1 (((ab_wI h 1 0 (h.1 54 0))).1 54 1)) 1 2 (((ab_wI (ab_wI h 1 0 (h.1 54 0)) 1 1 (((ab_wI h 1 0 (h.1 54 0))).1 54 1))).1 54 2))).1 54 3)) 1 4 (((ab_wI (ab_wI (ab_wI (ab_wI h 1 0 (h.1 54 0)) 1 1 (((ab_wI h 1 0 (h.1 54 0))).1 54 1)) 1 2 (((ab_wI (ab_wI h 1 0 (h.1 54 0)) 1 1 (((ab_wI h 1 0 (h.1 54 0))).1 54 1))).1 54 2)) 1 3 (((ab_wI (ab_wI (ab_wI h 1 0 (h.1 54 0)) 1 1 (((ab_wI h 1 0 (h.1 54 0))).1 54 1)) 1 2 (((ab_wI (ab_wI h 1 0 (h.1 54 0)) 1 1 (((ab_wI h 1 0 (h.1 54 0))).1 54 1))).1 54 2))).1 54 3))).1 54 4)) 1 5 (((ab_wI (ab_wI (ab_wI (ab_wI (ab_wI h 1 0 (h.1 54 0)) 1 1 (((ab_wI h 1 0 (h.1 54 0))).1 54 1)) 1 2 (((ab_wI (ab_wI h 1 0 (h.1 54 0)) 1 1 (((ab_wI h 1 0 (h.1 54 0))).1 54 1))).1 54 2)) 1 3 (((ab_wI (ab_wI (ab_wI h 1 0 (h.1 54 0)) 1 1 (((ab_wI h 1 0 (h.1 54 0))).1 54 1)) 1 2 (((ab_wI (ab_wI h 1 0 (h.1 54 0)) 1 1 (((ab_wI h 1 0 (h.1 54 0))).1 54 1))).1 54 2))).1 54 3)) 1 4 (((ab_wI (ab_wI (ab_wI (ab_wI h 1 0 (h.1 54 0)) 1 1 (((ab_wI h 1 0 (h.1 54 0))).1 54 1)) 1 2 (((ab_wI (ab_wI h 1 0 (h.1 54 0)) 1 1 (((ab_wI h 1 0 (h.1 54 0))).1 54 1))).1 54 2)) 1 3 (((ab_wI (ab_wI (ab_wI h 1 0 (h.1 54 0)) 1 1 (((ab_wI h 1 0 (h.1 54 0))).1 54 1)) 1 2 (((ab_wI (ab_wI h 1 0 (h.1 54 0)) 1 1 (((ab_wI h 1 0 (h.1 54 0))).1 54 1))).1 54 2))).1 54 3))).1 54 4))).1 54 5))).1 54 6)) 55 2 0 0 6) 56 3 0 0 18)) (fun n => rfl) ?_
  refine ab_Ex.blk (k := 1) (pc' := 102) (lv' := [(0, .ref 1), (1, .ref 54)]) (st' := []) (sh' := ab_SH) (D' := ab_dD (ab_cp (ab_cp (ab_cp (ab_wI (ab_wI (ab_wI (ab_wI (ab_wI (ab_wI (ab_wI h 1 0 (h.1 54 0)) 1 1 (((ab_wI h 1 0 (h.1 54 0))).1 54 1)) 1 2 (((ab_wI (ab_wI h 1 0 (h.1 54 0)) 1 1 (((ab_wI h 1 0 (h.1 54 0))).1 54 1))).1 54 2)) 1 3 (((ab_wI (ab_wI (ab_wI h 1 0 (h.1 54 0)) 1 1 (((ab_wI h 1 0 (h.1 54 0))).1 54 1)) 1 2 (((ab_wI (ab_wI h 1 0 (h.1 54 0)) 1 1 (((ab_wI h 1 0 (h.1 54 0))).1 54 1))).1 54 2))).1 54 3)) 1 4 (((ab_wI (ab_wI (ab_wI (ab_wI h 1 0 (h.1 54 0)) 1 1 (((ab_wI h 1 0 (h.1 54 0))).1 54 1)) 1 2 (((ab_wI (ab_wI h 1 0 (h.1 54 0)) 1 1 (((ab_wI h 1 0 (h.1 54 0))).1 54 1))).1 54 2)) 1 3 (((ab_wI (ab_wI (ab_wI h 1 0 (h.1 54 0)) 1 1 (((ab_wI h 1 0 (h.1 54 0))).1 54 1)) 1 2 (((ab_wI (ab_wI h 1 0 (h.1 54 0)) 1 1 (((ab_wI h 1 0 (h.1 54 0))).1 54 1))).1 54 2))).1 54 3))).1 54 4)) 1 5 (((ab_wI (ab_wI (ab_wI (ab_wI (ab_wI h 1 0 (h.1 54 0)) 1 1 (((ab_wI h 1 0 (h.1 54 0))).1 54 1)) 1 2 (((ab_wI (ab_wI h 1 0 (h.1 54 0)) 1 1 (((ab_wI h 1 0 (h.1 54 0))).1 54 1))).1 54 2)) 1 3 (((ab_wI (ab_wI (ab_wI h 1 0 (h.1 54 0)) 1 1 (((ab_wI h 1 0 (h.1 54 0))).1 54 1)) 1 2 (((ab_wI (ab_wI h 1 0 (h.1 54 0)) 1 1 (((ab_wI h 1 0 (h.1 54 0))).1 54 1))).1 54 2))).1 54 3)) 1 4 (((ab_wI (ab_wI (ab_wI (ab_wI h 1 0 (h.1 54 0)) 1 1 (((ab_wI h 1 0 (h.1 54 0))).1 54 1)) 1 2 (((ab_wI (ab_wI h 1 0 (h.1 54 0)) 1 1 (((ab_wI h 1 0 (h.1 54 0))).1 54 1))).1 54 2)) 1 3 (((ab_wI (ab_wI (ab_wI h 1 0 (h.1 54 0)) 1 1 (((ab_wI h 1 0 (h.1 54 0))).1 54 1)) 1 2 (((ab_wI (ab_wI h 1 0 (h.1 54 0)) 1 1 (((ab_wI h 1 0 (h.1 54 0))).1 54 1))).1 54 2))).1 54 3))).1 54 4))).1 54 5)) 1 6 (((ab_wI (ab_wI (ab_wI (ab_wI (ab_wI (ab_wI h 1 0 (h.1 54 0)) 1 1 (((ab_wI h 1 0 (h.1 54 0))).1 54 1)) 1 2 (((ab_wI (ab_wI h 1 0 (h.1 54 0)) 1 1 (((ab_wI h 1 0 (h.1 54 0))).1 54 1))).1 54 2)) 1 3 (((ab_wI (ab_wI (ab_wI h 1 0 (h.1 54 0)) 1 1 (((ab_wI h 1 0 (h.1 54 0))).1 54 1)) 1 2 (((ab_wI (ab_wI h 1 0 (h.1 54 0)) 1 1 (((ab_wI h 1 0 (h.1 54 0))).1 54 1))).1 54 2))).1 54 3)) 1 4 (((ab_wI (ab_wI (ab_wI (ab_wI h 1 0 (h.1 54 0)) 1 1 (((ab_wI h 1 0 (h.1 54 0))).1 54 1)) 1 2 (((ab_wI (ab_wI h 1 0 (h.1 54 0)) 1 1 (((ab_wI h 1 0 (h.1 54 0))).1 54 1))).1 54 2)) 1 3 (((ab_wI (ab_wI (ab_wI h 1 0 (h.1 54 0)) 1 1 (((ab_wI h 1 0 (h.1 54 0))).1 54 1)) 1 2 (((ab_wI (ab_wI h 1 0 (h.1 54 0)) 1 1 (((ab_wI h 1 0 (h.1 54 0))).1 54 1))).1 54 2))).1 54 3))).1 54 4)) 1 5 (((ab_wI (ab_wI (ab_wI (ab_wI (ab_wI h 1 0 (h.1 54 0)) 1 1 (((ab_wI h 1 0 (h.1 54 0))).1 54 1)) 1 2 (((ab_wI (ab_wI h 1 0 (h.1 54 0)) 1 1 (((ab_wI h 1 0 (h.1 54 0))).1 54 1))).1 54 2)) 1 3 (((ab_wI (ab_wI (ab_wI h 1 0 (h.1 54 0)) 1 1 (((ab_wI h 1 0 (h.1 54 0))).1 54 1)) 1 2 (((ab_wI (ab_wI h 1 0 (h.1 54 0)) 1 1 (((ab_wI h 1 0 (h.1 54 0))).1 54 1))).1 54 2))).1 54 3)) 1 4 (((ab_wI (ab_wI (ab_wI (ab_wI h 1 0 (h.1 54 0)) 1 1 (((ab_wI h 1 0 (h.1 54 0))).1 54 1)) 1 2 (((ab_wI (ab_wI h 1 0 (h.1 54 0)) 1 1 (((ab_wI h 1 0 (h.1 54 0))).1 54 1))).1 54 2)) 1 3 (((ab_wI (ab_wI (ab_wI h 1 0 (h.1 54 0)) 1 1 (((ab_wI h 1 0 (h.1 54 0))).1 54 1)) 1 2 (((ab_wI (ab_wI h 1 0 (h.1 54 0)) 1 1 (((ab_wI h 1 0 (h.1 54 0))).1 54 1))).1 54 2))).1 54 3))).1 54 4))).1 54 5))).1 54 6)) 55 2 0 0 6) 56 3 0 0 18) 57 4 0 0 900)) (fun n => rfl) ?_
  obtain rfl := Option.some.inj hf
  exact ab_Ex.ret (fun n => rfl) rfl
set_option maxRecDepth 20000 in
theorem sX3_copy_1_59 (d : Nat) (X : abX)  (h : abJ) (z : abJ) (hf : fX3_copy 1 59 h = some z) : ab_Ex X (d + 0) 33 0 [(0, .ref 1), (1, .ref 59)] [] ab_SH (ab_dD h) (fun r => r = (none, ab_SH, ab_dD z)) := by
  unfold fX3_copy at hf
  try simp only [Nat.reduceAdd] at hf
  refine ab_Ex.blk (k := 35) (pc' := 68) (lv' := [(0, .ref 1), (1, .ref 59)]) (st' := [.int 6, .int 0, .ref 2, .int 0, .ref 60]) (sh' := ab_SH) (D' := ab_dD (ab_wI (ab_wI (ab_wI (ab_wI (ab_wI (ab_wI (ab_wI h 1 0 (h.1 59 0)) 1 1 (((ab_wI h 1 0 (h.1 59 0))).1 59 1)) 1 2 (((ab_wI (ab_wI h 1 0 (h.1 59 0)) 1 1 (((ab_wI h 1 0 (h.1 59 0))).1 59 1))).1 59 2)) 1 3 (((ab_wI (ab_wI (ab_wI h 1 0 (h.1 59 0)) 1 1 (((ab_wI h 1 0 (h.1 59 0))).1 59 1)) 1 2 (((ab_wI (ab_wI h 1 0 (h.1 59 0)) 1 1 (((ab_wI h 1 0 (h.1 59 0))).1 59 1))).1 59 2))).1 59 3)) 1 4 (((ab_wI (ab_wI (ab_wI (ab_wI h 1 0 (h.1 59 0)) 1 1 (((ab_wI h 1 0 (h.1 59 0))).1 59 1)) 1 2 (((ab_wI (ab_wI h 1 0 (h.1 59 0)) 1 1 (((ab_wI h 1 0 (h.1 59 0))).1 59 1))).1 59 2)) 1 3 (((ab_wI (ab_wI (ab_wI h 1 0 (h.1 59 0)) 1 1 (((ab_wI h 1 0 (h.1 59 0))).1 59 1)) 1 2 (((ab_wI (ab_wI h 1 0 (h.1 59 0)) 1 1 (((ab_wI h 1 0 (h.1 59 0))).1 59 1))).1 59 2))).1 59 3))).1 59 4)) 1 5 (((ab_wI (ab_wI (ab_wI (ab_wI (ab_wI h 1 0 (h.1 59 0)) 1 1 (((ab_wI h 1 0 (h.1 59 0))).1 59 1)) 1 2 (((ab_wI (ab_wI h 1 0 (h.1 59 0)) 1 1 (((ab_wI h 1 0 (h.1 59 0))).1 59 1))).1 59 2)) 1 3 (((ab_wI (ab_wI (ab_wI h 1 0 (h.1 59 0)) 1 1 (((ab_wI h 1 0 (h.1 59 0))).1 59 1)) 1 2 (((ab_wI (ab_wI h 1 0 (h.1 59 0)) 1 1 (((ab_wI h 1 0 (h.1 59 0))).1 59 1))).1 59 2))).1 59 3)) 1 4 (((ab_wI (ab_wI (ab_wI (ab_wI h 1 0 (h.1 59 0)) 1 1 (((ab_wI h 1 0 (h.1 59 0))).1 59 1)) 1 2 (((ab_wI (ab_wI h 1 0 (h.1 59 0)) 1 1 (((ab_wI h 1 0 (h.1 59 0))).1 59 1))).1 59 2)) 1 3 (((ab_wI (ab_wI (ab_wI h 1 0 (h.1 59 0)) 1 1 (((ab_wI h 1 0 (h.1 59 0))).1 59 1)) 1 2 (((ab_wI (ab_wI h 1 0 (h.1 59 0)) 1 1 (((ab_wI h 1 0 (h.1 59 0))).1 59 1))).1 59 2))).1 59 3))).1 59 4))).1 59 5)) 1 6 (((ab_wI (ab_wI (ab_wI (ab_wI (ab_wI (ab_wI h 1 0 (h.1 59 0)) 1 1 (((ab_wI h 1 0 (h.1 59 0))).1 59 1)) 1 2 (((ab_wI (ab_wI h 1 0 (h.1 59 0)) 1 1 (((ab_wI h 1 0 (h.1 59 0))).1 59 1))).1 59 2)) 1 3 (((ab_wI (ab_wI (ab_wI h 1 0 (h.1 59 0)) 1 1 (((ab_wI h 1 0 (h.1 59 0))).1 59 1)) 1 2 (((ab_wI (ab_wI h 1 0 (h.1 59 0)) 1 1 (((ab_wI h 1 0 (h.1 59 0))).1 59 1))).1 59 2))).1 59 3)) 1 4 (((ab_wI (ab_wI (ab_wI (ab_wI h 1 0 (h.1 59 0)) 1 1 (((ab_wI h 1 0 (h.1 59 0))).1 59 1)) 1 2 (((ab_wI (ab_wI h 1 0 (h.1 59 0)) 1 1 (((ab_wI h 1 0 (h.1 59 0))).1 59 1))).1 59 2)) 1 3 (((ab_wI (ab_wI (ab_wI h 1 0 (h.1 59 0)) 1 1 (((ab_wI h 1 0 (h.1 59 0))).1 59 1)) 1 2 (((ab_wI (ab_wI h 1 0 (h.1 59 0)) 1 1 (((ab_wI h 1 0 (h.1 59 0))).1 59 1))).1 59 2))).1 59 3))).1 59 4)) 1 5 (((ab_wI (ab_wI (ab_wI (ab_wI (ab_wI h 1 0 (h.1 59 0)) 1 1 (((ab_wI h 1 0 (h.1 59 0))).1 59 1)) 1 2 (((ab_wI (ab_wI h 1 0 (h.1 59 0)) 1 1 (((ab_wI h 1 0 (h.1 59 0))).1 59 1))).1 59 2)) 1 3 (((ab_wI (ab_wI (ab_wI h 1 0 (h.1 59 0)) 1 1 (((ab_wI h 1 0 (h.1 59 0))).1 59 1)) 1 2 (((ab_wI (ab_wI h 1 0 (h.1 59 0)) 1 1 (((ab_wI h 1 0 (h.1 59 0))).1 59 1))).1 59 2))).1 59 3)) 1 4 (((ab_wI (ab_wI (ab_wI (ab_wI h 1 0 (h.1 59 0)) 1 1 (((ab_wI h 1 0 (h.1 59 0))).1 59 1)) 1 2 (((ab_wI (ab_wI h 1 0 (h.1 59 0)) 1 1 (((ab_wI h 1 0 (h.1 59 0))).1 59 1))).1 59 2)) 1 3 (((ab_wI (ab_wI (ab_wI h 1 0 (h.1 59 0)) 1 1 (((ab_wI h 1 0 (h.1 59 0))).1 59 1)) 1 2 (((ab_wI (ab_wI h 1 0 (h.1 59 0)) 1 1 (((ab_wI h 1 0 (h.1 59 0))).1 59 1))).1 59 2))).1 59 3))).1 59 4))).1 59 5))).1 59 6))) (fun n => rfl) ?_
  refine ab_Ex.blk (k := 1) (pc' := 71) (lv' := [(0, .ref 1), (1, .ref 59)]) (st' := []) (sh' := ab_SH) (D' := ab_dD (ab_cp (ab_wI (ab_wI (ab_wI (ab_wI (ab_wI (ab_wI (ab_wI h 1 0 (h.1 59 0)) 1 1 (((ab_wI h 1 0 (h.1 59 0))).1 59 1)) 1 2 (((ab_wI (ab_wI h 1 0 (h.1 59 0)) 1 1 (((ab_wI h 1 0 (h.1 59 0))).1 59 1))).1 59 2)) 1 3 (((ab_wI (ab_wI (ab_wI h 1 0 (h.1 59 0)) 1 1 (((ab_wI h 1 0 (h.1 59 0))).1 59 1)) 1 2 (((ab_wI (ab_wI h 1 0 (h.1 59 0)) 1 1 (((ab_wI h 1 0 (h.1 59 0))).1 59 1))).1 59 2))).1 59 3)) 1 4 (((ab_wI (ab_wI (ab_wI (ab_wI h 1 0 (h.1 59 0)) 1 1 (((ab_wI h 1 0 (h.1 59 0))).1 59 1)) 1 2 (((ab_wI (ab_wI h 1 0 (h.1 59 0)) 1 1 (((ab_wI h 1 0 (h.1 59 0))).1 59 1))).1 59 2)) 1 3 (((ab_wI (ab_wI (ab_wI h 1 0 (h.1 59 0)) 1 1 (((ab_wI h 1 0 (h.1 59 0))).1 59 1)) 1 2 (((ab_wI (ab_wI h 1 0 (h.1 59 0)) 1 1 (((ab_wI h 1 0 (h.1 59 0))).1 59 1))).1 59 2))).1 59 3))).1 59 4)) 1 5 (((ab_wI (ab_wI (ab_wI (ab_wI (ab_wI h 1 0 (h.1 59 0)) 1 1 (((ab_wI h 1 0 (h.1 59 0))).1 59 1)) 1 2 (((ab_wI (ab_wI h 1 0 (h.1 59 0)) 1 1 (((ab_wI h 1 0 (h.1 59 0))).1 59 1))).1 59 2)) 1 3 (((ab_wI (ab_wI (ab_wI h 1 0 (h.1 59 0)) 1 1 (((ab_wI h 1 0 (h.1 59 0))).1 59 1)) 1 2 (((ab_wI (ab_wI h 1 0 (h.1 59 0)) 1 1 (((ab_wI h 1 0 (h.1 59 0))).1 59 1))).1 59 2))).1 59 3)) 1 4 (((ab_wI (ab_wI (ab_wI (ab_wI h 1 0 (h.1 59 0)) 1 1 (((ab_wI h 1 0 (h.1 59 0))).1 59 1)) 1 2 (((ab_wI (ab_wI h 1 0 (h.1 59 0)) 1 1 (((ab_wI h 1 0 (h.1 59 0))).1 59 1))).1 59 2)) 1 3 (((ab_wI (ab_wI (ab_wI h 1 0 (h.1 59 0)) 1 1 (((ab_wI h 1 0 (h.1 59 0))).1 59 1)) 1 2 (((ab_wI (ab_wI h 1 0 (h.1 59 0)) 1 1 (((ab_wI h 1 0 (h.1 59 0))).1 59 1))).1 59 2))).1 59 3))).1 59 4))).1 59 5)) 1 6 (((ab_wI (ab_wI (ab_wI (ab_wI (ab_wI (ab_wI h 1 0 (h.1 59 0)) 1 1 (((ab_wI h 1 0 (h.1 59 0))).1 59 1)) 1 2 (((ab_wI (ab_wI h 1 0 (h.1 59 0)) 1 1 (((ab_wI h 1 0 (h.1 59 0))).1 59 1))).1 59 2)) 1 3 (((ab_wI (ab_wI (ab_wI h 1 0 (h.1 59 0)) 1 1 (((ab_wI h 1 0 (h.1 59 0))).1 59 1)) 1 2 (((ab_wI (ab_wI h 1 0 (h.1 59 0)) 1 1 (((ab_wI h 1 0 (h.1 59 0))).1 59 1))).1 59 2))).1 59 3)) 1 4 (((ab_wI (ab_wI (ab_wI (ab_wI h 1 0 (h.1 59 0)) 1 1 (((ab_wI h 1 0 (h.1 59 0))).1 59 1)) 1 2 (((ab_wI (ab_wI h 1 0 (h.1 59 0)) 1 1 (((ab_wI h 1 0 (h.1 59 0))).1 59 1))).1 59 2)) 1 3 (((ab_wI (ab_wI (ab_wI h 1 0 (h.1 59 0)) 1 1 (((ab_wI h 1 0 (h.1 59 0))).1 59 1)) 1 2 (((ab_wI (ab_wI h 1 0 (h.1 59 0)) 1 1 (((ab_wI h 1 0 (h.1 59 0))).1 59 1))).1 59 2))).1 59 3))).1 59 4)) 1 5 (((ab_wI (ab_wI (ab_wI (ab_wI (ab_wI h 1 0 (h.1 59 0)) 1 1 (((ab_wI h 1 0 (h.1 59 0))).1 59 1)) 1 2 (((ab_wI (ab_wI h 1 0 (h.1 59 0)) 1 1 (((ab_wI h 1 0 (h.1 59 0))).1 59 1))).1 59 2)) 1 3 (((ab_wI (ab_wI (ab_wI h 1 0 (h.1 59 0)) 1 1 (((ab_wI h 1 0 (h.1 59 0))).1 59 1)) 1 2 (((ab_wI (ab_wI h 1 0 (h.1 59 0)) 1 1 (((ab_wI h 1 0 (h.1 59 0))).1 59 1))).1 59 2))).1 59 3)) 1 4 (((ab_wI (ab_wI (ab_wI (ab_wI h 1 0 (h.1 59 0)) 1 1 (((ab_wI h 1 0 (h.1 59 0))).1 59 1)) 1 2 (((ab_wI (ab_wI h 1 0 (h.1 59 0)) 1 1 (((ab_wI h 1 0 (h.1 59 0))).1 59 1))).1 59 2)) 1 3 (((ab_wI (ab_wI (ab_wI h 1 0 (h.1 59 0)) 1 1 (((ab_wI h 1 0 (h.1 59 0))).1 59 1)) 1 2 (((ab_wI (ab_wI h 1 0 (h.1 59 0)) 1 1 (((ab_wI h 1 0 (h.1 59 0))).1 59 1))).1 59 2))).1 59 3))).1 59 4))).1 59 5))).1 59 6)) 60 2 0 0 6)) (fun n => rfl) ?_
  refine ab_Ex.blk (k := 7) (pc' := 83) (lv' := [(0, .ref 1), (1, .ref 59)]) (st' := [.int 18, .int 0, .ref 3, .int 0, .ref 61]) (sh' := ab_SH) (D' := ab_dD (ab_cp (ab_wI (ab_wI (ab_wI (ab_wI (ab_wI (ab_wI (ab_wI h 1 0 (h.1 59 0)) 1 1 (((ab_wI h 1 0 (h.1 59 0))).1 59 1)) 1 2 (((ab_wI (ab_wI h 1 0 (h.1 59 0)) 1 1 (((ab_wI h 1 0 (h.1 59 0))).1 59 1))).1 59 2)) 1 3 (((ab_wI (ab_wI (ab_wI h 1 0 (h.1 59 0)) 1 1 (((ab_wI h 1 0 (h.1 59 0))).1 59 1)) 1 2 (((ab_wI (ab_wI h 1 0 (h.1 59 0)) 1 1 (((ab_wI h 1 0 (h.1 59 0))).1 59 1))).1 59 2))).1 59 3)) 1 4 (((ab_wI (ab_wI (ab_wI (ab_wI h 1 0 (h.1 59 0)) 1 1 (((ab_wI h 1 0 (h.1 59 0))).1 59 1)) 1 2 (((ab_wI (ab_wI h 1 0 (h.1 59 0)) 1 1 (((ab_wI h 1 0 (h.1 59 0))).1 59 1))).1 59 2)) 1 3 (((ab_wI (ab_wI (ab_wI h 1 0 (h.1 59 0)) 1 1 (((ab_wI h 1 0 (h.1 59 0))).1 59 1)) 1 2 (((ab_wI (ab_wI h 1 0 (h.1 59 0)) 1 1 (((ab_wI h 1 0 (h.1 59 0))).1 59 1))).1 59 2))).1 59 3))).1 59 4)) 1 5 (((ab_wI (ab_wI (ab_wI (ab_wI (ab_wI h 1 0 (h.1 59 0)) 1 1 (((ab_wI h 1 0 (h.1 59 0))).1 59 1)) 1 2 (((ab_wI (ab_wI h 1 0 (h.1 59 0)) 1 1 (((ab_wI h 1 0 (h.1 59 0))).1 59 1))).1 59 2)) 1 3 (((ab_wI (ab_wI (ab_wI h 1 0 (h.1 59 0)) 1 1 (((ab_wI h 1 0 (h.1 59 0))).1 59 1)) 1 2 (((ab_wI (ab_wI h 1 0 (h.1 59 0)) 1 1 (((ab_wI h 1 0 (h.1 59 0))).1 59 1))).1 59 2))).1 59 3)) 1 4 (((ab_wI (ab_wI (ab_wI (ab_wI h 1 0 (h.1 59 0)) 1 1 (((ab_wI h 1 0 (h.1 59 0))).1 59 1)) 1 2 (((ab_wI (ab_wI h 1 0 (h.1 59 0)) 1 1 (((ab_wI h 1 0 (h.1 59 0))).1 59 1))).1 59 2)) 1 3 (((ab_wI (ab_wI (ab_wI h 1 0 (h.1 59 0)) 1 1 (((ab_wI h 1 0 (h.1 59 0))).1 59 1)) 1 2 (((ab_wI (ab_wI h 1 0 (h.1 59 0)) 1 1 (((ab_wI h 1 0 (h.1 59 0))).1 59 1))).1 59 2))).1 59 3))).1 59 4))).1 59 5)) 1 6 (((ab_wI (ab_wI (ab_wI (ab_wI (ab_wI (ab_wI h 1 0 (h.1 59 0)) 1 1 (((ab_wI h 1 0 (h.1 59 0))).1 59 1)) 1 2 (((ab_wI (ab_wI h 1 0 (h.1 59 0)) 1 1 (((ab_wI h 1 0 (h.1 59 0))).1 59 1))).1 59 2)) 1 3 (((ab_wI (ab_wI (ab_wI h 1 0 (h.1 59 0)) 1 1 (((ab_wI h 1 0 (h.1 59 0))).1 59 1)) 1 2 (((ab_wI (ab_wI h 1 0 (h.1 59 0)) 1 1 (((ab_wI h 1 0 (h.1 59 0))).1 59 1))).1 59 2))).1 59 3)) 1 4 (((ab_wI (ab_wI (ab_wI (ab_wI h 1 0 (h.1 59 0)) 1 1 (((ab_wI h 1 0 (h.1 59 0))).1 59 1)) 1 2 (((ab_wI (ab_wI h 1 0 (h.1 59 0)) 1 1 (((ab_wI h 1 0 (h.1 59 0))).1 59 1))).1 59 2)) 1 3 (((ab_wI (ab_wI (ab_wI h 1 0 (h.1 59 0)) 1 1 (((ab_wI h 1 0 (h.1 59 0))).1 59 1)) 1 2 (((ab_wI (ab_wI h 1 0 (h.1 59 0)) 1 1 (((ab_wI h 1 0 (h.1 59 0))).1 59 1))).1 59 2))).1 59 3))).1 59 4)) 1 5 (((ab_wI (ab_wI (ab_wI (ab_wI (ab_wI h 1 0 (h.1 59 0)) 1 1 (((ab_wI h 1 0 (h.1 59 0))).1 59 1)) 1 2 (((ab_wI (ab_wI h 1 0 (h.1 59 0)) 1 1 (((ab_wI h 1 0 (h.1 59 0))).1 59 1))).1 59 2)) 1 3 (((ab_wI (ab_wI (ab_wI h 1 0 (h.1 59 0)) 1 1 (((ab_wI h 1 0 (h.1 59 0))).1 59 1)) 1 2 (((ab_wI (ab_wI h 1 0 (h.1 59 0)) 1 1 (((ab_wI h 1 0 (h.1 59 0))).1 59 1))).1 59 2))).1 59 3)) 1 4 (((ab_wI (ab_wI (ab_wI (ab_wI h 1 0 (h.1 59 0)) 1 1 (((ab_wI h 1 0 (h.1 59 0))).1 59 1)) 1 2 (((ab_wI (ab_wI h 1 0 (h.1 59 0)) 1 1 (((ab_wI h 1 0 (h.1 59 0))).1 59 1))).1 59 2)) 1 3 (((ab_wI (ab_wI (ab_wI h 1 0 (h.1 59 0)) 1 1 (((ab_wI h 1 0 (h.1 59 0))).1 59 1)) 1 2 (((ab_wI (ab_wI h 1 0 (h.1 59 0)) 1 1 (((ab_wI h 1 0 (h.1 59 0))).1 59 1))).1 59 2))).1 59 3))).1 59 4))).1 59 5))).1 59 6)) 60 2 0 0 6)) (fun n => rfl) ?_
  refine ab_Ex.blk (k := 1) (pc' := 86) (lv' := [(0, .ref 1), (1, .ref 59)]) (st' := []) (sh' := ab_SH) (D' := ab_dD (ab_cp (ab_cp (ab_wI (ab_wI (ab_wI (ab_wI (ab_wI (ab_wI (ab_wI h 1 0 (h.1 59 0)) 1 1 (((ab_wI h 1 0 (h.1 59 0))).1 59 1)) 1 2 (((ab_wI (ab_wI h 1 0 (h.1 59 0)) 1 1 (((ab_wI h 1 0 (h.1 59 0))).1 59 1))).1 59 2)) 1 3 (((ab_wI (ab_wI (ab_wI h 1 0 (h.1 59 0)) 1 1 (((ab_wI h 1 0 (h.1 59 0))).1 59 1)) 1 2 (((ab_wI (ab_wI h 1 0 (h.1 59 0)) 1 1 (((ab_wI h 1 0 (h.1 59 0))).1 59 1))).1 59 2))).1 59 3)) 1 4 (((ab_wI (ab_wI (ab_wI (ab_wI h 1 0 (h.1 59 0)) 1 1 (((ab_wI h 1 0 (h.1 59 0))).1 59 1)) 1 2 (((ab_wI (ab_wI h 1 0 (h.1 59 0)) 1 1 (((ab_wI h 1 0 (h.1 59 0))).1 59 1))).1 59 2)) 1 3 (((ab_wI (ab_wI (ab_wI h 1 0 (h.1 59 0)) 1 1 (((ab_wI h 1 0 (h.1 59 0))).1 59 1)) 1 2 (((ab_wI (ab_wI h 1 0 (h.1 59 0)) 1 1 (((ab_wI h 1 0 (h.1 59 0))).1 59 1))).1 59 2))).1 59 3))).1 59 4)) 1 5 (((ab_wI (ab_wI (ab_wI (ab_wI (ab_wI h 1 0 (h.1 59 0)) 1 1 (((ab_wI h 1 0 (h.1 59 0))).1 59 1)) 1 2 (((ab_wI (ab_wI h 1 0 (h.1 59 0)) 1 1 (((ab_wI h 1 0 (h.1 59 0))).1 59 1))).1 59 2)) 1 3 (((ab_wI (ab_wI (ab_wI h 1 0 (h.1 59 0)) 1 1 (((ab_wI h 1 0 (h.1 59 0))).1 59 1)) 1 2 (((ab_wI (ab_wI h 1 0 (h.1 59 0)) 1 1 (((ab_wI h 1 0 (h.1 59 0))).1 59 1))).1 59 2))).1 59 3)) 1 4 (((ab_wI (ab_wI (ab_wI (ab_wI h 1 0 (h.1 59 0)) 1 1 (((ab_wI h 1 0 (h.1 59 0))).1 59 1)) 1 2 (((ab_wI (ab_wI h 1 0 (h.1 59 0)) 1 1 (((ab_wI h 1 0 (h.1 59 0))).1 59 1))).1 59 2)) 1 3 (((ab_wI (ab_wI (ab_wI h 1 0 (h.1 59 0)) 1 1 (((ab_wI h 1 0 (h.1 59 0))).1 59 1)) 1 2 (((ab_wI (ab_wI h 1 0 (h.1 59 0)) 1 1 (((ab_wI h 1 0 (h.1 59 0))).1 59 1))).1 59 2))).1 59 3))).1 59 4))).1 59 5)) 1 6 (((ab_wI (ab_wI (ab_wI (ab_wI (ab_wI (ab_wI h 1 0 (h.1 59 0)) 1 1 (((ab_wI h 1 0 (h.1 59 0))).1 59 1)) 1 2 (((ab_wI (ab_wI h 1 0 (h.1 59 0)) 1 1 (((ab_wI h 1 0 (h.1 59 0))).1 59 1))).1 59 2)) 1 3 (((ab_wI (ab_wI (ab_wI h 1 0 (h.1 59 0)) 1 1 (((ab_wI h 1 0 (h.1 59 0))).1 59 1)) 1 2 (((ab_wI (ab_wI h 1 0 (h.1 59 0)) 1 1 (((ab_wI h 1 0 (h.1 59 0))).1 59 1))).1 59 2))).1 59 3)) 1 4 (((ab_wI (ab_wI (ab_wI (ab_wI h 1 0 (h.1 59 0)) 1 1 (((ab_wI h 1 0 (h.1 59 0))).1 59 1)) 1 2 (((ab_wI (ab_wI h 1 0 (h.1 59 0)) 1 1 (((ab_wI h 1 0 (h.1 59 0))).1 59 1))).1 59 2)) 1 3 (((ab_wI (ab_wI (ab_wI h 1 0 (h.1 59 0)) 1 1 (((ab_wI h 1 0 (h.1 59 0))).1 59 1)) 1 2 (((ab_wI (ab_wI h 1 0 (h.1 59 0)) 1 1 (((ab_wI h 1 0 (h.1 59 0))).1 59 1))).1 59 2))).1 59 3))).1 59 4)) 1 5 (((ab_wI (ab_wI (ab_wI (ab_wI (ab_wI h 1 0 (h.1 59 0)) 1 1 (((ab_wI h 1 0 (h.1 59 0))).1 59 1)) 1 2 (((ab_wI (ab_wI h 1 0 (h.1 59 0)) 1 1 (((ab_wI h 1 0 (h.1 59 0))).1 59 1))).1 59 2)) 1 3 (((ab_wI (ab_wI (ab_wI h 1 0 (h.1 59 0)) 1 1 (((ab_wI h 1 0 (h.1 59 0))).1 59 1)) 1 2 (((ab_wI (ab_wI h 1 0 (h.1 59 0)) 1 1 (((ab_wI h 1 0 (h.1 59 0))).1 59 1))).1 59 2))).1 59 3)) 1 4 (((ab_wI (ab_wI (ab_wI (ab_wI h 1 0 (h.1 59 0)) 1 1 (((ab_wI h 1 0 (h.1 59 0))).1 59 1)) 1 2 (((ab_wI (ab_wI h 1 0 (h.1 59 0)) 1 1 (((ab_wI h 1 0 (h.1 59 0))).1 59 1))).1 59 2)) 1 3 (((ab_wI (ab_wI (ab_wI h 1 0 (h.1 59 0)) 1 1 (((ab_wI h 1 0 (h.1 59 0))).1 59 1)) 1 2 (((ab_wI (ab_wI h 1 0 (h.1 59 0)) 1 1 (((ab_wI h 1 0 (h.1 59 0))).1 59 1))).1 59 2))).1 59 3))).1 59 4))).1 59 5))).1 59 6)) 60 2 0 0 6) 61 3 0 0 18)) (fun n => rfl) ?_
  refine ab_Ex.blk (k := 7) (pc' := 99) (lv' := [(0, .ref 1), (1, .ref 59)]) (st' := [.int 900, .int 0, .ref 4, .int 0, .ref 62]) (sh' := ab_SH) (D' := ab_dD (ab_cp (ab_cp (ab_wI (ab_wI (ab_wI (ab_wI (ab_wI (ab_wI (ab_wI h 1 0 (h.1 59 0)) 1 1 (((ab_wI h 1 0 (h.1 59 0))).1 59 1)) 1 2 (((ab_wI (ab_wI h 1 0 (h.1 59 0)) 1 1 (((ab_wI h 1 0 (h.1 59 0))).1 59 1))).1 59 2)) 1 3 (((ab_wI (ab_wI (ab_wI h 1 0 (h.1 59 0)) 1 1 (((ab_wI h 1 0 (h.1 59 0))).1 59 1)) 1 2 (((ab_wI (ab_wI h 1 0 (h.1 59 0)) 1 1 (((ab_wI h 1 0 (h.1 59 0))).1 59 1))).1 59 2))).1 59 3)) 1 4 (((ab_wI (ab_wI (ab_wI (ab_wI h 1 0 (h.1 59 0)) 1 1 (((ab_wI h 1 0 (h.1 59 0))).1 59 1)) 1 2 (((ab_wI (ab_wI h 1 0 (h.1 59 0)) 1 1 (((ab_wI h 1 0 (h.1 59 0))).1 59 1))).1 59 2)) 1 3 (((ab_wI (ab_wI (ab_wI h 1 0 (h.1 59 0)) 1 1 (((ab_wI h 1 0 (h.1 59 0))).1 59 1)) 1 2 (((ab_wI (ab_wI h 1 0 (h.1 59 0)) 1 1 (((ab_wI h 1 0 (h.1 59 0))).1 59 1))).1 59 2))).1 59 3))).1 59 4)) 1 5 (((ab_wI (ab_wI (ab_wI (ab_wI (ab_wI h 1 0 (h.1 59 0)) 1 1 (((ab_wI h 1 0 (h.1 59 0))).1 59 1)) 1 2 (((ab_wI (ab_wI h 1 0 (h.1 59 0)) 1 1 (((ab_wI h 1 0 (h.1 59 0))).1 59 1))).1 59 2)) 1 3 (((ab_wI (ab_wI (ab_wI h 1 0 (h.1 59 0)) 1 1 (((ab_wI h 1 0 (h.1 59 0))).1 59 1)) 1 2 (((ab_wI (ab_wI h 1 0 (h.1 59 0)) 1 1 (((ab_wI h 1 0 (h.1 59 0))).1 59 1))).1 59 2))).1 59 3)) 1 4 (((ab_wI (ab_wI (ab_wI (ab_wI h 1 0 (h.1 59 0)) 1 1 (((ab_wI h 1 0 (h.1 59 0))).1 59 1)) 1 2 (((ab_wI (ab_wI h 1 0 (h.1 59 0)) 1 1 (((ab_wI h 1 0 (h.1 59 0))).1 59 1))).1 59 2)) 1 3 (((ab_wI (ab_wI (ab_wI h 1 0 (h.1 59 0)) 1 1 (((ab_wI h 1 0 (h.1 59 0))).1 59 1)) 1 2 (((ab_wI (ab_wI h 1 0 (h.1 59 0)) 1 1 (((ab_wI h 1 0 (h.1 59 0))).1 59 1))).1 59 2))).1 59 3))).1 59 4))).1 59 5)) 1 6 (((ab_wI (ab_wI (ab_wI (ab_wI (ab_wI (ab_wI h 1 0 (h.1 59 0)) 1 1 (((ab_wI h 1 0 (h.1 59 0))).1 59 1)) 1 2 (((ab_wI (ab_wI h 1 0 (h.1 59 0)) 1 1 (((ab_wI h 1 0 (h.1 59 0))).1 59 1))).1 59 2)) 1 3 (((ab_wI (ab_wI (ab_wI h 1 0 (h.1 59 0)) 1 1 (((ab_wI h 1 0 (h.1 59 0))).1 59 1)) 1 2 (((ab_wI (ab_wI h 1 0 (h.1 59 0)) 1 1 (((ab_wI h 1 0 (h.1 59 0))).1 59 1))).1 59 2))).1 59 3)) 1 4 (((ab_wI (ab_wI (ab_wI (ab_wI h 1 0 (h.1 59 0)) 1 1 (((ab_wI h 1 0 (h.1 59 0))).1 59 1)) 1 2 (((ab_wI (ab_wI h 1 0 (h.1 59 0)) 1 1 (((ab_wI h 1 0 (h.1 59 0))).1 59 1))).1 59 2)) 1 3 (((ab_wI (ab_wI (ab_wI h 1 0 (h.1 59 0)) 1 1 (((ab_wI h 1 0 (h.1 59 0))).1 59 1)) 1 2 (((ab_wI (ab_wI h 1 0 (h.1 59 0)) 1 1 (((ab_wI h 1 0 (h.1 59 0))).1 59 1))).1 59 2))).1 59 3))).1 59 4)) 1 5 (((ab_wI (ab_wI (ab_wI (ab_wI (ab_wI h 1 0 (h.1 59 0)) 1 1 (((ab_wI h 1 0 (h.1 59 0))).1 59 1)) 1 2 (((ab_wI (ab_wI h 1 0 (h.1 59 0)) 1 1 (((ab_wI h 1 0 (h.1 59 0))).1 59 1))).1 59 2)) 1 3 (((ab_wI (ab_wI (ab_wI h 1 0 (h.1 59 0)) 1 1 (((ab_wI h 1 0 (h.1 59 0))).1 59 1)) 1 2 (((ab_wI (ab_wI h 1 0 (h.1 59 0)) 1 1 (((ab_wI h 1 0 (h.1 59 0))).1 59 1))).1 59 2))).1 59 3)) 1 4 (((ab_wI (ab_wI (ab_wI (ab_wI h 1 0 (h.1 59 0)) 1 1 (((ab_wI h 1 0 (h.1 59 0))).1 59 1)) 1 2 (((ab_wI (ab_wI h 1 0 (h.1 59 0)) 1 1 (((ab_wI h 1 0 (h.1 59 0))).1 59 1))).1 59 2)) 1 3 (((ab_wI (ab_wI (ab_wI h 1 0 (h.1 59 0)) 1 1 (((ab_wI h 1 0 (h.1 59 0))).1 59 1)) 1 2 (((ab_wI (ab_wI h 1 0 (h.1 59 0)) 1 1 (((ab_wI h 1 0 (h.1 59 0))).1 59 1))).1 59 2))).1 59 3))).1 59 4))).1 59 5))).1 59 6)) 60 2 0 0 6) 61 3 0 0 18)) (fun n => rfl) ?_
  refine ab_Ex.blk (k := 1) (pc' := 102) (lv' := [(0, .ref 1), (1, .ref 59)]) (st' := []) (sh' := ab_SH) (D' := ab_dD (ab_cp (ab_cp (ab_cp (ab_wI (ab_wI (ab_wI (ab_wI (ab_wI (ab_wI (ab_wI h 1 0 (h.1 59 0)) 1 1 (((ab_wI h 1 0 (h.1 59 0))).1 59 1)) 1 2 (((ab_wI (ab_wI h 1 0 (h.1 59 0)) 1 1 (((ab_wI h 1 0 (h.1 59 0))).1 59 1))).1 59 2)) 1 3 (((ab_wI (ab_wI (ab_wI h 1 0 (h.1 59 0)) 1 1 (((ab_wI h 1 0 (h.1 59 0))).1 59 1)) 1 2 (((ab_wI (ab_wI h 1 0 (h.1 59 0)) 1 1 (((ab_wI h 1 0 (h.1 59 0))).1 59 1))).1 59 2))).1 59 3)) 1 4 (((ab_wI (ab_wI (ab_wI (ab_wI h 1 0 (h.1 59 0)) 1 1 (((ab_wI h 1 0 (h.1 59 0))).1 59 1)) 1 2 (((ab_wI (ab_wI h 1 0 (h.1 59 0)) 1 1 (((ab_wI h 1 0 (h.1 59 0))).1 59 1))).1 59 2)) 1 3 (((ab_wI (ab_wI (ab_wI h 1 0 (h.1 59 0)) 1 1 (((ab_wI h 1 0 (h.1 59 0))).1 59 1)) 1 2 (((ab_wI (ab_wI h 1 0 (h.1 59 0)) 1 1 (((ab_wI h 1 0 (h.1 59 0))).1 59 1))).1 59 2))).1 59 3))).1 59 4)) 1 5 (((ab_wI (ab_wI (ab_wI (ab_wI (ab_wI h 1 0 (h.1 59 0)) 1 1 (((ab_wI h 1 0 (h.1 59 0))).1 59 1)) 1 2 (((ab_wI (ab_wI h 1 0 (h.1 59 0)) 1 1 (((ab_wI h 1 0 (h.1 59 0))).1 59 1))).1 59 2)) 1 3 (((ab_wI (ab_wI (ab_wI h 1 0 (h.1 59 0)) 1 1 (((ab_wI h 1 0 (h.1 59 0))).1 59 1)) 1 2 (((ab_wI (ab_wI h 1 0 (h.1 59 0)) 1 1 (((ab_wI h 1 0 (h.1 59 0))).1 59 1))).1 59 2))).1 59 3)) 1 4 (((ab_wI (ab_wI (ab_wI (ab_wI h 1 0 (h.1 59 0)) 1 1 (((ab_wI h 1 0 (h.1 59 0))).1 59 1)) 1 2 (((ab_wI (ab_wI h 1 0 (h.1 59 0)) 1 1 (((ab_wI h 1 0 (h.1 59 0))).1 59 1))).1 59 2)) 1 3 (((ab_wI (ab_wI (ab_wI h 1 0 (h.1 59 0)) 1 1 (((ab_wI h 1 0 (h.1 59 0))).1 59 1)) 1 2 (((ab_wI (ab_wI h 1 0 (h.1 59 0)) 1 1 (((ab_wI h 1 0 (h.1 59 0))).1 59 1))).1 59 2))).1 59 3))).1 59 4))).1 59 5)) 1 6 (((ab_wI (ab_wI (ab_wI (ab_wI (ab_wI (ab_wI h 1 0 (h.1 59 0)) 1 1 (((ab_wI h 1 0 (h.1 59 0))).1 59 1)) 1 2 (((ab_wI (ab_wI h 1 0 (h.1 59 0)) 1 1 (((ab_wI h 1 0 (h.1 59 0))).1 59 1))).1 59 2)) 1 3 (((ab_wI (ab_wI (ab_wI h 1 0 (h.1 59 0)) 1 1 (((ab_wI h 1 0 (h.1 59 0))).1 59 1)) 1 2 (((ab_wI (ab_wI h 1 0 (h.1 59 0)) 1 1 (((ab_wI h 1 0 (h.1 59 0))).1 59 1))).1 59 2))).1 59 3)) 1 4 (((ab_wI (ab_wI (ab_wI (ab_wI h 1 0 (h.1 59 0)) 1 1 (((ab_wI h 1 0 (h.1 59 0))).1 59 1)) 1 2 (((ab_wI (ab_wI h 1 0 (h.1 59 0)) 1 1 (((ab_wI h 1 0 (h.1 59 0))).1 59 1))).1 59 2)) 1 3 (((ab_wI (ab_wI (ab_wI h 1 0 (h.1 59 0)) 1 1 (((ab_wI h 1 0 (h.1 59 0))).1 59 1)) 1 2 (((ab_wI (ab_wI h 1 0 (h.1 59 0)) 1 1 (((ab_wI h 1 0 (h.1 59 0))).1 59 1))).1 59 2))).1 59 3))).1 59 4)) 1 5 (((ab_wI (ab_wI (ab_wI (ab_wI (ab_wI h 1 0 (h.1 59 0)) 1 1 (((ab_wI h 1 0 (h.1 59 0))).1 59 1)) 1 2 (((ab_wI (ab_wI h 1 0 (h.1 59 0)) 1 1 (((ab_wI h 1 0 (h.1 59 0))).1 59 1))).1 59 2)) 1 3 (((ab_wI (ab_wI (ab_wI h 1 0 (h.1 59 0)) 1 1 (((ab_wI h 1 0 (h.1 59 0))).1 59 1)) 1 2 (((ab_wI (ab_wI h 1 0 (h.1 59 0)) 1 1 (((ab_wI h 1 0 (h.1 59 0))).1 59 1))).1 59 2))).1 59 3)) 1 4 (((ab_wI (ab_wI (ab_wI (ab_wI h 1 0 (h.1 59 0)) 1 1 (((ab_wI h 1 0 (h.1 59 0))).1 59 1)) 1 2 (((ab_wI (ab_wI h 1 0 (h.1 59 0)) 1 1 (((ab_wI h 1 0 (h.1 59 0))).1 59 1))).1 59 2)) 1 3 (((ab_wI (ab_wI (ab_wI h 1 0 (h.1 59 0)) 1 1 (((ab_wI h 1 0 (h.1 59 0))).1 59 1)) 1 2 (((ab_wI (ab_wI h 1 0 (h.1 59 0)) 1 1 (((ab_wI h 1 0 (h.1 59 0))).1 59 1))).1 59 2))).1 59 3))).1 59 4))).1 59 5))).1 59 6)) 60 2 0 0 6) 61 3 0 0 18) 62 4 0 0 900)) (fun n => rfl) ?_
  obtain rfl := Option.some.inj hf
  exact ab_Ex.ret (fun n => rfl) rfl
def fX3_allRoads_L4  (h : abJ)  : Nat → Int32 → Int32 → Option Int32
  | 0, _, _ => none
  | n + 1, y1, y2 => if (h.1 1 0) ≤ y2 then some y1 else (fX3_roadsOf 1 y2 h).bind (fun r2 => fX3_allRoads_L4 h n ((y1 + r2)) ((y2 + 1)))
def fX3_allRoads  (h : abJ) : Option Int32 := fX3_allRoads_L4 h ab_N 0 0
set_option maxRecDepth 20000 in
theorem sX3_allRoads_L4 (d : Nat) (X : abX) (h : abJ)   : ∀ (n : Nat), ∀ (y1 : Int32) (y2 : Int32) (z : Int32), fX3_allRoads_L4 h n y1 y2 = some z → ab_Ex X (d + 1) 39 4 [(0, .ref 1), (1, .int y1), (2, .int y2)] [] ab_SH (ab_dD h) (fun r => r = (some (.int z), ab_SH, ab_dD h)) := by
  intro n
  induction n with
  | zero => intro y1 y2 z hf; cases hf
  | succ n ih =>
    intro y1 y2 z hf
    rw [fX3_allRoads_L4] at hf
    refine ab_Ex.blk (k := 3) (pc' := 9) (lv' := [(0, .ref 1), (1, .int y1), (2, .int y2)]) (st' := [.int ((h.1 1 0)), .int y2]) (sh' := ab_SH) (D' := ab_dD h) (fun n => rfl) ?_
    refine ab_Ex.ifc (c := (h.1 1 0) ≤ y2) (SA := (26, [(0, .ref 1), (1, .int y1), (2, .int y2)], [], ab_dD h)) (SB := (12, [(0, .ref 1), (1, .int y1), (2, .int y2)], [], ab_dD h)) (fun n => rfl) (fun c1 => ?_) (fun c1 => ?_)
    · replace hf := (if_pos c1).symm.trans hf
      refine ab_Ex.blk (k := 1) (pc' := 27) (lv' := [(0, .ref 1), (1, .int y1), (2, .int y2)]) (st' := [.int y1]) (sh' := ab_SH) (D' := ab_dD h) (fun n => rfl) ?_
      obtain rfl := Option.some.inj hf
      exact ab_Ex.ret (fun n => rfl) rfl
    · replace hf := (if_neg c1).symm.trans hf
      refine ab_Ex.blk (k := 3) (pc' := 15) (lv' := [(0, .ref 1), (1, .int y1), (2, .int y2)]) (st' := [.int y2, .ref 1, .int y1]) (sh' := ab_SH) (D' := ab_dD h) (fun n => rfl) ?_
      obtain ⟨r2, hr2, hf⟩ := ab_bind_s hf
      refine ab_Ex.call (d := d + 0) (M2 := 35) (as := [.ref 1, .int y2]) (rest := [.int y1]) (fun n => rfl) rfl (Nat.not_lt.mpr (Nat.le_of_ble_eq_true rfl)) (sX3_roadsOf_1 (d) X y2 h _ hr2) (fun r hr => ?_)
      subst hr
      show ab_Ex X (d + 1) 39 18 [(0, .ref 1), (1, .int y1), (2, .int y2)] [.int r2, .int y1] ab_SH (ab_dD h) _
      refine ab_Ex.blk (k := 4) (pc' := 4) (lv' := [(0, .ref 1), (1, .int ((y1 + r2))), (2, .int ((y2 + 1)))]) (st' := []) (sh' := ab_SH) (D' := ab_dD h) (fun n => rfl) ?_
      exact ih ((y1 + r2)) ((y2 + 1)) _ hf
set_option maxRecDepth 20000 in
theorem sX3_allRoads (d : Nat) (X : abX)  (h : abJ) (z : Int32) (hf : fX3_allRoads  h = some z) : ab_Ex X (d + 1) 39 0 [(0, .ref 1)] [] ab_SH (ab_dD h) (fun r => r = (some (.int z), ab_SH, ab_dD h)) := by
  unfold fX3_allRoads at hf
  refine ab_Ex.blk (k := 4) (pc' := 4) (lv' := [(0, .ref 1), (1, .int 0), (2, .int 0)]) (st' := []) (sh' := ab_SH) (D' := ab_dD h) (fun n => rfl) ?_
  exact sX3_allRoads_L4 d X h ab_N 0 0 _ hf
def fX3_addRoad (x0 : Int32) (x1 : Int32) (h : abJ) : Option abJ := (fX3_roadsOf 5 x0 h).bind (fun r1 => (fX3_has 5 x0 h).bind (fun r2 => if r2 = 0 then some h else if 3 ≤ r1 then some h else ab_ask (((x0 * 3) + r1) < 0 ∨ 18 ≤ (((x0 * 3) + r1) : Int32).toNatClampNeg) (ab_ask (x0 < 0 ∨ 6 ≤ (x0 : Int32).toNatClampNeg) (some (ab_wI (ab_wI h 7 (((x0 * 3) + r1) : Int32).toNatClampNeg x1) 6 (x0 : Int32).toNatClampNeg (r1 + 1))))))
set_option maxRecDepth 20000 in
theorem sX3_addRoad (d : Nat) (X : abX) (x0 : Int32) (x1 : Int32) (h : abJ) (z : abJ) (hf : fX3_addRoad x0 x1 h = some z) : ab_Ex X (d + 1) 40 0 [(0, .ref 5), (1, .int x0), (2, .int x1)] [] ab_SH (ab_dD h) (fun r => r = (none, ab_SH, ab_dD z)) := by
  unfold fX3_addRoad at hf
  refine ab_Ex.blk (k := 2) (pc' := 2) (lv' := [(0, .ref 5), (1, .int x0), (2, .int x1)]) (st' := [.int x0, .ref 5]) (sh' := ab_SH) (D' := ab_dD h) (fun n => rfl) ?_
  obtain ⟨r1, hr1, hf⟩ := ab_bind_s hf
  refine ab_Ex.call (d := d + 0) (M2 := 35) (as := [.ref 5, .int x0]) (rest := []) (fun n => rfl) rfl (Nat.not_lt.mpr (Nat.le_of_ble_eq_true rfl)) (sX3_roadsOf_5 (d) X x0 h _ hr1) (fun r hr => ?_)
  subst hr
  show ab_Ex X (d + 1) 40 5 [(0, .ref 5), (1, .int x0), (2, .int x1)] [.int r1] ab_SH (ab_dD h) _
  refine ab_Ex.blk (k := 3) (pc' := 8) (lv' := [(3, .int r1), (0, .ref 5), (1, .int x0), (2, .int x1)]) (st' := [.int x0, .ref 5]) (sh' := ab_SH) (D' := ab_dD h) (fun n => rfl) ?_
  obtain ⟨r2, hr2, hf⟩ := ab_bind_s hf
  refine ab_Ex.call (d := d + 0) (M2 := 34) (as := [.ref 5, .int x0]) (rest := []) (fun n => rfl) rfl (Nat.not_lt.mpr (Nat.le_of_ble_eq_true rfl)) (sX3_has_5 (d) X x0 h _ hr2) (fun r hr => ?_)
  subst hr
  show ab_Ex X (d + 1) 40 11 [(3, .int r1), (0, .ref 5), (1, .int x0), (2, .int x1)] [.int r2] ab_SH (ab_dD h) _
  refine ab_Ex.ifc (c := r2 = 0) (SA := (39, [(3, .int r1), (0, .ref 5), (1, .int x0), (2, .int x1)], [], ab_dD h)) (SB := (14, [(3, .int r1), (0, .ref 5), (1, .int x0), (2, .int x1)], [], ab_dD h)) (fun n => rfl) (fun c3 => ?_) (fun c3 => ?_)
  · replace hf := (if_pos c3).symm.trans hf
    obtain rfl := Option.some.inj hf
    exact ab_Ex.ret (fun n => rfl) rfl
  · replace hf := (if_neg c3).symm.trans hf
    refine ab_Ex.blk (k := 2) (pc' := 16) (lv' := [(3, .int r1), (0, .ref 5), (1, .int x0), (2, .int x1)]) (st' := [.int 3, .int r1]) (sh' := ab_SH) (D' := ab_dD h) (fun n => rfl) ?_
    refine ab_Ex.ifc (c := 3 ≤ r1) (SA := (39, [(3, .int r1), (0, .ref 5), (1, .int x0), (2, .int x1)], [], ab_dD h)) (SB := (19, [(3, .int r1), (0, .ref 5), (1, .int x0), (2, .int x1)], [], ab_dD h)) (fun n => rfl) (fun c4 => ?_) (fun c4 => ?_)
    · replace hf := (if_pos c4).symm.trans hf
      obtain rfl := Option.some.inj hf
      exact ab_Ex.ret (fun n => rfl) rfl
    · replace hf := (if_neg c4).symm.trans hf
      refine ab_Ex.blk (k := 8) (pc' := 29) (lv' := [(3, .int r1), (0, .ref 5), (1, .int x0), (2, .int x1)]) (st' := [.int x1, .int (((x0 * 3) + r1)), .ref 7]) (sh' := ab_SH) (D' := ab_dD h) (fun n => rfl) ?_
      obtain ⟨c5, hf⟩ := ab_ask_s hf
      refine ab_Ex.grd (c := ((x0 * 3) + r1) < 0 ∨ 18 ≤ (((x0 * 3) + r1) : Int32).toNatClampNeg) (S := (30, [(3, .int r1), (0, .ref 5), (1, .int x0), (2, .int x1)], [], ab_dD (ab_wI h 7 (((x0 * 3) + r1) : Int32).toNatClampNeg x1))) (fun n => rfl) c5 ?_
      refine ab_Ex.blk (k := 6) (pc' := 38) (lv' := [(3, .int r1), (0, .ref 5), (1, .int x0), (2, .int x1)]) (st' := [.int ((r1 + 1)), .int x0, .ref 6]) (sh' := ab_SH) (D' := ab_dD (ab_wI h 7 (((x0 * 3) + r1) : Int32).toNatClampNeg x1)) (fun n => rfl) ?_
      obtain ⟨c6, hf⟩ := ab_ask_s hf
      refine ab_Ex.grd (c := x0 < 0 ∨ 6 ≤ (x0 : Int32).toNatClampNeg) (S := (39, [(3, .int r1), (0, .ref 5), (1, .int x0), (2, .int x1)], [], ab_dD (ab_wI (ab_wI h 7 (((x0 * 3) + r1) : Int32).toNatClampNeg x1) 6 (x0 : Int32).toNatClampNeg (r1 + 1)))) (fun n => rfl) c6 ?_
      obtain rfl := Option.some.inj hf
      exact ab_Ex.ret (fun n => rfl) rfl
def fX3_restingPosts_J26  (h : abJ) (k4 : Int32 → Int32 → Option Int32) (y1 : Int32) (y2 : Int32) : Option Int32 := k4 y1 ((y2 + 1))
def fX3_restingPosts_L4  (h : abJ)  : Nat → Int32 → Int32 → Option Int32
  | 0, _, _ => none
  | n + 1, y1, y2 => if (h.1 1 0) ≤ y2 then some y1 else (fX3_restsAt y2 h).bind (fun r2 => if r2 = 0 then fX3_restingPosts_J26 h (fun y1 y2 => fX3_restingPosts_L4 h n y1 y2) y1 y2 else fX3_restingPosts_J26 h (fun y1 y2 => fX3_restingPosts_L4 h n y1 y2) ((y1 ||| ((1 : Int32) <<< (y2 &&& 31)))) y2)
def fX3_restingPosts  (h : abJ) : Option Int32 := fX3_restingPosts_L4 h ab_N 0 0
set_option maxRecDepth 20000 in
theorem sX3_restingPosts_J26 (d : Nat) (X : abX) (h : abJ) (k4 : Int32 → Int32 → Option Int32) (hk4 : ∀ (y1 : Int32) (y2 : Int32) (z : Int32), k4 y1 y2 = some z → ab_Ex X (d + 3) 43 4 [(0, .ref 1), (1, .int y1), (2, .int y2)] [] ab_SH (ab_dD h) (fun r => r = (some (.int z), ab_SH, ab_dD h))) : ∀ (y1 : Int32) (y2 : Int32) (z : Int32), fX3_restingPosts_J26 h k4 y1 y2 = some z → ab_Ex X (d + 3) 43 26 [(0, .ref 1), (1, .int y1), (2, .int y2)] [] ab_SH (ab_dD h) (fun r => r = (some (.int z), ab_SH, ab_dD h)) := by
  intro y1 y2 z hf
  unfold fX3_restingPosts_J26 at hf
  refine ab_Ex.blk (k := 2) (pc' := 4) (lv' := [(0, .ref 1), (1, .int y1), (2, .int ((y2 + 1)))]) (st' := []) (sh' := ab_SH) (D' := ab_dD h) (fun n => rfl) ?_
  exact hk4 y1 ((y2 + 1)) _ hf
set_option maxRecDepth 20000 in
theorem sX3_restingPosts_L4 (d : Nat) (X : abX) (h : abJ)   : ∀ (n : Nat), ∀ (y1 : Int32) (y2 : Int32) (z : Int32), fX3_restingPosts_L4 h n y1 y2 = some z → ab_Ex X (d + 3) 43 4 [(0, .ref 1), (1, .int y1), (2, .int y2)] [] ab_SH (ab_dD h) (fun r => r = (some (.int z), ab_SH, ab_dD h)) := by
  intro n
  induction n with
  | zero => intro y1 y2 z hf; cases hf
  | succ n ih =>
    intro y1 y2 z hf
    rw [fX3_restingPosts_L4] at hf
    refine ab_Ex.blk (k := 3) (pc' := 9) (lv' := [(0, .ref 1), (1, .int y1), (2, .int y2)]) (st' := [.int ((h.1 1 0)), .int y2]) (sh' := ab_SH) (D' := ab_dD h) (fun n => rfl) ?_
    refine ab_Ex.ifc (c := (h.1 1 0) ≤ y2) (SA := (32, [(0, .ref 1), (1, .int y1), (2, .int y2)], [], ab_dD h)) (SB := (12, [(0, .ref 1), (1, .int y1), (2, .int y2)], [], ab_dD h)) (fun n => rfl) (fun c1 => ?_) (fun c1 => ?_)
    · replace hf := (if_pos c1).symm.trans hf
      refine ab_Ex.blk (k := 1) (pc' := 33) (lv' := [(0, .ref 1), (1, .int y1), (2, .int y2)]) (st' := [.int y1]) (sh' := ab_SH) (D' := ab_dD h) (fun n => rfl) ?_
      obtain rfl := Option.some.inj hf
      exact ab_Ex.ret (fun n => rfl) rfl
    · replace hf := (if_neg c1).symm.trans hf
      refine ab_Ex.blk (k := 2) (pc' := 14) (lv' := [(0, .ref 1), (1, .int y1), (2, .int y2)]) (st' := [.int y2, .ref 1]) (sh' := ab_SH) (D' := ab_dD h) (fun n => rfl) ?_
      obtain ⟨r2, hr2, hf⟩ := ab_bind_s hf
      refine ab_Ex.call (d := d + 2) (M2 := 38) (as := [.ref 1, .int y2]) (rest := []) (fun n => rfl) rfl (Nat.not_lt.mpr (Nat.le_of_ble_eq_true rfl)) (sX3_restsAt (d) X y2 h _ hr2) (fun r hr => ?_)
      subst hr
      show ab_Ex X (d + 3) 43 17 [(0, .ref 1), (1, .int y1), (2, .int y2)] [.int r2] ab_SH (ab_dD h) _
      refine ab_Ex.ifc (c := r2 = 0) (SA := (26, [(0, .ref 1), (1, .int y1), (2, .int y2)], [], ab_dD h)) (SB := (20, [(0, .ref 1), (1, .int y1), (2, .int y2)], [], ab_dD h)) (fun n => rfl) (fun c3 => ?_) (fun c3 => ?_)
      · replace hf := (if_pos c3).symm.trans hf
        exact sX3_restingPosts_J26 d X h (fun y1 y2 => fX3_restingPosts_L4 h n y1 y2) (fun y1 y2 z hz => ih y1 y2 z hz) y1 y2 _ hf
      · replace hf := (if_neg c3).symm.trans hf
        refine ab_Ex.blk (k := 6) (pc' := 26) (lv' := [(0, .ref 1), (1, .int ((y1 ||| ((1 : Int32) <<< (y2 &&& 31))))), (2, .int y2)]) (st' := []) (sh' := ab_SH) (D' := ab_dD h) (fun n => rfl) ?_
        exact sX3_restingPosts_J26 d X h (fun y1 y2 => fX3_restingPosts_L4 h n y1 y2) (fun y1 y2 z hz => ih y1 y2 z hz) ((y1 ||| ((1 : Int32) <<< (y2 &&& 31)))) y2 _ hf
set_option maxRecDepth 20000 in
theorem sX3_restingPosts (d : Nat) (X : abX)  (h : abJ) (z : Int32) (hf : fX3_restingPosts  h = some z) : ab_Ex X (d + 3) 43 0 [(0, .ref 1)] [] ab_SH (ab_dD h) (fun r => r = (some (.int z), ab_SH, ab_dD h)) := by
  unfold fX3_restingPosts at hf
  refine ab_Ex.blk (k := 4) (pc' := 4) (lv' := [(0, .ref 1), (1, .int 0), (2, .int 0)]) (st' := []) (sh' := ab_SH) (D' := ab_dD h) (fun n => rfl) ?_
  exact sX3_restingPosts_L4 d X h ab_N 0 0 _ hf
def fX4_allPosts  (h : abJ) : Option Int32 := some (((1 : Int32) <<< ((h.1 1 0) &&& 31)) - 1)
set_option maxRecDepth 20000 in
theorem sX4_allPosts (d : Nat) (X : abX)  (h : abJ) (z : Int32) (hf : fX4_allPosts  h = some z) : ab_Ex X (d + 0) 47 0 [(0, .ref 40)] [] ab_SH (ab_dD h) (fun r => r = (some (.int z), ab_SH, ab_dD h)) := by
  unfold fX4_allPosts at hf
  refine ab_Ex.blk (k := 7) (pc' := 11) (lv' := [(0, .ref 40)]) (st' := [.int ((((1 : Int32) <<< ((h.1 1 0) &&& 31)) - 1))]) (sh' := ab_SH) (D' := ab_dD h) (fun n => rfl) ?_
  obtain rfl := Option.some.inj hf
  exact ab_Ex.ret (fun n => rfl) rfl
def fX4_leadInto_J86  (h : abJ) (k15 : Int32 → Int32 → Int32 → Int32 → Int32 → Option Int32) (y1 : Int32) (y2 : Int32) (y3 : Int32) (y4 : Int32) (y5 : Int32) : Option Int32 := k15 y1 y2 y3 y4 ((y5 + 1))
def fX4_leadInto_J80  (h : abJ) (k30 : Int32 → Int32 → Int32 → Int32 → Int32 → Int32 → Option Int32) (y1 : Int32) (y2 : Int32) (y3 : Int32) (y4 : Int32) (y5 : Int32) (y6 : Int32) : Option Int32 := k30 y1 y2 y3 y4 y5 ((y6 + 1))
def fX4_leadInto_L30  (h : abJ) (k15 : Int32 → Int32 → Int32 → Int32 → Int32 → Option Int32) : Nat → Int32 → Int32 → Int32 → Int32 → Int32 → Int32 → Option Int32
  | 0, _, _, _, _, _, _ => none
  | n + 1, y1, y2, y3, y4, y5, y6 => (fX11_isIn y2 y5 h).bind (fun r3 => if r3 = 0 then fX4_leadInto_J86 h k15 y1 y2 y3 y4 y5 else (fX3_roadsOf 1 y5 h).bind (fun r5 => if r5 ≤ y6 then fX4_leadInto_J86 h k15 y1 y2 y3 y4 y5 else (fX3_leadsTo y5 y6 h).bind (fun r7 => (fX11_isIn ((y1 ||| y3)) r7 h).bind (fun r8 => if r8 = 0 then fX4_leadInto_J80 h (fun y1 y2 y3 y4 y5 y6 => fX4_leadInto_L30 h k15 n y1 y2 y3 y4 y5 y6) y1 y2 y3 y4 y5 y6 else fX4_leadInto_J80 h (fun y1 y2 y3 y4 y5 y6 => fX4_leadInto_L30 h k15 n y1 y2 y3 y4 y5 y6) y1 y2 ((y3 ||| ((1 : Int32) <<< (y5 &&& 31)))) y4 y5 y6))))
def fX4_leadInto_L15  (h : abJ) (k5 : Int32 → Int32 → Int32 → Int32 → Option Int32) : Nat → Int32 → Int32 → Int32 → Int32 → Int32 → Option Int32
  | 0, _, _, _, _, _ => none
  | n + 1, y1, y2, y3, y4, y5 => if (h.1 1 0) ≤ y5 then k5 y1 y2 y3 ((y4 + 1)) else fX4_leadInto_L30 h (fun y1 y2 y3 y4 y5 => fX4_leadInto_L15 h k5 n y1 y2 y3 y4 y5) ab_N y1 y2 y3 y4 y5 0
def fX4_leadInto_L5  (h : abJ)  : Nat → Int32 → Int32 → Int32 → Int32 → Option Int32
  | 0, _, _, _, _ => none
  | n + 1, y1, y2, y3, y4 => if 6 ≤ y4 then some y3 else fX4_leadInto_L15 h (fun y1 y2 y3 y4 => fX4_leadInto_L5 h n y1 y2 y3 y4) ab_N y1 y2 y3 y4 0
def fX4_leadInto (x0 : Int32) (x1 : Int32) (h : abJ) : Option Int32 := fX4_leadInto_L5 h ab_N x0 x1 0 0
set_option maxRecDepth 20000 in
theorem sX4_leadInto_J86 (d : Nat) (X : abX) (h : abJ) (k15 : Int32 → Int32 → Int32 → Int32 → Int32 → Option Int32) (hk15 : ∀ (y1 : Int32) (y2 : Int32) (y3 : Int32) (y4 : Int32) (y5 : Int32) (z : Int32), k15 y1 y2 y3 y4 y5 = some z → ab_Ex X (d + 2) 48 15 [(0, .ref 40), (1, .int y1), (2, .int y2), (3, .int y3), (4, .int y4), (5, .int y5)] [] ab_SH (ab_dD h) (fun r => r = (some (.int z), ab_SH, ab_dD h))) : ∀ (y1 : Int32) (y2 : Int32) (y3 : Int32) (y4 : Int32) (y5 : Int32) (z : Int32), fX4_leadInto_J86 h k15 y1 y2 y3 y4 y5 = some z → ab_Ex X (d + 2) 48 86 [(0, .ref 40), (1, .int y1), (2, .int y2), (3, .int y3), (4, .int y4), (5, .int y5)] [] ab_SH (ab_dD h) (fun r => r = (some (.int z), ab_SH, ab_dD h)) := by
  intro y1 y2 y3 y4 y5 z hf
  unfold fX4_leadInto_J86 at hf
  refine ab_Ex.blk (k := 2) (pc' := 15) (lv' := [(0, .ref 40), (1, .int y1), (2, .int y2), (3, .int y3), (4, .int y4), (5, .int ((y5 + 1)))]) (st' := []) (sh' := ab_SH) (D' := ab_dD h) (fun n => rfl) ?_
  exact hk15 y1 y2 y3 y4 ((y5 + 1)) _ hf
set_option maxRecDepth 20000 in
theorem sX4_leadInto_J80 (d : Nat) (X : abX) (h : abJ) (k30 : Int32 → Int32 → Int32 → Int32 → Int32 → Int32 → Option Int32) (hk30 : ∀ (y1 : Int32) (y2 : Int32) (y3 : Int32) (y4 : Int32) (y5 : Int32) (y6 : Int32) (z : Int32), k30 y1 y2 y3 y4 y5 y6 = some z → ab_Ex X (d + 2) 48 30 [(0, .ref 40), (1, .int y1), (2, .int y2), (3, .int y3), (4, .int y4), (5, .int y5), (6, .int y6)] [] ab_SH (ab_dD h) (fun r => r = (some (.int z), ab_SH, ab_dD h))) : ∀ (y1 : Int32) (y2 : Int32) (y3 : Int32) (y4 : Int32) (y5 : Int32) (y6 : Int32) (z : Int32), fX4_leadInto_J80 h k30 y1 y2 y3 y4 y5 y6 = some z → ab_Ex X (d + 2) 48 80 [(0, .ref 40), (1, .int y1), (2, .int y2), (3, .int y3), (4, .int y4), (5, .int y5), (6, .int y6)] [] ab_SH (ab_dD h) (fun r => r = (some (.int z), ab_SH, ab_dD h)) := by
  intro y1 y2 y3 y4 y5 y6 z hf
  unfold fX4_leadInto_J80 at hf
  refine ab_Ex.blk (k := 2) (pc' := 30) (lv' := [(0, .ref 40), (1, .int y1), (2, .int y2), (3, .int y3), (4, .int y4), (5, .int y5), (6, .int ((y6 + 1)))]) (st' := []) (sh' := ab_SH) (D' := ab_dD h) (fun n => rfl) ?_
  exact hk30 y1 y2 y3 y4 y5 ((y6 + 1)) _ hf
set_option maxRecDepth 20000 in
theorem sX4_leadInto_L30 (d : Nat) (X : abX) (h : abJ) (k15 : Int32 → Int32 → Int32 → Int32 → Int32 → Option Int32) (hk15 : ∀ (y1 : Int32) (y2 : Int32) (y3 : Int32) (y4 : Int32) (y5 : Int32) (z : Int32), k15 y1 y2 y3 y4 y5 = some z → ab_Ex X (d + 2) 48 15 [(0, .ref 40), (1, .int y1), (2, .int y2), (3, .int y3), (4, .int y4), (5, .int y5)] [] ab_SH (ab_dD h) (fun r => r = (some (.int z), ab_SH, ab_dD h))) : ∀ (n : Nat), ∀ (y1 : Int32) (y2 : Int32) (y3 : Int32) (y4 : Int32) (y5 : Int32) (y6 : Int32) (z : Int32), fX4_leadInto_L30 h k15 n y1 y2 y3 y4 y5 y6 = some z → ab_Ex X (d + 2) 48 30 [(0, .ref 40), (1, .int y1), (2, .int y2), (3, .int y3), (4, .int y4), (5, .int y5), (6, .int y6)] [] ab_SH (ab_dD h) (fun r => r = (some (.int z), ab_SH, ab_dD h)) := by
  intro n
  induction n with
  | zero => intro y1 y2 y3 y4 y5 y6 z hf; cases hf
  | succ n ih =>
    intro y1 y2 y3 y4 y5 y6 z hf
    rw [fX4_leadInto_L30] at hf
    refine ab_Ex.blk (k := 2) (pc' := 33) (lv' := [(0, .ref 40), (1, .int y1), (2, .int y2), (3, .int y3), (4, .int y4), (5, .int y5), (6, .int y6)]) (st' := [.int y5, .int y2]) (sh' := ab_SH) (D' := ab_dD h) (fun n => rfl) ?_
    obtain ⟨r3, hr3, hf⟩ := ab_bind_s hf
    refine ab_Ex.call (d := d + 1) (M2 := 174) (as := [.int y2, .int y5]) (rest := []) (fun n => rfl) rfl (Nat.not_lt.mpr (Nat.le_of_ble_eq_true rfl)) (sX11_isIn (d + 1) X y2 y5 h _ hr3) (fun r hr => ?_)
    subst hr
    show ab_Ex X (d + 2) 48 36 [(0, .ref 40), (1, .int y1), (2, .int y2), (3, .int y3), (4, .int y4), (5, .int y5), (6, .int y6)] [.int r3] ab_SH (ab_dD h) _
    refine ab_Ex.ifc (c := r3 = 0) (SA := (86, [(0, .ref 40), (1, .int y1), (2, .int y2), (3, .int y3), (4, .int y4), (5, .int y5), (6, .int y6)], [], ab_dD h)) (SB := (39, [(0, .ref 40), (1, .int y1), (2, .int y2), (3, .int y3), (4, .int y4), (5, .int y5), (6, .int y6)], [], ab_dD h)) (fun n => rfl) (fun c4 => ?_) (fun c4 => ?_)
    · replace hf := (if_pos c4).symm.trans hf
      exact sX4_leadInto_J86 d X h k15 hk15 y1 y2 y3 y4 y5 _ hf
    · replace hf := (if_neg c4).symm.trans hf
      refine ab_Ex.blk (k := 4) (pc' := 47) (lv' := [(0, .ref 40), (1, .int y1), (2, .int y2), (3, .int y3), (4, .int y4), (5, .int y5), (6, .int y6)]) (st' := [.int y5, .ref 1, .int y6]) (sh' := ab_SH) (D' := ab_dD h) (fun n => rfl) ?_
      obtain ⟨r5, hr5, hf⟩ := ab_bind_s hf
      refine ab_Ex.call (d := d + 1) (M2 := 35) (as := [.ref 1, .int y5]) (rest := [.int y6]) (fun n => rfl) rfl (Nat.not_lt.mpr (Nat.le_of_ble_eq_true rfl)) (sX3_roadsOf_1 (d + 1) X y5 h _ hr5) (fun r hr => ?_)
      subst hr
      show ab_Ex X (d + 2) 48 50 [(0, .ref 40), (1, .int y1), (2, .int y2), (3, .int y3), (4, .int y4), (5, .int y5), (6, .int y6)] [.int r5, .int y6] ab_SH (ab_dD h) _
      refine ab_Ex.ifc (c := r5 ≤ y6) (SA := (86, [(0, .ref 40), (1, .int y1), (2, .int y2), (3, .int y3), (4, .int y4), (5, .int y5), (6, .int y6)], [], ab_dD h)) (SB := (53, [(0, .ref 40), (1, .int y1), (2, .int y2), (3, .int y3), (4, .int y4), (5, .int y5), (6, .int y6)], [], ab_dD h)) (fun n => rfl) (fun c6 => ?_) (fun c6 => ?_)
      · replace hf := (if_pos c6).symm.trans hf
        exact sX4_leadInto_J86 d X h k15 hk15 y1 y2 y3 y4 y5 _ hf
      · replace hf := (if_neg c6).symm.trans hf
        refine ab_Ex.blk (k := 7) (pc' := 64) (lv' := [(0, .ref 40), (1, .int y1), (2, .int y2), (3, .int y3), (4, .int y4), (5, .int y5), (6, .int y6)]) (st' := [.int y6, .int y5, .ref 1, .int ((y1 ||| y3))]) (sh' := ab_SH) (D' := ab_dD h) (fun n => rfl) ?_
        obtain ⟨r7, hr7, hf⟩ := ab_bind_s hf
        refine ab_Ex.call (d := d + 1) (M2 := 36) (as := [.ref 1, .int y5, .int y6]) (rest := [.int ((y1 ||| y3))]) (fun n => rfl) rfl (Nat.not_lt.mpr (Nat.le_of_ble_eq_true rfl)) (sX3_leadsTo (d) X y5 y6 h _ hr7) (fun r hr => ?_)
        subst hr
        show ab_Ex X (d + 2) 48 67 [(0, .ref 40), (1, .int y1), (2, .int y2), (3, .int y3), (4, .int y4), (5, .int y5), (6, .int y6)] [.int r7, .int ((y1 ||| y3))] ab_SH (ab_dD h) _
        obtain ⟨r8, hr8, hf⟩ := ab_bind_s hf
        refine ab_Ex.call (d := d + 1) (M2 := 174) (as := [.int ((y1 ||| y3)), .int r7]) (rest := []) (fun n => rfl) rfl (Nat.not_lt.mpr (Nat.le_of_ble_eq_true rfl)) (sX11_isIn (d + 1) X ((y1 ||| y3)) r7 h _ hr8) (fun r hr => ?_)
        subst hr
        show ab_Ex X (d + 2) 48 70 [(0, .ref 40), (1, .int y1), (2, .int y2), (3, .int y3), (4, .int y4), (5, .int y5), (6, .int y6)] [.int r8] ab_SH (ab_dD h) _
        refine ab_Ex.ifc (c := r8 = 0) (SA := (80, [(0, .ref 40), (1, .int y1), (2, .int y2), (3, .int y3), (4, .int y4), (5, .int y5), (6, .int y6)], [], ab_dD h)) (SB := (73, [(0, .ref 40), (1, .int y1), (2, .int y2), (3, .int y3), (4, .int y4), (5, .int y5), (6, .int y6)], [], ab_dD h)) (fun n => rfl) (fun c9 => ?_) (fun c9 => ?_)
        · replace hf := (if_pos c9).symm.trans hf
          exact sX4_leadInto_J80 d X h (fun y1 y2 y3 y4 y5 y6 => fX4_leadInto_L30 h k15 n y1 y2 y3 y4 y5 y6) (fun y1 y2 y3 y4 y5 y6 z hz => ih y1 y2 y3 y4 y5 y6 z hz) y1 y2 y3 y4 y5 y6 _ hf
        · replace hf := (if_neg c9).symm.trans hf
          refine ab_Ex.blk (k := 6) (pc' := 80) (lv' := [(0, .ref 40), (1, .int y1), (2, .int y2), (3, .int ((y3 ||| ((1 : Int32) <<< (y5 &&& 31))))), (4, .int y4), (5, .int y5), (6, .int y6)]) (st' := []) (sh' := ab_SH) (D' := ab_dD h) (fun n => rfl) ?_
          exact sX4_leadInto_J80 d X h (fun y1 y2 y3 y4 y5 y6 => fX4_leadInto_L30 h k15 n y1 y2 y3 y4 y5 y6) (fun y1 y2 y3 y4 y5 y6 z hz => ih y1 y2 y3 y4 y5 y6 z hz) y1 y2 ((y3 ||| ((1 : Int32) <<< (y5 &&& 31)))) y4 y5 y6 _ hf
set_option maxRecDepth 20000 in
theorem sX4_leadInto_L15 (d : Nat) (X : abX) (h : abJ) (k5 : Int32 → Int32 → Int32 → Int32 → Option Int32) (hk5 : ∀ (y1 : Int32) (y2 : Int32) (y3 : Int32) (y4 : Int32) (z : Int32), k5 y1 y2 y3 y4 = some z → ab_Ex X (d + 2) 48 5 [(0, .ref 40), (1, .int y1), (2, .int y2), (3, .int y3), (4, .int y4)] [] ab_SH (ab_dD h) (fun r => r = (some (.int z), ab_SH, ab_dD h))) : ∀ (n : Nat), ∀ (y1 : Int32) (y2 : Int32) (y3 : Int32) (y4 : Int32) (y5 : Int32) (z : Int32), fX4_leadInto_L15 h k5 n y1 y2 y3 y4 y5 = some z → ab_Ex X (d + 2) 48 15 [(0, .ref 40), (1, .int y1), (2, .int y2), (3, .int y3), (4, .int y4), (5, .int y5)] [] ab_SH (ab_dD h) (fun r => r = (some (.int z), ab_SH, ab_dD h)) := by
  intro n
  induction n with
  | zero => intro y1 y2 y3 y4 y5 z hf; cases hf
  | succ n ih =>
    intro y1 y2 y3 y4 y5 z hf
    rw [fX4_leadInto_L15] at hf
    refine ab_Ex.blk (k := 4) (pc' := 24) (lv' := [(0, .ref 40), (1, .int y1), (2, .int y2), (3, .int y3), (4, .int y4), (5, .int y5)]) (st' := [.int ((h.1 1 0)), .int y5]) (sh' := ab_SH) (D' := ab_dD h) (fun n => rfl) ?_
    refine ab_Ex.ifc (c := (h.1 1 0) ≤ y5) (SA := (92, [(0, .ref 40), (1, .int y1), (2, .int y2), (3, .int y3), (4, .int y4), (5, .int y5)], [], ab_dD h)) (SB := (27, [(0, .ref 40), (1, .int y1), (2, .int y2), (3, .int y3), (4, .int y4), (5, .int y5)], [], ab_dD h)) (fun n => rfl) (fun c2 => ?_) (fun c2 => ?_)
    · replace hf := (if_pos c2).symm.trans hf
      refine ab_Ex.blk (k := 2) (pc' := 5) (lv' := [(0, .ref 40), (1, .int y1), (2, .int y2), (3, .int y3), (4, .int ((y4 + 1)))]) (st' := []) (sh' := ab_SH) (D' := ab_dD h) (fun n => rfl) ?_
      exact hk5 y1 y2 y3 ((y4 + 1)) _ hf
    · replace hf := (if_neg c2).symm.trans hf
      refine ab_Ex.blk (k := 2) (pc' := 30) (lv' := [(0, .ref 40), (1, .int y1), (2, .int y2), (3, .int y3), (4, .int y4), (5, .int y5), (6, .int 0)]) (st' := []) (sh' := ab_SH) (D' := ab_dD h) (fun n => rfl) ?_
      exact sX4_leadInto_L30 d X h (fun y1 y2 y3 y4 y5 => fX4_leadInto_L15 h k5 n y1 y2 y3 y4 y5) (fun y1 y2 y3 y4 y5 z hz => ih y1 y2 y3 y4 y5 z hz) ab_N y1 y2 y3 y4 y5 0 _ hf
set_option maxRecDepth 20000 in
theorem sX4_leadInto_L5 (d : Nat) (X : abX) (h : abJ)   : ∀ (n : Nat), ∀ (y1 : Int32) (y2 : Int32) (y3 : Int32) (y4 : Int32) (z : Int32), fX4_leadInto_L5 h n y1 y2 y3 y4 = some z → ab_Ex X (d + 2) 48 5 [(0, .ref 40), (1, .int y1), (2, .int y2), (3, .int y3), (4, .int y4)] [] ab_SH (ab_dD h) (fun r => r = (some (.int z), ab_SH, ab_dD h)) := by
  intro n
  induction n with
  | zero => intro y1 y2 y3 y4 z hf; cases hf
  | succ n ih =>
    intro y1 y2 y3 y4 z hf
    rw [fX4_leadInto_L5] at hf
    refine ab_Ex.blk (k := 2) (pc' := 9) (lv' := [(0, .ref 40), (1, .int y1), (2, .int y2), (3, .int y3), (4, .int y4)]) (st' := [.int 6, .int y4]) (sh' := ab_SH) (D' := ab_dD h) (fun n => rfl) ?_
    refine ab_Ex.ifc (c := 6 ≤ y4) (SA := (98, [(0, .ref 40), (1, .int y1), (2, .int y2), (3, .int y3), (4, .int y4)], [], ab_dD h)) (SB := (12, [(0, .ref 40), (1, .int y1), (2, .int y2), (3, .int y3), (4, .int y4)], [], ab_dD h)) (fun n => rfl) (fun c1 => ?_) (fun c1 => ?_)
    · replace hf := (if_pos c1).symm.trans hf
      refine ab_Ex.blk (k := 1) (pc' := 99) (lv' := [(0, .ref 40), (1, .int y1), (2, .int y2), (3, .int y3), (4, .int y4)]) (st' := [.int y3]) (sh' := ab_SH) (D' := ab_dD h) (fun n => rfl) ?_
      obtain rfl := Option.some.inj hf
      exact ab_Ex.ret (fun n => rfl) rfl
    · replace hf := (if_neg c1).symm.trans hf
      refine ab_Ex.blk (k := 2) (pc' := 15) (lv' := [(0, .ref 40), (1, .int y1), (2, .int y2), (3, .int y3), (4, .int y4), (5, .int 0)]) (st' := []) (sh' := ab_SH) (D' := ab_dD h) (fun n => rfl) ?_
      exact sX4_leadInto_L15 d X h (fun y1 y2 y3 y4 => fX4_leadInto_L5 h n y1 y2 y3 y4) (fun y1 y2 y3 y4 z hz => ih y1 y2 y3 y4 z hz) ab_N y1 y2 y3 y4 0 _ hf
set_option maxRecDepth 20000 in
theorem sX4_leadInto (d : Nat) (X : abX) (x0 : Int32) (x1 : Int32) (h : abJ) (z : Int32) (hf : fX4_leadInto x0 x1 h = some z) : ab_Ex X (d + 2) 48 0 [(0, .ref 40), (1, .int x0), (2, .int x1)] [] ab_SH (ab_dD h) (fun r => r = (some (.int z), ab_SH, ab_dD h)) := by
  unfold fX4_leadInto at hf
  refine ab_Ex.blk (k := 4) (pc' := 5) (lv' := [(0, .ref 40), (1, .int x0), (2, .int x1), (3, .int 0), (4, .int 0)]) (st' := []) (sh' := ab_SH) (D' := ab_dD h) (fun n => rfl) ?_
  exact sX4_leadInto_L5 d X h ab_N x0 x1 0 0 _ hf
def fJ9_abs_067f4 (x0 : Int64) (h : abJ) : Option Int64 := if 0 ≤ (lg_cmp x0 0) then some x0 else some (-x0)
set_option maxRecDepth 20000 in
theorem sJ9_abs_067f4 (d : Nat) (X : abX) (x0 : Int64) (h : abJ) (z : Int64) (hf : fJ9_abs_067f4 x0 h = some z) : ab_Ex X (d + 0) 301 0 [(0, .long x0)] [] ab_SH (ab_dD h) (fun r => r = (some (.long z), ab_SH, ab_dD h)) := by
  unfold fJ9_abs_067f4 at hf
  refine ab_Ex.blk (k := 3) (pc' := 3) (lv' := [(0, .long x0)]) (st' := [.int ((lg_cmp x0 0))]) (sh' := ab_SH) (D' := ab_dD h) (fun n => rfl) ?_
  refine ab_Ex.ifc (c := 0 ≤ (lg_cmp x0 0)) (SA := (11, [(0, .long x0)], [], ab_dD h)) (SB := (6, [(0, .long x0)], [], ab_dD h)) (fun n => rfl) (fun c1 => ?_) (fun c1 => ?_)
  · replace hf := (if_pos c1).symm.trans hf
    refine ab_Ex.blk (k := 1) (pc' := 12) (lv' := []) (st' := [.long x0]) (sh' := ab_SH) (D' := ab_dD h) (fun n => rfl) ?_
    obtain rfl := Option.some.inj hf
    exact ab_Ex.ret (fun n => rfl) rfl
  · replace hf := (if_neg c1).symm.trans hf
    refine ab_Ex.blk (k := 3) (pc' := 12) (lv' := []) (st' := [.long ((-x0))]) (sh' := ab_SH) (D' := ab_dD h) (fun n => rfl) ?_
    obtain rfl := Option.some.inj hf
    exact ab_Ex.ret (fun n => rfl) rfl
def fX4_commonDivisor_L15  (h : abJ)  : Nat → Int64 → Int64 → Int32 → Option Int64
  | 0, _, _, _ => none
  | n + 1, y4, y6, y8 => if 200 ≤ y8 then some y4 else if (lg_cmp y6 0) = 0 then some y4 else ab_ask (y6 = 0) (fX4_commonDivisor_L15 h n y6 ((y4 - y4 / y6 * y6)) ((y8 + 1)))
def fX4_commonDivisor (x0 : Int64) (x1 : Int64) (h : abJ) : Option Int64 := (fJ9_abs_067f4 x0 h).bind (fun r1 => (fJ9_abs_067f4 x1 h).bind (fun r2 => fX4_commonDivisor_L15 h ab_N r1 r2 0))
set_option maxRecDepth 20000 in
theorem sX4_commonDivisor_L15 (d : Nat) (X : abX) (h : abJ)   : ∀ (n : Nat), ∀ (y4 : Int64) (y6 : Int64) (y8 : Int32) (z : Int64), fX4_commonDivisor_L15 h n y4 y6 y8 = some z → ab_Ex X (d + 1) 59 15 [(4, .long y4), (6, .long y6), (8, .int y8)] [] ab_SH (ab_dD h) (fun r => r = (some (.long z), ab_SH, ab_dD h)) := by
  intro n
  induction n with
  | zero => intro y4 y6 y8 z hf; cases hf
  | succ n ih =>
    intro y4 y6 y8 z hf
    rw [fX4_commonDivisor_L15] at hf
    refine ab_Ex.blk (k := 2) (pc' := 20) (lv' := [(4, .long y4), (6, .long y6), (8, .int y8)]) (st' := [.int 200, .int y8]) (sh' := ab_SH) (D' := ab_dD h) (fun n => rfl) ?_
    refine ab_Ex.ifc (c := 200 ≤ y8) (SA := (51, [(4, .long y4), (6, .long y6), (8, .int y8)], [], ab_dD h)) (SB := (23, [(4, .long y4), (6, .long y6), (8, .int y8)], [], ab_dD h)) (fun n => rfl) (fun c3 => ?_) (fun c3 => ?_)
    · replace hf := (if_pos c3).symm.trans hf
      refine ab_Ex.blk (k := 1) (pc' := 53) (lv' := [(4, .long y4)]) (st' := [.long y4]) (sh' := ab_SH) (D' := ab_dD h) (fun n => rfl) ?_
      obtain rfl := Option.some.inj hf
      exact ab_Ex.ret (fun n => rfl) rfl
    · replace hf := (if_neg c3).symm.trans hf
      refine ab_Ex.blk (k := 3) (pc' := 27) (lv' := [(4, .long y4), (6, .long y6), (8, .int y8)]) (st' := [.int ((lg_cmp y6 0))]) (sh' := ab_SH) (D' := ab_dD h) (fun n => rfl) ?_
      refine ab_Ex.ifc (c := (lg_cmp y6 0) = 0) (SA := (51, [(4, .long y4), (6, .long y6), (8, .int y8)], [], ab_dD h)) (SB := (30, [(4, .long y4), (6, .long y6), (8, .int y8)], [], ab_dD h)) (fun n => rfl) (fun c4 => ?_) (fun c4 => ?_)
      · replace hf := (if_pos c4).symm.trans hf
        refine ab_Ex.blk (k := 1) (pc' := 53) (lv' := [(4, .long y4)]) (st' := [.long y4]) (sh' := ab_SH) (D' := ab_dD h) (fun n => rfl) ?_
        obtain rfl := Option.some.inj hf
        exact ab_Ex.ret (fun n => rfl) rfl
      · replace hf := (if_neg c4).symm.trans hf
        refine ab_Ex.blk (k := 2) (pc' := 34) (lv' := [(4, .long y4), (6, .long y6), (8, .int y8)]) (st' := [.long y6, .long y4]) (sh' := ab_SH) (D' := ab_dD h) (fun n => rfl) ?_
        obtain ⟨c5, hf⟩ := ab_ask_s hf
        refine ab_Ex.grd (c := y6 = 0) (S := (35, [(4, .long y4), (6, .long y6), (8, .int y8)], [.long ((y4 - y4 / y6 * y6))], ab_dD h)) (fun n => rfl) c5 ?_
        refine ab_Ex.blk (k := 7) (pc' := 15) (lv' := [(4, .long y6), (6, .long ((y4 - y4 / y6 * y6))), (8, .int ((y8 + 1)))]) (st' := []) (sh' := ab_SH) (D' := ab_dD h) (fun n => rfl) ?_
        exact ih y6 ((y4 - y4 / y6 * y6)) ((y8 + 1)) _ hf
set_option maxRecDepth 20000 in
theorem sX4_commonDivisor (d : Nat) (X : abX) (x0 : Int64) (x1 : Int64) (h : abJ) (z : Int64) (hf : fX4_commonDivisor x0 x1 h = some z) : ab_Ex X (d + 1) 59 0 [(0, .long x0), (2, .long x1)] [] ab_SH (ab_dD h) (fun r => r = (some (.long z), ab_SH, ab_dD h)) := by
  unfold fX4_commonDivisor at hf
  refine ab_Ex.blk (k := 1) (pc' := 1) (lv' := [(0, .long x0), (2, .long x1)]) (st' := [.long x0]) (sh' := ab_SH) (D' := ab_dD h) (fun n => rfl) ?_
  obtain ⟨r1, hr1, hf⟩ := ab_bind_s hf
  refine ab_Ex.call (d := d + 0) (M2 := 301) (as := [.long x0]) (rest := []) (fun n => rfl) rfl (Nat.not_lt.mpr (Nat.le_of_ble_eq_true rfl)) (sJ9_abs_067f4 (d) X x0 h _ hr1) (fun r hr => ?_)
  subst hr
  show ab_Ex X (d + 1) 59 4 [(0, .long x0), (2, .long x1)] [.long r1] ab_SH (ab_dD h) _
  refine ab_Ex.blk (k := 2) (pc' := 7) (lv' := [(4, .long r1), (0, .long x0), (2, .long x1)]) (st' := [.long x1]) (sh' := ab_SH) (D' := ab_dD h) (fun n => rfl) ?_
  obtain ⟨r2, hr2, hf⟩ := ab_bind_s hf
  refine ab_Ex.call (d := d + 0) (M2 := 301) (as := [.long x1]) (rest := []) (fun n => rfl) rfl (Nat.not_lt.mpr (Nat.le_of_ble_eq_true rfl)) (sJ9_abs_067f4 (d) X x1 h _ hr2) (fun r hr => ?_)
  subst hr
  show ab_Ex X (d + 1) 59 10 [(4, .long r1), (0, .long x0), (2, .long x1)] [.long r2] ab_SH (ab_dD h) _
  refine ab_Ex.blk (k := 3) (pc' := 15) (lv' := [(4, .long r1), (6, .long r2), (8, .int 0)]) (st' := []) (sh' := ab_SH) (D' := ab_dD h) (fun n => rfl) ?_
  exact sX4_commonDivisor_L15 d X h ab_N r1 r2 0 _ hf
def fX4_answer (x0 : Int64) (x1 : Int64) (h : abJ) : Option abJ := (fX4_commonDivisor x0 x1 h).bind (fun r1 => if (lg_cmp r1 0) = 0 then some (ab_wL (ab_wL h 40 4 0) 40 5 1) else if (lg_cmp x1 0) = 0 then some (ab_wL (ab_wL h 40 4 0) 40 5 1) else ab_ask (r1 = 0) (ab_ask (r1 = 0) (some (ab_wL (ab_wL h 40 4 (x0 / r1)) 40 5 (x1 / r1)))))
set_option maxRecDepth 20000 in
theorem sX4_answer (d : Nat) (X : abX) (x0 : Int64) (x1 : Int64) (h : abJ) (z : abJ) (hf : fX4_answer x0 x1 h = some z) : ab_Ex X (d + 2) 58 0 [(0, .ref 40), (1, .long x0), (3, .long x1)] [] ab_SH (ab_dD h) (fun r => r = (none, ab_SH, ab_dD z)) := by
  unfold fX4_answer at hf
  refine ab_Ex.blk (k := 2) (pc' := 2) (lv' := [(0, .ref 40), (1, .long x0), (3, .long x1)]) (st' := [.long x1, .long x0]) (sh' := ab_SH) (D' := ab_dD h) (fun n => rfl) ?_
  obtain ⟨r1, hr1, hf⟩ := ab_bind_s hf
  refine ab_Ex.call (d := d + 1) (M2 := 59) (as := [.long x0, .long x1]) (rest := []) (fun n => rfl) rfl (Nat.not_lt.mpr (Nat.le_of_ble_eq_true rfl)) (sX4_commonDivisor (d) X x0 x1 h _ hr1) (fun r hr => ?_)
  subst hr
  show ab_Ex X (d + 2) 58 5 [(0, .ref 40), (1, .long x0), (3, .long x1)] [.long r1] ab_SH (ab_dD h) _
  refine ab_Ex.blk (k := 4) (pc' := 11) (lv' := [(5, .long r1), (0, .ref 40), (1, .long x0), (3, .long x1)]) (st' := [.int ((lg_cmp r1 0))]) (sh' := ab_SH) (D' := ab_dD h) (fun n => rfl) ?_
  refine ab_Ex.ifc (c := (lg_cmp r1 0) = 0) (SA := (20, [(5, .long r1), (0, .ref 40), (1, .long x0), (3, .long x1)], [], ab_dD h)) (SB := (14, [(5, .long r1), (0, .ref 40), (1, .long x0), (3, .long x1)], [], ab_dD h)) (fun n => rfl) (fun c2 => ?_) (fun c2 => ?_)
  · replace hf := (if_pos c2).symm.trans hf
    refine ab_Ex.blk (k := 6) (pc' := 30) (lv' := [(0, .ref 40)]) (st' := []) (sh' := ab_SH) (D' := ab_dD (ab_wL (ab_wL h 40 4 0) 40 5 1)) (fun n => rfl) ?_
    obtain rfl := Option.some.inj hf
    exact ab_Ex.ret (fun n => rfl) rfl
  · replace hf := (if_neg c2).symm.trans hf
    refine ab_Ex.blk (k := 3) (pc' := 17) (lv' := [(5, .long r1), (0, .ref 40), (1, .long x0), (3, .long x1)]) (st' := [.int ((lg_cmp x1 0))]) (sh' := ab_SH) (D' := ab_dD h) (fun n => rfl) ?_
    refine ab_Ex.ifc (c := (lg_cmp x1 0) = 0) (SA := (20, [(5, .long r1), (0, .ref 40), (1, .long x0), (3, .long x1)], [], ab_dD h)) (SB := (31, [(5, .long r1), (0, .ref 40), (1, .long x0), (3, .long x1)], [], ab_dD h)) (fun n => rfl) (fun c3 => ?_) (fun c3 => ?_)
    · replace hf := (if_pos c3).symm.trans hf
      refine ab_Ex.blk (k := 6) (pc' := 30) (lv' := [(0, .ref 40)]) (st' := []) (sh' := ab_SH) (D' := ab_dD (ab_wL (ab_wL h 40 4 0) 40 5 1)) (fun n => rfl) ?_
      obtain rfl := Option.some.inj hf
      exact ab_Ex.ret (fun n => rfl) rfl
    · replace hf := (if_neg c3).symm.trans hf
      refine ab_Ex.blk (k := 3) (pc' := 35) (lv' := [(5, .long r1), (0, .ref 40), (1, .long x0), (3, .long x1)]) (st' := [.long r1, .long x0, .ref 40]) (sh' := ab_SH) (D' := ab_dD h) (fun n => rfl) ?_
      obtain ⟨c4, hf⟩ := ab_ask_s hf
      refine ab_Ex.grd (c := r1 = 0) (S := (36, [(5, .long r1), (0, .ref 40), (1, .long x0), (3, .long x1)], [.long ((x0 / r1)), .ref 40], ab_dD h)) (fun n => rfl) c4 ?_
      refine ab_Ex.blk (k := 4) (pc' := 43) (lv' := [(5, .long r1), (0, .ref 40), (1, .long x0), (3, .long x1)]) (st' := [.long r1, .long x1, .ref 40]) (sh' := ab_SH) (D' := ab_dD (ab_wL h 40 4 (x0 / r1))) (fun n => rfl) ?_
      obtain ⟨c5, hf⟩ := ab_ask_s hf
      refine ab_Ex.grd (c := r1 = 0) (S := (44, [(5, .long r1), (0, .ref 40), (1, .long x0), (3, .long x1)], [.long ((x1 / r1)), .ref 40], ab_dD (ab_wL h 40 4 (x0 / r1)))) (fun n => rfl) c5 ?_
      refine ab_Ex.blk (k := 1) (pc' := 47) (lv' := [(5, .long r1), (0, .ref 40), (1, .long x0), (3, .long x1)]) (st' := []) (sh' := ab_SH) (D' := ab_dD (ab_wL (ab_wL h 40 4 (x0 / r1)) 40 5 (x1 / r1))) (fun n => rfl) ?_
      obtain rfl := Option.some.inj hf
      exact ab_Ex.ret (fun n => rfl) rfl
def fX4_number_J53  (k7 : Int32 → Int32 → abJ → Option abJ) (y1 : Int32) (y2 : Int32) (h : abJ) : Option abJ := k7 y1 ((y2 + 1)) h
def fX4_number_J34  (k7 : Int32 → Int32 → abJ → Option abJ) (y1 : Int32) (y2 : Int32) (t1 : Int32) (t2 : Int32) (h : abJ) : Option abJ := ab_ask (t1 < 0 ∨ 6 ≤ (t1 : Int32).toNatClampNeg) ((fX11_isIn y1 y2 (ab_wI h 42 (t1 : Int32).toNatClampNeg t2)).bind (fun r5 => if r5 = 0 then fX4_number_J53 k7 y1 y2 (ab_wI h 42 (t1 : Int32).toNatClampNeg t2) else fX4_number_J53 k7 y1 y2 (ab_wI (ab_wI h 42 (t1 : Int32).toNatClampNeg t2) 40 3 ((((ab_wI h 42 (t1 : Int32).toNatClampNeg t2)).1 40 3) + 1))))
def fX4_number_L7   : Nat → Int32 → Int32 → abJ → Option abJ
  | 0, _, _, _ => none
  | n + 1, y1, y2, h => if 6 ≤ y2 then some h else (fX11_isIn y1 y2 h).bind (fun r2 => if r2 = 0 then fX4_number_J34 (fun y1 y2 h => fX4_number_L7 n y1 y2 h) y1 y2 y2 ((-1)) h else fX4_number_J34 (fun y1 y2 h => fX4_number_L7 n y1 y2 h) y1 y2 y2 ((h.1 40 3)) h)
def fX4_number (x0 : Int32) (h : abJ) : Option abJ := fX4_number_L7 ab_N x0 0 (ab_wI h 40 3 0)
set_option maxRecDepth 20000 in
theorem sX4_number_J53 (d : Nat) (X : abX) (k7 : Int32 → Int32 → abJ → Option abJ) (hk7 : ∀ (y1 : Int32) (y2 : Int32) (h : abJ) (z : abJ), k7 y1 y2 h = some z → ab_Ex X (d + 1) 51 7 [(0, .ref 40), (1, .int y1), (2, .int y2)] [] ab_SH (ab_dD h) (fun r => r = (none, ab_SH, ab_dD z))) : ∀ (y1 : Int32) (y2 : Int32) (h : abJ) (z : abJ), fX4_number_J53 k7 y1 y2 h = some z → ab_Ex X (d + 1) 51 53 [(0, .ref 40), (1, .int y1), (2, .int y2)] [] ab_SH (ab_dD h) (fun r => r = (none, ab_SH, ab_dD z)) := by
  intro y1 y2 h z hf
  unfold fX4_number_J53 at hf
  refine ab_Ex.blk (k := 2) (pc' := 7) (lv' := [(0, .ref 40), (1, .int y1), (2, .int ((y2 + 1)))]) (st' := []) (sh' := ab_SH) (D' := ab_dD h) (fun n => rfl) ?_
  exact hk7 y1 ((y2 + 1)) h _ hf
set_option maxRecDepth 20000 in
theorem sX4_number_J34 (d : Nat) (X : abX) (k7 : Int32 → Int32 → abJ → Option abJ) (hk7 : ∀ (y1 : Int32) (y2 : Int32) (h : abJ) (z : abJ), k7 y1 y2 h = some z → ab_Ex X (d + 1) 51 7 [(0, .ref 40), (1, .int y1), (2, .int y2)] [] ab_SH (ab_dD h) (fun r => r = (none, ab_SH, ab_dD z))) : ∀ (y1 : Int32) (y2 : Int32) (t1 : Int32) (t2 : Int32) (h : abJ) (z : abJ), fX4_number_J34 k7 y1 y2 t1 t2 h = some z → ab_Ex X (d + 1) 51 34 [(0, .ref 40), (1, .int y1), (2, .int y2)] [.int t2, .int t1, .ref 42] ab_SH (ab_dD h) (fun r => r = (none, ab_SH, ab_dD z)) := by
  intro y1 y2 t1 t2 h z hf
  unfold fX4_number_J34 at hf
  obtain ⟨c4, hf⟩ := ab_ask_s hf
  refine ab_Ex.grd (c := t1 < 0 ∨ 6 ≤ (t1 : Int32).toNatClampNeg) (S := (35, [(0, .ref 40), (1, .int y1), (2, .int y2)], [], ab_dD (ab_wI h 42 (t1 : Int32).toNatClampNeg t2))) (fun n => rfl) c4 ?_
  refine ab_Ex.blk (k := 2) (pc' := 37) (lv' := [(0, .ref 40), (1, .int y1), (2, .int y2)]) (st' := [.int y2, .int y1]) (sh' := ab_SH) (D' := ab_dD (ab_wI h 42 (t1 : Int32).toNatClampNeg t2)) (fun n => rfl) ?_
  obtain ⟨r5, hr5, hf⟩ := ab_bind_s hf
  refine ab_Ex.call (d := d + 0) (M2 := 174) (as := [.int y1, .int y2]) (rest := []) (fun n => rfl) rfl (Nat.not_lt.mpr (Nat.le_of_ble_eq_true rfl)) (sX11_isIn (d) X y1 y2 (ab_wI h 42 (t1 : Int32).toNatClampNeg t2) _ hr5) (fun r hr => ?_)
  subst hr
  show ab_Ex X (d + 1) 51 40 [(0, .ref 40), (1, .int y1), (2, .int y2)] [.int r5] ab_SH (ab_dD (ab_wI h 42 (t1 : Int32).toNatClampNeg t2)) _
  refine ab_Ex.ifc (c := r5 = 0) (SA := (53, [(0, .ref 40), (1, .int y1), (2, .int y2)], [], ab_dD (ab_wI h 42 (t1 : Int32).toNatClampNeg t2))) (SB := (43, [(0, .ref 40), (1, .int y1), (2, .int y2)], [], ab_dD (ab_wI h 42 (t1 : Int32).toNatClampNeg t2))) (fun n => rfl) (fun c6 => ?_) (fun c6 => ?_)
  · replace hf := (if_pos c6).symm.trans hf
    exact sX4_number_J53 d X k7 hk7 y1 y2 (ab_wI h 42 (t1 : Int32).toNatClampNeg t2) _ hf
  · replace hf := (if_neg c6).symm.trans hf
    refine ab_Ex.blk (k := 6) (pc' := 53) (lv' := [(0, .ref 40), (1, .int y1), (2, .int y2)]) (st' := []) (sh' := ab_SH) (D' := ab_dD (ab_wI (ab_wI h 42 (t1 : Int32).toNatClampNeg t2) 40 3 ((((ab_wI h 42 (t1 : Int32).toNatClampNeg t2)).1 40 3) + 1))) (fun n => rfl) ?_
    exact sX4_number_J53 d X k7 hk7 y1 y2 (ab_wI (ab_wI h 42 (t1 : Int32).toNatClampNeg t2) 40 3 ((((ab_wI h 42 (t1 : Int32).toNatClampNeg t2)).1 40 3) + 1)) _ hf
set_option maxRecDepth 20000 in
theorem sX4_number_L7 (d : Nat) (X : abX)   : ∀ (n : Nat), ∀ (y1 : Int32) (y2 : Int32) (h : abJ) (z : abJ), fX4_number_L7 n y1 y2 h = some z → ab_Ex X (d + 1) 51 7 [(0, .ref 40), (1, .int y1), (2, .int y2)] [] ab_SH (ab_dD h) (fun r => r = (none, ab_SH, ab_dD z)) := by
  intro n
  induction n with
  | zero => intro y1 y2 h z hf; cases hf
  | succ n ih =>
    intro y1 y2 h z hf
    rw [fX4_number_L7] at hf
    refine ab_Ex.blk (k := 2) (pc' := 10) (lv' := [(0, .ref 40), (1, .int y1), (2, .int y2)]) (st' := [.int 6, .int y2]) (sh' := ab_SH) (D' := ab_dD h) (fun n => rfl) ?_
    refine ab_Ex.ifc (c := 6 ≤ y2) (SA := (59, [(0, .ref 40), (1, .int y1), (2, .int y2)], [], ab_dD h)) (SB := (13, [(0, .ref 40), (1, .int y1), (2, .int y2)], [], ab_dD h)) (fun n => rfl) (fun c1 => ?_) (fun c1 => ?_)
    · replace hf := (if_pos c1).symm.trans hf
      obtain rfl := Option.some.inj hf
      exact ab_Ex.ret (fun n => rfl) rfl
    · replace hf := (if_neg c1).symm.trans hf
      refine ab_Ex.blk (k := 5) (pc' := 20) (lv' := [(0, .ref 40), (1, .int y1), (2, .int y2)]) (st' := [.int y2, .int y1, .int y2, .ref 42]) (sh' := ab_SH) (D' := ab_dD h) (fun n => rfl) ?_
      obtain ⟨r2, hr2, hf⟩ := ab_bind_s hf
      refine ab_Ex.call (d := d + 0) (M2 := 174) (as := [.int y1, .int y2]) (rest := [.int y2, .ref 42]) (fun n => rfl) rfl (Nat.not_lt.mpr (Nat.le_of_ble_eq_true rfl)) (sX11_isIn (d) X y1 y2 h _ hr2) (fun r hr => ?_)
      subst hr
      show ab_Ex X (d + 1) 51 23 [(0, .ref 40), (1, .int y1), (2, .int y2)] [.int r2, .int y2, .ref 42] ab_SH (ab_dD h) _
      refine ab_Ex.ifc (c := r2 = 0) (SA := (33, [(0, .ref 40), (1, .int y1), (2, .int y2)], [.int y2, .ref 42], ab_dD h)) (SB := (26, [(0, .ref 40), (1, .int y1), (2, .int y2)], [.int y2, .ref 42], ab_dD h)) (fun n => rfl) (fun c3 => ?_) (fun c3 => ?_)
      · replace hf := (if_pos c3).symm.trans hf
        refine ab_Ex.blk (k := 1) (pc' := 34) (lv' := [(0, .ref 40), (1, .int y1), (2, .int y2)]) (st' := [.int ((-1)), .int y2, .ref 42]) (sh' := ab_SH) (D' := ab_dD h) (fun n => rfl) ?_
        exact sX4_number_J34 d X (fun y1 y2 h => fX4_number_L7 n y1 y2 h) (fun y1 y2 h z hz => ih y1 y2 h z hz) y1 y2 y2 ((-1)) h _ hf
      · replace hf := (if_neg c3).symm.trans hf
        refine ab_Ex.blk (k := 3) (pc' := 34) (lv' := [(0, .ref 40), (1, .int y1), (2, .int y2)]) (st' := [.int ((h.1 40 3)), .int y2, .ref 42]) (sh' := ab_SH) (D' := ab_dD h) (fun n => rfl) ?_
        exact sX4_number_J34 d X (fun y1 y2 h => fX4_number_L7 n y1 y2 h) (fun y1 y2 h z hz => ih y1 y2 h z hz) y1 y2 y2 ((h.1 40 3)) h _ hf
set_option maxRecDepth 20000 in
theorem sX4_number (d : Nat) (X : abX) (x0 : Int32) (h : abJ) (z : abJ) (hf : fX4_number x0 h = some z) : ab_Ex X (d + 1) 51 0 [(0, .ref 40), (1, .int x0)] [] ab_SH (ab_dD h) (fun r => r = (none, ab_SH, ab_dD z)) := by
  unfold fX4_number at hf
  refine ab_Ex.blk (k := 5) (pc' := 7) (lv' := [(0, .ref 40), (1, .int x0), (2, .int 0)]) (st' := []) (sh' := ab_SH) (D' := ab_dD (ab_wI h 40 3 0)) (fun n => rfl) ?_
  exact sX4_number_L7 d X  ab_N x0 0 (ab_wI h 40 3 0) _ hf
def fX4_roadsTo_J35  (h : abJ) (k5 : Int32 → Int32 → Int32 → Int32 → Option Int32) (y1 : Int32) (y2 : Int32) (y3 : Int32) (y4 : Int32) : Option Int32 := k5 y1 y2 y3 ((y4 + 1))
def fX4_roadsTo_L5  (h : abJ)  : Nat → Int32 → Int32 → Int32 → Int32 → Option Int32
  | 0, _, _, _, _ => none
  | n + 1, y1, y2, y3, y4 => (fX3_roadsOf 1 y1 h).bind (fun r1 => if r1 ≤ y4 then some y3 else (fX3_leadsTo y1 y4 h).bind (fun r3 => if r3 = y2 then fX4_roadsTo_J35 h (fun y1 y2 y3 y4 => fX4_roadsTo_L5 h n y1 y2 y3 y4) y1 y2 ((y3 + 1)) y4 else fX4_roadsTo_J35 h (fun y1 y2 y3 y4 => fX4_roadsTo_L5 h n y1 y2 y3 y4) y1 y2 y3 y4))
def fX4_roadsTo (x0 : Int32) (x1 : Int32) (h : abJ) : Option Int32 := fX4_roadsTo_L5 h ab_N x0 x1 0 0
set_option maxRecDepth 20000 in
theorem sX4_roadsTo_J35 (d : Nat) (X : abX) (h : abJ) (k5 : Int32 → Int32 → Int32 → Int32 → Option Int32) (hk5 : ∀ (y1 : Int32) (y2 : Int32) (y3 : Int32) (y4 : Int32) (z : Int32), k5 y1 y2 y3 y4 = some z → ab_Ex X (d + 2) 50 5 [(0, .ref 40), (1, .int y1), (2, .int y2), (3, .int y3), (4, .int y4)] [] ab_SH (ab_dD h) (fun r => r = (some (.int z), ab_SH, ab_dD h))) : ∀ (y1 : Int32) (y2 : Int32) (y3 : Int32) (y4 : Int32) (z : Int32), fX4_roadsTo_J35 h k5 y1 y2 y3 y4 = some z → ab_Ex X (d + 2) 50 35 [(0, .ref 40), (1, .int y1), (2, .int y2), (3, .int y3), (4, .int y4)] [] ab_SH (ab_dD h) (fun r => r = (some (.int z), ab_SH, ab_dD h)) := by
  intro y1 y2 y3 y4 z hf
  unfold fX4_roadsTo_J35 at hf
  refine ab_Ex.blk (k := 2) (pc' := 5) (lv' := [(0, .ref 40), (1, .int y1), (2, .int y2), (3, .int y3), (4, .int ((y4 + 1)))]) (st' := []) (sh' := ab_SH) (D' := ab_dD h) (fun n => rfl) ?_
  exact hk5 y1 y2 y3 ((y4 + 1)) _ hf
set_option maxRecDepth 20000 in
theorem sX4_roadsTo_L5 (d : Nat) (X : abX) (h : abJ)   : ∀ (n : Nat), ∀ (y1 : Int32) (y2 : Int32) (y3 : Int32) (y4 : Int32) (z : Int32), fX4_roadsTo_L5 h n y1 y2 y3 y4 = some z → ab_Ex X (d + 2) 50 5 [(0, .ref 40), (1, .int y1), (2, .int y2), (3, .int y3), (4, .int y4)] [] ab_SH (ab_dD h) (fun r => r = (some (.int z), ab_SH, ab_dD h)) := by
  intro n
  induction n with
  | zero => intro y1 y2 y3 y4 z hf; cases hf
  | succ n ih =>
    intro y1 y2 y3 y4 z hf
    rw [fX4_roadsTo_L5] at hf
    refine ab_Ex.blk (k := 4) (pc' := 12) (lv' := [(0, .ref 40), (1, .int y1), (2, .int y2), (3, .int y3), (4, .int y4)]) (st' := [.int y1, .ref 1, .int y4]) (sh' := ab_SH) (D' := ab_dD h) (fun n => rfl) ?_
    obtain ⟨r1, hr1, hf⟩ := ab_bind_s hf
    refine ab_Ex.call (d := d + 1) (M2 := 35) (as := [.ref 1, .int y1]) (rest := [.int y4]) (fun n => rfl) rfl (Nat.not_lt.mpr (Nat.le_of_ble_eq_true rfl)) (sX3_roadsOf_1 (d + 1) X y1 h _ hr1) (fun r hr => ?_)
    subst hr
    show ab_Ex X (d + 2) 50 15 [(0, .ref 40), (1, .int y1), (2, .int y2), (3, .int y3), (4, .int y4)] [.int r1, .int y4] ab_SH (ab_dD h) _
    refine ab_Ex.ifc (c := r1 ≤ y4) (SA := (41, [(0, .ref 40), (1, .int y1), (2, .int y2), (3, .int y3), (4, .int y4)], [], ab_dD h)) (SB := (18, [(0, .ref 40), (1, .int y1), (2, .int y2), (3, .int y3), (4, .int y4)], [], ab_dD h)) (fun n => rfl) (fun c2 => ?_) (fun c2 => ?_)
    · replace hf := (if_pos c2).symm.trans hf
      refine ab_Ex.blk (k := 1) (pc' := 42) (lv' := [(0, .ref 40), (1, .int y1), (2, .int y2), (3, .int y3), (4, .int y4)]) (st' := [.int y3]) (sh' := ab_SH) (D' := ab_dD h) (fun n => rfl) ?_
      obtain rfl := Option.some.inj hf
      exact ab_Ex.ret (fun n => rfl) rfl
    · replace hf := (if_neg c2).symm.trans hf
      refine ab_Ex.blk (k := 4) (pc' := 25) (lv' := [(0, .ref 40), (1, .int y1), (2, .int y2), (3, .int y3), (4, .int y4)]) (st' := [.int y4, .int y1, .ref 1]) (sh' := ab_SH) (D' := ab_dD h) (fun n => rfl) ?_
      obtain ⟨r3, hr3, hf⟩ := ab_bind_s hf
      refine ab_Ex.call (d := d + 1) (M2 := 36) (as := [.ref 1, .int y1, .int y4]) (rest := []) (fun n => rfl) rfl (Nat.not_lt.mpr (Nat.le_of_ble_eq_true rfl)) (sX3_leadsTo (d) X y1 y4 h _ hr3) (fun r hr => ?_)
      subst hr
      show ab_Ex X (d + 2) 50 28 [(0, .ref 40), (1, .int y1), (2, .int y2), (3, .int y3), (4, .int y4)] [.int r3] ab_SH (ab_dD h) _
      refine ab_Ex.blk (k := 1) (pc' := 29) (lv' := [(0, .ref 40), (1, .int y1), (2, .int y2), (3, .int y3), (4, .int y4)]) (st' := [.int y2, .int r3]) (sh' := ab_SH) (D' := ab_dD h) (fun n => rfl) ?_
      refine ab_Ex.ifc (c := r3 = y2) (SA := (32, [(0, .ref 40), (1, .int y1), (2, .int y2), (3, .int y3), (4, .int y4)], [], ab_dD h)) (SB := (35, [(0, .ref 40), (1, .int y1), (2, .int y2), (3, .int y3), (4, .int y4)], [], ab_dD h)) (fun n => rfl) (fun c4 => ?_) (fun c4 => ?_)
      · replace hf := (if_pos c4).symm.trans hf
        refine ab_Ex.blk (k := 1) (pc' := 35) (lv' := [(0, .ref 40), (1, .int y1), (2, .int y2), (3, .int ((y3 + 1))), (4, .int y4)]) (st' := []) (sh' := ab_SH) (D' := ab_dD h) (fun n => rfl) ?_
        exact sX4_roadsTo_J35 d X h (fun y1 y2 y3 y4 => fX4_roadsTo_L5 h n y1 y2 y3 y4) (fun y1 y2 y3 y4 z hz => ih y1 y2 y3 y4 z hz) y1 y2 ((y3 + 1)) y4 _ hf
      · replace hf := (if_neg c4).symm.trans hf
        exact sX4_roadsTo_J35 d X h (fun y1 y2 y3 y4 => fX4_roadsTo_L5 h n y1 y2 y3 y4) (fun y1 y2 y3 y4 z hz => ih y1 y2 y3 y4 z hz) y1 y2 y3 y4 _ hf
set_option maxRecDepth 20000 in
theorem sX4_roadsTo (d : Nat) (X : abX) (x0 : Int32) (x1 : Int32) (h : abJ) (z : Int32) (hf : fX4_roadsTo x0 x1 h = some z) : ab_Ex X (d + 2) 50 0 [(0, .ref 40), (1, .int x0), (2, .int x1)] [] ab_SH (ab_dD h) (fun r => r = (some (.int z), ab_SH, ab_dD h)) := by
  unfold fX4_roadsTo at hf
  refine ab_Ex.blk (k := 4) (pc' := 5) (lv' := [(0, .ref 40), (1, .int x0), (2, .int x1), (3, .int 0), (4, .int 0)]) (st' := []) (sh' := ab_SH) (D' := ab_dD h) (fun n => rfl) ?_
  exact sX4_roadsTo_L5 d X h ab_N x0 x1 0 0 _ hf
def fX4_put (x0 : Int32) (x1 : Int32) (x2 : Int64) (h : abJ) : Option abJ := if x0 < 0 then some h else if 6 ≤ x0 then some h else if x1 < 0 then some h else if 7 ≤ x1 then some h else ab_ask (((x0 * 7) + x1) < 0 ∨ 42 ≤ (((x0 * 7) + x1) : Int32).toNatClampNeg) (some (ab_wL h 41 (((x0 * 7) + x1) : Int32).toNatClampNeg x2))
set_option maxRecDepth 20000 in
theorem sX4_put (d : Nat) (X : abX) (x0 : Int32) (x1 : Int32) (x2 : Int64) (h : abJ) (z : abJ) (hf : fX4_put x0 x1 x2 h = some z) : ab_Ex X (d + 0) 54 0 [(0, .ref 40), (1, .int x0), (2, .int x1), (3, .long x2)] [] ab_SH (ab_dD h) (fun r => r = (none, ab_SH, ab_dD z)) := by
  unfold fX4_put at hf
  refine ab_Ex.blk (k := 1) (pc' := 1) (lv' := [(0, .ref 40), (1, .int x0), (2, .int x1), (3, .long x2)]) (st' := [.int x0]) (sh' := ab_SH) (D' := ab_dD h) (fun n => rfl) ?_
  refine ab_Ex.ifc (c := x0 < 0) (SA := (32, [(0, .ref 40), (1, .int x0), (2, .int x1), (3, .long x2)], [], ab_dD h)) (SB := (4, [(0, .ref 40), (1, .int x0), (2, .int x1), (3, .long x2)], [], ab_dD h)) (fun n => rfl) (fun c1 => ?_) (fun c1 => ?_)
  · replace hf := (if_pos c1).symm.trans hf
    obtain rfl := Option.some.inj hf
    exact ab_Ex.ret (fun n => rfl) rfl
  · replace hf := (if_neg c1).symm.trans hf
    refine ab_Ex.blk (k := 2) (pc' := 7) (lv' := [(0, .ref 40), (1, .int x0), (2, .int x1), (3, .long x2)]) (st' := [.int 6, .int x0]) (sh' := ab_SH) (D' := ab_dD h) (fun n => rfl) ?_
    refine ab_Ex.ifc (c := 6 ≤ x0) (SA := (32, [(0, .ref 40), (1, .int x0), (2, .int x1), (3, .long x2)], [], ab_dD h)) (SB := (10, [(0, .ref 40), (1, .int x0), (2, .int x1), (3, .long x2)], [], ab_dD h)) (fun n => rfl) (fun c2 => ?_) (fun c2 => ?_)
    · replace hf := (if_pos c2).symm.trans hf
      obtain rfl := Option.some.inj hf
      exact ab_Ex.ret (fun n => rfl) rfl
    · replace hf := (if_neg c2).symm.trans hf
      refine ab_Ex.blk (k := 1) (pc' := 11) (lv' := [(0, .ref 40), (1, .int x0), (2, .int x1), (3, .long x2)]) (st' := [.int x1]) (sh' := ab_SH) (D' := ab_dD h) (fun n => rfl) ?_
      refine ab_Ex.ifc (c := x1 < 0) (SA := (32, [(0, .ref 40), (1, .int x0), (2, .int x1), (3, .long x2)], [], ab_dD h)) (SB := (14, [(0, .ref 40), (1, .int x0), (2, .int x1), (3, .long x2)], [], ab_dD h)) (fun n => rfl) (fun c3 => ?_) (fun c3 => ?_)
      · replace hf := (if_pos c3).symm.trans hf
        obtain rfl := Option.some.inj hf
        exact ab_Ex.ret (fun n => rfl) rfl
      · replace hf := (if_neg c3).symm.trans hf
        refine ab_Ex.blk (k := 2) (pc' := 17) (lv' := [(0, .ref 40), (1, .int x0), (2, .int x1), (3, .long x2)]) (st' := [.int 7, .int x1]) (sh' := ab_SH) (D' := ab_dD h) (fun n => rfl) ?_
        refine ab_Ex.ifc (c := 7 ≤ x1) (SA := (32, [(0, .ref 40), (1, .int x0), (2, .int x1), (3, .long x2)], [], ab_dD h)) (SB := (20, [(0, .ref 40), (1, .int x0), (2, .int x1), (3, .long x2)], [], ab_dD h)) (fun n => rfl) (fun c4 => ?_) (fun c4 => ?_)
        · replace hf := (if_pos c4).symm.trans hf
          obtain rfl := Option.some.inj hf
          exact ab_Ex.ret (fun n => rfl) rfl
        · replace hf := (if_neg c4).symm.trans hf
          refine ab_Ex.blk (k := 8) (pc' := 31) (lv' := [(0, .ref 40), (1, .int x0), (2, .int x1), (3, .long x2)]) (st' := [.long x2, .int (((x0 * 7) + x1)), .ref 41]) (sh' := ab_SH) (D' := ab_dD h) (fun n => rfl) ?_
          obtain ⟨c5, hf⟩ := ab_ask_s hf
          refine ab_Ex.grd (c := ((x0 * 7) + x1) < 0 ∨ 42 ≤ (((x0 * 7) + x1) : Int32).toNatClampNeg) (S := (32, [(0, .ref 40), (1, .int x0), (2, .int x1), (3, .long x2)], [], ab_dD (ab_wL h 41 (((x0 * 7) + x1) : Int32).toNatClampNeg x2))) (fun n => rfl) c5 ?_
          obtain rfl := Option.some.inj hf
          exact ab_Ex.ret (fun n => rfl) rfl
def fX4_layRow_J63  (k3 : Int32 → Int32 → Int32 → Int32 → abJ → Option abJ) (y1 : Int32) (y2 : Int32) (y3 : Int32) (y4 : Int32) (h : abJ) : Option abJ := k3 y1 y2 y3 ((y4 + 1)) h
def fX4_layRow_J51  (k3 : Int32 → Int32 → Int32 → Int32 → abJ → Option abJ) (y1 : Int32) (y2 : Int32) (y3 : Int32) (y4 : Int32) (t1 : Int32) (t2 : Int32) (t3 : Int32) (h : abJ) : Option abJ := (fX4_roadsTo y1 y4 h).bind (fun r13 => (fX4_put t1 t2 (((t3 - r13) : Int32).toInt64) h).bind (fun r14 => fX4_layRow_J63 k3 y1 y2 y3 y4 r14))
def fX4_layRow_L3   : Nat → Int32 → Int32 → Int32 → Int32 → abJ → Option abJ
  | 0, _, _, _, _, _ => none
  | n + 1, y1, y2, y3, y4, h => if 6 ≤ y4 then ab_ask (y1 < 0 ∨ 6 ≤ (y1 : Int32).toNatClampNeg) ((fX4_put ((h.1 42 (y1 : Int32).toNatClampNeg)) ((h.1 40 3)) ((y3 : Int32).toInt64) h).bind (fun r4 => some r4)) else (fX11_isIn y2 y4 h).bind (fun r5 => if r5 = 0 then fX4_layRow_J63 (fun y1 y2 y3 y4 h => fX4_layRow_L3 n y1 y2 y3 y4 h) y1 y2 y3 y4 h else ab_ask (y1 < 0 ∨ 6 ≤ (y1 : Int32).toNatClampNeg) (ab_ask (y4 < 0 ∨ 6 ≤ (y4 : Int32).toNatClampNeg) (if y1 = y4 then (fX3_roadsOf 1 y1 h).bind (fun r12 => fX4_layRow_J51 (fun y1 y2 y3 y4 h => fX4_layRow_L3 n y1 y2 y3 y4 h) y1 y2 y3 y4 ((h.1 42 (y1 : Int32).toNatClampNeg)) ((h.1 42 (y4 : Int32).toNatClampNeg)) r12 h) else fX4_layRow_J51 (fun y1 y2 y3 y4 h => fX4_layRow_L3 n y1 y2 y3 y4 h) y1 y2 y3 y4 ((h.1 42 (y1 : Int32).toNatClampNeg)) ((h.1 42 (y4 : Int32).toNatClampNeg)) 0 h)))
def fX4_layRow (x0 : Int32) (x1 : Int32) (x2 : Int32) (h : abJ) : Option abJ := fX4_layRow_L3 ab_N x0 x1 x2 0 h
set_option maxRecDepth 20000 in
theorem sX4_layRow_J63 (d : Nat) (X : abX) (k3 : Int32 → Int32 → Int32 → Int32 → abJ → Option abJ) (hk3 : ∀ (y1 : Int32) (y2 : Int32) (y3 : Int32) (y4 : Int32) (h : abJ) (z : abJ), k3 y1 y2 y3 y4 h = some z → ab_Ex X (d + 3) 52 3 [(0, .ref 40), (1, .int y1), (2, .int y2), (3, .int y3), (4, .int y4)] [] ab_SH (ab_dD h) (fun r => r = (none, ab_SH, ab_dD z))) : ∀ (y1 : Int32) (y2 : Int32) (y3 : Int32) (y4 : Int32) (h : abJ) (z : abJ), fX4_layRow_J63 k3 y1 y2 y3 y4 h = some z → ab_Ex X (d + 3) 52 63 [(0, .ref 40), (1, .int y1), (2, .int y2), (3, .int y3), (4, .int y4)] [] ab_SH (ab_dD h) (fun r => r = (none, ab_SH, ab_dD z)) := by
  intro y1 y2 y3 y4 h z hf
  unfold fX4_layRow_J63 at hf
  refine ab_Ex.blk (k := 2) (pc' := 3) (lv' := [(0, .ref 40), (1, .int y1), (2, .int y2), (3, .int y3), (4, .int ((y4 + 1)))]) (st' := []) (sh' := ab_SH) (D' := ab_dD h) (fun n => rfl) ?_
  exact hk3 y1 y2 y3 ((y4 + 1)) h _ hf
set_option maxRecDepth 20000 in
theorem sX4_layRow_J51 (d : Nat) (X : abX) (k3 : Int32 → Int32 → Int32 → Int32 → abJ → Option abJ) (hk3 : ∀ (y1 : Int32) (y2 : Int32) (y3 : Int32) (y4 : Int32) (h : abJ) (z : abJ), k3 y1 y2 y3 y4 h = some z → ab_Ex X (d + 3) 52 3 [(0, .ref 40), (1, .int y1), (2, .int y2), (3, .int y3), (4, .int y4)] [] ab_SH (ab_dD h) (fun r => r = (none, ab_SH, ab_dD z))) : ∀ (y1 : Int32) (y2 : Int32) (y3 : Int32) (y4 : Int32) (t1 : Int32) (t2 : Int32) (t3 : Int32) (h : abJ) (z : abJ), fX4_layRow_J51 k3 y1 y2 y3 y4 t1 t2 t3 h = some z → ab_Ex X (d + 3) 52 51 [(0, .ref 40), (1, .int y1), (2, .int y2), (3, .int y3), (4, .int y4)] [.int t3, .int t2, .int t1, .ref 40] ab_SH (ab_dD h) (fun r => r = (none, ab_SH, ab_dD z)) := by
  intro y1 y2 y3 y4 t1 t2 t3 h z hf
  unfold fX4_layRow_J51 at hf
  refine ab_Ex.blk (k := 3) (pc' := 55) (lv' := [(0, .ref 40), (1, .int y1), (2, .int y2), (3, .int y3), (4, .int y4)]) (st' := [.int y4, .int y1, .ref 40, .int t3, .int t2, .int t1, .ref 40]) (sh' := ab_SH) (D' := ab_dD h) (fun n => rfl) ?_
  obtain ⟨r13, hr13, hf⟩ := ab_bind_s hf
  refine ab_Ex.call (d := d + 2) (M2 := 50) (as := [.ref 40, .int y1, .int y4]) (rest := [.int t3, .int t2, .int t1, .ref 40]) (fun n => rfl) rfl (Nat.not_lt.mpr (Nat.le_of_ble_eq_true rfl)) (sX4_roadsTo (d) X y1 y4 h _ hr13) (fun r hr => ?_)
  subst hr
  show ab_Ex X (d + 3) 52 58 [(0, .ref 40), (1, .int y1), (2, .int y2), (3, .int y3), (4, .int y4)] [.int r13, .int t3, .int t2, .int t1, .ref 40] ab_SH (ab_dD h) _
  refine ab_Ex.blk (k := 2) (pc' := 60) (lv' := [(0, .ref 40), (1, .int y1), (2, .int y2), (3, .int y3), (4, .int y4)]) (st' := [.long (((t3 - r13) : Int32).toInt64), .int t2, .int t1, .ref 40]) (sh' := ab_SH) (D' := ab_dD h) (fun n => rfl) ?_
  obtain ⟨r14, hr14, hf⟩ := ab_bind_s hf
  refine ab_Ex.call (d := d + 2) (M2 := 54) (as := [.ref 40, .int t1, .int t2, .long (((t3 - r13) : Int32).toInt64)]) (rest := []) (fun n => rfl) rfl (Nat.not_lt.mpr (Nat.le_of_ble_eq_true rfl)) (sX4_put (d + 2) X t1 t2 (((t3 - r13) : Int32).toInt64) h _ hr14) (fun r hr => ?_)
  subst hr
  show ab_Ex X (d + 3) 52 63 [(0, .ref 40), (1, .int y1), (2, .int y2), (3, .int y3), (4, .int y4)] [] ab_SH (ab_dD r14) _
  exact sX4_layRow_J63 d X k3 hk3 y1 y2 y3 y4 r14 _ hf
set_option maxRecDepth 20000 in
theorem sX4_layRow_L3 (d : Nat) (X : abX)   : ∀ (n : Nat), ∀ (y1 : Int32) (y2 : Int32) (y3 : Int32) (y4 : Int32) (h : abJ) (z : abJ), fX4_layRow_L3 n y1 y2 y3 y4 h = some z → ab_Ex X (d + 3) 52 3 [(0, .ref 40), (1, .int y1), (2, .int y2), (3, .int y3), (4, .int y4)] [] ab_SH (ab_dD h) (fun r => r = (none, ab_SH, ab_dD z)) := by
  intro n
  induction n with
  | zero => intro y1 y2 y3 y4 h z hf; cases hf
  | succ n ih =>
    intro y1 y2 y3 y4 h z hf
    rw [fX4_layRow_L3] at hf
    refine ab_Ex.blk (k := 2) (pc' := 7) (lv' := [(0, .ref 40), (1, .int y1), (2, .int y2), (3, .int y3), (4, .int y4)]) (st' := [.int 6, .int y4]) (sh' := ab_SH) (D' := ab_dD h) (fun n => rfl) ?_
    refine ab_Ex.ifc (c := 6 ≤ y4) (SA := (69, [(0, .ref 40), (1, .int y1), (2, .int y2), (3, .int y3), (4, .int y4)], [], ab_dD h)) (SB := (10, [(0, .ref 40), (1, .int y1), (2, .int y2), (3, .int y3), (4, .int y4)], [], ab_dD h)) (fun n => rfl) (fun c1 => ?_) (fun c1 => ?_)
    · replace hf := (if_pos c1).symm.trans hf
      refine ab_Ex.blk (k := 4) (pc' := 75) (lv' := [(0, .ref 40), (1, .int y1), (2, .int y2), (3, .int y3), (4, .int y4)]) (st' := [.int y1, .ref 42, .ref 40]) (sh' := ab_SH) (D' := ab_dD h) (fun n => rfl) ?_
      obtain ⟨c3, hf⟩ := ab_ask_s hf
      refine ab_Ex.grd (c := y1 < 0 ∨ 6 ≤ (y1 : Int32).toNatClampNeg) (S := (76, [(0, .ref 40), (1, .int y1), (2, .int y2), (3, .int y3), (4, .int y4)], [.int ((h.1 42 (y1 : Int32).toNatClampNeg)), .ref 40], ab_dD h)) (fun n => rfl) c3 ?_
      refine ab_Ex.blk (k := 4) (pc' := 82) (lv' := [(0, .ref 40), (1, .int y1), (2, .int y2), (3, .int y3), (4, .int y4)]) (st' := [.long ((y3 : Int32).toInt64), .int ((h.1 40 3)), .int ((h.1 42 (y1 : Int32).toNatClampNeg)), .ref 40]) (sh' := ab_SH) (D' := ab_dD h) (fun n => rfl) ?_
      obtain ⟨r4, hr4, hf⟩ := ab_bind_s hf
      refine ab_Ex.call (d := d + 2) (M2 := 54) (as := [.ref 40, .int ((h.1 42 (y1 : Int32).toNatClampNeg)), .int ((h.1 40 3)), .long ((y3 : Int32).toInt64)]) (rest := []) (fun n => rfl) rfl (Nat.not_lt.mpr (Nat.le_of_ble_eq_true rfl)) (sX4_put (d + 2) X ((h.1 42 (y1 : Int32).toNatClampNeg)) ((h.1 40 3)) ((y3 : Int32).toInt64) h _ hr4) (fun r hr => ?_)
      subst hr
      show ab_Ex X (d + 3) 52 85 [(0, .ref 40), (1, .int y1), (2, .int y2), (3, .int y3), (4, .int y4)] [] ab_SH (ab_dD r4) _
      obtain rfl := Option.some.inj hf
      exact ab_Ex.ret (fun n => rfl) rfl
    · replace hf := (if_neg c1).symm.trans hf
      refine ab_Ex.blk (k := 2) (pc' := 13) (lv' := [(0, .ref 40), (1, .int y1), (2, .int y2), (3, .int y3), (4, .int y4)]) (st' := [.int y4, .int y2]) (sh' := ab_SH) (D' := ab_dD h) (fun n => rfl) ?_
      obtain ⟨r5, hr5, hf⟩ := ab_bind_s hf
      refine ab_Ex.call (d := d + 2) (M2 := 174) (as := [.int y2, .int y4]) (rest := []) (fun n => rfl) rfl (Nat.not_lt.mpr (Nat.le_of_ble_eq_true rfl)) (sX11_isIn (d + 2) X y2 y4 h _ hr5) (fun r hr => ?_)
      subst hr
      show ab_Ex X (d + 3) 52 16 [(0, .ref 40), (1, .int y1), (2, .int y2), (3, .int y3), (4, .int y4)] [.int r5] ab_SH (ab_dD h) _
      refine ab_Ex.ifc (c := r5 = 0) (SA := (63, [(0, .ref 40), (1, .int y1), (2, .int y2), (3, .int y3), (4, .int y4)], [], ab_dD h)) (SB := (19, [(0, .ref 40), (1, .int y1), (2, .int y2), (3, .int y3), (4, .int y4)], [], ab_dD h)) (fun n => rfl) (fun c6 => ?_) (fun c6 => ?_)
      · replace hf := (if_pos c6).symm.trans hf
        exact sX4_layRow_J63 d X (fun y1 y2 y3 y4 h => fX4_layRow_L3 n y1 y2 y3 y4 h) (fun y1 y2 y3 y4 h z hz => ih y1 y2 y3 y4 h z hz) y1 y2 y3 y4 h _ hf
      · replace hf := (if_neg c6).symm.trans hf
        refine ab_Ex.blk (k := 4) (pc' := 25) (lv' := [(0, .ref 40), (1, .int y1), (2, .int y2), (3, .int y3), (4, .int y4)]) (st' := [.int y1, .ref 42, .ref 40]) (sh' := ab_SH) (D' := ab_dD h) (fun n => rfl) ?_
        obtain ⟨c8, hf⟩ := ab_ask_s hf
        refine ab_Ex.grd (c := y1 < 0 ∨ 6 ≤ (y1 : Int32).toNatClampNeg) (S := (26, [(0, .ref 40), (1, .int y1), (2, .int y2), (3, .int y3), (4, .int y4)], [.int ((h.1 42 (y1 : Int32).toNatClampNeg)), .ref 40], ab_dD h)) (fun n => rfl) c8 ?_
        refine ab_Ex.blk (k := 3) (pc' := 32) (lv' := [(0, .ref 40), (1, .int y1), (2, .int y2), (3, .int y3), (4, .int y4)]) (st' := [.int y4, .ref 42, .int ((h.1 42 (y1 : Int32).toNatClampNeg)), .ref 40]) (sh' := ab_SH) (D' := ab_dD h) (fun n => rfl) ?_
        obtain ⟨c10, hf⟩ := ab_ask_s hf
        refine ab_Ex.grd (c := y4 < 0 ∨ 6 ≤ (y4 : Int32).toNatClampNeg) (S := (33, [(0, .ref 40), (1, .int y1), (2, .int y2), (3, .int y3), (4, .int y4)], [.int ((h.1 42 (y4 : Int32).toNatClampNeg)), .int ((h.1 42 (y1 : Int32).toNatClampNeg)), .ref 40], ab_dD h)) (fun n => rfl) c10 ?_
        refine ab_Ex.blk (k := 2) (pc' := 36) (lv' := [(0, .ref 40), (1, .int y1), (2, .int y2), (3, .int y3), (4, .int y4)]) (st' := [.int y4, .int y1, .int ((h.1 42 (y4 : Int32).toNatClampNeg)), .int ((h.1 42 (y1 : Int32).toNatClampNeg)), .ref 40]) (sh' := ab_SH) (D' := ab_dD h) (fun n => rfl) ?_
        refine ab_Ex.ifc (c := y1 = y4) (SA := (39, [(0, .ref 40), (1, .int y1), (2, .int y2), (3, .int y3), (4, .int y4)], [.int ((h.1 42 (y4 : Int32).toNatClampNeg)), .int ((h.1 42 (y1 : Int32).toNatClampNeg)), .ref 40], ab_dD h)) (SB := (50, [(0, .ref 40), (1, .int y1), (2, .int y2), (3, .int y3), (4, .int y4)], [.int ((h.1 42 (y4 : Int32).toNatClampNeg)), .int ((h.1 42 (y1 : Int32).toNatClampNeg)), .ref 40], ab_dD h)) (fun n => rfl) (fun c11 => ?_) (fun c11 => ?_)
        · replace hf := (if_pos c11).symm.trans hf
          refine ab_Ex.blk (k := 3) (pc' := 44) (lv' := [(0, .ref 40), (1, .int y1), (2, .int y2), (3, .int y3), (4, .int y4)]) (st' := [.int y1, .ref 1, .int ((h.1 42 (y4 : Int32).toNatClampNeg)), .int ((h.1 42 (y1 : Int32).toNatClampNeg)), .ref 40]) (sh' := ab_SH) (D' := ab_dD h) (fun n => rfl) ?_
          obtain ⟨r12, hr12, hf⟩ := ab_bind_s hf
          refine ab_Ex.call (d := d + 2) (M2 := 35) (as := [.ref 1, .int y1]) (rest := [.int ((h.1 42 (y4 : Int32).toNatClampNeg)), .int ((h.1 42 (y1 : Int32).toNatClampNeg)), .ref 40]) (fun n => rfl) rfl (Nat.not_lt.mpr (Nat.le_of_ble_eq_true rfl)) (sX3_roadsOf_1 (d + 2) X y1 h _ hr12) (fun r hr => ?_)
          subst hr
          show ab_Ex X (d + 3) 52 47 [(0, .ref 40), (1, .int y1), (2, .int y2), (3, .int y3), (4, .int y4)] [.int r12, .int ((h.1 42 (y4 : Int32).toNatClampNeg)), .int ((h.1 42 (y1 : Int32).toNatClampNeg)), .ref 40] ab_SH (ab_dD h) _
          refine ab_Ex.blk (k := 1) (pc' := 51) (lv' := [(0, .ref 40), (1, .int y1), (2, .int y2), (3, .int y3), (4, .int y4)]) (st' := [.int r12, .int ((h.1 42 (y4 : Int32).toNatClampNeg)), .int ((h.1 42 (y1 : Int32).toNatClampNeg)), .ref 40]) (sh' := ab_SH) (D' := ab_dD h) (fun n => rfl) ?_
          exact sX4_layRow_J51 d X (fun y1 y2 y3 y4 h => fX4_layRow_L3 n y1 y2 y3 y4 h) (fun y1 y2 y3 y4 h z hz => ih y1 y2 y3 y4 h z hz) y1 y2 y3 y4 ((h.1 42 (y1 : Int32).toNatClampNeg)) ((h.1 42 (y4 : Int32).toNatClampNeg)) r12 h _ hf
        · replace hf := (if_neg c11).symm.trans hf
          refine ab_Ex.blk (k := 1) (pc' := 51) (lv' := [(0, .ref 40), (1, .int y1), (2, .int y2), (3, .int y3), (4, .int y4)]) (st' := [.int 0, .int ((h.1 42 (y4 : Int32).toNatClampNeg)), .int ((h.1 42 (y1 : Int32).toNatClampNeg)), .ref 40]) (sh' := ab_SH) (D' := ab_dD h) (fun n => rfl) ?_
          exact sX4_layRow_J51 d X (fun y1 y2 y3 y4 h => fX4_layRow_L3 n y1 y2 y3 y4 h) (fun y1 y2 y3 y4 h z hz => ih y1 y2 y3 y4 h z hz) y1 y2 y3 y4 ((h.1 42 (y1 : Int32).toNatClampNeg)) ((h.1 42 (y4 : Int32).toNatClampNeg)) 0 h _ hf
set_option maxRecDepth 20000 in
theorem sX4_layRow (d : Nat) (X : abX) (x0 : Int32) (x1 : Int32) (x2 : Int32) (h : abJ) (z : abJ) (hf : fX4_layRow x0 x1 x2 h = some z) : ab_Ex X (d + 3) 52 0 [(0, .ref 40), (1, .int x0), (2, .int x1), (3, .int x2)] [] ab_SH (ab_dD h) (fun r => r = (none, ab_SH, ab_dD z)) := by
  unfold fX4_layRow at hf
  refine ab_Ex.blk (k := 2) (pc' := 3) (lv' := [(0, .ref 40), (1, .int x0), (2, .int x1), (3, .int x2), (4, .int 0)]) (st' := []) (sh' := ab_SH) (D' := ab_dD h) (fun n => rfl) ?_
  exact sX4_layRow_L3 d X  ab_N x0 x1 x2 0 h _ hf
def fX4_cell (x0 : Int32) (x1 : Int32) (h : abJ) : Option Int64 := if x0 < 0 then some 0 else if 6 ≤ x0 then some 0 else if x1 < 0 then some 0 else if x1 < 7 then ab_ask (((x0 * 7) + x1) < 0 ∨ 42 ≤ (((x0 * 7) + x1) : Int32).toNatClampNeg) (some (h.2 41 (((x0 * 7) + x1) : Int32).toNatClampNeg)) else some 0
set_option maxRecDepth 20000 in
theorem sX4_cell (d : Nat) (X : abX) (x0 : Int32) (x1 : Int32) (h : abJ) (z : Int64) (hf : fX4_cell x0 x1 h = some z) : ab_Ex X (d + 0) 53 0 [(0, .ref 40), (1, .int x0), (2, .int x1)] [] ab_SH (ab_dD h) (fun r => r = (some (.long z), ab_SH, ab_dD h)) := by
  unfold fX4_cell at hf
  refine ab_Ex.blk (k := 1) (pc' := 1) (lv' := [(0, .ref 40), (1, .int x0), (2, .int x1)]) (st' := [.int x0]) (sh' := ab_SH) (D' := ab_dD h) (fun n => rfl) ?_
  refine ab_Ex.ifc (c := x0 < 0) (SA := (20, [(0, .ref 40), (1, .int x0), (2, .int x1)], [], ab_dD h)) (SB := (4, [(0, .ref 40), (1, .int x0), (2, .int x1)], [], ab_dD h)) (fun n => rfl) (fun c1 => ?_) (fun c1 => ?_)
  · replace hf := (if_pos c1).symm.trans hf
    refine ab_Ex.blk (k := 2) (pc' := 35) (lv' := []) (st' := [.long 0]) (sh' := ab_SH) (D' := ab_dD h) (fun n => rfl) ?_
    obtain rfl := Option.some.inj hf
    exact ab_Ex.ret (fun n => rfl) rfl
  · replace hf := (if_neg c1).symm.trans hf
    refine ab_Ex.blk (k := 2) (pc' := 7) (lv' := [(0, .ref 40), (1, .int x0), (2, .int x1)]) (st' := [.int 6, .int x0]) (sh' := ab_SH) (D' := ab_dD h) (fun n => rfl) ?_
    refine ab_Ex.ifc (c := 6 ≤ x0) (SA := (20, [(0, .ref 40), (1, .int x0), (2, .int x1)], [], ab_dD h)) (SB := (10, [(0, .ref 40), (1, .int x0), (2, .int x1)], [], ab_dD h)) (fun n => rfl) (fun c2 => ?_) (fun c2 => ?_)
    · replace hf := (if_pos c2).symm.trans hf
      refine ab_Ex.blk (k := 2) (pc' := 35) (lv' := []) (st' := [.long 0]) (sh' := ab_SH) (D' := ab_dD h) (fun n => rfl) ?_
      obtain rfl := Option.some.inj hf
      exact ab_Ex.ret (fun n => rfl) rfl
    · replace hf := (if_neg c2).symm.trans hf
      refine ab_Ex.blk (k := 1) (pc' := 11) (lv' := [(0, .ref 40), (1, .int x0), (2, .int x1)]) (st' := [.int x1]) (sh' := ab_SH) (D' := ab_dD h) (fun n => rfl) ?_
      refine ab_Ex.ifc (c := x1 < 0) (SA := (20, [(0, .ref 40), (1, .int x0), (2, .int x1)], [], ab_dD h)) (SB := (14, [(0, .ref 40), (1, .int x0), (2, .int x1)], [], ab_dD h)) (fun n => rfl) (fun c3 => ?_) (fun c3 => ?_)
      · replace hf := (if_pos c3).symm.trans hf
        refine ab_Ex.blk (k := 2) (pc' := 35) (lv' := []) (st' := [.long 0]) (sh' := ab_SH) (D' := ab_dD h) (fun n => rfl) ?_
        obtain rfl := Option.some.inj hf
        exact ab_Ex.ret (fun n => rfl) rfl
      · replace hf := (if_neg c3).symm.trans hf
        refine ab_Ex.blk (k := 2) (pc' := 17) (lv' := [(0, .ref 40), (1, .int x0), (2, .int x1)]) (st' := [.int 7, .int x1]) (sh' := ab_SH) (D' := ab_dD h) (fun n => rfl) ?_
        refine ab_Ex.ifc (c := x1 < 7) (SA := (24, [(0, .ref 40), (1, .int x0), (2, .int x1)], [], ab_dD h)) (SB := (20, [(0, .ref 40), (1, .int x0), (2, .int x1)], [], ab_dD h)) (fun n => rfl) (fun c4 => ?_) (fun c4 => ?_)
        · replace hf := (if_pos c4).symm.trans hf
          refine ab_Ex.blk (k := 7) (pc' := 34) (lv' := [(0, .ref 40), (1, .int x0), (2, .int x1)]) (st' := [.int (((x0 * 7) + x1)), .ref 41]) (sh' := ab_SH) (D' := ab_dD h) (fun n => rfl) ?_
          obtain ⟨c6, hf⟩ := ab_ask_s hf
          refine ab_Ex.grd (c := ((x0 * 7) + x1) < 0 ∨ 42 ≤ (((x0 * 7) + x1) : Int32).toNatClampNeg) (S := (35, [(0, .ref 40), (1, .int x0), (2, .int x1)], [.long ((h.2 41 (((x0 * 7) + x1) : Int32).toNatClampNeg))], ab_dD h)) (fun n => rfl) c6 ?_
          obtain rfl := Option.some.inj hf
          exact ab_Ex.ret (fun n => rfl) rfl
        · replace hf := (if_neg c4).symm.trans hf
          refine ab_Ex.blk (k := 2) (pc' := 35) (lv' := []) (st' := [.long 0]) (sh' := ab_SH) (D' := ab_dD h) (fun n => rfl) ?_
          obtain rfl := Option.some.inj hf
          exact ab_Ex.ret (fun n => rfl) rfl
def fX4_clearColumn_L11   : Nat → Int32 → Int32 → Int64 → Int64 → Int64 → Int32 → abJ → Option abJ
  | 0, _, _, _, _, _, _, _ => none
  | n + 1, y1, y2, y3, y5, y7, y9, h => if (h.1 40 3) < y9 then some h else if (lg_cmp y5 0) = 0 then some h else (fX4_cell y1 y9 h).bind (fun r4 => (fX4_cell y2 y9 h).bind (fun r5 => ab_ask (y5 = 0) ((fX4_put y1 y9 ((((r4 * y3) - (y7 * r5)) / y5)) h).bind (fun r7 => fX4_clearColumn_L11 n y1 y2 y3 y5 y7 ((y9 + 1)) r7))))
def fX4_clearColumn (x0 : Int32) (x1 : Int32) (x2 : Int64) (x3 : Int64) (h : abJ) : Option abJ := (fX4_cell x0 x1 h).bind (fun r1 => fX4_clearColumn_L11 ab_N x0 x1 x2 x3 r1 0 h)
set_option maxRecDepth 20000 in
theorem sX4_clearColumn_L11 (d : Nat) (X : abX)   : ∀ (n : Nat), ∀ (y1 : Int32) (y2 : Int32) (y3 : Int64) (y5 : Int64) (y7 : Int64) (y9 : Int32) (h : abJ) (z : abJ), fX4_clearColumn_L11 n y1 y2 y3 y5 y7 y9 h = some z → ab_Ex X (d + 1) 56 11 [(0, .ref 40), (1, .int y1), (2, .int y2), (3, .long y3), (5, .long y5), (7, .long y7), (9, .int y9)] [] ab_SH (ab_dD h) (fun r => r = (none, ab_SH, ab_dD z)) := by
  intro n
  induction n with
  | zero => intro y1 y2 y3 y5 y7 y9 h z hf; cases hf
  | succ n ih =>
    intro y1 y2 y3 y5 y7 y9 h z hf
    rw [fX4_clearColumn_L11] at hf
    refine ab_Ex.blk (k := 3) (pc' := 17) (lv' := [(0, .ref 40), (1, .int y1), (2, .int y2), (3, .long y3), (5, .long y5), (7, .long y7), (9, .int y9)]) (st' := [.int ((h.1 40 3)), .int y9]) (sh' := ab_SH) (D' := ab_dD h) (fun n => rfl) ?_
    refine ab_Ex.ifc (c := (h.1 40 3) < y9) (SA := (63, [(0, .ref 40), (1, .int y1), (2, .int y2), (3, .long y3), (5, .long y5), (7, .long y7), (9, .int y9)], [], ab_dD h)) (SB := (20, [(0, .ref 40), (1, .int y1), (2, .int y2), (3, .long y3), (5, .long y5), (7, .long y7), (9, .int y9)], [], ab_dD h)) (fun n => rfl) (fun c2 => ?_) (fun c2 => ?_)
    · replace hf := (if_pos c2).symm.trans hf
      obtain rfl := Option.some.inj hf
      exact ab_Ex.ret (fun n => rfl) rfl
    · replace hf := (if_neg c2).symm.trans hf
      refine ab_Ex.blk (k := 3) (pc' := 24) (lv' := [(0, .ref 40), (1, .int y1), (2, .int y2), (3, .long y3), (5, .long y5), (7, .long y7), (9, .int y9)]) (st' := [.int ((lg_cmp y5 0))]) (sh' := ab_SH) (D' := ab_dD h) (fun n => rfl) ?_
      refine ab_Ex.ifc (c := (lg_cmp y5 0) = 0) (SA := (63, [(0, .ref 40), (1, .int y1), (2, .int y2), (3, .long y3), (5, .long y5), (7, .long y7), (9, .int y9)], [], ab_dD h)) (SB := (27, [(0, .ref 40), (1, .int y1), (2, .int y2), (3, .long y3), (5, .long y5), (7, .long y7), (9, .int y9)], [], ab_dD h)) (fun n => rfl) (fun c3 => ?_) (fun c3 => ?_)
      · replace hf := (if_pos c3).symm.trans hf
        obtain rfl := Option.some.inj hf
        exact ab_Ex.ret (fun n => rfl) rfl
      · replace hf := (if_neg c3).symm.trans hf
        refine ab_Ex.blk (k := 6) (pc' := 35) (lv' := [(0, .ref 40), (1, .int y1), (2, .int y2), (3, .long y3), (5, .long y5), (7, .long y7), (9, .int y9)]) (st' := [.int y9, .int y1, .ref 40, .int y9, .int y1, .ref 40]) (sh' := ab_SH) (D' := ab_dD h) (fun n => rfl) ?_
        obtain ⟨r4, hr4, hf⟩ := ab_bind_s hf
        refine ab_Ex.call (d := d + 0) (M2 := 53) (as := [.ref 40, .int y1, .int y9]) (rest := [.int y9, .int y1, .ref 40]) (fun n => rfl) rfl (Nat.not_lt.mpr (Nat.le_of_ble_eq_true rfl)) (sX4_cell (d) X y1 y9 h _ hr4) (fun r hr => ?_)
        subst hr
        show ab_Ex X (d + 1) 56 38 [(0, .ref 40), (1, .int y1), (2, .int y2), (3, .long y3), (5, .long y5), (7, .long y7), (9, .int y9)] [.long r4, .int y9, .int y1, .ref 40] ab_SH (ab_dD h) _
        refine ab_Ex.blk (k := 6) (pc' := 46) (lv' := [(0, .ref 40), (1, .int y1), (2, .int y2), (3, .long y3), (5, .long y5), (7, .long y7), (9, .int y9)]) (st' := [.int y9, .int y2, .ref 40, .long y7, .long ((r4 * y3)), .int y9, .int y1, .ref 40]) (sh' := ab_SH) (D' := ab_dD h) (fun n => rfl) ?_
        obtain ⟨r5, hr5, hf⟩ := ab_bind_s hf
        refine ab_Ex.call (d := d + 0) (M2 := 53) (as := [.ref 40, .int y2, .int y9]) (rest := [.long y7, .long ((r4 * y3)), .int y9, .int y1, .ref 40]) (fun n => rfl) rfl (Nat.not_lt.mpr (Nat.le_of_ble_eq_true rfl)) (sX4_cell (d) X y2 y9 h _ hr5) (fun r hr => ?_)
        subst hr
        show ab_Ex X (d + 1) 56 49 [(0, .ref 40), (1, .int y1), (2, .int y2), (3, .long y3), (5, .long y5), (7, .long y7), (9, .int y9)] [.long r5, .long y7, .long ((r4 * y3)), .int y9, .int y1, .ref 40] ab_SH (ab_dD h) _
        refine ab_Ex.blk (k := 3) (pc' := 53) (lv' := [(0, .ref 40), (1, .int y1), (2, .int y2), (3, .long y3), (5, .long y5), (7, .long y7), (9, .int y9)]) (st' := [.long y5, .long (((r4 * y3) - (y7 * r5))), .int y9, .int y1, .ref 40]) (sh' := ab_SH) (D' := ab_dD h) (fun n => rfl) ?_
        obtain ⟨c6, hf⟩ := ab_ask_s hf
        refine ab_Ex.grd (c := y5 = 0) (S := (54, [(0, .ref 40), (1, .int y1), (2, .int y2), (3, .long y3), (5, .long y5), (7, .long y7), (9, .int y9)], [.long ((((r4 * y3) - (y7 * r5)) / y5)), .int y9, .int y1, .ref 40], ab_dD h)) (fun n => rfl) c6 ?_
        obtain ⟨r7, hr7, hf⟩ := ab_bind_s hf
        refine ab_Ex.call (d := d + 0) (M2 := 54) (as := [.ref 40, .int y1, .int y9, .long ((((r4 * y3) - (y7 * r5)) / y5))]) (rest := []) (fun n => rfl) rfl (Nat.not_lt.mpr (Nat.le_of_ble_eq_true rfl)) (sX4_put (d) X y1 y9 ((((r4 * y3) - (y7 * r5)) / y5)) h _ hr7) (fun r hr => ?_)
        subst hr
        show ab_Ex X (d + 1) 56 57 [(0, .ref 40), (1, .int y1), (2, .int y2), (3, .long y3), (5, .long y5), (7, .long y7), (9, .int y9)] [] ab_SH (ab_dD r7) _
        refine ab_Ex.blk (k := 2) (pc' := 11) (lv' := [(0, .ref 40), (1, .int y1), (2, .int y2), (3, .long y3), (5, .long y5), (7, .long y7), (9, .int ((y9 + 1)))]) (st' := []) (sh' := ab_SH) (D' := ab_dD r7) (fun n => rfl) ?_
        exact ih y1 y2 y3 y5 y7 ((y9 + 1)) r7 _ hf
set_option maxRecDepth 20000 in
theorem sX4_clearColumn (d : Nat) (X : abX) (x0 : Int32) (x1 : Int32) (x2 : Int64) (x3 : Int64) (h : abJ) (z : abJ) (hf : fX4_clearColumn x0 x1 x2 x3 h = some z) : ab_Ex X (d + 1) 56 0 [(0, .ref 40), (1, .int x0), (2, .int x1), (3, .long x2), (5, .long x3)] [] ab_SH (ab_dD h) (fun r => r = (none, ab_SH, ab_dD z)) := by
  unfold fX4_clearColumn at hf
  refine ab_Ex.blk (k := 3) (pc' := 3) (lv' := [(0, .ref 40), (1, .int x0), (2, .int x1), (3, .long x2), (5, .long x3)]) (st' := [.int x1, .int x0, .ref 40]) (sh' := ab_SH) (D' := ab_dD h) (fun n => rfl) ?_
  obtain ⟨r1, hr1, hf⟩ := ab_bind_s hf
  refine ab_Ex.call (d := d + 0) (M2 := 53) (as := [.ref 40, .int x0, .int x1]) (rest := []) (fun n => rfl) rfl (Nat.not_lt.mpr (Nat.le_of_ble_eq_true rfl)) (sX4_cell (d) X x0 x1 h _ hr1) (fun r hr => ?_)
  subst hr
  show ab_Ex X (d + 1) 56 6 [(0, .ref 40), (1, .int x0), (2, .int x1), (3, .long x2), (5, .long x3)] [.long r1] ab_SH (ab_dD h) _
  refine ab_Ex.blk (k := 3) (pc' := 11) (lv' := [(0, .ref 40), (1, .int x0), (2, .int x1), (3, .long x2), (5, .long x3), (7, .long r1), (9, .int 0)]) (st' := []) (sh' := ab_SH) (D' := ab_dD h) (fun n => rfl) ?_
  exact sX4_clearColumn_L11 d X  ab_N x0 x1 x2 x3 r1 0 h _ hf
def fX4_solve_J56  (k31 : Int64 → Int32 → Int64 → Int32 → abJ → Option abJ) (y1 : Int64) (y3 : Int32) (y4 : Int64) (y6 : Int32) (h : abJ) : Option abJ := k31 y1 y3 y4 ((y6 + 1)) h
def fX4_solve_L31  (k4 : Int64 → Int32 → abJ → Option abJ) : Nat → Int64 → Int32 → Int64 → Int32 → abJ → Option abJ
  | 0, _, _, _, _, _ => none
  | n + 1, y1, y3, y4, y6, h => if (h.1 40 3) ≤ y6 then k4 y4 ((y3 + 1)) h else if y6 = y3 then fX4_solve_J56 (fun y1 y3 y4 y6 h => fX4_solve_L31 k4 n y1 y3 y4 y6 h) y1 y3 y4 y6 h else (fX4_clearColumn y6 y3 y4 y1 h).bind (fun r6 => fX4_solve_J56 (fun y1 y3 y4 y6 h => fX4_solve_L31 k4 n y1 y3 y4 y6 h) y1 y3 y4 y6 r6)
def fX4_solve_L4   : Nat → Int64 → Int32 → abJ → Option abJ
  | 0, _, _, _ => none
  | n + 1, y1, y3, h => if (h.1 40 3) ≤ y3 then some h else (fX4_cell y3 y3 h).bind (fun r2 => if (lg_cmp r2 0) = 0 then some h else fX4_solve_L31 (fun y1 y3 h => fX4_solve_L4 n y1 y3 h) ab_N y1 y3 r2 0 h)
def fX4_solve  (h : abJ) : Option abJ := fX4_solve_L4 ab_N 1 0 h
set_option maxRecDepth 20000 in
theorem sX4_solve_J56 (d : Nat) (X : abX) (k31 : Int64 → Int32 → Int64 → Int32 → abJ → Option abJ) (hk31 : ∀ (y1 : Int64) (y3 : Int32) (y4 : Int64) (y6 : Int32) (h : abJ) (z : abJ), k31 y1 y3 y4 y6 h = some z → ab_Ex X (d + 2) 55 31 [(0, .ref 40), (1, .long y1), (3, .int y3), (4, .long y4), (6, .int y6)] [] ab_SH (ab_dD h) (fun r => r = (none, ab_SH, ab_dD z))) : ∀ (y1 : Int64) (y3 : Int32) (y4 : Int64) (y6 : Int32) (h : abJ) (z : abJ), fX4_solve_J56 k31 y1 y3 y4 y6 h = some z → ab_Ex X (d + 2) 55 56 [(0, .ref 40), (1, .long y1), (3, .int y3), (4, .long y4), (6, .int y6)] [] ab_SH (ab_dD h) (fun r => r = (none, ab_SH, ab_dD z)) := by
  intro y1 y3 y4 y6 h z hf
  unfold fX4_solve_J56 at hf
  refine ab_Ex.blk (k := 2) (pc' := 31) (lv' := [(0, .ref 40), (1, .long y1), (3, .int y3), (4, .long y4), (6, .int ((y6 + 1)))]) (st' := []) (sh' := ab_SH) (D' := ab_dD h) (fun n => rfl) ?_
  exact hk31 y1 y3 y4 ((y6 + 1)) h _ hf
set_option maxRecDepth 20000 in
theorem sX4_solve_L31 (d : Nat) (X : abX) (k4 : Int64 → Int32 → abJ → Option abJ) (hk4 : ∀ (y1 : Int64) (y3 : Int32) (h : abJ) (z : abJ), k4 y1 y3 h = some z → ab_Ex X (d + 2) 55 4 [(0, .ref 40), (1, .long y1), (3, .int y3)] [] ab_SH (ab_dD h) (fun r => r = (none, ab_SH, ab_dD z))) : ∀ (n : Nat), ∀ (y1 : Int64) (y3 : Int32) (y4 : Int64) (y6 : Int32) (h : abJ) (z : abJ), fX4_solve_L31 k4 n y1 y3 y4 y6 h = some z → ab_Ex X (d + 2) 55 31 [(0, .ref 40), (1, .long y1), (3, .int y3), (4, .long y4), (6, .int y6)] [] ab_SH (ab_dD h) (fun r => r = (none, ab_SH, ab_dD z)) := by
  intro n
  induction n with
  | zero => intro y1 y3 y4 y6 h z hf; cases hf
  | succ n ih =>
    intro y1 y3 y4 y6 h z hf
    rw [fX4_solve_L31] at hf
    refine ab_Ex.blk (k := 3) (pc' := 37) (lv' := [(0, .ref 40), (1, .long y1), (3, .int y3), (4, .long y4), (6, .int y6)]) (st' := [.int ((h.1 40 3)), .int y6]) (sh' := ab_SH) (D' := ab_dD h) (fun n => rfl) ?_
    refine ab_Ex.ifc (c := (h.1 40 3) ≤ y6) (SA := (62, [(0, .ref 40), (1, .long y1), (3, .int y3), (4, .long y4), (6, .int y6)], [], ab_dD h)) (SB := (40, [(0, .ref 40), (1, .long y1), (3, .int y3), (4, .long y4), (6, .int y6)], [], ab_dD h)) (fun n => rfl) (fun c4 => ?_) (fun c4 => ?_)
    · replace hf := (if_pos c4).symm.trans hf
      refine ab_Ex.blk (k := 4) (pc' := 4) (lv' := [(0, .ref 40), (1, .long y4), (3, .int ((y3 + 1)))]) (st' := []) (sh' := ab_SH) (D' := ab_dD h) (fun n => rfl) ?_
      exact hk4 y4 ((y3 + 1)) h _ hf
    · replace hf := (if_neg c4).symm.trans hf
      refine ab_Ex.blk (k := 2) (pc' := 43) (lv' := [(0, .ref 40), (1, .long y1), (3, .int y3), (4, .long y4), (6, .int y6)]) (st' := [.int y3, .int y6]) (sh' := ab_SH) (D' := ab_dD h) (fun n => rfl) ?_
      refine ab_Ex.ifc (c := y6 = y3) (SA := (56, [(0, .ref 40), (1, .long y1), (3, .int y3), (4, .long y4), (6, .int y6)], [], ab_dD h)) (SB := (46, [(0, .ref 40), (1, .long y1), (3, .int y3), (4, .long y4), (6, .int y6)], [], ab_dD h)) (fun n => rfl) (fun c5 => ?_) (fun c5 => ?_)
      · replace hf := (if_pos c5).symm.trans hf
        exact sX4_solve_J56 d X (fun y1 y3 y4 y6 h => fX4_solve_L31 k4 n y1 y3 y4 y6 h) (fun y1 y3 y4 y6 h z hz => ih y1 y3 y4 y6 h z hz) y1 y3 y4 y6 h _ hf
      · replace hf := (if_neg c5).symm.trans hf
        refine ab_Ex.blk (k := 5) (pc' := 53) (lv' := [(0, .ref 40), (1, .long y1), (3, .int y3), (4, .long y4), (6, .int y6)]) (st' := [.long y1, .long y4, .int y3, .int y6, .ref 40]) (sh' := ab_SH) (D' := ab_dD h) (fun n => rfl) ?_
        obtain ⟨r6, hr6, hf⟩ := ab_bind_s hf
        refine ab_Ex.call (d := d + 1) (M2 := 56) (as := [.ref 40, .int y6, .int y3, .long y4, .long y1]) (rest := []) (fun n => rfl) rfl (Nat.not_lt.mpr (Nat.le_of_ble_eq_true rfl)) (sX4_clearColumn (d) X y6 y3 y4 y1 h _ hr6) (fun r hr => ?_)
        subst hr
        show ab_Ex X (d + 2) 55 56 [(0, .ref 40), (1, .long y1), (3, .int y3), (4, .long y4), (6, .int y6)] [] ab_SH (ab_dD r6) _
        exact sX4_solve_J56 d X (fun y1 y3 y4 y6 h => fX4_solve_L31 k4 n y1 y3 y4 y6 h) (fun y1 y3 y4 y6 h z hz => ih y1 y3 y4 y6 h z hz) y1 y3 y4 y6 r6 _ hf
set_option maxRecDepth 20000 in
theorem sX4_solve_L4 (d : Nat) (X : abX)   : ∀ (n : Nat), ∀ (y1 : Int64) (y3 : Int32) (h : abJ) (z : abJ), fX4_solve_L4 n y1 y3 h = some z → ab_Ex X (d + 2) 55 4 [(0, .ref 40), (1, .long y1), (3, .int y3)] [] ab_SH (ab_dD h) (fun r => r = (none, ab_SH, ab_dD z)) := by
  intro n
  induction n with
  | zero => intro y1 y3 h z hf; cases hf
  | succ n ih =>
    intro y1 y3 h z hf
    rw [fX4_solve_L4] at hf
    refine ab_Ex.blk (k := 3) (pc' := 9) (lv' := [(0, .ref 40), (1, .long y1), (3, .int y3)]) (st' := [.int ((h.1 40 3)), .int y3]) (sh' := ab_SH) (D' := ab_dD h) (fun n => rfl) ?_
    refine ab_Ex.ifc (c := (h.1 40 3) ≤ y3) (SA := (71, [(0, .ref 40), (1, .long y1), (3, .int y3)], [], ab_dD h)) (SB := (12, [(0, .ref 40), (1, .long y1), (3, .int y3)], [], ab_dD h)) (fun n => rfl) (fun c1 => ?_) (fun c1 => ?_)
    · replace hf := (if_pos c1).symm.trans hf
      obtain rfl := Option.some.inj hf
      exact ab_Ex.ret (fun n => rfl) rfl
    · replace hf := (if_neg c1).symm.trans hf
      refine ab_Ex.blk (k := 3) (pc' := 15) (lv' := [(0, .ref 40), (1, .long y1), (3, .int y3)]) (st' := [.int y3, .int y3, .ref 40]) (sh' := ab_SH) (D' := ab_dD h) (fun n => rfl) ?_
      obtain ⟨r2, hr2, hf⟩ := ab_bind_s hf
      refine ab_Ex.call (d := d + 1) (M2 := 53) (as := [.ref 40, .int y3, .int y3]) (rest := []) (fun n => rfl) rfl (Nat.not_lt.mpr (Nat.le_of_ble_eq_true rfl)) (sX4_cell (d + 1) X y3 y3 h _ hr2) (fun r hr => ?_)
      subst hr
      show ab_Ex X (d + 2) 55 18 [(0, .ref 40), (1, .long y1), (3, .int y3)] [.long r2] ab_SH (ab_dD h) _
      refine ab_Ex.blk (k := 4) (pc' := 24) (lv' := [(4, .long r2), (0, .ref 40), (1, .long y1), (3, .int y3)]) (st' := [.int ((lg_cmp r2 0))]) (sh' := ab_SH) (D' := ab_dD h) (fun n => rfl) ?_
      refine ab_Ex.ifc (c := (lg_cmp r2 0) = 0) (SA := (27, [(4, .long r2), (0, .ref 40), (1, .long y1), (3, .int y3)], [], ab_dD h)) (SB := (28, [(4, .long r2), (0, .ref 40), (1, .long y1), (3, .int y3)], [], ab_dD h)) (fun n => rfl) (fun c3 => ?_) (fun c3 => ?_)
      · replace hf := (if_pos c3).symm.trans hf
        obtain rfl := Option.some.inj hf
        exact ab_Ex.ret (fun n => rfl) rfl
      · replace hf := (if_neg c3).symm.trans hf
        refine ab_Ex.blk (k := 2) (pc' := 31) (lv' := [(0, .ref 40), (1, .long y1), (3, .int y3), (4, .long r2), (6, .int 0)]) (st' := []) (sh' := ab_SH) (D' := ab_dD h) (fun n => rfl) ?_
        exact sX4_solve_L31 d X (fun y1 y3 h => fX4_solve_L4 n y1 y3 h) (fun y1 y3 h z hz => ih y1 y3 h z hz) ab_N y1 y3 r2 0 h _ hf
set_option maxRecDepth 20000 in
theorem sX4_solve (d : Nat) (X : abX)  (h : abJ) (z : abJ) (hf : fX4_solve  h = some z) : ab_Ex X (d + 2) 55 0 [(0, .ref 40)] [] ab_SH (ab_dD h) (fun r => r = (none, ab_SH, ab_dD z)) := by
  unfold fX4_solve at hf
  refine ab_Ex.blk (k := 4) (pc' := 4) (lv' := [(0, .ref 40), (1, .long 1), (3, .int 0)]) (st' := []) (sh' := ab_SH) (D' := ab_dD h) (fun n => rfl) ?_
  exact sX4_solve_L4 d X  ab_N 1 0 h _ hf
def fX4_answerFor (x0 : Int32) (h : abJ) : Option abJ := if x0 < 0 then (fX4_cell ((-1)) ((h.1 40 3)) h).bind (fun r2 => (fX4_cell ((-1)) ((-1)) h).bind (fun r3 => (fX4_answer r2 r3 h).bind (fun r4 => some r4))) else if x0 < 6 then ab_ask (x0 < 0 ∨ 6 ≤ (x0 : Int32).toNatClampNeg) ((fX4_cell ((h.1 42 (x0 : Int32).toNatClampNeg)) ((h.1 40 3)) h).bind (fun r8 => (fX4_cell ((h.1 42 (x0 : Int32).toNatClampNeg)) ((h.1 42 (x0 : Int32).toNatClampNeg)) h).bind (fun r9 => (fX4_answer r8 r9 h).bind (fun r10 => some r10)))) else (fX4_cell ((-1)) ((h.1 40 3)) h).bind (fun r11 => (fX4_cell ((-1)) ((-1)) h).bind (fun r12 => (fX4_answer r11 r12 h).bind (fun r13 => some r13)))
set_option maxRecDepth 20000 in
theorem sX4_answerFor (d : Nat) (X : abX) (x0 : Int32) (h : abJ) (z : abJ) (hf : fX4_answerFor x0 h = some z) : ab_Ex X (d + 3) 57 0 [(0, .ref 40), (1, .int x0)] [] ab_SH (ab_dD h) (fun r => r = (none, ab_SH, ab_dD z)) := by
  unfold fX4_answerFor at hf
  refine ab_Ex.blk (k := 1) (pc' := 1) (lv' := [(0, .ref 40), (1, .int x0)]) (st' := [.int x0]) (sh' := ab_SH) (D' := ab_dD h) (fun n => rfl) ?_
  refine ab_Ex.ifc (c := x0 < 0) (SA := (10, [(0, .ref 40), (1, .int x0)], [], ab_dD h)) (SB := (4, [(0, .ref 40), (1, .int x0)], [], ab_dD h)) (fun n => rfl) (fun c1 => ?_) (fun c1 => ?_)
  · replace hf := (if_pos c1).symm.trans hf
    refine ab_Ex.blk (k := 8) (pc' := 28) (lv' := [(2, .int ((-1))), (0, .ref 40)]) (st' := [.int ((h.1 40 3)), .int ((-1)), .ref 40, .ref 40]) (sh' := ab_SH) (D' := ab_dD h) (fun n => rfl) ?_
    obtain ⟨r2, hr2, hf⟩ := ab_bind_s hf
    refine ab_Ex.call (d := d + 2) (M2 := 53) (as := [.ref 40, .int ((-1)), .int ((h.1 40 3))]) (rest := [.ref 40]) (fun n => rfl) rfl (Nat.not_lt.mpr (Nat.le_of_ble_eq_true rfl)) (sX4_cell (d + 2) X ((-1)) ((h.1 40 3)) h _ hr2) (fun r hr => ?_)
    subst hr
    show ab_Ex X (d + 3) 57 31 [(2, .int ((-1))), (0, .ref 40)] [.long r2, .ref 40] ab_SH (ab_dD h) _
    refine ab_Ex.blk (k := 3) (pc' := 34) (lv' := [(2, .int ((-1))), (0, .ref 40)]) (st' := [.int ((-1)), .int ((-1)), .ref 40, .long r2, .ref 40]) (sh' := ab_SH) (D' := ab_dD h) (fun n => rfl) ?_
    obtain ⟨r3, hr3, hf⟩ := ab_bind_s hf
    refine ab_Ex.call (d := d + 2) (M2 := 53) (as := [.ref 40, .int ((-1)), .int ((-1))]) (rest := [.long r2, .ref 40]) (fun n => rfl) rfl (Nat.not_lt.mpr (Nat.le_of_ble_eq_true rfl)) (sX4_cell (d + 2) X ((-1)) ((-1)) h _ hr3) (fun r hr => ?_)
    subst hr
    show ab_Ex X (d + 3) 57 37 [(2, .int ((-1))), (0, .ref 40)] [.long r3, .long r2, .ref 40] ab_SH (ab_dD h) _
    obtain ⟨r4, hr4, hf⟩ := ab_bind_s hf
    refine ab_Ex.call (d := d + 2) (M2 := 58) (as := [.ref 40, .long r2, .long r3]) (rest := []) (fun n => rfl) rfl (Nat.not_lt.mpr (Nat.le_of_ble_eq_true rfl)) (sX4_answer (d) X r2 r3 h _ hr4) (fun r hr => ?_)
    subst hr
    show ab_Ex X (d + 3) 57 40 [(2, .int ((-1))), (0, .ref 40)] [] ab_SH (ab_dD r4) _
    obtain rfl := Option.some.inj hf
    exact ab_Ex.ret (fun n => rfl) rfl
  · replace hf := (if_neg c1).symm.trans hf
    refine ab_Ex.blk (k := 2) (pc' := 7) (lv' := [(0, .ref 40), (1, .int x0)]) (st' := [.int 6, .int x0]) (sh' := ab_SH) (D' := ab_dD h) (fun n => rfl) ?_
    refine ab_Ex.ifc (c := x0 < 6) (SA := (14, [(0, .ref 40), (1, .int x0)], [], ab_dD h)) (SB := (10, [(0, .ref 40), (1, .int x0)], [], ab_dD h)) (fun n => rfl) (fun c5 => ?_) (fun c5 => ?_)
    · replace hf := (if_pos c5).symm.trans hf
      refine ab_Ex.blk (k := 3) (pc' := 19) (lv' := [(0, .ref 40), (1, .int x0)]) (st' := [.int x0, .ref 42]) (sh' := ab_SH) (D' := ab_dD h) (fun n => rfl) ?_
      obtain ⟨c7, hf⟩ := ab_ask_s hf
      refine ab_Ex.grd (c := x0 < 0 ∨ 6 ≤ (x0 : Int32).toNatClampNeg) (S := (20, [(0, .ref 40), (1, .int x0)], [.int ((h.1 42 (x0 : Int32).toNatClampNeg))], ab_dD h)) (fun n => rfl) c7 ?_
      refine ab_Ex.blk (k := 6) (pc' := 28) (lv' := [(2, .int ((h.1 42 (x0 : Int32).toNatClampNeg))), (0, .ref 40)]) (st' := [.int ((h.1 40 3)), .int ((h.1 42 (x0 : Int32).toNatClampNeg)), .ref 40, .ref 40]) (sh' := ab_SH) (D' := ab_dD h) (fun n => rfl) ?_
      obtain ⟨r8, hr8, hf⟩ := ab_bind_s hf
      refine ab_Ex.call (d := d + 2) (M2 := 53) (as := [.ref 40, .int ((h.1 42 (x0 : Int32).toNatClampNeg)), .int ((h.1 40 3))]) (rest := [.ref 40]) (fun n => rfl) rfl (Nat.not_lt.mpr (Nat.le_of_ble_eq_true rfl)) (sX4_cell (d + 2) X ((h.1 42 (x0 : Int32).toNatClampNeg)) ((h.1 40 3)) h _ hr8) (fun r hr => ?_)
      subst hr
      show ab_Ex X (d + 3) 57 31 [(2, .int ((h.1 42 (x0 : Int32).toNatClampNeg))), (0, .ref 40)] [.long r8, .ref 40] ab_SH (ab_dD h) _
      refine ab_Ex.blk (k := 3) (pc' := 34) (lv' := [(2, .int ((h.1 42 (x0 : Int32).toNatClampNeg))), (0, .ref 40)]) (st' := [.int ((h.1 42 (x0 : Int32).toNatClampNeg)), .int ((h.1 42 (x0 : Int32).toNatClampNeg)), .ref 40, .long r8, .ref 40]) (sh' := ab_SH) (D' := ab_dD h) (fun n => rfl) ?_
      obtain ⟨r9, hr9, hf⟩ := ab_bind_s hf
      refine ab_Ex.call (d := d + 2) (M2 := 53) (as := [.ref 40, .int ((h.1 42 (x0 : Int32).toNatClampNeg)), .int ((h.1 42 (x0 : Int32).toNatClampNeg))]) (rest := [.long r8, .ref 40]) (fun n => rfl) rfl (Nat.not_lt.mpr (Nat.le_of_ble_eq_true rfl)) (sX4_cell (d + 2) X ((h.1 42 (x0 : Int32).toNatClampNeg)) ((h.1 42 (x0 : Int32).toNatClampNeg)) h _ hr9) (fun r hr => ?_)
      subst hr
      show ab_Ex X (d + 3) 57 37 [(2, .int ((h.1 42 (x0 : Int32).toNatClampNeg))), (0, .ref 40)] [.long r9, .long r8, .ref 40] ab_SH (ab_dD h) _
      obtain ⟨r10, hr10, hf⟩ := ab_bind_s hf
      refine ab_Ex.call (d := d + 2) (M2 := 58) (as := [.ref 40, .long r8, .long r9]) (rest := []) (fun n => rfl) rfl (Nat.not_lt.mpr (Nat.le_of_ble_eq_true rfl)) (sX4_answer (d) X r8 r9 h _ hr10) (fun r hr => ?_)
      subst hr
      show ab_Ex X (d + 3) 57 40 [(2, .int ((h.1 42 (x0 : Int32).toNatClampNeg))), (0, .ref 40)] [] ab_SH (ab_dD r10) _
      obtain rfl := Option.some.inj hf
      exact ab_Ex.ret (fun n => rfl) rfl
    · replace hf := (if_neg c5).symm.trans hf
      refine ab_Ex.blk (k := 8) (pc' := 28) (lv' := [(2, .int ((-1))), (0, .ref 40)]) (st' := [.int ((h.1 40 3)), .int ((-1)), .ref 40, .ref 40]) (sh' := ab_SH) (D' := ab_dD h) (fun n => rfl) ?_
      obtain ⟨r11, hr11, hf⟩ := ab_bind_s hf
      refine ab_Ex.call (d := d + 2) (M2 := 53) (as := [.ref 40, .int ((-1)), .int ((h.1 40 3))]) (rest := [.ref 40]) (fun n => rfl) rfl (Nat.not_lt.mpr (Nat.le_of_ble_eq_true rfl)) (sX4_cell (d + 2) X ((-1)) ((h.1 40 3)) h _ hr11) (fun r hr => ?_)
      subst hr
      show ab_Ex X (d + 3) 57 31 [(2, .int ((-1))), (0, .ref 40)] [.long r11, .ref 40] ab_SH (ab_dD h) _
      refine ab_Ex.blk (k := 3) (pc' := 34) (lv' := [(2, .int ((-1))), (0, .ref 40)]) (st' := [.int ((-1)), .int ((-1)), .ref 40, .long r11, .ref 40]) (sh' := ab_SH) (D' := ab_dD h) (fun n => rfl) ?_
      obtain ⟨r12, hr12, hf⟩ := ab_bind_s hf
      refine ab_Ex.call (d := d + 2) (M2 := 53) (as := [.ref 40, .int ((-1)), .int ((-1))]) (rest := [.long r11, .ref 40]) (fun n => rfl) rfl (Nat.not_lt.mpr (Nat.le_of_ble_eq_true rfl)) (sX4_cell (d + 2) X ((-1)) ((-1)) h _ hr12) (fun r hr => ?_)
      subst hr
      show ab_Ex X (d + 3) 57 37 [(2, .int ((-1))), (0, .ref 40)] [.long r12, .long r11, .ref 40] ab_SH (ab_dD h) _
      obtain ⟨r13, hr13, hf⟩ := ab_bind_s hf
      refine ab_Ex.call (d := d + 2) (M2 := 58) (as := [.ref 40, .long r11, .long r12]) (rest := []) (fun n => rfl) rfl (Nat.not_lt.mpr (Nat.le_of_ble_eq_true rfl)) (sX4_answer (d) X r11 r12 h _ hr13) (fun r hr => ?_)
      subst hr
      show ab_Ex X (d + 3) 57 40 [(2, .int ((-1))), (0, .ref 40)] [] ab_SH (ab_dD r13) _
      obtain rfl := Option.some.inj hf
      exact ab_Ex.ret (fun n => rfl) rfl
def fX4_comesTo_J105  (k73 : Int32 → Int32 → Int32 → Int32 → abJ → Option abJ) (y1 : Int32) (y2 : Int32) (y5 : Int32) (y6 : Int32) (h : abJ) : Option abJ := k73 y1 y2 y5 ((y6 + 1)) h
def fX4_comesTo_L73   : Nat → Int32 → Int32 → Int32 → Int32 → abJ → Option abJ
  | 0, _, _, _, _, _ => none
  | n + 1, y1, y2, y5, y6, h => if 6 ≤ y6 then (fX4_solve h).bind (fun r11 => (fX4_answerFor y1 r11).bind (fun r12 => some r12)) else (fX11_isIn y5 y6 h).bind (fun r13 => if r13 = 0 then fX4_comesTo_J105 (fun y1 y2 y5 y6 h => fX4_comesTo_L73 n y1 y2 y5 y6 h) y1 y2 y5 y6 h else (fX4_roadsTo y6 y2 h).bind (fun r15 => (fX4_layRow y6 y5 r15 h).bind (fun r16 => fX4_comesTo_J105 (fun y1 y2 y5 y6 h => fX4_comesTo_L73 n y1 y2 y5 y6 h) y1 y2 y5 y6 r16)))
def fX4_comesTo (x0 : Int32) (x1 : Int32) (x2 : Int32) (h : abJ) : Option abJ := (fX4_allPosts h).bind (fun r1 => (fX3_restingPosts h).bind (fun r2 => (fX4_leadInto (((1 : Int32) <<< (x1 &&& 31))) ((((r1 &&& (r2 ^^^ (-1))) &&& (((1 : Int32) <<< (x1 &&& 31)) ^^^ (-1))) &&& (((1 : Int32) <<< (x2 &&& 31)) ^^^ (-1)))) h).bind (fun r3 => (fX11_isIn r3 x0 h).bind (fun r4 => if r4 = 0 then if x0 = x1 then (fX4_answer 1 1 h).bind (fun r7 => some r7) else (fX4_answer 0 1 h).bind (fun r8 => some r8) else (fX4_number r3 h).bind (fun r9 => fX4_comesTo_L73 ab_N x0 x1 r3 0 r9)))))
set_option maxRecDepth 20000 in
theorem sX4_comesTo_J105 (d : Nat) (X : abX) (k73 : Int32 → Int32 → Int32 → Int32 → abJ → Option abJ) (hk73 : ∀ (y1 : Int32) (y2 : Int32) (y5 : Int32) (y6 : Int32) (h : abJ) (z : abJ), k73 y1 y2 y5 y6 h = some z → ab_Ex X (d + 4) 45 73 [(0, .ref 40), (1, .int y1), (2, .int y2), (5, .int y5), (6, .int y6)] [] ab_SH (ab_dD h) (fun r => r = (none, ab_SH, ab_dD z))) : ∀ (y1 : Int32) (y2 : Int32) (y5 : Int32) (y6 : Int32) (h : abJ) (z : abJ), fX4_comesTo_J105 k73 y1 y2 y5 y6 h = some z → ab_Ex X (d + 4) 45 105 [(0, .ref 40), (1, .int y1), (2, .int y2), (5, .int y5), (6, .int y6)] [] ab_SH (ab_dD h) (fun r => r = (none, ab_SH, ab_dD z)) := by
  intro y1 y2 y5 y6 h z hf
  unfold fX4_comesTo_J105 at hf
  refine ab_Ex.blk (k := 2) (pc' := 73) (lv' := [(0, .ref 40), (1, .int y1), (2, .int y2), (5, .int y5), (6, .int ((y6 + 1)))]) (st' := []) (sh' := ab_SH) (D' := ab_dD h) (fun n => rfl) ?_
  exact hk73 y1 y2 y5 ((y6 + 1)) h _ hf
set_option maxRecDepth 20000 in
theorem sX4_comesTo_L73 (d : Nat) (X : abX)   : ∀ (n : Nat), ∀ (y1 : Int32) (y2 : Int32) (y5 : Int32) (y6 : Int32) (h : abJ) (z : abJ), fX4_comesTo_L73 n y1 y2 y5 y6 h = some z → ab_Ex X (d + 4) 45 73 [(0, .ref 40), (1, .int y1), (2, .int y2), (5, .int y5), (6, .int y6)] [] ab_SH (ab_dD h) (fun r => r = (none, ab_SH, ab_dD z)) := by
  intro n
  induction n with
  | zero => intro y1 y2 y5 y6 h z hf; cases hf
  | succ n ih =>
    intro y1 y2 y5 y6 h z hf
    rw [fX4_comesTo_L73] at hf
    refine ab_Ex.blk (k := 2) (pc' := 77) (lv' := [(0, .ref 40), (1, .int y1), (2, .int y2), (5, .int y5), (6, .int y6)]) (st' := [.int 6, .int y6]) (sh' := ab_SH) (D' := ab_dD h) (fun n => rfl) ?_
    refine ab_Ex.ifc (c := 6 ≤ y6) (SA := (111, [(0, .ref 40), (1, .int y1), (2, .int y2), (5, .int y5), (6, .int y6)], [], ab_dD h)) (SB := (80, [(0, .ref 40), (1, .int y1), (2, .int y2), (5, .int y5), (6, .int y6)], [], ab_dD h)) (fun n => rfl) (fun c10 => ?_) (fun c10 => ?_)
    · replace hf := (if_pos c10).symm.trans hf
      refine ab_Ex.blk (k := 1) (pc' := 112) (lv' := [(0, .ref 40), (1, .int y1), (2, .int y2), (5, .int y5), (6, .int y6)]) (st' := [.ref 40]) (sh' := ab_SH) (D' := ab_dD h) (fun n => rfl) ?_
      obtain ⟨r11, hr11, hf⟩ := ab_bind_s hf
      refine ab_Ex.call (d := d + 3) (M2 := 55) (as := [.ref 40]) (rest := []) (fun n => rfl) rfl (Nat.not_lt.mpr (Nat.le_of_ble_eq_true rfl)) (sX4_solve (d + 1) X  h _ hr11) (fun r hr => ?_)
      subst hr
      show ab_Ex X (d + 4) 45 115 [(0, .ref 40), (1, .int y1), (2, .int y2), (5, .int y5), (6, .int y6)] [] ab_SH (ab_dD r11) _
      refine ab_Ex.blk (k := 2) (pc' := 117) (lv' := [(0, .ref 40), (1, .int y1), (2, .int y2), (5, .int y5), (6, .int y6)]) (st' := [.int y1, .ref 40]) (sh' := ab_SH) (D' := ab_dD r11) (fun n => rfl) ?_
      obtain ⟨r12, hr12, hf⟩ := ab_bind_s hf
      refine ab_Ex.call (d := d + 3) (M2 := 57) (as := [.ref 40, .int y1]) (rest := []) (fun n => rfl) rfl (Nat.not_lt.mpr (Nat.le_of_ble_eq_true rfl)) (sX4_answerFor (d) X y1 r11 _ hr12) (fun r hr => ?_)
      subst hr
      show ab_Ex X (d + 4) 45 120 [(0, .ref 40), (1, .int y1), (2, .int y2), (5, .int y5), (6, .int y6)] [] ab_SH (ab_dD r12) _
      obtain rfl := Option.some.inj hf
      exact ab_Ex.ret (fun n => rfl) rfl
    · replace hf := (if_neg c10).symm.trans hf
      refine ab_Ex.blk (k := 2) (pc' := 84) (lv' := [(0, .ref 40), (1, .int y1), (2, .int y2), (5, .int y5), (6, .int y6)]) (st' := [.int y6, .int y5]) (sh' := ab_SH) (D' := ab_dD h) (fun n => rfl) ?_
      obtain ⟨r13, hr13, hf⟩ := ab_bind_s hf
      refine ab_Ex.call (d := d + 3) (M2 := 174) (as := [.int y5, .int y6]) (rest := []) (fun n => rfl) rfl (Nat.not_lt.mpr (Nat.le_of_ble_eq_true rfl)) (sX11_isIn (d + 3) X y5 y6 h _ hr13) (fun r hr => ?_)
      subst hr
      show ab_Ex X (d + 4) 45 87 [(0, .ref 40), (1, .int y1), (2, .int y2), (5, .int y5), (6, .int y6)] [.int r13] ab_SH (ab_dD h) _
      refine ab_Ex.ifc (c := r13 = 0) (SA := (105, [(0, .ref 40), (1, .int y1), (2, .int y2), (5, .int y5), (6, .int y6)], [], ab_dD h)) (SB := (90, [(0, .ref 40), (1, .int y1), (2, .int y2), (5, .int y5), (6, .int y6)], [], ab_dD h)) (fun n => rfl) (fun c14 => ?_) (fun c14 => ?_)
      · replace hf := (if_pos c14).symm.trans hf
        exact sX4_comesTo_J105 d X (fun y1 y2 y5 y6 h => fX4_comesTo_L73 n y1 y2 y5 y6 h) (fun y1 y2 y5 y6 h z hz => ih y1 y2 y5 y6 h z hz) y1 y2 y5 y6 h _ hf
      · replace hf := (if_neg c14).symm.trans hf
        refine ab_Ex.blk (k := 6) (pc' := 99) (lv' := [(0, .ref 40), (1, .int y1), (2, .int y2), (5, .int y5), (6, .int y6)]) (st' := [.int y2, .int y6, .ref 40, .int y5, .int y6, .ref 40]) (sh' := ab_SH) (D' := ab_dD h) (fun n => rfl) ?_
        obtain ⟨r15, hr15, hf⟩ := ab_bind_s hf
        refine ab_Ex.call (d := d + 3) (M2 := 50) (as := [.ref 40, .int y6, .int y2]) (rest := [.int y5, .int y6, .ref 40]) (fun n => rfl) rfl (Nat.not_lt.mpr (Nat.le_of_ble_eq_true rfl)) (sX4_roadsTo (d + 1) X y6 y2 h _ hr15) (fun r hr => ?_)
        subst hr
        show ab_Ex X (d + 4) 45 102 [(0, .ref 40), (1, .int y1), (2, .int y2), (5, .int y5), (6, .int y6)] [.int r15, .int y5, .int y6, .ref 40] ab_SH (ab_dD h) _
        obtain ⟨r16, hr16, hf⟩ := ab_bind_s hf
        refine ab_Ex.call (d := d + 3) (M2 := 52) (as := [.ref 40, .int y6, .int y5, .int r15]) (rest := []) (fun n => rfl) rfl (Nat.not_lt.mpr (Nat.le_of_ble_eq_true rfl)) (sX4_layRow (d) X y6 y5 r15 h _ hr16) (fun r hr => ?_)
        subst hr
        show ab_Ex X (d + 4) 45 105 [(0, .ref 40), (1, .int y1), (2, .int y2), (5, .int y5), (6, .int y6)] [] ab_SH (ab_dD r16) _
        exact sX4_comesTo_J105 d X (fun y1 y2 y5 y6 h => fX4_comesTo_L73 n y1 y2 y5 y6 h) (fun y1 y2 y5 y6 h z hz => ih y1 y2 y5 y6 h z hz) y1 y2 y5 y6 r16 _ hf
set_option maxRecDepth 20000 in
theorem sX4_comesTo (d : Nat) (X : abX) (x0 : Int32) (x1 : Int32) (x2 : Int32) (h : abJ) (z : abJ) (hf : fX4_comesTo x0 x1 x2 h = some z) : ab_Ex X (d + 4) 45 0 [(0, .ref 40), (1, .int x0), (2, .int x1), (3, .int x2)] [] ab_SH (ab_dD h) (fun r => r = (none, ab_SH, ab_dD z)) := by
  unfold fX4_comesTo at hf
  refine ab_Ex.blk (k := 1) (pc' := 1) (lv' := [(0, .ref 40), (1, .int x0), (2, .int x1), (3, .int x2)]) (st' := [.ref 40]) (sh' := ab_SH) (D' := ab_dD h) (fun n => rfl) ?_
  obtain ⟨r1, hr1, hf⟩ := ab_bind_s hf
  refine ab_Ex.call (d := d + 3) (M2 := 47) (as := [.ref 40]) (rest := []) (fun n => rfl) rfl (Nat.not_lt.mpr (Nat.le_of_ble_eq_true rfl)) (sX4_allPosts (d + 3) X  h _ hr1) (fun r hr => ?_)
  subst hr
  show ab_Ex X (d + 4) 45 4 [(0, .ref 40), (1, .int x0), (2, .int x1), (3, .int x2)] [.int r1] ab_SH (ab_dD h) _
  refine ab_Ex.blk (k := 2) (pc' := 8) (lv' := [(0, .ref 40), (1, .int x0), (2, .int x1), (3, .int x2)]) (st' := [.ref 1, .int r1]) (sh' := ab_SH) (D' := ab_dD h) (fun n => rfl) ?_
  obtain ⟨r2, hr2, hf⟩ := ab_bind_s hf
  refine ab_Ex.call (d := d + 3) (M2 := 43) (as := [.ref 1]) (rest := [.int r1]) (fun n => rfl) rfl (Nat.not_lt.mpr (Nat.le_of_ble_eq_true rfl)) (sX3_restingPosts (d) X  h _ hr2) (fun r hr => ?_)
  subst hr
  show ab_Ex X (d + 4) 45 11 [(0, .ref 40), (1, .int x0), (2, .int x1), (3, .int x2)] [.int r2, .int r1] ab_SH (ab_dD h) _
  refine ab_Ex.blk (k := 21) (pc' := 34) (lv' := [(4, .int ((((r1 &&& (r2 ^^^ (-1))) &&& (((1 : Int32) <<< (x1 &&& 31)) ^^^ (-1))) &&& (((1 : Int32) <<< (x2 &&& 31)) ^^^ (-1))))), (0, .ref 40), (1, .int x0), (2, .int x1), (3, .int x2)]) (st' := [.int ((((r1 &&& (r2 ^^^ (-1))) &&& (((1 : Int32) <<< (x1 &&& 31)) ^^^ (-1))) &&& (((1 : Int32) <<< (x2 &&& 31)) ^^^ (-1)))), .int (((1 : Int32) <<< (x1 &&& 31))), .ref 40]) (sh' := ab_SH) (D' := ab_dD h) (fun n => rfl) ?_
  obtain ⟨r3, hr3, hf⟩ := ab_bind_s hf
  refine ab_Ex.call (d := d + 3) (M2 := 48) (as := [.ref 40, .int (((1 : Int32) <<< (x1 &&& 31))), .int ((((r1 &&& (r2 ^^^ (-1))) &&& (((1 : Int32) <<< (x1 &&& 31)) ^^^ (-1))) &&& (((1 : Int32) <<< (x2 &&& 31)) ^^^ (-1))))]) (rest := []) (fun n => rfl) rfl (Nat.not_lt.mpr (Nat.le_of_ble_eq_true rfl)) (sX4_leadInto (d + 1) X (((1 : Int32) <<< (x1 &&& 31))) ((((r1 &&& (r2 ^^^ (-1))) &&& (((1 : Int32) <<< (x1 &&& 31)) ^^^ (-1))) &&& (((1 : Int32) <<< (x2 &&& 31)) ^^^ (-1)))) h _ hr3) (fun r hr => ?_)
  subst hr
  show ab_Ex X (d + 4) 45 37 [(4, .int ((((r1 &&& (r2 ^^^ (-1))) &&& (((1 : Int32) <<< (x1 &&& 31)) ^^^ (-1))) &&& (((1 : Int32) <<< (x2 &&& 31)) ^^^ (-1))))), (0, .ref 40), (1, .int x0), (2, .int x1), (3, .int x2)] [.int r3] ab_SH (ab_dD h) _
  refine ab_Ex.blk (k := 3) (pc' := 42) (lv' := [(5, .int r3), (4, .int ((((r1 &&& (r2 ^^^ (-1))) &&& (((1 : Int32) <<< (x1 &&& 31)) ^^^ (-1))) &&& (((1 : Int32) <<< (x2 &&& 31)) ^^^ (-1))))), (0, .ref 40), (1, .int x0), (2, .int x1), (3, .int x2)]) (st' := [.int x0, .int r3]) (sh' := ab_SH) (D' := ab_dD h) (fun n => rfl) ?_
  obtain ⟨r4, hr4, hf⟩ := ab_bind_s hf
  refine ab_Ex.call (d := d + 3) (M2 := 174) (as := [.int r3, .int x0]) (rest := []) (fun n => rfl) rfl (Nat.not_lt.mpr (Nat.le_of_ble_eq_true rfl)) (sX11_isIn (d + 3) X r3 x0 h _ hr4) (fun r hr => ?_)
  subst hr
  show ab_Ex X (d + 4) 45 45 [(5, .int r3), (4, .int ((((r1 &&& (r2 ^^^ (-1))) &&& (((1 : Int32) <<< (x1 &&& 31)) ^^^ (-1))) &&& (((1 : Int32) <<< (x2 &&& 31)) ^^^ (-1))))), (0, .ref 40), (1, .int x0), (2, .int x1), (3, .int x2)] [.int r4] ab_SH (ab_dD h) _
  refine ab_Ex.ifc (c := r4 = 0) (SA := (48, [(5, .int r3), (4, .int ((((r1 &&& (r2 ^^^ (-1))) &&& (((1 : Int32) <<< (x1 &&& 31)) ^^^ (-1))) &&& (((1 : Int32) <<< (x2 &&& 31)) ^^^ (-1))))), (0, .ref 40), (1, .int x0), (2, .int x1), (3, .int x2)], [], ab_dD h)) (SB := (64, [(5, .int r3), (4, .int ((((r1 &&& (r2 ^^^ (-1))) &&& (((1 : Int32) <<< (x1 &&& 31)) ^^^ (-1))) &&& (((1 : Int32) <<< (x2 &&& 31)) ^^^ (-1))))), (0, .ref 40), (1, .int x0), (2, .int x1), (3, .int x2)], [], ab_dD h)) (fun n => rfl) (fun c5 => ?_) (fun c5 => ?_)
  · replace hf := (if_pos c5).symm.trans hf
    refine ab_Ex.blk (k := 3) (pc' := 51) (lv' := [(5, .int r3), (4, .int ((((r1 &&& (r2 ^^^ (-1))) &&& (((1 : Int32) <<< (x1 &&& 31)) ^^^ (-1))) &&& (((1 : Int32) <<< (x2 &&& 31)) ^^^ (-1))))), (0, .ref 40), (1, .int x0), (2, .int x1), (3, .int x2)]) (st' := [.int x1, .int x0, .ref 40]) (sh' := ab_SH) (D' := ab_dD h) (fun n => rfl) ?_
    refine ab_Ex.ifc (c := x0 = x1) (SA := (54, [(5, .int r3), (4, .int ((((r1 &&& (r2 ^^^ (-1))) &&& (((1 : Int32) <<< (x1 &&& 31)) ^^^ (-1))) &&& (((1 : Int32) <<< (x2 &&& 31)) ^^^ (-1))))), (0, .ref 40), (1, .int x0), (2, .int x1), (3, .int x2)], [.ref 40], ab_dD h)) (SB := (58, [(5, .int r3), (4, .int ((((r1 &&& (r2 ^^^ (-1))) &&& (((1 : Int32) <<< (x1 &&& 31)) ^^^ (-1))) &&& (((1 : Int32) <<< (x2 &&& 31)) ^^^ (-1))))), (0, .ref 40), (1, .int x0), (2, .int x1), (3, .int x2)], [.ref 40], ab_dD h)) (fun n => rfl) (fun c6 => ?_) (fun c6 => ?_)
    · replace hf := (if_pos c6).symm.trans hf
      refine ab_Ex.blk (k := 3) (pc' := 60) (lv' := []) (st' := [.long 1, .long 1, .ref 40]) (sh' := ab_SH) (D' := ab_dD h) (fun n => rfl) ?_
      obtain ⟨r7, hr7, hf⟩ := ab_bind_s hf
      refine ab_Ex.call (d := d + 3) (M2 := 58) (as := [.ref 40, .long 1, .long 1]) (rest := []) (fun n => rfl) rfl (Nat.not_lt.mpr (Nat.le_of_ble_eq_true rfl)) (sX4_answer (d + 1) X 1 1 h _ hr7) (fun r hr => ?_)
      subst hr
      show ab_Ex X (d + 4) 45 63 [] [] ab_SH (ab_dD r7) _
      obtain rfl := Option.some.inj hf
      exact ab_Ex.ret (fun n => rfl) rfl
    · replace hf := (if_neg c6).symm.trans hf
      refine ab_Ex.blk (k := 2) (pc' := 60) (lv' := []) (st' := [.long 1, .long 0, .ref 40]) (sh' := ab_SH) (D' := ab_dD h) (fun n => rfl) ?_
      obtain ⟨r8, hr8, hf⟩ := ab_bind_s hf
      refine ab_Ex.call (d := d + 3) (M2 := 58) (as := [.ref 40, .long 0, .long 1]) (rest := []) (fun n => rfl) rfl (Nat.not_lt.mpr (Nat.le_of_ble_eq_true rfl)) (sX4_answer (d + 1) X 0 1 h _ hr8) (fun r hr => ?_)
      subst hr
      show ab_Ex X (d + 4) 45 63 [] [] ab_SH (ab_dD r8) _
      obtain rfl := Option.some.inj hf
      exact ab_Ex.ret (fun n => rfl) rfl
  · replace hf := (if_neg c5).symm.trans hf
    refine ab_Ex.blk (k := 2) (pc' := 67) (lv' := [(5, .int r3), (4, .int ((((r1 &&& (r2 ^^^ (-1))) &&& (((1 : Int32) <<< (x1 &&& 31)) ^^^ (-1))) &&& (((1 : Int32) <<< (x2 &&& 31)) ^^^ (-1))))), (0, .ref 40), (1, .int x0), (2, .int x1), (3, .int x2)]) (st' := [.int r3, .ref 40]) (sh' := ab_SH) (D' := ab_dD h) (fun n => rfl) ?_
    obtain ⟨r9, hr9, hf⟩ := ab_bind_s hf
    refine ab_Ex.call (d := d + 3) (M2 := 51) (as := [.ref 40, .int r3]) (rest := []) (fun n => rfl) rfl (Nat.not_lt.mpr (Nat.le_of_ble_eq_true rfl)) (sX4_number (d + 2) X r3 h _ hr9) (fun r hr => ?_)
    subst hr
    show ab_Ex X (d + 4) 45 70 [(5, .int r3), (4, .int ((((r1 &&& (r2 ^^^ (-1))) &&& (((1 : Int32) <<< (x1 &&& 31)) ^^^ (-1))) &&& (((1 : Int32) <<< (x2 &&& 31)) ^^^ (-1))))), (0, .ref 40), (1, .int x0), (2, .int x1), (3, .int x2)] [] ab_SH (ab_dD r9) _
    refine ab_Ex.blk (k := 2) (pc' := 73) (lv' := [(0, .ref 40), (1, .int x0), (2, .int x1), (5, .int r3), (6, .int 0)]) (st' := []) (sh' := ab_SH) (D' := ab_dD r9) (fun n => rfl) ?_
    exact sX4_comesTo_L73 d X  ab_N x0 x1 r3 0 r9 _ hf
def fX4_comeFrom_J99  (h : abJ) (k15 : Int32 → Int32 → Int32 → Option Int32) (y2 : Int32) (y3 : Int32) (y4 : Int32) : Option Int32 := k15 y2 y3 ((y4 + 1))
def fX4_comeFrom_L58  (h : abJ) (k15 : Int32 → Int32 → Int32 → Option Int32) : Nat → Int32 → Int32 → Int32 → Int32 → Int32 → Option Int32
  | 0, _, _, _, _, _ => none
  | n + 1, y2, y3, y4, y5, y6 => if y5 = 0 then fX4_comeFrom_J99 h k15 y2 y3 y4 else (fX3_roadsOf 1 y4 h).bind (fun r6 => if r6 ≤ y6 then fX4_comeFrom_J99 h k15 y2 y3 y4 else (fX3_leadsTo y4 y6 h).bind (fun r8 => fX4_comeFrom_L58 h k15 n ((y2 ||| ((1 : Int32) <<< (r8 &&& 31)))) y3 y4 y5 ((y6 + 1))))
def fX4_comeFrom_J53  (h : abJ) (k15 : Int32 → Int32 → Int32 → Option Int32) (y2 : Int32) (y3 : Int32) (y4 : Int32) (t0 : Int32) : Option Int32 := fX4_comeFrom_L58 h k15 ab_N y2 y3 y4 t0 0
def fX4_comeFrom_J52  (h : abJ) (k15 : Int32 → Int32 → Int32 → Option Int32) (y2 : Int32) (y3 : Int32) (y4 : Int32) : Option Int32 := fX4_comeFrom_J53 h k15 y2 y3 y4 0
def fX4_comeFrom_L15  (h : abJ) (k6 : Int32 → Int32 → Option Int32) : Nat → Int32 → Int32 → Int32 → Option Int32
  | 0, _, _, _ => none
  | n + 1, y2, y3, y4 => if (h.1 1 0) ≤ y4 then k6 y2 ((y3 + 1)) else (fX11_isIn y2 y4 h).bind (fun r3 => if r3 = 0 then fX4_comeFrom_J52 h (fun y2 y3 y4 => fX4_comeFrom_L15 h k6 n y2 y3 y4) y2 y3 y4 else (fX3_restsAt y4 h).bind (fun r9 => if r9 = 0 then fX4_comeFrom_J53 h (fun y2 y3 y4 => fX4_comeFrom_L15 h k6 n y2 y3 y4) y2 y3 y4 1 else fX4_comeFrom_J52 h (fun y2 y3 y4 => fX4_comeFrom_L15 h k6 n y2 y3 y4) y2 y3 y4))
def fX4_comeFrom_L6  (h : abJ)  : Nat → Int32 → Int32 → Option Int32
  | 0, _, _ => none
  | n + 1, y2, y3 => if 6 ≤ y3 then some y2 else fX4_comeFrom_L15 h (fun y2 y3 => fX4_comeFrom_L6 h n y2 y3) ab_N y2 y3 0
def fX4_comeFrom (x0 : Int32) (h : abJ) : Option Int32 := fX4_comeFrom_L6 h ab_N (((1 : Int32) <<< (x0 &&& 31))) 0
set_option maxRecDepth 20000 in
theorem sX4_comeFrom_J99 (d : Nat) (X : abX) (h : abJ) (k15 : Int32 → Int32 → Int32 → Option Int32) (hk15 : ∀ (y2 : Int32) (y3 : Int32) (y4 : Int32) (z : Int32), k15 y2 y3 y4 = some z → ab_Ex X (d + 3) 49 15 [(0, .ref 40), (2, .int y2), (3, .int y3), (4, .int y4)] [] ab_SH (ab_dD h) (fun r => r = (some (.int z), ab_SH, ab_dD h))) : ∀ (y2 : Int32) (y3 : Int32) (y4 : Int32) (z : Int32), fX4_comeFrom_J99 h k15 y2 y3 y4 = some z → ab_Ex X (d + 3) 49 99 [(0, .ref 40), (2, .int y2), (3, .int y3), (4, .int y4)] [] ab_SH (ab_dD h) (fun r => r = (some (.int z), ab_SH, ab_dD h)) := by
  intro y2 y3 y4 z hf
  unfold fX4_comeFrom_J99 at hf
  refine ab_Ex.blk (k := 2) (pc' := 15) (lv' := [(0, .ref 40), (2, .int y2), (3, .int y3), (4, .int ((y4 + 1)))]) (st' := []) (sh' := ab_SH) (D' := ab_dD h) (fun n => rfl) ?_
  exact hk15 y2 y3 ((y4 + 1)) _ hf
set_option maxRecDepth 20000 in
theorem sX4_comeFrom_L58 (d : Nat) (X : abX) (h : abJ) (k15 : Int32 → Int32 → Int32 → Option Int32) (hk15 : ∀ (y2 : Int32) (y3 : Int32) (y4 : Int32) (z : Int32), k15 y2 y3 y4 = some z → ab_Ex X (d + 3) 49 15 [(0, .ref 40), (2, .int y2), (3, .int y3), (4, .int y4)] [] ab_SH (ab_dD h) (fun r => r = (some (.int z), ab_SH, ab_dD h))) : ∀ (n : Nat), ∀ (y2 : Int32) (y3 : Int32) (y4 : Int32) (y5 : Int32) (y6 : Int32) (z : Int32), fX4_comeFrom_L58 h k15 n y2 y3 y4 y5 y6 = some z → ab_Ex X (d + 3) 49 58 [(0, .ref 40), (2, .int y2), (3, .int y3), (4, .int y4), (5, .int y5), (6, .int y6)] [] ab_SH (ab_dD h) (fun r => r = (some (.int z), ab_SH, ab_dD h)) := by
  intro n
  induction n with
  | zero => intro y2 y3 y4 y5 y6 z hf; cases hf
  | succ n ih =>
    intro y2 y3 y4 y5 y6 z hf
    rw [fX4_comeFrom_L58] at hf
    refine ab_Ex.blk (k := 1) (pc' := 60) (lv' := [(0, .ref 40), (2, .int y2), (3, .int y3), (4, .int y4), (5, .int y5), (6, .int y6)]) (st' := [.int y5]) (sh' := ab_SH) (D' := ab_dD h) (fun n => rfl) ?_
    refine ab_Ex.ifc (c := y5 = 0) (SA := (99, [(0, .ref 40), (2, .int y2), (3, .int y3), (4, .int y4), (5, .int y5), (6, .int y6)], [], ab_dD h)) (SB := (63, [(0, .ref 40), (2, .int y2), (3, .int y3), (4, .int y4), (5, .int y5), (6, .int y6)], [], ab_dD h)) (fun n => rfl) (fun c5 => ?_) (fun c5 => ?_)
    · replace hf := (if_pos c5).symm.trans hf
      exact sX4_comeFrom_J99 d X h k15 hk15 y2 y3 y4 _ hf
    · replace hf := (if_neg c5).symm.trans hf
      refine ab_Ex.blk (k := 4) (pc' := 71) (lv' := [(0, .ref 40), (2, .int y2), (3, .int y3), (4, .int y4), (5, .int y5), (6, .int y6)]) (st' := [.int y4, .ref 1, .int y6]) (sh' := ab_SH) (D' := ab_dD h) (fun n => rfl) ?_
      obtain ⟨r6, hr6, hf⟩ := ab_bind_s hf
      refine ab_Ex.call (d := d + 2) (M2 := 35) (as := [.ref 1, .int y4]) (rest := [.int y6]) (fun n => rfl) rfl (Nat.not_lt.mpr (Nat.le_of_ble_eq_true rfl)) (sX3_roadsOf_1 (d + 2) X y4 h _ hr6) (fun r hr => ?_)
      subst hr
      show ab_Ex X (d + 3) 49 74 [(0, .ref 40), (2, .int y2), (3, .int y3), (4, .int y4), (5, .int y5), (6, .int y6)] [.int r6, .int y6] ab_SH (ab_dD h) _
      refine ab_Ex.ifc (c := r6 ≤ y6) (SA := (99, [(0, .ref 40), (2, .int y2), (3, .int y3), (4, .int y4), (5, .int y5), (6, .int y6)], [], ab_dD h)) (SB := (77, [(0, .ref 40), (2, .int y2), (3, .int y3), (4, .int y4), (5, .int y5), (6, .int y6)], [], ab_dD h)) (fun n => rfl) (fun c7 => ?_) (fun c7 => ?_)
      · replace hf := (if_pos c7).symm.trans hf
        exact sX4_comeFrom_J99 d X h k15 hk15 y2 y3 y4 _ hf
      · replace hf := (if_neg c7).symm.trans hf
        refine ab_Ex.blk (k := 6) (pc' := 87) (lv' := [(0, .ref 40), (2, .int y2), (3, .int y3), (4, .int y4), (5, .int y5), (6, .int y6)]) (st' := [.int y6, .int y4, .ref 1, .int 1, .int y2]) (sh' := ab_SH) (D' := ab_dD h) (fun n => rfl) ?_
        obtain ⟨r8, hr8, hf⟩ := ab_bind_s hf
        refine ab_Ex.call (d := d + 2) (M2 := 36) (as := [.ref 1, .int y4, .int y6]) (rest := [.int 1, .int y2]) (fun n => rfl) rfl (Nat.not_lt.mpr (Nat.le_of_ble_eq_true rfl)) (sX3_leadsTo (d + 1) X y4 y6 h _ hr8) (fun r hr => ?_)
        subst hr
        show ab_Ex X (d + 3) 49 90 [(0, .ref 40), (2, .int y2), (3, .int y3), (4, .int y4), (5, .int y5), (6, .int y6)] [.int r8, .int 1, .int y2] ab_SH (ab_dD h) _
        refine ab_Ex.blk (k := 5) (pc' := 58) (lv' := [(0, .ref 40), (2, .int ((y2 ||| ((1 : Int32) <<< (r8 &&& 31))))), (3, .int y3), (4, .int y4), (5, .int y5), (6, .int ((y6 + 1)))]) (st' := []) (sh' := ab_SH) (D' := ab_dD h) (fun n => rfl) ?_
        exact ih ((y2 ||| ((1 : Int32) <<< (r8 &&& 31)))) y3 y4 y5 ((y6 + 1)) _ hf
set_option maxRecDepth 20000 in
theorem sX4_comeFrom_J53 (d : Nat) (X : abX) (h : abJ) (k15 : Int32 → Int32 → Int32 → Option Int32) (hk15 : ∀ (y2 : Int32) (y3 : Int32) (y4 : Int32) (z : Int32), k15 y2 y3 y4 = some z → ab_Ex X (d + 3) 49 15 [(0, .ref 40), (2, .int y2), (3, .int y3), (4, .int y4)] [] ab_SH (ab_dD h) (fun r => r = (some (.int z), ab_SH, ab_dD h))) : ∀ (y2 : Int32) (y3 : Int32) (y4 : Int32) (t0 : Int32) (z : Int32), fX4_comeFrom_J53 h k15 y2 y3 y4 t0 = some z → ab_Ex X (d + 3) 49 53 [(0, .ref 40), (2, .int y2), (3, .int y3), (4, .int y4)] [.int t0] ab_SH (ab_dD h) (fun r => r = (some (.int z), ab_SH, ab_dD h)) := by
  intro y2 y3 y4 t0 z hf
  unfold fX4_comeFrom_J53 at hf
  refine ab_Ex.blk (k := 3) (pc' := 58) (lv' := [(0, .ref 40), (2, .int y2), (3, .int y3), (4, .int y4), (5, .int t0), (6, .int 0)]) (st' := []) (sh' := ab_SH) (D' := ab_dD h) (fun n => rfl) ?_
  exact sX4_comeFrom_L58 d X h k15 hk15 ab_N y2 y3 y4 t0 0 _ hf
set_option maxRecDepth 20000 in
theorem sX4_comeFrom_J52 (d : Nat) (X : abX) (h : abJ) (k15 : Int32 → Int32 → Int32 → Option Int32) (hk15 : ∀ (y2 : Int32) (y3 : Int32) (y4 : Int32) (z : Int32), k15 y2 y3 y4 = some z → ab_Ex X (d + 3) 49 15 [(0, .ref 40), (2, .int y2), (3, .int y3), (4, .int y4)] [] ab_SH (ab_dD h) (fun r => r = (some (.int z), ab_SH, ab_dD h))) : ∀ (y2 : Int32) (y3 : Int32) (y4 : Int32) (z : Int32), fX4_comeFrom_J52 h k15 y2 y3 y4 = some z → ab_Ex X (d + 3) 49 52 [(0, .ref 40), (2, .int y2), (3, .int y3), (4, .int y4)] [] ab_SH (ab_dD h) (fun r => r = (some (.int z), ab_SH, ab_dD h)) := by
  intro y2 y3 y4 z hf
  unfold fX4_comeFrom_J52 at hf
  refine ab_Ex.blk (k := 1) (pc' := 53) (lv' := [(0, .ref 40), (2, .int y2), (3, .int y3), (4, .int y4)]) (st' := [.int 0]) (sh' := ab_SH) (D' := ab_dD h) (fun n => rfl) ?_
  exact sX4_comeFrom_J53 d X h k15 hk15 y2 y3 y4 0 _ hf
set_option maxRecDepth 20000 in
theorem sX4_comeFrom_L15 (d : Nat) (X : abX) (h : abJ) (k6 : Int32 → Int32 → Option Int32) (hk6 : ∀ (y2 : Int32) (y3 : Int32) (z : Int32), k6 y2 y3 = some z → ab_Ex X (d + 3) 49 6 [(0, .ref 40), (2, .int y2), (3, .int y3)] [] ab_SH (ab_dD h) (fun r => r = (some (.int z), ab_SH, ab_dD h))) : ∀ (n : Nat), ∀ (y2 : Int32) (y3 : Int32) (y4 : Int32) (z : Int32), fX4_comeFrom_L15 h k6 n y2 y3 y4 = some z → ab_Ex X (d + 3) 49 15 [(0, .ref 40), (2, .int y2), (3, .int y3), (4, .int y4)] [] ab_SH (ab_dD h) (fun r => r = (some (.int z), ab_SH, ab_dD h)) := by
  intro n
  induction n with
  | zero => intro y2 y3 y4 z hf; cases hf
  | succ n ih =>
    intro y2 y3 y4 z hf
    rw [fX4_comeFrom_L15] at hf
    refine ab_Ex.blk (k := 4) (pc' := 24) (lv' := [(0, .ref 40), (2, .int y2), (3, .int y3), (4, .int y4)]) (st' := [.int ((h.1 1 0)), .int y4]) (sh' := ab_SH) (D' := ab_dD h) (fun n => rfl) ?_
    refine ab_Ex.ifc (c := (h.1 1 0) ≤ y4) (SA := (105, [(0, .ref 40), (2, .int y2), (3, .int y3), (4, .int y4)], [], ab_dD h)) (SB := (27, [(0, .ref 40), (2, .int y2), (3, .int y3), (4, .int y4)], [], ab_dD h)) (fun n => rfl) (fun c2 => ?_) (fun c2 => ?_)
    · replace hf := (if_pos c2).symm.trans hf
      refine ab_Ex.blk (k := 2) (pc' := 6) (lv' := [(0, .ref 40), (2, .int y2), (3, .int ((y3 + 1)))]) (st' := []) (sh' := ab_SH) (D' := ab_dD h) (fun n => rfl) ?_
      exact hk6 y2 ((y3 + 1)) _ hf
    · replace hf := (if_neg c2).symm.trans hf
      refine ab_Ex.blk (k := 2) (pc' := 30) (lv' := [(0, .ref 40), (2, .int y2), (3, .int y3), (4, .int y4)]) (st' := [.int y4, .int y2]) (sh' := ab_SH) (D' := ab_dD h) (fun n => rfl) ?_
      obtain ⟨r3, hr3, hf⟩ := ab_bind_s hf
      refine ab_Ex.call (d := d + 2) (M2 := 174) (as := [.int y2, .int y4]) (rest := []) (fun n => rfl) rfl (Nat.not_lt.mpr (Nat.le_of_ble_eq_true rfl)) (sX11_isIn (d + 2) X y2 y4 h _ hr3) (fun r hr => ?_)
      subst hr
      show ab_Ex X (d + 3) 49 33 [(0, .ref 40), (2, .int y2), (3, .int y3), (4, .int y4)] [.int r3] ab_SH (ab_dD h) _
      refine ab_Ex.ifc (c := r3 = 0) (SA := (52, [(0, .ref 40), (2, .int y2), (3, .int y3), (4, .int y4)], [], ab_dD h)) (SB := (36, [(0, .ref 40), (2, .int y2), (3, .int y3), (4, .int y4)], [], ab_dD h)) (fun n => rfl) (fun c4 => ?_) (fun c4 => ?_)
      · replace hf := (if_pos c4).symm.trans hf
        exact sX4_comeFrom_J52 d X h (fun y2 y3 y4 => fX4_comeFrom_L15 h k6 n y2 y3 y4) (fun y2 y3 y4 z hz => ih y2 y3 y4 z hz) y2 y3 y4 _ hf
      · replace hf := (if_neg c4).symm.trans hf
        refine ab_Ex.blk (k := 3) (pc' := 42) (lv' := [(0, .ref 40), (2, .int y2), (3, .int y3), (4, .int y4)]) (st' := [.int y4, .ref 1]) (sh' := ab_SH) (D' := ab_dD h) (fun n => rfl) ?_
        obtain ⟨r9, hr9, hf⟩ := ab_bind_s hf
        refine ab_Ex.call (d := d + 2) (M2 := 38) (as := [.ref 1, .int y4]) (rest := []) (fun n => rfl) rfl (Nat.not_lt.mpr (Nat.le_of_ble_eq_true rfl)) (sX3_restsAt (d) X y4 h _ hr9) (fun r hr => ?_)
        subst hr
        show ab_Ex X (d + 3) 49 45 [(0, .ref 40), (2, .int y2), (3, .int y3), (4, .int y4)] [.int r9] ab_SH (ab_dD h) _
        refine ab_Ex.ifc (c := r9 = 0) (SA := (48, [(0, .ref 40), (2, .int y2), (3, .int y3), (4, .int y4)], [], ab_dD h)) (SB := (52, [(0, .ref 40), (2, .int y2), (3, .int y3), (4, .int y4)], [], ab_dD h)) (fun n => rfl) (fun c10 => ?_) (fun c10 => ?_)
        · replace hf := (if_pos c10).symm.trans hf
          refine ab_Ex.blk (k := 2) (pc' := 53) (lv' := [(0, .ref 40), (2, .int y2), (3, .int y3), (4, .int y4)]) (st' := [.int 1]) (sh' := ab_SH) (D' := ab_dD h) (fun n => rfl) ?_
          exact sX4_comeFrom_J53 d X h (fun y2 y3 y4 => fX4_comeFrom_L15 h k6 n y2 y3 y4) (fun y2 y3 y4 z hz => ih y2 y3 y4 z hz) y2 y3 y4 1 _ hf
        · replace hf := (if_neg c10).symm.trans hf
          exact sX4_comeFrom_J52 d X h (fun y2 y3 y4 => fX4_comeFrom_L15 h k6 n y2 y3 y4) (fun y2 y3 y4 z hz => ih y2 y3 y4 z hz) y2 y3 y4 _ hf
set_option maxRecDepth 20000 in
theorem sX4_comeFrom_L6 (d : Nat) (X : abX) (h : abJ)   : ∀ (n : Nat), ∀ (y2 : Int32) (y3 : Int32) (z : Int32), fX4_comeFrom_L6 h n y2 y3 = some z → ab_Ex X (d + 3) 49 6 [(0, .ref 40), (2, .int y2), (3, .int y3)] [] ab_SH (ab_dD h) (fun r => r = (some (.int z), ab_SH, ab_dD h)) := by
  intro n
  induction n with
  | zero => intro y2 y3 z hf; cases hf
  | succ n ih =>
    intro y2 y3 z hf
    rw [fX4_comeFrom_L6] at hf
    refine ab_Ex.blk (k := 2) (pc' := 9) (lv' := [(0, .ref 40), (2, .int y2), (3, .int y3)]) (st' := [.int 6, .int y3]) (sh' := ab_SH) (D' := ab_dD h) (fun n => rfl) ?_
    refine ab_Ex.ifc (c := 6 ≤ y3) (SA := (111, [(0, .ref 40), (2, .int y2), (3, .int y3)], [], ab_dD h)) (SB := (12, [(0, .ref 40), (2, .int y2), (3, .int y3)], [], ab_dD h)) (fun n => rfl) (fun c1 => ?_) (fun c1 => ?_)
    · replace hf := (if_pos c1).symm.trans hf
      refine ab_Ex.blk (k := 1) (pc' := 112) (lv' := [(0, .ref 40), (2, .int y2), (3, .int y3)]) (st' := [.int y2]) (sh' := ab_SH) (D' := ab_dD h) (fun n => rfl) ?_
      obtain rfl := Option.some.inj hf
      exact ab_Ex.ret (fun n => rfl) rfl
    · replace hf := (if_neg c1).symm.trans hf
      refine ab_Ex.blk (k := 2) (pc' := 15) (lv' := [(0, .ref 40), (2, .int y2), (3, .int y3), (4, .int 0)]) (st' := []) (sh' := ab_SH) (D' := ab_dD h) (fun n => rfl) ?_
      exact sX4_comeFrom_L15 d X h (fun y2 y3 => fX4_comeFrom_L6 h n y2 y3) (fun y2 y3 z hz => ih y2 y3 z hz) ab_N y2 y3 0 _ hf
set_option maxRecDepth 20000 in
theorem sX4_comeFrom (d : Nat) (X : abX) (x0 : Int32) (h : abJ) (z : Int32) (hf : fX4_comeFrom x0 h = some z) : ab_Ex X (d + 3) 49 0 [(0, .ref 40), (1, .int x0)] [] ab_SH (ab_dD h) (fun r => r = (some (.int z), ab_SH, ab_dD h)) := by
  unfold fX4_comeFrom at hf
  refine ab_Ex.blk (k := 6) (pc' := 6) (lv' := [(0, .ref 40), (2, .int (((1 : Int32) <<< (x0 &&& 31)))), (3, .int 0)]) (st' := []) (sh' := ab_SH) (D' := ab_dD h) (fun n => rfl) ?_
  exact sX4_comeFrom_L6 d X h ab_N (((1 : Int32) <<< (x0 &&& 31))) 0 _ hf
def fX4_lasts_J98  (k64 : Int32 → Int32 → Int32 → abJ → Option (Int32 × abJ)) (y1 : Int32) (y4 : Int32) (y5 : Int32) (h : abJ) : Option (Int32 × abJ) := k64 y1 y4 ((y5 + 1)) h
def fX4_lasts_L64   : Nat → Int32 → Int32 → Int32 → abJ → Option (Int32 × abJ)
  | 0, _, _, _, _ => none
  | n + 1, y1, y4, y5, h => if 6 ≤ y5 then (fX4_solve h).bind (fun r10 => (fX4_answerFor y1 r10).bind (fun r11 => some (1, r11))) else (fX11_isIn y4 y5 h).bind (fun r12 => if r12 = 0 then fX4_lasts_J98 (fun y1 y4 y5 h => fX4_lasts_L64 n y1 y4 y5 h) y1 y4 y5 h else (fX3_roadsOf 1 y5 h).bind (fun r14 => (fX4_layRow y5 y4 r14 h).bind (fun r15 => fX4_lasts_J98 (fun y1 y4 y5 h => fX4_lasts_L64 n y1 y4 y5 h) y1 y4 y5 r15)))
def fX4_lasts (x0 : Int32) (h : abJ) : Option (Int32 × abJ) := (fX3_restingPosts h).bind (fun r1 => (fX4_allPosts h).bind (fun r2 => (fX4_comeFrom x0 h).bind (fun r3 => (fX4_leadInto r1 ((r2 &&& (r1 ^^^ (-1)))) h).bind (fun r4 => if ((r3 &&& (r2 &&& (r1 ^^^ (-1)))) &&& (r4 ^^^ (-1))) = 0 then if (r3 &&& (r2 &&& (r1 ^^^ (-1)))) = 0 then (fX4_answer 0 1 h).bind (fun r7 => some (1, r7)) else (fX4_number ((r3 &&& (r2 &&& (r1 ^^^ (-1))))) h).bind (fun r8 => fX4_lasts_L64 ab_N x0 ((r3 &&& (r2 &&& (r1 ^^^ (-1))))) 0 r8) else some (0, h)))))
set_option maxRecDepth 20000 in
theorem sX4_lasts_J98 (d : Nat) (X : abX) (k64 : Int32 → Int32 → Int32 → abJ → Option (Int32 × abJ)) (hk64 : ∀ (y1 : Int32) (y4 : Int32) (y5 : Int32) (h : abJ) (z : (Int32 × abJ)), k64 y1 y4 y5 h = some z → ab_Ex X (d + 4) 46 64 [(0, .ref 40), (1, .int y1), (4, .int y4), (5, .int y5)] [] ab_SH (ab_dD h) (fun r => r = (some (.int z.1), ab_SH, ab_dD z.2))) : ∀ (y1 : Int32) (y4 : Int32) (y5 : Int32) (h : abJ) (z : (Int32 × abJ)), fX4_lasts_J98 k64 y1 y4 y5 h = some z → ab_Ex X (d + 4) 46 98 [(0, .ref 40), (1, .int y1), (4, .int y4), (5, .int y5)] [] ab_SH (ab_dD h) (fun r => r = (some (.int z.1), ab_SH, ab_dD z.2)) := by
  intro y1 y4 y5 h z hf
  unfold fX4_lasts_J98 at hf
  refine ab_Ex.blk (k := 2) (pc' := 64) (lv' := [(0, .ref 40), (1, .int y1), (4, .int y4), (5, .int ((y5 + 1)))]) (st' := []) (sh' := ab_SH) (D' := ab_dD h) (fun n => rfl) ?_
  exact hk64 y1 y4 ((y5 + 1)) h _ hf
set_option maxRecDepth 20000 in
theorem sX4_lasts_L64 (d : Nat) (X : abX)   : ∀ (n : Nat), ∀ (y1 : Int32) (y4 : Int32) (y5 : Int32) (h : abJ) (z : (Int32 × abJ)), fX4_lasts_L64 n y1 y4 y5 h = some z → ab_Ex X (d + 4) 46 64 [(0, .ref 40), (1, .int y1), (4, .int y4), (5, .int y5)] [] ab_SH (ab_dD h) (fun r => r = (some (.int z.1), ab_SH, ab_dD z.2)) := by
  intro n
  induction n with
  | zero => intro y1 y4 y5 h z hf; cases hf
  | succ n ih =>
    intro y1 y4 y5 h z hf
    rw [fX4_lasts_L64] at hf
    refine ab_Ex.blk (k := 2) (pc' := 68) (lv' := [(0, .ref 40), (1, .int y1), (4, .int y4), (5, .int y5)]) (st' := [.int 6, .int y5]) (sh' := ab_SH) (D' := ab_dD h) (fun n => rfl) ?_
    refine ab_Ex.ifc (c := 6 ≤ y5) (SA := (104, [(0, .ref 40), (1, .int y1), (4, .int y4), (5, .int y5)], [], ab_dD h)) (SB := (71, [(0, .ref 40), (1, .int y1), (4, .int y4), (5, .int y5)], [], ab_dD h)) (fun n => rfl) (fun c9 => ?_) (fun c9 => ?_)
    · replace hf := (if_pos c9).symm.trans hf
      refine ab_Ex.blk (k := 1) (pc' := 105) (lv' := [(0, .ref 40), (1, .int y1), (4, .int y4), (5, .int y5)]) (st' := [.ref 40]) (sh' := ab_SH) (D' := ab_dD h) (fun n => rfl) ?_
      obtain ⟨r10, hr10, hf⟩ := ab_bind_s hf
      refine ab_Ex.call (d := d + 3) (M2 := 55) (as := [.ref 40]) (rest := []) (fun n => rfl) rfl (Nat.not_lt.mpr (Nat.le_of_ble_eq_true rfl)) (sX4_solve (d + 1) X  h _ hr10) (fun r hr => ?_)
      subst hr
      show ab_Ex X (d + 4) 46 108 [(0, .ref 40), (1, .int y1), (4, .int y4), (5, .int y5)] [] ab_SH (ab_dD r10) _
      refine ab_Ex.blk (k := 2) (pc' := 110) (lv' := [(0, .ref 40), (1, .int y1), (4, .int y4), (5, .int y5)]) (st' := [.int y1, .ref 40]) (sh' := ab_SH) (D' := ab_dD r10) (fun n => rfl) ?_
      obtain ⟨r11, hr11, hf⟩ := ab_bind_s hf
      refine ab_Ex.call (d := d + 3) (M2 := 57) (as := [.ref 40, .int y1]) (rest := []) (fun n => rfl) rfl (Nat.not_lt.mpr (Nat.le_of_ble_eq_true rfl)) (sX4_answerFor (d) X y1 r10 _ hr11) (fun r hr => ?_)
      subst hr
      show ab_Ex X (d + 4) 46 113 [(0, .ref 40), (1, .int y1), (4, .int y4), (5, .int y5)] [] ab_SH (ab_dD r11) _
      refine ab_Ex.blk (k := 1) (pc' := 114) (lv' := [(0, .ref 40), (1, .int y1), (4, .int y4), (5, .int y5)]) (st' := [.int 1]) (sh' := ab_SH) (D' := ab_dD r11) (fun n => rfl) ?_
      obtain rfl := Option.some.inj hf
      exact ab_Ex.ret (fun n => rfl) rfl
    · replace hf := (if_neg c9).symm.trans hf
      refine ab_Ex.blk (k := 2) (pc' := 75) (lv' := [(0, .ref 40), (1, .int y1), (4, .int y4), (5, .int y5)]) (st' := [.int y5, .int y4]) (sh' := ab_SH) (D' := ab_dD h) (fun n => rfl) ?_
      obtain ⟨r12, hr12, hf⟩ := ab_bind_s hf
      refine ab_Ex.call (d := d + 3) (M2 := 174) (as := [.int y4, .int y5]) (rest := []) (fun n => rfl) rfl (Nat.not_lt.mpr (Nat.le_of_ble_eq_true rfl)) (sX11_isIn (d + 3) X y4 y5 h _ hr12) (fun r hr => ?_)
      subst hr
      show ab_Ex X (d + 4) 46 78 [(0, .ref 40), (1, .int y1), (4, .int y4), (5, .int y5)] [.int r12] ab_SH (ab_dD h) _
      refine ab_Ex.ifc (c := r12 = 0) (SA := (98, [(0, .ref 40), (1, .int y1), (4, .int y4), (5, .int y5)], [], ab_dD h)) (SB := (81, [(0, .ref 40), (1, .int y1), (4, .int y4), (5, .int y5)], [], ab_dD h)) (fun n => rfl) (fun c13 => ?_) (fun c13 => ?_)
      · replace hf := (if_pos c13).symm.trans hf
        exact sX4_lasts_J98 d X (fun y1 y4 y5 h => fX4_lasts_L64 n y1 y4 y5 h) (fun y1 y4 y5 h z hz => ih y1 y4 y5 h z hz) y1 y4 y5 h _ hf
      · replace hf := (if_neg c13).symm.trans hf
        refine ab_Ex.blk (k := 6) (pc' := 92) (lv' := [(0, .ref 40), (1, .int y1), (4, .int y4), (5, .int y5)]) (st' := [.int y5, .ref 1, .int y4, .int y5, .ref 40]) (sh' := ab_SH) (D' := ab_dD h) (fun n => rfl) ?_
        obtain ⟨r14, hr14, hf⟩ := ab_bind_s hf
        refine ab_Ex.call (d := d + 3) (M2 := 35) (as := [.ref 1, .int y5]) (rest := [.int y4, .int y5, .ref 40]) (fun n => rfl) rfl (Nat.not_lt.mpr (Nat.le_of_ble_eq_true rfl)) (sX3_roadsOf_1 (d + 3) X y5 h _ hr14) (fun r hr => ?_)
        subst hr
        show ab_Ex X (d + 4) 46 95 [(0, .ref 40), (1, .int y1), (4, .int y4), (5, .int y5)] [.int r14, .int y4, .int y5, .ref 40] ab_SH (ab_dD h) _
        obtain ⟨r15, hr15, hf⟩ := ab_bind_s hf
        refine ab_Ex.call (d := d + 3) (M2 := 52) (as := [.ref 40, .int y5, .int y4, .int r14]) (rest := []) (fun n => rfl) rfl (Nat.not_lt.mpr (Nat.le_of_ble_eq_true rfl)) (sX4_layRow (d) X y5 y4 r14 h _ hr15) (fun r hr => ?_)
        subst hr
        show ab_Ex X (d + 4) 46 98 [(0, .ref 40), (1, .int y1), (4, .int y4), (5, .int y5)] [] ab_SH (ab_dD r15) _
        exact sX4_lasts_J98 d X (fun y1 y4 y5 h => fX4_lasts_L64 n y1 y4 y5 h) (fun y1 y4 y5 h z hz => ih y1 y4 y5 h z hz) y1 y4 y5 r15 _ hf
set_option maxRecDepth 20000 in
theorem sX4_lasts (d : Nat) (X : abX) (x0 : Int32) (h : abJ) (z : (Int32 × abJ)) (hf : fX4_lasts x0 h = some z) : ab_Ex X (d + 4) 46 0 [(0, .ref 40), (1, .int x0)] [] ab_SH (ab_dD h) (fun r => r = (some (.int z.1), ab_SH, ab_dD z.2)) := by
  unfold fX4_lasts at hf
  refine ab_Ex.blk (k := 2) (pc' := 4) (lv' := [(0, .ref 40), (1, .int x0)]) (st' := [.ref 1]) (sh' := ab_SH) (D' := ab_dD h) (fun n => rfl) ?_
  obtain ⟨r1, hr1, hf⟩ := ab_bind_s hf
  refine ab_Ex.call (d := d + 3) (M2 := 43) (as := [.ref 1]) (rest := []) (fun n => rfl) rfl (Nat.not_lt.mpr (Nat.le_of_ble_eq_true rfl)) (sX3_restingPosts (d) X  h _ hr1) (fun r hr => ?_)
  subst hr
  show ab_Ex X (d + 4) 46 7 [(0, .ref 40), (1, .int x0)] [.int r1] ab_SH (ab_dD h) _
  refine ab_Ex.blk (k := 2) (pc' := 9) (lv' := [(2, .int r1), (0, .ref 40), (1, .int x0)]) (st' := [.ref 40]) (sh' := ab_SH) (D' := ab_dD h) (fun n => rfl) ?_
  obtain ⟨r2, hr2, hf⟩ := ab_bind_s hf
  refine ab_Ex.call (d := d + 3) (M2 := 47) (as := [.ref 40]) (rest := []) (fun n => rfl) rfl (Nat.not_lt.mpr (Nat.le_of_ble_eq_true rfl)) (sX4_allPosts (d + 3) X  h _ hr2) (fun r hr => ?_)
  subst hr
  show ab_Ex X (d + 4) 46 12 [(2, .int r1), (0, .ref 40), (1, .int x0)] [.int r2] ab_SH (ab_dD h) _
  refine ab_Ex.blk (k := 7) (pc' := 19) (lv' := [(3, .int ((r2 &&& (r1 ^^^ (-1))))), (2, .int r1), (0, .ref 40), (1, .int x0)]) (st' := [.int x0, .ref 40]) (sh' := ab_SH) (D' := ab_dD h) (fun n => rfl) ?_
  obtain ⟨r3, hr3, hf⟩ := ab_bind_s hf
  refine ab_Ex.call (d := d + 3) (M2 := 49) (as := [.ref 40, .int x0]) (rest := []) (fun n => rfl) rfl (Nat.not_lt.mpr (Nat.le_of_ble_eq_true rfl)) (sX4_comeFrom (d) X x0 h _ hr3) (fun r hr => ?_)
  subst hr
  show ab_Ex X (d + 4) 46 22 [(3, .int ((r2 &&& (r1 ^^^ (-1))))), (2, .int r1), (0, .ref 40), (1, .int x0)] [.int r3] ab_SH (ab_dD h) _
  refine ab_Ex.blk (k := 7) (pc' := 31) (lv' := [(4, .int ((r3 &&& (r2 &&& (r1 ^^^ (-1)))))), (3, .int ((r2 &&& (r1 ^^^ (-1))))), (2, .int r1), (0, .ref 40), (1, .int x0)]) (st' := [.int ((r2 &&& (r1 ^^^ (-1)))), .int r1, .ref 40, .int ((r3 &&& (r2 &&& (r1 ^^^ (-1)))))]) (sh' := ab_SH) (D' := ab_dD h) (fun n => rfl) ?_
  obtain ⟨r4, hr4, hf⟩ := ab_bind_s hf
  refine ab_Ex.call (d := d + 3) (M2 := 48) (as := [.ref 40, .int r1, .int ((r2 &&& (r1 ^^^ (-1))))]) (rest := [.int ((r3 &&& (r2 &&& (r1 ^^^ (-1)))))]) (fun n => rfl) rfl (Nat.not_lt.mpr (Nat.le_of_ble_eq_true rfl)) (sX4_leadInto (d + 1) X r1 ((r2 &&& (r1 ^^^ (-1)))) h _ hr4) (fun r hr => ?_)
  subst hr
  show ab_Ex X (d + 4) 46 34 [(4, .int ((r3 &&& (r2 &&& (r1 ^^^ (-1)))))), (3, .int ((r2 &&& (r1 ^^^ (-1))))), (2, .int r1), (0, .ref 40), (1, .int x0)] [.int r4, .int ((r3 &&& (r2 &&& (r1 ^^^ (-1)))))] ab_SH (ab_dD h) _
  refine ab_Ex.blk (k := 3) (pc' := 37) (lv' := [(4, .int ((r3 &&& (r2 &&& (r1 ^^^ (-1)))))), (3, .int ((r2 &&& (r1 ^^^ (-1))))), (2, .int r1), (0, .ref 40), (1, .int x0)]) (st' := [.int (((r3 &&& (r2 &&& (r1 ^^^ (-1)))) &&& (r4 ^^^ (-1))))]) (sh' := ab_SH) (D' := ab_dD h) (fun n => rfl) ?_
  refine ab_Ex.ifc (c := ((r3 &&& (r2 &&& (r1 ^^^ (-1)))) &&& (r4 ^^^ (-1))) = 0) (SA := (42, [(4, .int ((r3 &&& (r2 &&& (r1 ^^^ (-1)))))), (3, .int ((r2 &&& (r1 ^^^ (-1))))), (2, .int r1), (0, .ref 40), (1, .int x0)], [], ab_dD h)) (SB := (40, [(4, .int ((r3 &&& (r2 &&& (r1 ^^^ (-1)))))), (3, .int ((r2 &&& (r1 ^^^ (-1))))), (2, .int r1), (0, .ref 40), (1, .int x0)], [], ab_dD h)) (fun n => rfl) (fun c5 => ?_) (fun c5 => ?_)
  · replace hf := (if_pos c5).symm.trans hf
    refine ab_Ex.blk (k := 1) (pc' := 44) (lv' := [(4, .int ((r3 &&& (r2 &&& (r1 ^^^ (-1)))))), (3, .int ((r2 &&& (r1 ^^^ (-1))))), (2, .int r1), (0, .ref 40), (1, .int x0)]) (st' := [.int ((r3 &&& (r2 &&& (r1 ^^^ (-1)))))]) (sh' := ab_SH) (D' := ab_dD h) (fun n => rfl) ?_
    refine ab_Ex.ifc (c := (r3 &&& (r2 &&& (r1 ^^^ (-1)))) = 0) (SA := (47, [(4, .int ((r3 &&& (r2 &&& (r1 ^^^ (-1)))))), (3, .int ((r2 &&& (r1 ^^^ (-1))))), (2, .int r1), (0, .ref 40), (1, .int x0)], [], ab_dD h)) (SB := (55, [(4, .int ((r3 &&& (r2 &&& (r1 ^^^ (-1)))))), (3, .int ((r2 &&& (r1 ^^^ (-1))))), (2, .int r1), (0, .ref 40), (1, .int x0)], [], ab_dD h)) (fun n => rfl) (fun c6 => ?_) (fun c6 => ?_)
    · replace hf := (if_pos c6).symm.trans hf
      refine ab_Ex.blk (k := 3) (pc' := 50) (lv' := [(4, .int ((r3 &&& (r2 &&& (r1 ^^^ (-1)))))), (3, .int ((r2 &&& (r1 ^^^ (-1))))), (2, .int r1), (0, .ref 40), (1, .int x0)]) (st' := [.long 1, .long 0, .ref 40]) (sh' := ab_SH) (D' := ab_dD h) (fun n => rfl) ?_
      obtain ⟨r7, hr7, hf⟩ := ab_bind_s hf
      refine ab_Ex.call (d := d + 3) (M2 := 58) (as := [.ref 40, .long 0, .long 1]) (rest := []) (fun n => rfl) rfl (Nat.not_lt.mpr (Nat.le_of_ble_eq_true rfl)) (sX4_answer (d + 1) X 0 1 h _ hr7) (fun r hr => ?_)
      subst hr
      show ab_Ex X (d + 4) 46 53 [(4, .int ((r3 &&& (r2 &&& (r1 ^^^ (-1)))))), (3, .int ((r2 &&& (r1 ^^^ (-1))))), (2, .int r1), (0, .ref 40), (1, .int x0)] [] ab_SH (ab_dD r7) _
      refine ab_Ex.blk (k := 1) (pc' := 54) (lv' := [(4, .int ((r3 &&& (r2 &&& (r1 ^^^ (-1)))))), (3, .int ((r2 &&& (r1 ^^^ (-1))))), (2, .int r1), (0, .ref 40), (1, .int x0)]) (st' := [.int 1]) (sh' := ab_SH) (D' := ab_dD r7) (fun n => rfl) ?_
      obtain rfl := Option.some.inj hf
      exact ab_Ex.ret (fun n => rfl) rfl
    · replace hf := (if_neg c6).symm.trans hf
      refine ab_Ex.blk (k := 2) (pc' := 58) (lv' := [(4, .int ((r3 &&& (r2 &&& (r1 ^^^ (-1)))))), (3, .int ((r2 &&& (r1 ^^^ (-1))))), (2, .int r1), (0, .ref 40), (1, .int x0)]) (st' := [.int ((r3 &&& (r2 &&& (r1 ^^^ (-1))))), .ref 40]) (sh' := ab_SH) (D' := ab_dD h) (fun n => rfl) ?_
      obtain ⟨r8, hr8, hf⟩ := ab_bind_s hf
      refine ab_Ex.call (d := d + 3) (M2 := 51) (as := [.ref 40, .int ((r3 &&& (r2 &&& (r1 ^^^ (-1)))))]) (rest := []) (fun n => rfl) rfl (Nat.not_lt.mpr (Nat.le_of_ble_eq_true rfl)) (sX4_number (d + 2) X ((r3 &&& (r2 &&& (r1 ^^^ (-1))))) h _ hr8) (fun r hr => ?_)
      subst hr
      show ab_Ex X (d + 4) 46 61 [(4, .int ((r3 &&& (r2 &&& (r1 ^^^ (-1)))))), (3, .int ((r2 &&& (r1 ^^^ (-1))))), (2, .int r1), (0, .ref 40), (1, .int x0)] [] ab_SH (ab_dD r8) _
      refine ab_Ex.blk (k := 2) (pc' := 64) (lv' := [(0, .ref 40), (1, .int x0), (4, .int ((r3 &&& (r2 &&& (r1 ^^^ (-1)))))), (5, .int 0)]) (st' := []) (sh' := ab_SH) (D' := ab_dD r8) (fun n => rfl) ?_
      exact sX4_lasts_L64 d X  ab_N x0 ((r3 &&& (r2 &&& (r1 ^^^ (-1))))) 0 r8 _ hf
  · replace hf := (if_neg c5).symm.trans hf
    refine ab_Ex.blk (k := 1) (pc' := 41) (lv' := [(4, .int ((r3 &&& (r2 &&& (r1 ^^^ (-1)))))), (3, .int ((r2 &&& (r1 ^^^ (-1))))), (2, .int r1), (0, .ref 40), (1, .int x0)]) (st' := [.int 0]) (sh' := ab_SH) (D' := ab_dD h) (fun n => rfl) ?_
    obtain rfl := Option.some.inj hf
    exact ab_Ex.ret (fun n => rfl) rfl
