def fX11_hands (x0 : Int32) (x1 : Int32) (h : abJ) : Option (Int32 × abJ) := (fX3_has 1 x0 h).bind (fun r1 => if r1 = 0 then some ((-2), h) else if x1 < 0 then some ((-2), h) else if x1 ≤ 1 then (fX9_code 12 h).bind (fun r5 => (fX8_reachByHand ((h.1 12 2)) r5 x0 h).bind (fun r6 => if r6.1 = 0 then some ((-1), r6.2) else if x1 = 0 then some (((r6.2).1 35 9), r6.2) else some (((r6.2).1 35 10), r6.2))) else some ((-2), h))
set_option maxRecDepth 20000 in
theorem sX11_hands (d : Nat) (X : abX) (x0 : Int32) (x1 : Int32) (h : abJ) (z : (Int32 × abJ)) (hf : fX11_hands x0 x1 h = some z) : ab_Ex X (d + 6) 147 0 [(0, .ref 0), (1, .int x0), (2, .int x1)] [] ab_SH (ab_dD h) (fun r => r = (some (.int z.1), ab_SH, ab_dD z.2)) := by
  unfold fX11_hands at hf
  refine ab_Ex.blk (k := 3) (pc' := 5) (lv' := [(0, .ref 0), (1, .int x0), (2, .int x1)]) (st' := [.int x0, .ref 1]) (sh' := ab_SH) (D' := ab_dD h) (fun n => rfl) ?_
  obtain ⟨r1, hr1, hf⟩ := ab_bind_s hf
  refine ab_Ex.call (d := d + 5) (M2 := 34) (as := [.ref 1, .int x0]) (rest := []) (fun n => rfl) rfl (Nat.not_lt.mpr (Nat.le_of_ble_eq_true rfl)) (sX3_has_1 (d + 5) X x0 h _ hr1) (fun r hr => ?_)
  subst hr
  show ab_Ex X (d + 6) 147 8 [(0, .ref 0), (1, .int x0), (2, .int x1)] [.int r1] ab_SH (ab_dD h) _
  refine ab_Ex.ifc (c := r1 = 0) (SA := (20, [(0, .ref 0), (1, .int x0), (2, .int x1)], [], ab_dD h)) (SB := (11, [(0, .ref 0), (1, .int x0), (2, .int x1)], [], ab_dD h)) (fun n => rfl) (fun c2 => ?_) (fun c2 => ?_)
  · replace hf := (if_pos c2).symm.trans hf
    refine ab_Ex.blk (k := 1) (pc' := 22) (lv' := []) (st' := [.int ((-2))]) (sh' := ab_SH) (D' := ab_dD h) (fun n => rfl) ?_
    obtain rfl := Option.some.inj hf
    exact ab_Ex.ret (fun n => rfl) rfl
  · replace hf := (if_neg c2).symm.trans hf
    refine ab_Ex.blk (k := 1) (pc' := 12) (lv' := [(0, .ref 0), (1, .int x0), (2, .int x1)]) (st' := [.int x1]) (sh' := ab_SH) (D' := ab_dD h) (fun n => rfl) ?_
    refine ab_Ex.ifc (c := x1 < 0) (SA := (20, [(0, .ref 0), (1, .int x0), (2, .int x1)], [], ab_dD h)) (SB := (15, [(0, .ref 0), (1, .int x0), (2, .int x1)], [], ab_dD h)) (fun n => rfl) (fun c3 => ?_) (fun c3 => ?_)
    · replace hf := (if_pos c3).symm.trans hf
      refine ab_Ex.blk (k := 1) (pc' := 22) (lv' := []) (st' := [.int ((-2))]) (sh' := ab_SH) (D' := ab_dD h) (fun n => rfl) ?_
      obtain rfl := Option.some.inj hf
      exact ab_Ex.ret (fun n => rfl) rfl
    · replace hf := (if_neg c3).symm.trans hf
      refine ab_Ex.blk (k := 2) (pc' := 17) (lv' := [(0, .ref 0), (1, .int x0), (2, .int x1)]) (st' := [.int 1, .int x1]) (sh' := ab_SH) (D' := ab_dD h) (fun n => rfl) ?_
      refine ab_Ex.ifc (c := x1 ≤ 1) (SA := (23, [(0, .ref 0), (1, .int x0), (2, .int x1)], [], ab_dD h)) (SB := (20, [(0, .ref 0), (1, .int x0), (2, .int x1)], [], ab_dD h)) (fun n => rfl) (fun c4 => ?_) (fun c4 => ?_)
      · replace hf := (if_pos c4).symm.trans hf
        refine ab_Ex.blk (k := 7) (pc' := 38) (lv' := [(0, .ref 0), (1, .int x0), (2, .int x1)]) (st' := [.ref 12, .int ((h.1 12 2)), .ref 35]) (sh' := ab_SH) (D' := ab_dD h) (fun n => rfl) ?_
        obtain ⟨r5, hr5, hf⟩ := ab_bind_s hf
        refine ab_Ex.call (d := d + 5) (M2 := 119) (as := [.ref 12]) (rest := [.int ((h.1 12 2)), .ref 35]) (fun n => rfl) rfl (Nat.not_lt.mpr (Nat.le_of_ble_eq_true rfl)) (sX9_code_12 (d + 5) X  h _ hr5) (fun r hr => ?_)
        subst hr
        show ab_Ex X (d + 6) 147 41 [(0, .ref 0), (1, .int x0), (2, .int x1)] [.int r5, .int ((h.1 12 2)), .ref 35] ab_SH (ab_dD h) _
        refine ab_Ex.blk (k := 1) (pc' := 42) (lv' := [(0, .ref 0), (1, .int x0), (2, .int x1)]) (st' := [.int x0, .int r5, .int ((h.1 12 2)), .ref 35]) (sh' := ab_SH) (D' := ab_dD h) (fun n => rfl) ?_
        obtain ⟨r6, hr6, hf⟩ := ab_bind_s hf
        refine ab_Ex.call (d := d + 5) (M2 := 108) (as := [.ref 35, .int ((h.1 12 2)), .int r5, .int x0]) (rest := []) (fun n => rfl) rfl (Nat.not_lt.mpr (Nat.le_of_ble_eq_true rfl)) (sX8_reachByHand (d) X ((h.1 12 2)) r5 x0 h _ hr6) (fun r hr => ?_)
        subst hr
        show ab_Ex X (d + 6) 147 45 [(0, .ref 0), (1, .int x0), (2, .int x1)] [.int r6.1] ab_SH (ab_dD r6.2) _
        refine ab_Ex.ifc (c := r6.1 = 0) (SA := (48, [(0, .ref 0), (1, .int x0), (2, .int x1)], [], ab_dD r6.2)) (SB := (50, [(0, .ref 0), (1, .int x0), (2, .int x1)], [], ab_dD r6.2)) (fun n => rfl) (fun c7 => ?_) (fun c7 => ?_)
        · replace hf := (if_pos c7).symm.trans hf
          refine ab_Ex.blk (k := 1) (pc' := 49) (lv' := [(0, .ref 0), (1, .int x0), (2, .int x1)]) (st' := [.int ((-1))]) (sh' := ab_SH) (D' := ab_dD r6.2) (fun n => rfl) ?_
          obtain rfl := Option.some.inj hf
          exact ab_Ex.ret (fun n => rfl) rfl
        · replace hf := (if_neg c7).symm.trans hf
          refine ab_Ex.blk (k := 1) (pc' := 51) (lv' := [(0, .ref 0), (1, .int x0), (2, .int x1)]) (st' := [.int x1]) (sh' := ab_SH) (D' := ab_dD r6.2) (fun n => rfl) ?_
          refine ab_Ex.ifc (c := x1 = 0) (SA := (54, [(0, .ref 0), (1, .int x0), (2, .int x1)], [], ab_dD r6.2)) (SB := (64, [(0, .ref 0), (1, .int x0), (2, .int x1)], [], ab_dD r6.2)) (fun n => rfl) (fun c8 => ?_) (fun c8 => ?_)
          · replace hf := (if_pos c8).symm.trans hf
            refine ab_Ex.blk (k := 4) (pc' := 71) (lv' := []) (st' := [.int (((r6.2).1 35 9))]) (sh' := ab_SH) (D' := ab_dD r6.2) (fun n => rfl) ?_
            obtain rfl := Option.some.inj hf
            exact ab_Ex.ret (fun n => rfl) rfl
          · replace hf := (if_neg c8).symm.trans hf
            refine ab_Ex.blk (k := 3) (pc' := 71) (lv' := []) (st' := [.int (((r6.2).1 35 10))]) (sh' := ab_SH) (D' := ab_dD r6.2) (fun n => rfl) ?_
            obtain rfl := Option.some.inj hf
            exact ab_Ex.ret (fun n => rfl) rfl
      · replace hf := (if_neg c4).symm.trans hf
        refine ab_Ex.blk (k := 1) (pc' := 22) (lv' := []) (st' := [.int ((-2))]) (sh' := ab_SH) (D' := ab_dD h) (fun n => rfl) ?_
        obtain rfl := Option.some.inj hf
        exact ab_Ex.ret (fun n => rfl) rfl
def fX11_fills (x0 : Int32) (x1 : Int32) (h : abJ) : Option (Int32 × abJ) := (fX3_has 1 x0 h).bind (fun r1 => if r1 = 0 then some ((-2), h) else if 0 ≤ x1 then (fX2_fill x0 h).bind (fun r4 => if ((r4).1 32 7) ≤ x1 then some ((-1), r4) else if 6 ≤ x1 then some ((-1), r4) else ab_ask (x1 < 0 ∨ 6 ≤ (x1 : Int32).toNatClampNeg) (some ((r4.1 33 (x1 : Int32).toNatClampNeg), r4))) else some ((-3), h))
set_option maxRecDepth 20000 in
theorem sX11_fills (d : Nat) (X : abX) (x0 : Int32) (x1 : Int32) (h : abJ) (z : (Int32 × abJ)) (hf : fX11_fills x0 x1 h = some z) : ab_Ex X (d + 5) 148 0 [(0, .ref 0), (1, .int x0), (2, .int x1)] [] ab_SH (ab_dD h) (fun r => r = (some (.int z.1), ab_SH, ab_dD z.2)) := by
  unfold fX11_fills at hf
  refine ab_Ex.blk (k := 3) (pc' := 5) (lv' := [(0, .ref 0), (1, .int x0), (2, .int x1)]) (st' := [.int x0, .ref 1]) (sh' := ab_SH) (D' := ab_dD h) (fun n => rfl) ?_
  obtain ⟨r1, hr1, hf⟩ := ab_bind_s hf
  refine ab_Ex.call (d := d + 4) (M2 := 34) (as := [.ref 1, .int x0]) (rest := []) (fun n => rfl) rfl (Nat.not_lt.mpr (Nat.le_of_ble_eq_true rfl)) (sX3_has_1 (d + 4) X x0 h _ hr1) (fun r hr => ?_)
  subst hr
  show ab_Ex X (d + 5) 148 8 [(0, .ref 0), (1, .int x0), (2, .int x1)] [.int r1] ab_SH (ab_dD h) _
  refine ab_Ex.ifc (c := r1 = 0) (SA := (11, [(0, .ref 0), (1, .int x0), (2, .int x1)], [], ab_dD h)) (SB := (14, [(0, .ref 0), (1, .int x0), (2, .int x1)], [], ab_dD h)) (fun n => rfl) (fun c2 => ?_) (fun c2 => ?_)
  · replace hf := (if_pos c2).symm.trans hf
    refine ab_Ex.blk (k := 1) (pc' := 13) (lv' := [(0, .ref 0), (1, .int x0), (2, .int x1)]) (st' := [.int ((-2))]) (sh' := ab_SH) (D' := ab_dD h) (fun n => rfl) ?_
    obtain rfl := Option.some.inj hf
    exact ab_Ex.ret (fun n => rfl) rfl
  · replace hf := (if_neg c2).symm.trans hf
    refine ab_Ex.blk (k := 1) (pc' := 15) (lv' := [(0, .ref 0), (1, .int x0), (2, .int x1)]) (st' := [.int x1]) (sh' := ab_SH) (D' := ab_dD h) (fun n => rfl) ?_
    refine ab_Ex.ifc (c := 0 ≤ x1) (SA := (21, [(0, .ref 0), (1, .int x0), (2, .int x1)], [], ab_dD h)) (SB := (18, [(0, .ref 0), (1, .int x0), (2, .int x1)], [], ab_dD h)) (fun n => rfl) (fun c3 => ?_) (fun c3 => ?_)
    · replace hf := (if_pos c3).symm.trans hf
      refine ab_Ex.blk (k := 5) (pc' := 30) (lv' := [(0, .ref 0), (1, .int x0), (2, .int x1)]) (st' := [.int x0, .ref 12, .ref 32]) (sh' := ab_SH) (D' := ab_dD h) (fun n => rfl) ?_
      obtain ⟨r4, hr4, hf⟩ := ab_bind_s hf
      refine ab_Ex.call (d := d + 4) (M2 := 27) (as := [.ref 32, .ref 12, .int x0]) (rest := []) (fun n => rfl) rfl (Nat.not_lt.mpr (Nat.le_of_ble_eq_true rfl)) (sX2_fill (d) X x0 h _ hr4) (fun r hr => ?_)
      subst hr
      show ab_Ex X (d + 5) 148 33 [(0, .ref 0), (1, .int x0), (2, .int x1)] [] ab_SH (ab_dD r4) _
      refine ab_Ex.blk (k := 4) (pc' := 41) (lv' := [(0, .ref 0), (1, .int x0), (2, .int x1)]) (st' := [.int (((r4).1 32 7)), .int x1]) (sh' := ab_SH) (D' := ab_dD r4) (fun n => rfl) ?_
      refine ab_Ex.ifc (c := ((r4).1 32 7) ≤ x1) (SA := (62, [(0, .ref 0), (1, .int x0), (2, .int x1)], [], ab_dD r4)) (SB := (44, [(0, .ref 0), (1, .int x0), (2, .int x1)], [], ab_dD r4)) (fun n => rfl) (fun c5 => ?_) (fun c5 => ?_)
      · replace hf := (if_pos c5).symm.trans hf
        refine ab_Ex.blk (k := 1) (pc' := 63) (lv' := []) (st' := [.int ((-1))]) (sh' := ab_SH) (D' := ab_dD r4) (fun n => rfl) ?_
        obtain rfl := Option.some.inj hf
        exact ab_Ex.ret (fun n => rfl) rfl
      · replace hf := (if_neg c5).symm.trans hf
        refine ab_Ex.blk (k := 2) (pc' := 47) (lv' := [(0, .ref 0), (1, .int x0), (2, .int x1)]) (st' := [.int 6, .int x1]) (sh' := ab_SH) (D' := ab_dD r4) (fun n => rfl) ?_
        refine ab_Ex.ifc (c := 6 ≤ x1) (SA := (62, [(0, .ref 0), (1, .int x0), (2, .int x1)], [], ab_dD r4)) (SB := (50, [(0, .ref 0), (1, .int x0), (2, .int x1)], [], ab_dD r4)) (fun n => rfl) (fun c6 => ?_) (fun c6 => ?_)
        · replace hf := (if_pos c6).symm.trans hf
          refine ab_Ex.blk (k := 1) (pc' := 63) (lv' := []) (st' := [.int ((-1))]) (sh' := ab_SH) (D' := ab_dD r4) (fun n => rfl) ?_
          obtain rfl := Option.some.inj hf
          exact ab_Ex.ret (fun n => rfl) rfl
        · replace hf := (if_neg c6).symm.trans hf
          refine ab_Ex.blk (k := 4) (pc' := 58) (lv' := [(0, .ref 0), (1, .int x0), (2, .int x1)]) (st' := [.int x1, .ref 33]) (sh' := ab_SH) (D' := ab_dD r4) (fun n => rfl) ?_
          obtain ⟨c8, hf⟩ := ab_ask_s hf
          refine ab_Ex.grd (c := x1 < 0 ∨ 6 ≤ (x1 : Int32).toNatClampNeg) (S := (59, [(0, .ref 0), (1, .int x0), (2, .int x1)], [.int ((r4.1 33 (x1 : Int32).toNatClampNeg))], ab_dD r4)) (fun n => rfl) c8 ?_
          refine ab_Ex.blk (k := 1) (pc' := 63) (lv' := []) (st' := [.int ((r4.1 33 (x1 : Int32).toNatClampNeg))]) (sh' := ab_SH) (D' := ab_dD r4) (fun n => rfl) ?_
          obtain rfl := Option.some.inj hf
          exact ab_Ex.ret (fun n => rfl) rfl
    · replace hf := (if_neg c3).symm.trans hf
      refine ab_Ex.blk (k := 1) (pc' := 20) (lv' := [(0, .ref 0), (1, .int x0), (2, .int x1)]) (st' := [.int ((-3))]) (sh' := ab_SH) (D' := ab_dD h) (fun n => rfl) ?_
      obtain rfl := Option.some.inj hf
      exact ab_Ex.ret (fun n => rfl) rfl
def fX11_filling (x0 : Int32) (h : abJ) : Option (Int32 × abJ) := (fX3_has 1 x0 h).bind (fun r1 => if r1 = 0 then some ((-2), h) else (fX2_fill x0 h).bind (fun r3 => some (((r3).1 32 8), r3)))
set_option maxRecDepth 20000 in
theorem sX11_filling (d : Nat) (X : abX) (x0 : Int32) (h : abJ) (z : (Int32 × abJ)) (hf : fX11_filling x0 h = some z) : ab_Ex X (d + 5) 149 0 [(0, .ref 0), (1, .int x0)] [] ab_SH (ab_dD h) (fun r => r = (some (.int z.1), ab_SH, ab_dD z.2)) := by
  unfold fX11_filling at hf
  refine ab_Ex.blk (k := 3) (pc' := 5) (lv' := [(0, .ref 0), (1, .int x0)]) (st' := [.int x0, .ref 1]) (sh' := ab_SH) (D' := ab_dD h) (fun n => rfl) ?_
  obtain ⟨r1, hr1, hf⟩ := ab_bind_s hf
  refine ab_Ex.call (d := d + 4) (M2 := 34) (as := [.ref 1, .int x0]) (rest := []) (fun n => rfl) rfl (Nat.not_lt.mpr (Nat.le_of_ble_eq_true rfl)) (sX3_has_1 (d + 4) X x0 h _ hr1) (fun r hr => ?_)
  subst hr
  show ab_Ex X (d + 5) 149 8 [(0, .ref 0), (1, .int x0)] [.int r1] ab_SH (ab_dD h) _
  refine ab_Ex.ifc (c := r1 = 0) (SA := (11, [(0, .ref 0), (1, .int x0)], [], ab_dD h)) (SB := (14, [(0, .ref 0), (1, .int x0)], [], ab_dD h)) (fun n => rfl) (fun c2 => ?_) (fun c2 => ?_)
  · replace hf := (if_pos c2).symm.trans hf
    refine ab_Ex.blk (k := 1) (pc' := 13) (lv' := [(0, .ref 0), (1, .int x0)]) (st' := [.int ((-2))]) (sh' := ab_SH) (D' := ab_dD h) (fun n => rfl) ?_
    obtain rfl := Option.some.inj hf
    exact ab_Ex.ret (fun n => rfl) rfl
  · replace hf := (if_neg c2).symm.trans hf
    refine ab_Ex.blk (k := 5) (pc' := 23) (lv' := [(0, .ref 0), (1, .int x0)]) (st' := [.int x0, .ref 12, .ref 32]) (sh' := ab_SH) (D' := ab_dD h) (fun n => rfl) ?_
    obtain ⟨r3, hr3, hf⟩ := ab_bind_s hf
    refine ab_Ex.call (d := d + 4) (M2 := 27) (as := [.ref 32, .ref 12, .int x0]) (rest := []) (fun n => rfl) rfl (Nat.not_lt.mpr (Nat.le_of_ble_eq_true rfl)) (sX2_fill (d) X x0 h _ hr3) (fun r hr => ?_)
    subst hr
    show ab_Ex X (d + 5) 149 26 [(0, .ref 0), (1, .int x0)] [] ab_SH (ab_dD r3) _
    refine ab_Ex.blk (k := 3) (pc' := 33) (lv' := [(0, .ref 0), (1, .int x0)]) (st' := [.int (((r3).1 32 8))]) (sh' := ab_SH) (D' := ab_dD r3) (fun n => rfl) ?_
    obtain rfl := Option.some.inj hf
    exact ab_Ex.ret (fun n => rfl) rfl
def fX11_printsRefused_L49 (u2 : Nat) (h : abJ)  : Nat → Int32 → Option Int32
  | 0, _ => none
  | n + 1, y3 => if (h.1 u2 2) ≤ y3 then some 0 else (fX10_value u2 y3 h).bind (fun r8 => if (lg_cmp r8 0) < 0 then some (-3) else (fX10_value u2 y3 h).bind (fun r10 => if (lg_cmp r10 ((h.1 1 0) : Int32).toInt64) < 0 then fX11_printsRefused_L49 u2 h n ((y3 + 1)) else some (-3)))
def fX11_printsRefused (x0 : Int32) (h : abJ) : Option Int32 := (fX11_noTray x0 h).bind (fun r1 => if r1 = 0 then ab_ask (x0 < 0 ∨ 4 ≤ (x0 : Int32).toNatClampNeg) (if (h.1 (ab_tr x0) 0) = 0 then if (h.1 (ab_tr x0) 2) < 1 then some (-4) else if (h.1 (ab_tr x0) 2) ≤ 8 then fX11_printsRefused_L49 (ab_tr x0) h ab_N 0 else some (-4) else some (-6)) else some (-2))
set_option maxRecDepth 20000 in
theorem sX11_printsRefused_L49_r44 (d : Nat) (X : abX) (h : abJ)   : ∀ (n : Nat), ∀ (y3 : Int32) (z : Int32), fX11_printsRefused_L49 44 h n y3 = some z → ab_Ex X (d + 1) 171 49 [(0, .ref 0), (2, .ref 44), (3, .int y3)] [] ab_SH (ab_dD h) (fun r => r = (some (.int z), ab_SH, ab_dD h)) := by
  intro n
  induction n with
  | zero => intro y3 z hf; cases hf
  | succ n ih =>
    intro y3 z hf
    rw [fX11_printsRefused_L49] at hf
    refine ab_Ex.blk (k := 3) (pc' := 54) (lv' := [(0, .ref 0), (2, .ref 44), (3, .int y3)]) (st' := [.int ((h.1 44 2)), .int y3]) (sh' := ab_SH) (D' := ab_dD h) (fun n => rfl) ?_
    refine ab_Ex.ifc (c := (h.1 44 2) ≤ y3) (SA := (93, [(0, .ref 0), (2, .ref 44), (3, .int y3)], [], ab_dD h)) (SB := (57, [(0, .ref 0), (2, .ref 44), (3, .int y3)], [], ab_dD h)) (fun n => rfl) (fun c8 => ?_) (fun c8 => ?_)
    · replace hf := (if_pos c8).symm.trans hf
      refine ab_Ex.blk (k := 1) (pc' := 94) (lv' := [(0, .ref 0), (2, .ref 44), (3, .int y3)]) (st' := [.int 0]) (sh' := ab_SH) (D' := ab_dD h) (fun n => rfl) ?_
      obtain rfl := Option.some.inj hf
      exact ab_Ex.ret (fun n => rfl) rfl
    · replace hf := (if_neg c8).symm.trans hf
      refine ab_Ex.blk (k := 2) (pc' := 59) (lv' := [(0, .ref 0), (2, .ref 44), (3, .int y3)]) (st' := [.int y3, .ref 44]) (sh' := ab_SH) (D' := ab_dD h) (fun n => rfl) ?_
      obtain ⟨r9, hr9, hf⟩ := ab_bind_s hf
      refine ab_Ex.call (d := d + 0) (M2 := 122) (as := [.ref 44, .int y3]) (rest := []) (fun n => rfl) rfl (Nat.not_lt.mpr (Nat.le_of_ble_eq_true rfl)) (sX10_value_44 (d) X y3 h _ hr9) (fun r hr => ?_)
      subst hr
      show ab_Ex X (d + 1) 171 62 [(0, .ref 0), (2, .ref 44), (3, .int y3)] [.long r9] ab_SH (ab_dD h) _
      refine ab_Ex.blk (k := 2) (pc' := 64) (lv' := [(0, .ref 0), (2, .ref 44), (3, .int y3)]) (st' := [.int ((lg_cmp r9 0))]) (sh' := ab_SH) (D' := ab_dD h) (fun n => rfl) ?_
      refine ab_Ex.ifc (c := (lg_cmp r9 0) < 0) (SA := (84, [(0, .ref 0), (2, .ref 44), (3, .int y3)], [], ab_dD h)) (SB := (67, [(0, .ref 0), (2, .ref 44), (3, .int y3)], [], ab_dD h)) (fun n => rfl) (fun c10 => ?_) (fun c10 => ?_)
      · replace hf := (if_pos c10).symm.trans hf
        refine ab_Ex.blk (k := 1) (pc' := 86) (lv' := []) (st' := [.int ((-3))]) (sh' := ab_SH) (D' := ab_dD h) (fun n => rfl) ?_
        obtain rfl := Option.some.inj hf
        exact ab_Ex.ret (fun n => rfl) rfl
      · replace hf := (if_neg c10).symm.trans hf
        refine ab_Ex.blk (k := 2) (pc' := 69) (lv' := [(0, .ref 0), (2, .ref 44), (3, .int y3)]) (st' := [.int y3, .ref 44]) (sh' := ab_SH) (D' := ab_dD h) (fun n => rfl) ?_
        obtain ⟨r11, hr11, hf⟩ := ab_bind_s hf
        refine ab_Ex.call (d := d + 0) (M2 := 122) (as := [.ref 44, .int y3]) (rest := []) (fun n => rfl) rfl (Nat.not_lt.mpr (Nat.le_of_ble_eq_true rfl)) (sX10_value_44 (d) X y3 h _ hr11) (fun r hr => ?_)
        subst hr
        show ab_Ex X (d + 1) 171 72 [(0, .ref 0), (2, .ref 44), (3, .int y3)] [.long r11] ab_SH (ab_dD h) _
        refine ab_Ex.blk (k := 5) (pc' := 81) (lv' := [(0, .ref 0), (2, .ref 44), (3, .int y3)]) (st' := [.int ((lg_cmp r11 ((h.1 1 0) : Int32).toInt64))]) (sh' := ab_SH) (D' := ab_dD h) (fun n => rfl) ?_
        refine ab_Ex.ifc (c := (lg_cmp r11 ((h.1 1 0) : Int32).toInt64) < 0) (SA := (87, [(0, .ref 0), (2, .ref 44), (3, .int y3)], [], ab_dD h)) (SB := (84, [(0, .ref 0), (2, .ref 44), (3, .int y3)], [], ab_dD h)) (fun n => rfl) (fun c12 => ?_) (fun c12 => ?_)
        · replace hf := (if_pos c12).symm.trans hf
          refine ab_Ex.blk (k := 2) (pc' := 49) (lv' := [(0, .ref 0), (2, .ref 44), (3, .int ((y3 + 1)))]) (st' := []) (sh' := ab_SH) (D' := ab_dD h) (fun n => rfl) ?_
          exact ih ((y3 + 1)) _ hf
        · replace hf := (if_neg c12).symm.trans hf
          refine ab_Ex.blk (k := 1) (pc' := 86) (lv' := []) (st' := [.int ((-3))]) (sh' := ab_SH) (D' := ab_dD h) (fun n => rfl) ?_
          obtain rfl := Option.some.inj hf
          exact ab_Ex.ret (fun n => rfl) rfl
set_option maxRecDepth 20000 in
theorem sX11_printsRefused_L49_r46 (d : Nat) (X : abX) (h : abJ)   : ∀ (n : Nat), ∀ (y3 : Int32) (z : Int32), fX11_printsRefused_L49 46 h n y3 = some z → ab_Ex X (d + 1) 171 49 [(0, .ref 0), (2, .ref 46), (3, .int y3)] [] ab_SH (ab_dD h) (fun r => r = (some (.int z), ab_SH, ab_dD h)) := by
  intro n
  induction n with
  | zero => intro y3 z hf; cases hf
  | succ n ih =>
    intro y3 z hf
    rw [fX11_printsRefused_L49] at hf
    refine ab_Ex.blk (k := 3) (pc' := 54) (lv' := [(0, .ref 0), (2, .ref 46), (3, .int y3)]) (st' := [.int ((h.1 46 2)), .int y3]) (sh' := ab_SH) (D' := ab_dD h) (fun n => rfl) ?_
    refine ab_Ex.ifc (c := (h.1 46 2) ≤ y3) (SA := (93, [(0, .ref 0), (2, .ref 46), (3, .int y3)], [], ab_dD h)) (SB := (57, [(0, .ref 0), (2, .ref 46), (3, .int y3)], [], ab_dD h)) (fun n => rfl) (fun c16 => ?_) (fun c16 => ?_)
    · replace hf := (if_pos c16).symm.trans hf
      refine ab_Ex.blk (k := 1) (pc' := 94) (lv' := [(0, .ref 0), (2, .ref 46), (3, .int y3)]) (st' := [.int 0]) (sh' := ab_SH) (D' := ab_dD h) (fun n => rfl) ?_
      obtain rfl := Option.some.inj hf
      exact ab_Ex.ret (fun n => rfl) rfl
    · replace hf := (if_neg c16).symm.trans hf
      refine ab_Ex.blk (k := 2) (pc' := 59) (lv' := [(0, .ref 0), (2, .ref 46), (3, .int y3)]) (st' := [.int y3, .ref 46]) (sh' := ab_SH) (D' := ab_dD h) (fun n => rfl) ?_
      obtain ⟨r17, hr17, hf⟩ := ab_bind_s hf
      refine ab_Ex.call (d := d + 0) (M2 := 122) (as := [.ref 46, .int y3]) (rest := []) (fun n => rfl) rfl (Nat.not_lt.mpr (Nat.le_of_ble_eq_true rfl)) (sX10_value_46 (d) X y3 h _ hr17) (fun r hr => ?_)
      subst hr
      show ab_Ex X (d + 1) 171 62 [(0, .ref 0), (2, .ref 46), (3, .int y3)] [.long r17] ab_SH (ab_dD h) _
      refine ab_Ex.blk (k := 2) (pc' := 64) (lv' := [(0, .ref 0), (2, .ref 46), (3, .int y3)]) (st' := [.int ((lg_cmp r17 0))]) (sh' := ab_SH) (D' := ab_dD h) (fun n => rfl) ?_
      refine ab_Ex.ifc (c := (lg_cmp r17 0) < 0) (SA := (84, [(0, .ref 0), (2, .ref 46), (3, .int y3)], [], ab_dD h)) (SB := (67, [(0, .ref 0), (2, .ref 46), (3, .int y3)], [], ab_dD h)) (fun n => rfl) (fun c18 => ?_) (fun c18 => ?_)
      · replace hf := (if_pos c18).symm.trans hf
        refine ab_Ex.blk (k := 1) (pc' := 86) (lv' := []) (st' := [.int ((-3))]) (sh' := ab_SH) (D' := ab_dD h) (fun n => rfl) ?_
        obtain rfl := Option.some.inj hf
        exact ab_Ex.ret (fun n => rfl) rfl
      · replace hf := (if_neg c18).symm.trans hf
        refine ab_Ex.blk (k := 2) (pc' := 69) (lv' := [(0, .ref 0), (2, .ref 46), (3, .int y3)]) (st' := [.int y3, .ref 46]) (sh' := ab_SH) (D' := ab_dD h) (fun n => rfl) ?_
        obtain ⟨r19, hr19, hf⟩ := ab_bind_s hf
        refine ab_Ex.call (d := d + 0) (M2 := 122) (as := [.ref 46, .int y3]) (rest := []) (fun n => rfl) rfl (Nat.not_lt.mpr (Nat.le_of_ble_eq_true rfl)) (sX10_value_46 (d) X y3 h _ hr19) (fun r hr => ?_)
        subst hr
        show ab_Ex X (d + 1) 171 72 [(0, .ref 0), (2, .ref 46), (3, .int y3)] [.long r19] ab_SH (ab_dD h) _
        refine ab_Ex.blk (k := 5) (pc' := 81) (lv' := [(0, .ref 0), (2, .ref 46), (3, .int y3)]) (st' := [.int ((lg_cmp r19 ((h.1 1 0) : Int32).toInt64))]) (sh' := ab_SH) (D' := ab_dD h) (fun n => rfl) ?_
        refine ab_Ex.ifc (c := (lg_cmp r19 ((h.1 1 0) : Int32).toInt64) < 0) (SA := (87, [(0, .ref 0), (2, .ref 46), (3, .int y3)], [], ab_dD h)) (SB := (84, [(0, .ref 0), (2, .ref 46), (3, .int y3)], [], ab_dD h)) (fun n => rfl) (fun c20 => ?_) (fun c20 => ?_)
        · replace hf := (if_pos c20).symm.trans hf
          refine ab_Ex.blk (k := 2) (pc' := 49) (lv' := [(0, .ref 0), (2, .ref 46), (3, .int ((y3 + 1)))]) (st' := []) (sh' := ab_SH) (D' := ab_dD h) (fun n => rfl) ?_
          exact ih ((y3 + 1)) _ hf
        · replace hf := (if_neg c20).symm.trans hf
          refine ab_Ex.blk (k := 1) (pc' := 86) (lv' := []) (st' := [.int ((-3))]) (sh' := ab_SH) (D' := ab_dD h) (fun n => rfl) ?_
          obtain rfl := Option.some.inj hf
          exact ab_Ex.ret (fun n => rfl) rfl
set_option maxRecDepth 20000 in
theorem sX11_printsRefused_L49_r48 (d : Nat) (X : abX) (h : abJ)   : ∀ (n : Nat), ∀ (y3 : Int32) (z : Int32), fX11_printsRefused_L49 48 h n y3 = some z → ab_Ex X (d + 1) 171 49 [(0, .ref 0), (2, .ref 48), (3, .int y3)] [] ab_SH (ab_dD h) (fun r => r = (some (.int z), ab_SH, ab_dD h)) := by
  intro n
  induction n with
  | zero => intro y3 z hf; cases hf
  | succ n ih =>
    intro y3 z hf
    rw [fX11_printsRefused_L49] at hf
    refine ab_Ex.blk (k := 3) (pc' := 54) (lv' := [(0, .ref 0), (2, .ref 48), (3, .int y3)]) (st' := [.int ((h.1 48 2)), .int y3]) (sh' := ab_SH) (D' := ab_dD h) (fun n => rfl) ?_
    refine ab_Ex.ifc (c := (h.1 48 2) ≤ y3) (SA := (93, [(0, .ref 0), (2, .ref 48), (3, .int y3)], [], ab_dD h)) (SB := (57, [(0, .ref 0), (2, .ref 48), (3, .int y3)], [], ab_dD h)) (fun n => rfl) (fun c24 => ?_) (fun c24 => ?_)
    · replace hf := (if_pos c24).symm.trans hf
      refine ab_Ex.blk (k := 1) (pc' := 94) (lv' := [(0, .ref 0), (2, .ref 48), (3, .int y3)]) (st' := [.int 0]) (sh' := ab_SH) (D' := ab_dD h) (fun n => rfl) ?_
      obtain rfl := Option.some.inj hf
      exact ab_Ex.ret (fun n => rfl) rfl
    · replace hf := (if_neg c24).symm.trans hf
      refine ab_Ex.blk (k := 2) (pc' := 59) (lv' := [(0, .ref 0), (2, .ref 48), (3, .int y3)]) (st' := [.int y3, .ref 48]) (sh' := ab_SH) (D' := ab_dD h) (fun n => rfl) ?_
      obtain ⟨r25, hr25, hf⟩ := ab_bind_s hf
      refine ab_Ex.call (d := d + 0) (M2 := 122) (as := [.ref 48, .int y3]) (rest := []) (fun n => rfl) rfl (Nat.not_lt.mpr (Nat.le_of_ble_eq_true rfl)) (sX10_value_48 (d) X y3 h _ hr25) (fun r hr => ?_)
      subst hr
      show ab_Ex X (d + 1) 171 62 [(0, .ref 0), (2, .ref 48), (3, .int y3)] [.long r25] ab_SH (ab_dD h) _
      refine ab_Ex.blk (k := 2) (pc' := 64) (lv' := [(0, .ref 0), (2, .ref 48), (3, .int y3)]) (st' := [.int ((lg_cmp r25 0))]) (sh' := ab_SH) (D' := ab_dD h) (fun n => rfl) ?_
      refine ab_Ex.ifc (c := (lg_cmp r25 0) < 0) (SA := (84, [(0, .ref 0), (2, .ref 48), (3, .int y3)], [], ab_dD h)) (SB := (67, [(0, .ref 0), (2, .ref 48), (3, .int y3)], [], ab_dD h)) (fun n => rfl) (fun c26 => ?_) (fun c26 => ?_)
      · replace hf := (if_pos c26).symm.trans hf
        refine ab_Ex.blk (k := 1) (pc' := 86) (lv' := []) (st' := [.int ((-3))]) (sh' := ab_SH) (D' := ab_dD h) (fun n => rfl) ?_
        obtain rfl := Option.some.inj hf
        exact ab_Ex.ret (fun n => rfl) rfl
      · replace hf := (if_neg c26).symm.trans hf
        refine ab_Ex.blk (k := 2) (pc' := 69) (lv' := [(0, .ref 0), (2, .ref 48), (3, .int y3)]) (st' := [.int y3, .ref 48]) (sh' := ab_SH) (D' := ab_dD h) (fun n => rfl) ?_
        obtain ⟨r27, hr27, hf⟩ := ab_bind_s hf
        refine ab_Ex.call (d := d + 0) (M2 := 122) (as := [.ref 48, .int y3]) (rest := []) (fun n => rfl) rfl (Nat.not_lt.mpr (Nat.le_of_ble_eq_true rfl)) (sX10_value_48 (d) X y3 h _ hr27) (fun r hr => ?_)
        subst hr
        show ab_Ex X (d + 1) 171 72 [(0, .ref 0), (2, .ref 48), (3, .int y3)] [.long r27] ab_SH (ab_dD h) _
        refine ab_Ex.blk (k := 5) (pc' := 81) (lv' := [(0, .ref 0), (2, .ref 48), (3, .int y3)]) (st' := [.int ((lg_cmp r27 ((h.1 1 0) : Int32).toInt64))]) (sh' := ab_SH) (D' := ab_dD h) (fun n => rfl) ?_
        refine ab_Ex.ifc (c := (lg_cmp r27 ((h.1 1 0) : Int32).toInt64) < 0) (SA := (87, [(0, .ref 0), (2, .ref 48), (3, .int y3)], [], ab_dD h)) (SB := (84, [(0, .ref 0), (2, .ref 48), (3, .int y3)], [], ab_dD h)) (fun n => rfl) (fun c28 => ?_) (fun c28 => ?_)
        · replace hf := (if_pos c28).symm.trans hf
          refine ab_Ex.blk (k := 2) (pc' := 49) (lv' := [(0, .ref 0), (2, .ref 48), (3, .int ((y3 + 1)))]) (st' := []) (sh' := ab_SH) (D' := ab_dD h) (fun n => rfl) ?_
          exact ih ((y3 + 1)) _ hf
        · replace hf := (if_neg c28).symm.trans hf
          refine ab_Ex.blk (k := 1) (pc' := 86) (lv' := []) (st' := [.int ((-3))]) (sh' := ab_SH) (D' := ab_dD h) (fun n => rfl) ?_
          obtain rfl := Option.some.inj hf
          exact ab_Ex.ret (fun n => rfl) rfl
set_option maxRecDepth 20000 in
theorem sX11_printsRefused_L49_r50 (d : Nat) (X : abX) (h : abJ)   : ∀ (n : Nat), ∀ (y3 : Int32) (z : Int32), fX11_printsRefused_L49 50 h n y3 = some z → ab_Ex X (d + 1) 171 49 [(0, .ref 0), (2, .ref 50), (3, .int y3)] [] ab_SH (ab_dD h) (fun r => r = (some (.int z), ab_SH, ab_dD h)) := by
  intro n
  induction n with
  | zero => intro y3 z hf; cases hf
  | succ n ih =>
    intro y3 z hf
    rw [fX11_printsRefused_L49] at hf
    refine ab_Ex.blk (k := 3) (pc' := 54) (lv' := [(0, .ref 0), (2, .ref 50), (3, .int y3)]) (st' := [.int ((h.1 50 2)), .int y3]) (sh' := ab_SH) (D' := ab_dD h) (fun n => rfl) ?_
    refine ab_Ex.ifc (c := (h.1 50 2) ≤ y3) (SA := (93, [(0, .ref 0), (2, .ref 50), (3, .int y3)], [], ab_dD h)) (SB := (57, [(0, .ref 0), (2, .ref 50), (3, .int y3)], [], ab_dD h)) (fun n => rfl) (fun c32 => ?_) (fun c32 => ?_)
    · replace hf := (if_pos c32).symm.trans hf
      refine ab_Ex.blk (k := 1) (pc' := 94) (lv' := [(0, .ref 0), (2, .ref 50), (3, .int y3)]) (st' := [.int 0]) (sh' := ab_SH) (D' := ab_dD h) (fun n => rfl) ?_
      obtain rfl := Option.some.inj hf
      exact ab_Ex.ret (fun n => rfl) rfl
    · replace hf := (if_neg c32).symm.trans hf
      refine ab_Ex.blk (k := 2) (pc' := 59) (lv' := [(0, .ref 0), (2, .ref 50), (3, .int y3)]) (st' := [.int y3, .ref 50]) (sh' := ab_SH) (D' := ab_dD h) (fun n => rfl) ?_
      obtain ⟨r33, hr33, hf⟩ := ab_bind_s hf
      refine ab_Ex.call (d := d + 0) (M2 := 122) (as := [.ref 50, .int y3]) (rest := []) (fun n => rfl) rfl (Nat.not_lt.mpr (Nat.le_of_ble_eq_true rfl)) (sX10_value_50 (d) X y3 h _ hr33) (fun r hr => ?_)
      subst hr
      show ab_Ex X (d + 1) 171 62 [(0, .ref 0), (2, .ref 50), (3, .int y3)] [.long r33] ab_SH (ab_dD h) _
      refine ab_Ex.blk (k := 2) (pc' := 64) (lv' := [(0, .ref 0), (2, .ref 50), (3, .int y3)]) (st' := [.int ((lg_cmp r33 0))]) (sh' := ab_SH) (D' := ab_dD h) (fun n => rfl) ?_
      refine ab_Ex.ifc (c := (lg_cmp r33 0) < 0) (SA := (84, [(0, .ref 0), (2, .ref 50), (3, .int y3)], [], ab_dD h)) (SB := (67, [(0, .ref 0), (2, .ref 50), (3, .int y3)], [], ab_dD h)) (fun n => rfl) (fun c34 => ?_) (fun c34 => ?_)
      · replace hf := (if_pos c34).symm.trans hf
        refine ab_Ex.blk (k := 1) (pc' := 86) (lv' := []) (st' := [.int ((-3))]) (sh' := ab_SH) (D' := ab_dD h) (fun n => rfl) ?_
        obtain rfl := Option.some.inj hf
        exact ab_Ex.ret (fun n => rfl) rfl
      · replace hf := (if_neg c34).symm.trans hf
        refine ab_Ex.blk (k := 2) (pc' := 69) (lv' := [(0, .ref 0), (2, .ref 50), (3, .int y3)]) (st' := [.int y3, .ref 50]) (sh' := ab_SH) (D' := ab_dD h) (fun n => rfl) ?_
        obtain ⟨r35, hr35, hf⟩ := ab_bind_s hf
        refine ab_Ex.call (d := d + 0) (M2 := 122) (as := [.ref 50, .int y3]) (rest := []) (fun n => rfl) rfl (Nat.not_lt.mpr (Nat.le_of_ble_eq_true rfl)) (sX10_value_50 (d) X y3 h _ hr35) (fun r hr => ?_)
        subst hr
        show ab_Ex X (d + 1) 171 72 [(0, .ref 0), (2, .ref 50), (3, .int y3)] [.long r35] ab_SH (ab_dD h) _
        refine ab_Ex.blk (k := 5) (pc' := 81) (lv' := [(0, .ref 0), (2, .ref 50), (3, .int y3)]) (st' := [.int ((lg_cmp r35 ((h.1 1 0) : Int32).toInt64))]) (sh' := ab_SH) (D' := ab_dD h) (fun n => rfl) ?_
        refine ab_Ex.ifc (c := (lg_cmp r35 ((h.1 1 0) : Int32).toInt64) < 0) (SA := (87, [(0, .ref 0), (2, .ref 50), (3, .int y3)], [], ab_dD h)) (SB := (84, [(0, .ref 0), (2, .ref 50), (3, .int y3)], [], ab_dD h)) (fun n => rfl) (fun c36 => ?_) (fun c36 => ?_)
        · replace hf := (if_pos c36).symm.trans hf
          refine ab_Ex.blk (k := 2) (pc' := 49) (lv' := [(0, .ref 0), (2, .ref 50), (3, .int ((y3 + 1)))]) (st' := []) (sh' := ab_SH) (D' := ab_dD h) (fun n => rfl) ?_
          exact ih ((y3 + 1)) _ hf
        · replace hf := (if_neg c36).symm.trans hf
          refine ab_Ex.blk (k := 1) (pc' := 86) (lv' := []) (st' := [.int ((-3))]) (sh' := ab_SH) (D' := ab_dD h) (fun n => rfl) ?_
          obtain rfl := Option.some.inj hf
          exact ab_Ex.ret (fun n => rfl) rfl
set_option maxRecDepth 20000 in
theorem sX11_printsRefused (d : Nat) (X : abX) (x0 : Int32) (h : abJ) (z : Int32) (hf : fX11_printsRefused x0 h = some z) : ab_Ex X (d + 1) 171 0 [(0, .ref 0), (1, .int x0)] [] ab_SH (ab_dD h) (fun r => r = (some (.int z), ab_SH, ab_dD h)) := by
  unfold fX11_printsRefused at hf
  refine ab_Ex.blk (k := 1) (pc' := 1) (lv' := [(0, .ref 0), (1, .int x0)]) (st' := [.int x0]) (sh' := ab_SH) (D' := ab_dD h) (fun n => rfl) ?_
  obtain ⟨r1, hr1, hf⟩ := ab_bind_s hf
  refine ab_Ex.call (d := d + 0) (M2 := 170) (as := [.int x0]) (rest := []) (fun n => rfl) rfl (Nat.not_lt.mpr (Nat.le_of_ble_eq_true rfl)) (sX11_noTray (d) X x0 h _ hr1) (fun r hr => ?_)
  subst hr
  show ab_Ex X (d + 1) 171 4 [(0, .ref 0), (1, .int x0)] [.int r1] ab_SH (ab_dD h) _
  refine ab_Ex.ifc (c := r1 = 0) (SA := (10, [(0, .ref 0), (1, .int x0)], [], ab_dD h)) (SB := (7, [(0, .ref 0), (1, .int x0)], [], ab_dD h)) (fun n => rfl) (fun c2 => ?_) (fun c2 => ?_)
  · replace hf := (if_pos c2).symm.trans hf
    refine ab_Ex.blk (k := 3) (pc' := 15) (lv' := [(0, .ref 0), (1, .int x0)]) (st' := [.int x0, .ref 43]) (sh' := ab_SH) (D' := ab_dD h) (fun n => rfl) ?_
    obtain ⟨c3, hf⟩ := ab_ask_s hf
    rcases ab_lt4 c3 with e4 | e4 | e4 | e4
    · have oe4 : ab_tr x0 = 44 := by unfold ab_tr; rw [e4]
      try rw [oe4] at hf
      refine ab_Ex.aald (o := 43) (j := x0) (t := 104) (n := 4) (i := 0) (z := 44) (fun n => rfl) c3 (by decide) e4 rfl (by decide) ?_
      refine ab_Ex.blk (k := 3) (pc' := 21) (lv' := [(2, .ref 44), (0, .ref 0), (1, .int x0)]) (st' := [.int ((h.1 44 0))]) (sh' := ab_SH) (D' := ab_dD h) (fun n => rfl) ?_
      refine ab_Ex.ifc (c := (h.1 44 0) = 0) (SA := (27, [(2, .ref 44), (0, .ref 0), (1, .int x0)], [], ab_dD h)) (SB := (24, [(2, .ref 44), (0, .ref 0), (1, .int x0)], [], ab_dD h)) (fun n => rfl) (fun c5 => ?_) (fun c5 => ?_)
      · replace hf := (if_pos c5).symm.trans hf
        refine ab_Ex.blk (k := 3) (pc' := 32) (lv' := [(2, .ref 44), (0, .ref 0), (1, .int x0)]) (st' := [.int 1, .int ((h.1 44 2))]) (sh' := ab_SH) (D' := ab_dD h) (fun n => rfl) ?_
        refine ab_Ex.ifc (c := (h.1 44 2) < 1) (SA := (44, [(2, .ref 44), (0, .ref 0), (1, .int x0)], [], ab_dD h)) (SB := (35, [(2, .ref 44), (0, .ref 0), (1, .int x0)], [], ab_dD h)) (fun n => rfl) (fun c6 => ?_) (fun c6 => ?_)
        · replace hf := (if_pos c6).symm.trans hf
          refine ab_Ex.blk (k := 1) (pc' := 46) (lv' := []) (st' := [.int ((-4))]) (sh' := ab_SH) (D' := ab_dD h) (fun n => rfl) ?_
          obtain rfl := Option.some.inj hf
          exact ab_Ex.ret (fun n => rfl) rfl
        · replace hf := (if_neg c6).symm.trans hf
          refine ab_Ex.blk (k := 3) (pc' := 41) (lv' := [(2, .ref 44), (0, .ref 0), (1, .int x0)]) (st' := [.int 8, .int ((h.1 44 2))]) (sh' := ab_SH) (D' := ab_dD h) (fun n => rfl) ?_
          refine ab_Ex.ifc (c := (h.1 44 2) ≤ 8) (SA := (47, [(2, .ref 44), (0, .ref 0), (1, .int x0)], [], ab_dD h)) (SB := (44, [(2, .ref 44), (0, .ref 0), (1, .int x0)], [], ab_dD h)) (fun n => rfl) (fun c7 => ?_) (fun c7 => ?_)
          · replace hf := (if_pos c7).symm.trans hf
            refine ab_Ex.blk (k := 2) (pc' := 49) (lv' := [(0, .ref 0), (2, .ref 44), (3, .int 0)]) (st' := []) (sh' := ab_SH) (D' := ab_dD h) (fun n => rfl) ?_
            exact sX11_printsRefused_L49_r44 d X h ab_N 0 _ hf
          · replace hf := (if_neg c7).symm.trans hf
            refine ab_Ex.blk (k := 1) (pc' := 46) (lv' := []) (st' := [.int ((-4))]) (sh' := ab_SH) (D' := ab_dD h) (fun n => rfl) ?_
            obtain rfl := Option.some.inj hf
            exact ab_Ex.ret (fun n => rfl) rfl
      · replace hf := (if_neg c5).symm.trans hf
        refine ab_Ex.blk (k := 1) (pc' := 26) (lv' := [(2, .ref 44), (0, .ref 0), (1, .int x0)]) (st' := [.int ((-6))]) (sh' := ab_SH) (D' := ab_dD h) (fun n => rfl) ?_
        obtain rfl := Option.some.inj hf
        exact ab_Ex.ret (fun n => rfl) rfl
    · have oe4 : ab_tr x0 = 46 := by unfold ab_tr; rw [e4]
      try rw [oe4] at hf
      refine ab_Ex.aald (o := 43) (j := x0) (t := 104) (n := 4) (i := 1) (z := 46) (fun n => rfl) c3 (by decide) e4 rfl (by decide) ?_
      refine ab_Ex.blk (k := 3) (pc' := 21) (lv' := [(2, .ref 46), (0, .ref 0), (1, .int x0)]) (st' := [.int ((h.1 46 0))]) (sh' := ab_SH) (D' := ab_dD h) (fun n => rfl) ?_
      refine ab_Ex.ifc (c := (h.1 46 0) = 0) (SA := (27, [(2, .ref 46), (0, .ref 0), (1, .int x0)], [], ab_dD h)) (SB := (24, [(2, .ref 46), (0, .ref 0), (1, .int x0)], [], ab_dD h)) (fun n => rfl) (fun c13 => ?_) (fun c13 => ?_)
      · replace hf := (if_pos c13).symm.trans hf
        refine ab_Ex.blk (k := 3) (pc' := 32) (lv' := [(2, .ref 46), (0, .ref 0), (1, .int x0)]) (st' := [.int 1, .int ((h.1 46 2))]) (sh' := ab_SH) (D' := ab_dD h) (fun n => rfl) ?_
        refine ab_Ex.ifc (c := (h.1 46 2) < 1) (SA := (44, [(2, .ref 46), (0, .ref 0), (1, .int x0)], [], ab_dD h)) (SB := (35, [(2, .ref 46), (0, .ref 0), (1, .int x0)], [], ab_dD h)) (fun n => rfl) (fun c14 => ?_) (fun c14 => ?_)
        · replace hf := (if_pos c14).symm.trans hf
          refine ab_Ex.blk (k := 1) (pc' := 46) (lv' := []) (st' := [.int ((-4))]) (sh' := ab_SH) (D' := ab_dD h) (fun n => rfl) ?_
          obtain rfl := Option.some.inj hf
          exact ab_Ex.ret (fun n => rfl) rfl
        · replace hf := (if_neg c14).symm.trans hf
          refine ab_Ex.blk (k := 3) (pc' := 41) (lv' := [(2, .ref 46), (0, .ref 0), (1, .int x0)]) (st' := [.int 8, .int ((h.1 46 2))]) (sh' := ab_SH) (D' := ab_dD h) (fun n => rfl) ?_
          refine ab_Ex.ifc (c := (h.1 46 2) ≤ 8) (SA := (47, [(2, .ref 46), (0, .ref 0), (1, .int x0)], [], ab_dD h)) (SB := (44, [(2, .ref 46), (0, .ref 0), (1, .int x0)], [], ab_dD h)) (fun n => rfl) (fun c15 => ?_) (fun c15 => ?_)
          · replace hf := (if_pos c15).symm.trans hf
            refine ab_Ex.blk (k := 2) (pc' := 49) (lv' := [(0, .ref 0), (2, .ref 46), (3, .int 0)]) (st' := []) (sh' := ab_SH) (D' := ab_dD h) (fun n => rfl) ?_
            exact sX11_printsRefused_L49_r46 d X h ab_N 0 _ hf
          · replace hf := (if_neg c15).symm.trans hf
            refine ab_Ex.blk (k := 1) (pc' := 46) (lv' := []) (st' := [.int ((-4))]) (sh' := ab_SH) (D' := ab_dD h) (fun n => rfl) ?_
            obtain rfl := Option.some.inj hf
            exact ab_Ex.ret (fun n => rfl) rfl
      · replace hf := (if_neg c13).symm.trans hf
        refine ab_Ex.blk (k := 1) (pc' := 26) (lv' := [(2, .ref 46), (0, .ref 0), (1, .int x0)]) (st' := [.int ((-6))]) (sh' := ab_SH) (D' := ab_dD h) (fun n => rfl) ?_
        obtain rfl := Option.some.inj hf
        exact ab_Ex.ret (fun n => rfl) rfl
    · have oe4 : ab_tr x0 = 48 := by unfold ab_tr; rw [e4]
      try rw [oe4] at hf
      refine ab_Ex.aald (o := 43) (j := x0) (t := 104) (n := 4) (i := 2) (z := 48) (fun n => rfl) c3 (by decide) e4 rfl (by decide) ?_
      refine ab_Ex.blk (k := 3) (pc' := 21) (lv' := [(2, .ref 48), (0, .ref 0), (1, .int x0)]) (st' := [.int ((h.1 48 0))]) (sh' := ab_SH) (D' := ab_dD h) (fun n => rfl) ?_
      refine ab_Ex.ifc (c := (h.1 48 0) = 0) (SA := (27, [(2, .ref 48), (0, .ref 0), (1, .int x0)], [], ab_dD h)) (SB := (24, [(2, .ref 48), (0, .ref 0), (1, .int x0)], [], ab_dD h)) (fun n => rfl) (fun c21 => ?_) (fun c21 => ?_)
      · replace hf := (if_pos c21).symm.trans hf
        refine ab_Ex.blk (k := 3) (pc' := 32) (lv' := [(2, .ref 48), (0, .ref 0), (1, .int x0)]) (st' := [.int 1, .int ((h.1 48 2))]) (sh' := ab_SH) (D' := ab_dD h) (fun n => rfl) ?_
        refine ab_Ex.ifc (c := (h.1 48 2) < 1) (SA := (44, [(2, .ref 48), (0, .ref 0), (1, .int x0)], [], ab_dD h)) (SB := (35, [(2, .ref 48), (0, .ref 0), (1, .int x0)], [], ab_dD h)) (fun n => rfl) (fun c22 => ?_) (fun c22 => ?_)
        · replace hf := (if_pos c22).symm.trans hf
          refine ab_Ex.blk (k := 1) (pc' := 46) (lv' := []) (st' := [.int ((-4))]) (sh' := ab_SH) (D' := ab_dD h) (fun n => rfl) ?_
          obtain rfl := Option.some.inj hf
          exact ab_Ex.ret (fun n => rfl) rfl
        · replace hf := (if_neg c22).symm.trans hf
          refine ab_Ex.blk (k := 3) (pc' := 41) (lv' := [(2, .ref 48), (0, .ref 0), (1, .int x0)]) (st' := [.int 8, .int ((h.1 48 2))]) (sh' := ab_SH) (D' := ab_dD h) (fun n => rfl) ?_
          refine ab_Ex.ifc (c := (h.1 48 2) ≤ 8) (SA := (47, [(2, .ref 48), (0, .ref 0), (1, .int x0)], [], ab_dD h)) (SB := (44, [(2, .ref 48), (0, .ref 0), (1, .int x0)], [], ab_dD h)) (fun n => rfl) (fun c23 => ?_) (fun c23 => ?_)
          · replace hf := (if_pos c23).symm.trans hf
            refine ab_Ex.blk (k := 2) (pc' := 49) (lv' := [(0, .ref 0), (2, .ref 48), (3, .int 0)]) (st' := []) (sh' := ab_SH) (D' := ab_dD h) (fun n => rfl) ?_
            exact sX11_printsRefused_L49_r48 d X h ab_N 0 _ hf
          · replace hf := (if_neg c23).symm.trans hf
            refine ab_Ex.blk (k := 1) (pc' := 46) (lv' := []) (st' := [.int ((-4))]) (sh' := ab_SH) (D' := ab_dD h) (fun n => rfl) ?_
            obtain rfl := Option.some.inj hf
            exact ab_Ex.ret (fun n => rfl) rfl
      · replace hf := (if_neg c21).symm.trans hf
        refine ab_Ex.blk (k := 1) (pc' := 26) (lv' := [(2, .ref 48), (0, .ref 0), (1, .int x0)]) (st' := [.int ((-6))]) (sh' := ab_SH) (D' := ab_dD h) (fun n => rfl) ?_
        obtain rfl := Option.some.inj hf
        exact ab_Ex.ret (fun n => rfl) rfl
    · have oe4 : ab_tr x0 = 50 := by unfold ab_tr; rw [e4]
      try rw [oe4] at hf
      refine ab_Ex.aald (o := 43) (j := x0) (t := 104) (n := 4) (i := 3) (z := 50) (fun n => rfl) c3 (by decide) e4 rfl (by decide) ?_
      refine ab_Ex.blk (k := 3) (pc' := 21) (lv' := [(2, .ref 50), (0, .ref 0), (1, .int x0)]) (st' := [.int ((h.1 50 0))]) (sh' := ab_SH) (D' := ab_dD h) (fun n => rfl) ?_
      refine ab_Ex.ifc (c := (h.1 50 0) = 0) (SA := (27, [(2, .ref 50), (0, .ref 0), (1, .int x0)], [], ab_dD h)) (SB := (24, [(2, .ref 50), (0, .ref 0), (1, .int x0)], [], ab_dD h)) (fun n => rfl) (fun c29 => ?_) (fun c29 => ?_)
      · replace hf := (if_pos c29).symm.trans hf
        refine ab_Ex.blk (k := 3) (pc' := 32) (lv' := [(2, .ref 50), (0, .ref 0), (1, .int x0)]) (st' := [.int 1, .int ((h.1 50 2))]) (sh' := ab_SH) (D' := ab_dD h) (fun n => rfl) ?_
        refine ab_Ex.ifc (c := (h.1 50 2) < 1) (SA := (44, [(2, .ref 50), (0, .ref 0), (1, .int x0)], [], ab_dD h)) (SB := (35, [(2, .ref 50), (0, .ref 0), (1, .int x0)], [], ab_dD h)) (fun n => rfl) (fun c30 => ?_) (fun c30 => ?_)
        · replace hf := (if_pos c30).symm.trans hf
          refine ab_Ex.blk (k := 1) (pc' := 46) (lv' := []) (st' := [.int ((-4))]) (sh' := ab_SH) (D' := ab_dD h) (fun n => rfl) ?_
          obtain rfl := Option.some.inj hf
          exact ab_Ex.ret (fun n => rfl) rfl
        · replace hf := (if_neg c30).symm.trans hf
          refine ab_Ex.blk (k := 3) (pc' := 41) (lv' := [(2, .ref 50), (0, .ref 0), (1, .int x0)]) (st' := [.int 8, .int ((h.1 50 2))]) (sh' := ab_SH) (D' := ab_dD h) (fun n => rfl) ?_
          refine ab_Ex.ifc (c := (h.1 50 2) ≤ 8) (SA := (47, [(2, .ref 50), (0, .ref 0), (1, .int x0)], [], ab_dD h)) (SB := (44, [(2, .ref 50), (0, .ref 0), (1, .int x0)], [], ab_dD h)) (fun n => rfl) (fun c31 => ?_) (fun c31 => ?_)
          · replace hf := (if_pos c31).symm.trans hf
            refine ab_Ex.blk (k := 2) (pc' := 49) (lv' := [(0, .ref 0), (2, .ref 50), (3, .int 0)]) (st' := []) (sh' := ab_SH) (D' := ab_dD h) (fun n => rfl) ?_
            exact sX11_printsRefused_L49_r50 d X h ab_N 0 _ hf
          · replace hf := (if_neg c31).symm.trans hf
            refine ab_Ex.blk (k := 1) (pc' := 46) (lv' := []) (st' := [.int ((-4))]) (sh' := ab_SH) (D' := ab_dD h) (fun n => rfl) ?_
            obtain rfl := Option.some.inj hf
            exact ab_Ex.ret (fun n => rfl) rfl
      · replace hf := (if_neg c29).symm.trans hf
        refine ab_Ex.blk (k := 1) (pc' := 26) (lv' := [(2, .ref 50), (0, .ref 0), (1, .int x0)]) (st' := [.int ((-6))]) (sh' := ab_SH) (D' := ab_dD h) (fun n => rfl) ?_
        obtain rfl := Option.some.inj hf
        exact ab_Ex.ret (fun n => rfl) rfl
  · replace hf := (if_neg c2).symm.trans hf
    refine ab_Ex.blk (k := 1) (pc' := 9) (lv' := [(0, .ref 0), (1, .int x0)]) (st' := [.int ((-2))]) (sh' := ab_SH) (D' := ab_dD h) (fun n => rfl) ?_
    obtain rfl := Option.some.inj hf
    exact ab_Ex.ret (fun n => rfl) rfl
def fX11_footprints (x0 : Int32) (h : abJ) : Option (Int32 × abJ) := (fX11_printsRefused x0 h).bind (fun r1 => if r1 = 0 then ab_ask (x0 < 0 ∨ 4 ≤ (x0 : Int32).toNatClampNeg) ((fX5_tally (ab_tr x0) h).bind (fun r4 => some (((r4).1 37 3), r4))) else some (r1, h))
set_option maxRecDepth 20000 in
theorem sX11_footprints (d : Nat) (X : abX) (x0 : Int32) (h : abJ) (z : (Int32 × abJ)) (hf : fX11_footprints x0 h = some z) : ab_Ex X (d + 5) 150 0 [(0, .ref 0), (1, .int x0)] [] ab_SH (ab_dD h) (fun r => r = (some (.int z.1), ab_SH, ab_dD z.2)) := by
  unfold fX11_footprints at hf
  refine ab_Ex.blk (k := 2) (pc' := 2) (lv' := [(0, .ref 0), (1, .int x0)]) (st' := [.int x0, .ref 0]) (sh' := ab_SH) (D' := ab_dD h) (fun n => rfl) ?_
  obtain ⟨r1, hr1, hf⟩ := ab_bind_s hf
  refine ab_Ex.call (d := d + 4) (M2 := 171) (as := [.ref 0, .int x0]) (rest := []) (fun n => rfl) rfl (Nat.not_lt.mpr (Nat.le_of_ble_eq_true rfl)) (sX11_printsRefused (d + 3) X x0 h _ hr1) (fun r hr => ?_)
  subst hr
  show ab_Ex X (d + 5) 150 5 [(0, .ref 0), (1, .int x0)] [.int r1] ab_SH (ab_dD h) _
  refine ab_Ex.blk (k := 2) (pc' := 7) (lv' := [(2, .int r1), (0, .ref 0), (1, .int x0)]) (st' := [.int r1]) (sh' := ab_SH) (D' := ab_dD h) (fun n => rfl) ?_
  refine ab_Ex.ifc (c := r1 = 0) (SA := (12, [(2, .int r1), (0, .ref 0), (1, .int x0)], [], ab_dD h)) (SB := (10, [(2, .int r1), (0, .ref 0), (1, .int x0)], [], ab_dD h)) (fun n => rfl) (fun c2 => ?_) (fun c2 => ?_)
  · replace hf := (if_pos c2).symm.trans hf
    refine ab_Ex.blk (k := 7) (pc' := 25) (lv' := [(2, .int r1), (0, .ref 0), (1, .int x0)]) (st' := [.int x0, .ref 43, .ref 12, .ref 37]) (sh' := ab_SH) (D' := ab_dD h) (fun n => rfl) ?_
    obtain ⟨c3, hf⟩ := ab_ask_s hf
    rcases ab_lt4 c3 with e4 | e4 | e4 | e4
    · have oe4 : ab_tr x0 = 44 := by unfold ab_tr; rw [e4]
      try rw [oe4] at hf
      refine ab_Ex.aald (o := 43) (j := x0) (t := 104) (n := 4) (i := 0) (z := 44) (fun n => rfl) c3 (by decide) e4 rfl (by decide) ?_
      obtain ⟨r5, hr5, hf⟩ := ab_bind_s hf
      refine ab_Ex.call (d := d + 4) (M2 := 62) (as := [.ref 37, .ref 12, .ref 44]) (rest := []) (fun n => rfl) rfl (Nat.not_lt.mpr (Nat.le_of_ble_eq_true rfl)) (sX5_tally_44 (d) X  h _ hr5) (fun r hr => ?_)
      subst hr
      show ab_Ex X (d + 5) 150 29 [(2, .int r1), (0, .ref 0), (1, .int x0)] [] ab_SH (ab_dD r5) _
      refine ab_Ex.blk (k := 3) (pc' := 36) (lv' := [(2, .int r1), (0, .ref 0), (1, .int x0)]) (st' := [.int (((r5).1 37 3))]) (sh' := ab_SH) (D' := ab_dD r5) (fun n => rfl) ?_
      obtain rfl := Option.some.inj hf
      exact ab_Ex.ret (fun n => rfl) rfl
    · have oe4 : ab_tr x0 = 46 := by unfold ab_tr; rw [e4]
      try rw [oe4] at hf
      refine ab_Ex.aald (o := 43) (j := x0) (t := 104) (n := 4) (i := 1) (z := 46) (fun n => rfl) c3 (by decide) e4 rfl (by decide) ?_
      obtain ⟨r6, hr6, hf⟩ := ab_bind_s hf
      refine ab_Ex.call (d := d + 4) (M2 := 62) (as := [.ref 37, .ref 12, .ref 46]) (rest := []) (fun n => rfl) rfl (Nat.not_lt.mpr (Nat.le_of_ble_eq_true rfl)) (sX5_tally_46 (d) X  h _ hr6) (fun r hr => ?_)
      subst hr
      show ab_Ex X (d + 5) 150 29 [(2, .int r1), (0, .ref 0), (1, .int x0)] [] ab_SH (ab_dD r6) _
      refine ab_Ex.blk (k := 3) (pc' := 36) (lv' := [(2, .int r1), (0, .ref 0), (1, .int x0)]) (st' := [.int (((r6).1 37 3))]) (sh' := ab_SH) (D' := ab_dD r6) (fun n => rfl) ?_
      obtain rfl := Option.some.inj hf
      exact ab_Ex.ret (fun n => rfl) rfl
    · have oe4 : ab_tr x0 = 48 := by unfold ab_tr; rw [e4]
      try rw [oe4] at hf
      refine ab_Ex.aald (o := 43) (j := x0) (t := 104) (n := 4) (i := 2) (z := 48) (fun n => rfl) c3 (by decide) e4 rfl (by decide) ?_
      obtain ⟨r7, hr7, hf⟩ := ab_bind_s hf
      refine ab_Ex.call (d := d + 4) (M2 := 62) (as := [.ref 37, .ref 12, .ref 48]) (rest := []) (fun n => rfl) rfl (Nat.not_lt.mpr (Nat.le_of_ble_eq_true rfl)) (sX5_tally_48 (d) X  h _ hr7) (fun r hr => ?_)
      subst hr
      show ab_Ex X (d + 5) 150 29 [(2, .int r1), (0, .ref 0), (1, .int x0)] [] ab_SH (ab_dD r7) _
      refine ab_Ex.blk (k := 3) (pc' := 36) (lv' := [(2, .int r1), (0, .ref 0), (1, .int x0)]) (st' := [.int (((r7).1 37 3))]) (sh' := ab_SH) (D' := ab_dD r7) (fun n => rfl) ?_
      obtain rfl := Option.some.inj hf
      exact ab_Ex.ret (fun n => rfl) rfl
    · have oe4 : ab_tr x0 = 50 := by unfold ab_tr; rw [e4]
      try rw [oe4] at hf
      refine ab_Ex.aald (o := 43) (j := x0) (t := 104) (n := 4) (i := 3) (z := 50) (fun n => rfl) c3 (by decide) e4 rfl (by decide) ?_
      obtain ⟨r8, hr8, hf⟩ := ab_bind_s hf
      refine ab_Ex.call (d := d + 4) (M2 := 62) (as := [.ref 37, .ref 12, .ref 50]) (rest := []) (fun n => rfl) rfl (Nat.not_lt.mpr (Nat.le_of_ble_eq_true rfl)) (sX5_tally_50 (d) X  h _ hr8) (fun r hr => ?_)
      subst hr
      show ab_Ex X (d + 5) 150 29 [(2, .int r1), (0, .ref 0), (1, .int x0)] [] ab_SH (ab_dD r8) _
      refine ab_Ex.blk (k := 3) (pc' := 36) (lv' := [(2, .int r1), (0, .ref 0), (1, .int x0)]) (st' := [.int (((r8).1 37 3))]) (sh' := ab_SH) (D' := ab_dD r8) (fun n => rfl) ?_
      obtain rfl := Option.some.inj hf
      exact ab_Ex.ret (fun n => rfl) rfl
  · replace hf := (if_neg c2).symm.trans hf
    refine ab_Ex.blk (k := 1) (pc' := 11) (lv' := [(2, .int r1), (0, .ref 0), (1, .int x0)]) (st' := [.int r1]) (sh' := ab_SH) (D' := ab_dD h) (fun n => rfl) ?_
    obtain rfl := Option.some.inj hf
    exact ab_Ex.ret (fun n => rfl) rfl
def fX11_shown (x0 : Int32) (x1 : Int32) (h : abJ) : Option (Int32 × abJ) := (fX11_noTray x0 h).bind (fun r1 => if r1 = 0 then (fX3_has 1 x1 h).bind (fun r3 => if r3 = 0 then some ((-2), h) else (fX11_printsRefused x0 h).bind (fun r5 => if r5 = 0 then ab_ask (x0 < 0 ∨ 4 ≤ (x0 : Int32).toNatClampNeg) ((fX5_tally (ab_tr x0) h).bind (fun r8 => (fX5_shownBy x1 r8).bind (fun r9 => some (r9, r8)))) else some (r5, h))) else some ((-2), h))
set_option maxRecDepth 20000 in
theorem sX11_shown (d : Nat) (X : abX) (x0 : Int32) (x1 : Int32) (h : abJ) (z : (Int32 × abJ)) (hf : fX11_shown x0 x1 h = some z) : ab_Ex X (d + 5) 151 0 [(0, .ref 0), (1, .int x0), (2, .int x1)] [] ab_SH (ab_dD h) (fun r => r = (some (.int z.1), ab_SH, ab_dD z.2)) := by
  unfold fX11_shown at hf
  refine ab_Ex.blk (k := 1) (pc' := 1) (lv' := [(0, .ref 0), (1, .int x0), (2, .int x1)]) (st' := [.int x0]) (sh' := ab_SH) (D' := ab_dD h) (fun n => rfl) ?_
  obtain ⟨r1, hr1, hf⟩ := ab_bind_s hf
  refine ab_Ex.call (d := d + 4) (M2 := 170) (as := [.int x0]) (rest := []) (fun n => rfl) rfl (Nat.not_lt.mpr (Nat.le_of_ble_eq_true rfl)) (sX11_noTray (d + 4) X x0 h _ hr1) (fun r hr => ?_)
  subst hr
  show ab_Ex X (d + 5) 151 4 [(0, .ref 0), (1, .int x0), (2, .int x1)] [.int r1] ab_SH (ab_dD h) _
  refine ab_Ex.ifc (c := r1 = 0) (SA := (7, [(0, .ref 0), (1, .int x0), (2, .int x1)], [], ab_dD h)) (SB := (18, [(0, .ref 0), (1, .int x0), (2, .int x1)], [], ab_dD h)) (fun n => rfl) (fun c2 => ?_) (fun c2 => ?_)
  · replace hf := (if_pos c2).symm.trans hf
    refine ab_Ex.blk (k := 3) (pc' := 12) (lv' := [(0, .ref 0), (1, .int x0), (2, .int x1)]) (st' := [.int x1, .ref 1]) (sh' := ab_SH) (D' := ab_dD h) (fun n => rfl) ?_
    obtain ⟨r3, hr3, hf⟩ := ab_bind_s hf
    refine ab_Ex.call (d := d + 4) (M2 := 34) (as := [.ref 1, .int x1]) (rest := []) (fun n => rfl) rfl (Nat.not_lt.mpr (Nat.le_of_ble_eq_true rfl)) (sX3_has_1 (d + 4) X x1 h _ hr3) (fun r hr => ?_)
    subst hr
    show ab_Ex X (d + 5) 151 15 [(0, .ref 0), (1, .int x0), (2, .int x1)] [.int r3] ab_SH (ab_dD h) _
    refine ab_Ex.ifc (c := r3 = 0) (SA := (18, [(0, .ref 0), (1, .int x0), (2, .int x1)], [], ab_dD h)) (SB := (21, [(0, .ref 0), (1, .int x0), (2, .int x1)], [], ab_dD h)) (fun n => rfl) (fun c4 => ?_) (fun c4 => ?_)
    · replace hf := (if_pos c4).symm.trans hf
      refine ab_Ex.blk (k := 1) (pc' := 20) (lv' := []) (st' := [.int ((-2))]) (sh' := ab_SH) (D' := ab_dD h) (fun n => rfl) ?_
      obtain rfl := Option.some.inj hf
      exact ab_Ex.ret (fun n => rfl) rfl
    · replace hf := (if_neg c4).symm.trans hf
      refine ab_Ex.blk (k := 2) (pc' := 23) (lv' := [(0, .ref 0), (1, .int x0), (2, .int x1)]) (st' := [.int x0, .ref 0]) (sh' := ab_SH) (D' := ab_dD h) (fun n => rfl) ?_
      obtain ⟨r5, hr5, hf⟩ := ab_bind_s hf
      refine ab_Ex.call (d := d + 4) (M2 := 171) (as := [.ref 0, .int x0]) (rest := []) (fun n => rfl) rfl (Nat.not_lt.mpr (Nat.le_of_ble_eq_true rfl)) (sX11_printsRefused (d + 3) X x0 h _ hr5) (fun r hr => ?_)
      subst hr
      show ab_Ex X (d + 5) 151 26 [(0, .ref 0), (1, .int x0), (2, .int x1)] [.int r5] ab_SH (ab_dD h) _
      refine ab_Ex.blk (k := 2) (pc' := 28) (lv' := [(3, .int r5), (0, .ref 0), (1, .int x0), (2, .int x1)]) (st' := [.int r5]) (sh' := ab_SH) (D' := ab_dD h) (fun n => rfl) ?_
      refine ab_Ex.ifc (c := r5 = 0) (SA := (33, [(3, .int r5), (0, .ref 0), (1, .int x0), (2, .int x1)], [], ab_dD h)) (SB := (31, [(3, .int r5), (0, .ref 0), (1, .int x0), (2, .int x1)], [], ab_dD h)) (fun n => rfl) (fun c6 => ?_) (fun c6 => ?_)
      · replace hf := (if_pos c6).symm.trans hf
        refine ab_Ex.blk (k := 7) (pc' := 46) (lv' := [(3, .int r5), (0, .ref 0), (1, .int x0), (2, .int x1)]) (st' := [.int x0, .ref 43, .ref 12, .ref 37]) (sh' := ab_SH) (D' := ab_dD h) (fun n => rfl) ?_
        obtain ⟨c7, hf⟩ := ab_ask_s hf
        rcases ab_lt4 c7 with e8 | e8 | e8 | e8
        · have oe8 : ab_tr x0 = 44 := by unfold ab_tr; rw [e8]
          try rw [oe8] at hf
          refine ab_Ex.aald (o := 43) (j := x0) (t := 104) (n := 4) (i := 0) (z := 44) (fun n => rfl) c7 (by decide) e8 rfl (by decide) ?_
          obtain ⟨r9, hr9, hf⟩ := ab_bind_s hf
          refine ab_Ex.call (d := d + 4) (M2 := 62) (as := [.ref 37, .ref 12, .ref 44]) (rest := []) (fun n => rfl) rfl (Nat.not_lt.mpr (Nat.le_of_ble_eq_true rfl)) (sX5_tally_44 (d) X  h _ hr9) (fun r hr => ?_)
          subst hr
          show ab_Ex X (d + 5) 151 50 [(3, .int r5), (0, .ref 0), (1, .int x0), (2, .int x1)] [] ab_SH (ab_dD r9) _
          refine ab_Ex.blk (k := 3) (pc' := 55) (lv' := [(3, .int r5), (0, .ref 0), (1, .int x0), (2, .int x1)]) (st' := [.int x1, .ref 37]) (sh' := ab_SH) (D' := ab_dD r9) (fun n => rfl) ?_
          obtain ⟨r10, hr10, hf⟩ := ab_bind_s hf
          refine ab_Ex.call (d := d + 4) (M2 := 63) (as := [.ref 37, .int x1]) (rest := []) (fun n => rfl) rfl (Nat.not_lt.mpr (Nat.le_of_ble_eq_true rfl)) (sX5_shownBy (d + 3) X x1 r9 _ hr10) (fun r hr => ?_)
          subst hr
          show ab_Ex X (d + 5) 151 58 [(3, .int r5), (0, .ref 0), (1, .int x0), (2, .int x1)] [.int r10] ab_SH (ab_dD r9) _
          obtain rfl := Option.some.inj hf
          exact ab_Ex.ret (fun n => rfl) rfl
        · have oe8 : ab_tr x0 = 46 := by unfold ab_tr; rw [e8]
          try rw [oe8] at hf
          refine ab_Ex.aald (o := 43) (j := x0) (t := 104) (n := 4) (i := 1) (z := 46) (fun n => rfl) c7 (by decide) e8 rfl (by decide) ?_
          obtain ⟨r11, hr11, hf⟩ := ab_bind_s hf
          refine ab_Ex.call (d := d + 4) (M2 := 62) (as := [.ref 37, .ref 12, .ref 46]) (rest := []) (fun n => rfl) rfl (Nat.not_lt.mpr (Nat.le_of_ble_eq_true rfl)) (sX5_tally_46 (d) X  h _ hr11) (fun r hr => ?_)
          subst hr
          show ab_Ex X (d + 5) 151 50 [(3, .int r5), (0, .ref 0), (1, .int x0), (2, .int x1)] [] ab_SH (ab_dD r11) _
          refine ab_Ex.blk (k := 3) (pc' := 55) (lv' := [(3, .int r5), (0, .ref 0), (1, .int x0), (2, .int x1)]) (st' := [.int x1, .ref 37]) (sh' := ab_SH) (D' := ab_dD r11) (fun n => rfl) ?_
          obtain ⟨r12, hr12, hf⟩ := ab_bind_s hf
          refine ab_Ex.call (d := d + 4) (M2 := 63) (as := [.ref 37, .int x1]) (rest := []) (fun n => rfl) rfl (Nat.not_lt.mpr (Nat.le_of_ble_eq_true rfl)) (sX5_shownBy (d + 3) X x1 r11 _ hr12) (fun r hr => ?_)
          subst hr
          show ab_Ex X (d + 5) 151 58 [(3, .int r5), (0, .ref 0), (1, .int x0), (2, .int x1)] [.int r12] ab_SH (ab_dD r11) _
          obtain rfl := Option.some.inj hf
          exact ab_Ex.ret (fun n => rfl) rfl
        · have oe8 : ab_tr x0 = 48 := by unfold ab_tr; rw [e8]
          try rw [oe8] at hf
          refine ab_Ex.aald (o := 43) (j := x0) (t := 104) (n := 4) (i := 2) (z := 48) (fun n => rfl) c7 (by decide) e8 rfl (by decide) ?_
          obtain ⟨r13, hr13, hf⟩ := ab_bind_s hf
          refine ab_Ex.call (d := d + 4) (M2 := 62) (as := [.ref 37, .ref 12, .ref 48]) (rest := []) (fun n => rfl) rfl (Nat.not_lt.mpr (Nat.le_of_ble_eq_true rfl)) (sX5_tally_48 (d) X  h _ hr13) (fun r hr => ?_)
          subst hr
          show ab_Ex X (d + 5) 151 50 [(3, .int r5), (0, .ref 0), (1, .int x0), (2, .int x1)] [] ab_SH (ab_dD r13) _
          refine ab_Ex.blk (k := 3) (pc' := 55) (lv' := [(3, .int r5), (0, .ref 0), (1, .int x0), (2, .int x1)]) (st' := [.int x1, .ref 37]) (sh' := ab_SH) (D' := ab_dD r13) (fun n => rfl) ?_
          obtain ⟨r14, hr14, hf⟩ := ab_bind_s hf
          refine ab_Ex.call (d := d + 4) (M2 := 63) (as := [.ref 37, .int x1]) (rest := []) (fun n => rfl) rfl (Nat.not_lt.mpr (Nat.le_of_ble_eq_true rfl)) (sX5_shownBy (d + 3) X x1 r13 _ hr14) (fun r hr => ?_)
          subst hr
          show ab_Ex X (d + 5) 151 58 [(3, .int r5), (0, .ref 0), (1, .int x0), (2, .int x1)] [.int r14] ab_SH (ab_dD r13) _
          obtain rfl := Option.some.inj hf
          exact ab_Ex.ret (fun n => rfl) rfl
        · have oe8 : ab_tr x0 = 50 := by unfold ab_tr; rw [e8]
          try rw [oe8] at hf
          refine ab_Ex.aald (o := 43) (j := x0) (t := 104) (n := 4) (i := 3) (z := 50) (fun n => rfl) c7 (by decide) e8 rfl (by decide) ?_
          obtain ⟨r15, hr15, hf⟩ := ab_bind_s hf
          refine ab_Ex.call (d := d + 4) (M2 := 62) (as := [.ref 37, .ref 12, .ref 50]) (rest := []) (fun n => rfl) rfl (Nat.not_lt.mpr (Nat.le_of_ble_eq_true rfl)) (sX5_tally_50 (d) X  h _ hr15) (fun r hr => ?_)
          subst hr
          show ab_Ex X (d + 5) 151 50 [(3, .int r5), (0, .ref 0), (1, .int x0), (2, .int x1)] [] ab_SH (ab_dD r15) _
          refine ab_Ex.blk (k := 3) (pc' := 55) (lv' := [(3, .int r5), (0, .ref 0), (1, .int x0), (2, .int x1)]) (st' := [.int x1, .ref 37]) (sh' := ab_SH) (D' := ab_dD r15) (fun n => rfl) ?_
          obtain ⟨r16, hr16, hf⟩ := ab_bind_s hf
          refine ab_Ex.call (d := d + 4) (M2 := 63) (as := [.ref 37, .int x1]) (rest := []) (fun n => rfl) rfl (Nat.not_lt.mpr (Nat.le_of_ble_eq_true rfl)) (sX5_shownBy (d + 3) X x1 r15 _ hr16) (fun r hr => ?_)
          subst hr
          show ab_Ex X (d + 5) 151 58 [(3, .int r5), (0, .ref 0), (1, .int x0), (2, .int x1)] [.int r16] ab_SH (ab_dD r15) _
          obtain rfl := Option.some.inj hf
          exact ab_Ex.ret (fun n => rfl) rfl
      · replace hf := (if_neg c6).symm.trans hf
        refine ab_Ex.blk (k := 1) (pc' := 32) (lv' := [(3, .int r5), (0, .ref 0), (1, .int x0), (2, .int x1)]) (st' := [.int r5]) (sh' := ab_SH) (D' := ab_dD h) (fun n => rfl) ?_
        obtain rfl := Option.some.inj hf
        exact ab_Ex.ret (fun n => rfl) rfl
  · replace hf := (if_neg c2).symm.trans hf
    refine ab_Ex.blk (k := 1) (pc' := 20) (lv' := []) (st' := [.int ((-2))]) (sh' := ab_SH) (D' := ab_dD h) (fun n => rfl) ?_
    obtain rfl := Option.some.inj hf
    exact ab_Ex.ret (fun n => rfl) rfl
def fX11_look (x0 : Int32) (h : abJ) : Option (Int32 × abJ) := (fX11_printsRefused x0 h).bind (fun r1 => if r1 = 0 then ab_ask (x0 < 0 ∨ 4 ≤ (x0 : Int32).toNatClampNeg) ((fX5_tally (ab_tr x0) h).bind (fun r4 => (fX5_mostTelling r4).bind (fun r5 => some (r5, r4)))) else some (r1, h))
set_option maxRecDepth 20000 in
theorem sX11_look (d : Nat) (X : abX) (x0 : Int32) (h : abJ) (z : (Int32 × abJ)) (hf : fX11_look x0 h = some z) : ab_Ex X (d + 5) 152 0 [(0, .ref 0), (1, .int x0)] [] ab_SH (ab_dD h) (fun r => r = (some (.int z.1), ab_SH, ab_dD z.2)) := by
  unfold fX11_look at hf
  refine ab_Ex.blk (k := 2) (pc' := 2) (lv' := [(0, .ref 0), (1, .int x0)]) (st' := [.int x0, .ref 0]) (sh' := ab_SH) (D' := ab_dD h) (fun n => rfl) ?_
  obtain ⟨r1, hr1, hf⟩ := ab_bind_s hf
  refine ab_Ex.call (d := d + 4) (M2 := 171) (as := [.ref 0, .int x0]) (rest := []) (fun n => rfl) rfl (Nat.not_lt.mpr (Nat.le_of_ble_eq_true rfl)) (sX11_printsRefused (d + 3) X x0 h _ hr1) (fun r hr => ?_)
  subst hr
  show ab_Ex X (d + 5) 152 5 [(0, .ref 0), (1, .int x0)] [.int r1] ab_SH (ab_dD h) _
  refine ab_Ex.blk (k := 2) (pc' := 7) (lv' := [(2, .int r1), (0, .ref 0), (1, .int x0)]) (st' := [.int r1]) (sh' := ab_SH) (D' := ab_dD h) (fun n => rfl) ?_
  refine ab_Ex.ifc (c := r1 = 0) (SA := (12, [(2, .int r1), (0, .ref 0), (1, .int x0)], [], ab_dD h)) (SB := (10, [(2, .int r1), (0, .ref 0), (1, .int x0)], [], ab_dD h)) (fun n => rfl) (fun c2 => ?_) (fun c2 => ?_)
  · replace hf := (if_pos c2).symm.trans hf
    refine ab_Ex.blk (k := 7) (pc' := 25) (lv' := [(2, .int r1), (0, .ref 0), (1, .int x0)]) (st' := [.int x0, .ref 43, .ref 12, .ref 37]) (sh' := ab_SH) (D' := ab_dD h) (fun n => rfl) ?_
    obtain ⟨c3, hf⟩ := ab_ask_s hf
    rcases ab_lt4 c3 with e4 | e4 | e4 | e4
    · have oe4 : ab_tr x0 = 44 := by unfold ab_tr; rw [e4]
      try rw [oe4] at hf
      refine ab_Ex.aald (o := 43) (j := x0) (t := 104) (n := 4) (i := 0) (z := 44) (fun n => rfl) c3 (by decide) e4 rfl (by decide) ?_
      obtain ⟨r5, hr5, hf⟩ := ab_bind_s hf
      refine ab_Ex.call (d := d + 4) (M2 := 62) (as := [.ref 37, .ref 12, .ref 44]) (rest := []) (fun n => rfl) rfl (Nat.not_lt.mpr (Nat.le_of_ble_eq_true rfl)) (sX5_tally_44 (d) X  h _ hr5) (fun r hr => ?_)
      subst hr
      show ab_Ex X (d + 5) 152 29 [(2, .int r1), (0, .ref 0), (1, .int x0)] [] ab_SH (ab_dD r5) _
      refine ab_Ex.blk (k := 2) (pc' := 33) (lv' := [(2, .int r1), (0, .ref 0), (1, .int x0)]) (st' := [.ref 37]) (sh' := ab_SH) (D' := ab_dD r5) (fun n => rfl) ?_
      obtain ⟨r6, hr6, hf⟩ := ab_bind_s hf
      refine ab_Ex.call (d := d + 4) (M2 := 65) (as := [.ref 37]) (rest := []) (fun n => rfl) rfl (Nat.not_lt.mpr (Nat.le_of_ble_eq_true rfl)) (sX5_mostTelling (d + 3) X  r5 _ hr6) (fun r hr => ?_)
      subst hr
      show ab_Ex X (d + 5) 152 36 [(2, .int r1), (0, .ref 0), (1, .int x0)] [.int r6] ab_SH (ab_dD r5) _
      obtain rfl := Option.some.inj hf
      exact ab_Ex.ret (fun n => rfl) rfl
    · have oe4 : ab_tr x0 = 46 := by unfold ab_tr; rw [e4]
      try rw [oe4] at hf
      refine ab_Ex.aald (o := 43) (j := x0) (t := 104) (n := 4) (i := 1) (z := 46) (fun n => rfl) c3 (by decide) e4 rfl (by decide) ?_
      obtain ⟨r7, hr7, hf⟩ := ab_bind_s hf
      refine ab_Ex.call (d := d + 4) (M2 := 62) (as := [.ref 37, .ref 12, .ref 46]) (rest := []) (fun n => rfl) rfl (Nat.not_lt.mpr (Nat.le_of_ble_eq_true rfl)) (sX5_tally_46 (d) X  h _ hr7) (fun r hr => ?_)
      subst hr
      show ab_Ex X (d + 5) 152 29 [(2, .int r1), (0, .ref 0), (1, .int x0)] [] ab_SH (ab_dD r7) _
      refine ab_Ex.blk (k := 2) (pc' := 33) (lv' := [(2, .int r1), (0, .ref 0), (1, .int x0)]) (st' := [.ref 37]) (sh' := ab_SH) (D' := ab_dD r7) (fun n => rfl) ?_
      obtain ⟨r8, hr8, hf⟩ := ab_bind_s hf
      refine ab_Ex.call (d := d + 4) (M2 := 65) (as := [.ref 37]) (rest := []) (fun n => rfl) rfl (Nat.not_lt.mpr (Nat.le_of_ble_eq_true rfl)) (sX5_mostTelling (d + 3) X  r7 _ hr8) (fun r hr => ?_)
      subst hr
      show ab_Ex X (d + 5) 152 36 [(2, .int r1), (0, .ref 0), (1, .int x0)] [.int r8] ab_SH (ab_dD r7) _
      obtain rfl := Option.some.inj hf
      exact ab_Ex.ret (fun n => rfl) rfl
    · have oe4 : ab_tr x0 = 48 := by unfold ab_tr; rw [e4]
      try rw [oe4] at hf
      refine ab_Ex.aald (o := 43) (j := x0) (t := 104) (n := 4) (i := 2) (z := 48) (fun n => rfl) c3 (by decide) e4 rfl (by decide) ?_
      obtain ⟨r9, hr9, hf⟩ := ab_bind_s hf
      refine ab_Ex.call (d := d + 4) (M2 := 62) (as := [.ref 37, .ref 12, .ref 48]) (rest := []) (fun n => rfl) rfl (Nat.not_lt.mpr (Nat.le_of_ble_eq_true rfl)) (sX5_tally_48 (d) X  h _ hr9) (fun r hr => ?_)
      subst hr
      show ab_Ex X (d + 5) 152 29 [(2, .int r1), (0, .ref 0), (1, .int x0)] [] ab_SH (ab_dD r9) _
      refine ab_Ex.blk (k := 2) (pc' := 33) (lv' := [(2, .int r1), (0, .ref 0), (1, .int x0)]) (st' := [.ref 37]) (sh' := ab_SH) (D' := ab_dD r9) (fun n => rfl) ?_
      obtain ⟨r10, hr10, hf⟩ := ab_bind_s hf
      refine ab_Ex.call (d := d + 4) (M2 := 65) (as := [.ref 37]) (rest := []) (fun n => rfl) rfl (Nat.not_lt.mpr (Nat.le_of_ble_eq_true rfl)) (sX5_mostTelling (d + 3) X  r9 _ hr10) (fun r hr => ?_)
      subst hr
      show ab_Ex X (d + 5) 152 36 [(2, .int r1), (0, .ref 0), (1, .int x0)] [.int r10] ab_SH (ab_dD r9) _
      obtain rfl := Option.some.inj hf
      exact ab_Ex.ret (fun n => rfl) rfl
    · have oe4 : ab_tr x0 = 50 := by unfold ab_tr; rw [e4]
      try rw [oe4] at hf
      refine ab_Ex.aald (o := 43) (j := x0) (t := 104) (n := 4) (i := 3) (z := 50) (fun n => rfl) c3 (by decide) e4 rfl (by decide) ?_
      obtain ⟨r11, hr11, hf⟩ := ab_bind_s hf
      refine ab_Ex.call (d := d + 4) (M2 := 62) (as := [.ref 37, .ref 12, .ref 50]) (rest := []) (fun n => rfl) rfl (Nat.not_lt.mpr (Nat.le_of_ble_eq_true rfl)) (sX5_tally_50 (d) X  h _ hr11) (fun r hr => ?_)
      subst hr
      show ab_Ex X (d + 5) 152 29 [(2, .int r1), (0, .ref 0), (1, .int x0)] [] ab_SH (ab_dD r11) _
      refine ab_Ex.blk (k := 2) (pc' := 33) (lv' := [(2, .int r1), (0, .ref 0), (1, .int x0)]) (st' := [.ref 37]) (sh' := ab_SH) (D' := ab_dD r11) (fun n => rfl) ?_
      obtain ⟨r12, hr12, hf⟩ := ab_bind_s hf
      refine ab_Ex.call (d := d + 4) (M2 := 65) (as := [.ref 37]) (rest := []) (fun n => rfl) rfl (Nat.not_lt.mpr (Nat.le_of_ble_eq_true rfl)) (sX5_mostTelling (d + 3) X  r11 _ hr12) (fun r hr => ?_)
      subst hr
      show ab_Ex X (d + 5) 152 36 [(2, .int r1), (0, .ref 0), (1, .int x0)] [.int r12] ab_SH (ab_dD r11) _
      obtain rfl := Option.some.inj hf
      exact ab_Ex.ret (fun n => rfl) rfl
  · replace hf := (if_neg c2).symm.trans hf
    refine ab_Ex.blk (k := 1) (pc' := 11) (lv' := [(2, .int r1), (0, .ref 0), (1, .int x0)]) (st' := [.int r1]) (sh' := ab_SH) (D' := ab_dD h) (fun n => rfl) ?_
    obtain rfl := Option.some.inj hf
    exact ab_Ex.ret (fun n => rfl) rfl
def fX11_fogs_J65  (k17 : Int32 → Int32 → Int32 → abJ → Option (Int32 × abJ)) (y1 : Int32) (y3 : Int32) (y4 : Int32) (h : abJ) : Option (Int32 × abJ) := k17 y1 y3 ((y4 + 1)) h
def fX11_fogs_L17   : Nat → Int32 → Int32 → Int32 → abJ → Option (Int32 × abJ)
  | 0, _, _, _, _ => none
  | n + 1, y1, y3, y4, h => if 10 ≤ y4 then some (y3, h) else (fX7_prepare y4 h).bind (fun r4 => (fX9_code 12 r4).bind (fun r5 => ab_ask (y1 < 0 ∨ 4 ≤ (y1 : Int32).toNatClampNeg) ((fX5_fits y4 r5 (ab_tr y1) r4).bind (fun r7 => if r7 = 0 then fX11_fogs_J65 (fun y1 y3 y4 h => fX11_fogs_L17 n y1 y3 y4 h) y1 y3 y4 r4 else fX11_fogs_J65 (fun y1 y3 y4 h => fX11_fogs_L17 n y1 y3 y4 h) y1 ((y3 ||| ((1 : Int32) <<< (y4 &&& 31)))) y4 r4))))
def fX11_fogs (x0 : Int32) (h : abJ) : Option (Int32 × abJ) := (fX11_printsRefused x0 h).bind (fun r1 => if r1 = 0 then fX11_fogs_L17 ab_N x0 0 0 h else some (r1, h))
set_option maxRecDepth 20000 in
theorem sX11_fogs_J65 (d : Nat) (X : abX) (k17 : Int32 → Int32 → Int32 → abJ → Option (Int32 × abJ)) (hk17 : ∀ (y1 : Int32) (y3 : Int32) (y4 : Int32) (h : abJ) (z : (Int32 × abJ)), k17 y1 y3 y4 h = some z → ab_Ex X (d + 4) 153 17 [(0, .ref 0), (1, .int y1), (3, .int y3), (4, .int y4)] [] ab_SH (ab_dD h) (fun r => r = (some (.int z.1), ab_SH, ab_dD z.2))) : ∀ (y1 : Int32) (y3 : Int32) (y4 : Int32) (h : abJ) (z : (Int32 × abJ)), fX11_fogs_J65 k17 y1 y3 y4 h = some z → ab_Ex X (d + 4) 153 65 [(0, .ref 0), (1, .int y1), (3, .int y3), (4, .int y4)] [] ab_SH (ab_dD h) (fun r => r = (some (.int z.1), ab_SH, ab_dD z.2)) := by
  intro y1 y3 y4 h z hf
  unfold fX11_fogs_J65 at hf
  refine ab_Ex.blk (k := 2) (pc' := 17) (lv' := [(0, .ref 0), (1, .int y1), (3, .int y3), (4, .int ((y4 + 1)))]) (st' := []) (sh' := ab_SH) (D' := ab_dD h) (fun n => rfl) ?_
  exact hk17 y1 y3 ((y4 + 1)) h _ hf
set_option maxRecDepth 20000 in
theorem sX11_fogs_L17 (d : Nat) (X : abX)   : ∀ (n : Nat), ∀ (y1 : Int32) (y3 : Int32) (y4 : Int32) (h : abJ) (z : (Int32 × abJ)), fX11_fogs_L17 n y1 y3 y4 h = some z → ab_Ex X (d + 4) 153 17 [(0, .ref 0), (1, .int y1), (3, .int y3), (4, .int y4)] [] ab_SH (ab_dD h) (fun r => r = (some (.int z.1), ab_SH, ab_dD z.2)) := by
  intro n
  induction n with
  | zero => intro y1 y3 y4 h z hf; cases hf
  | succ n ih =>
    intro y1 y3 y4 h z hf
    rw [fX11_fogs_L17] at hf
    refine ab_Ex.blk (k := 2) (pc' := 21) (lv' := [(0, .ref 0), (1, .int y1), (3, .int y3), (4, .int y4)]) (st' := [.int 10, .int y4]) (sh' := ab_SH) (D' := ab_dD h) (fun n => rfl) ?_
    refine ab_Ex.ifc (c := 10 ≤ y4) (SA := (71, [(0, .ref 0), (1, .int y1), (3, .int y3), (4, .int y4)], [], ab_dD h)) (SB := (24, [(0, .ref 0), (1, .int y1), (3, .int y3), (4, .int y4)], [], ab_dD h)) (fun n => rfl) (fun c3 => ?_) (fun c3 => ?_)
    · replace hf := (if_pos c3).symm.trans hf
      refine ab_Ex.blk (k := 1) (pc' := 72) (lv' := [(0, .ref 0), (1, .int y1), (3, .int y3), (4, .int y4)]) (st' := [.int y3]) (sh' := ab_SH) (D' := ab_dD h) (fun n => rfl) ?_
      obtain rfl := Option.some.inj hf
      exact ab_Ex.ret (fun n => rfl) rfl
    · replace hf := (if_neg c3).symm.trans hf
      refine ab_Ex.blk (k := 3) (pc' := 30) (lv' := [(0, .ref 0), (1, .int y1), (3, .int y3), (4, .int y4)]) (st' := [.int y4, .ref 13]) (sh' := ab_SH) (D' := ab_dD h) (fun n => rfl) ?_
      obtain ⟨r4, hr4, hf⟩ := ab_bind_s hf
      refine ab_Ex.call (d := d + 3) (M2 := 97) (as := [.ref 13, .int y4]) (rest := []) (fun n => rfl) rfl (Nat.not_lt.mpr (Nat.le_of_ble_eq_true rfl)) (sX7_prepare (d) X y4 h _ hr4) (fun r hr => ?_)
      subst hr
      show ab_Ex X (d + 4) 153 33 [(0, .ref 0), (1, .int y1), (3, .int y3), (4, .int y4)] [] ab_SH (ab_dD r4) _
      refine ab_Ex.blk (k := 5) (pc' := 43) (lv' := [(0, .ref 0), (1, .int y1), (3, .int y3), (4, .int y4)]) (st' := [.ref 12, .int y4, .ref 37]) (sh' := ab_SH) (D' := ab_dD r4) (fun n => rfl) ?_
      obtain ⟨r5, hr5, hf⟩ := ab_bind_s hf
      refine ab_Ex.call (d := d + 3) (M2 := 119) (as := [.ref 12]) (rest := [.int y4, .ref 37]) (fun n => rfl) rfl (Nat.not_lt.mpr (Nat.le_of_ble_eq_true rfl)) (sX9_code_12 (d + 3) X  r4 _ hr5) (fun r hr => ?_)
      subst hr
      show ab_Ex X (d + 4) 153 46 [(0, .ref 0), (1, .int y1), (3, .int y3), (4, .int y4)] [.int r5, .int y4, .ref 37] ab_SH (ab_dD r4) _
      refine ab_Ex.blk (k := 3) (pc' := 51) (lv' := [(0, .ref 0), (1, .int y1), (3, .int y3), (4, .int y4)]) (st' := [.int y1, .ref 43, .int r5, .int y4, .ref 37]) (sh' := ab_SH) (D' := ab_dD r4) (fun n => rfl) ?_
      obtain ⟨c6, hf⟩ := ab_ask_s hf
      rcases ab_lt4 c6 with e7 | e7 | e7 | e7
      · have oe7 : ab_tr y1 = 44 := by unfold ab_tr; rw [e7]
        try rw [oe7] at hf
        refine ab_Ex.aald (o := 43) (j := y1) (t := 104) (n := 4) (i := 0) (z := 44) (fun n => rfl) c6 (by decide) e7 rfl (by decide) ?_
        obtain ⟨r8, hr8, hf⟩ := ab_bind_s hf
        refine ab_Ex.call (d := d + 3) (M2 := 61) (as := [.ref 37, .int y4, .int r5, .ref 44]) (rest := []) (fun n => rfl) rfl (Nat.not_lt.mpr (Nat.le_of_ble_eq_true rfl)) (sX5_fits_44 (d) X y4 r5 r4 _ hr8) (fun r hr => ?_)
        subst hr
        show ab_Ex X (d + 4) 153 55 [(0, .ref 0), (1, .int y1), (3, .int y3), (4, .int y4)] [.int r8] ab_SH (ab_dD r4) _
        refine ab_Ex.ifc (c := r8 = 0) (SA := (65, [(0, .ref 0), (1, .int y1), (3, .int y3), (4, .int y4)], [], ab_dD r4)) (SB := (58, [(0, .ref 0), (1, .int y1), (3, .int y3), (4, .int y4)], [], ab_dD r4)) (fun n => rfl) (fun c9 => ?_) (fun c9 => ?_)
        · replace hf := (if_pos c9).symm.trans hf
          exact sX11_fogs_J65 d X (fun y1 y3 y4 h => fX11_fogs_L17 n y1 y3 y4 h) (fun y1 y3 y4 h z hz => ih y1 y3 y4 h z hz) y1 y3 y4 r4 _ hf
        · replace hf := (if_neg c9).symm.trans hf
          refine ab_Ex.blk (k := 6) (pc' := 65) (lv' := [(0, .ref 0), (1, .int y1), (3, .int ((y3 ||| ((1 : Int32) <<< (y4 &&& 31))))), (4, .int y4)]) (st' := []) (sh' := ab_SH) (D' := ab_dD r4) (fun n => rfl) ?_
          exact sX11_fogs_J65 d X (fun y1 y3 y4 h => fX11_fogs_L17 n y1 y3 y4 h) (fun y1 y3 y4 h z hz => ih y1 y3 y4 h z hz) y1 ((y3 ||| ((1 : Int32) <<< (y4 &&& 31)))) y4 r4 _ hf
      · have oe7 : ab_tr y1 = 46 := by unfold ab_tr; rw [e7]
        try rw [oe7] at hf
        refine ab_Ex.aald (o := 43) (j := y1) (t := 104) (n := 4) (i := 1) (z := 46) (fun n => rfl) c6 (by decide) e7 rfl (by decide) ?_
        obtain ⟨r10, hr10, hf⟩ := ab_bind_s hf
        refine ab_Ex.call (d := d + 3) (M2 := 61) (as := [.ref 37, .int y4, .int r5, .ref 46]) (rest := []) (fun n => rfl) rfl (Nat.not_lt.mpr (Nat.le_of_ble_eq_true rfl)) (sX5_fits_46 (d) X y4 r5 r4 _ hr10) (fun r hr => ?_)
        subst hr
        show ab_Ex X (d + 4) 153 55 [(0, .ref 0), (1, .int y1), (3, .int y3), (4, .int y4)] [.int r10] ab_SH (ab_dD r4) _
        refine ab_Ex.ifc (c := r10 = 0) (SA := (65, [(0, .ref 0), (1, .int y1), (3, .int y3), (4, .int y4)], [], ab_dD r4)) (SB := (58, [(0, .ref 0), (1, .int y1), (3, .int y3), (4, .int y4)], [], ab_dD r4)) (fun n => rfl) (fun c11 => ?_) (fun c11 => ?_)
        · replace hf := (if_pos c11).symm.trans hf
          exact sX11_fogs_J65 d X (fun y1 y3 y4 h => fX11_fogs_L17 n y1 y3 y4 h) (fun y1 y3 y4 h z hz => ih y1 y3 y4 h z hz) y1 y3 y4 r4 _ hf
        · replace hf := (if_neg c11).symm.trans hf
          refine ab_Ex.blk (k := 6) (pc' := 65) (lv' := [(0, .ref 0), (1, .int y1), (3, .int ((y3 ||| ((1 : Int32) <<< (y4 &&& 31))))), (4, .int y4)]) (st' := []) (sh' := ab_SH) (D' := ab_dD r4) (fun n => rfl) ?_
          exact sX11_fogs_J65 d X (fun y1 y3 y4 h => fX11_fogs_L17 n y1 y3 y4 h) (fun y1 y3 y4 h z hz => ih y1 y3 y4 h z hz) y1 ((y3 ||| ((1 : Int32) <<< (y4 &&& 31)))) y4 r4 _ hf
      · have oe7 : ab_tr y1 = 48 := by unfold ab_tr; rw [e7]
        try rw [oe7] at hf
        refine ab_Ex.aald (o := 43) (j := y1) (t := 104) (n := 4) (i := 2) (z := 48) (fun n => rfl) c6 (by decide) e7 rfl (by decide) ?_
        obtain ⟨r12, hr12, hf⟩ := ab_bind_s hf
        refine ab_Ex.call (d := d + 3) (M2 := 61) (as := [.ref 37, .int y4, .int r5, .ref 48]) (rest := []) (fun n => rfl) rfl (Nat.not_lt.mpr (Nat.le_of_ble_eq_true rfl)) (sX5_fits_48 (d) X y4 r5 r4 _ hr12) (fun r hr => ?_)
        subst hr
        show ab_Ex X (d + 4) 153 55 [(0, .ref 0), (1, .int y1), (3, .int y3), (4, .int y4)] [.int r12] ab_SH (ab_dD r4) _
        refine ab_Ex.ifc (c := r12 = 0) (SA := (65, [(0, .ref 0), (1, .int y1), (3, .int y3), (4, .int y4)], [], ab_dD r4)) (SB := (58, [(0, .ref 0), (1, .int y1), (3, .int y3), (4, .int y4)], [], ab_dD r4)) (fun n => rfl) (fun c13 => ?_) (fun c13 => ?_)
        · replace hf := (if_pos c13).symm.trans hf
          exact sX11_fogs_J65 d X (fun y1 y3 y4 h => fX11_fogs_L17 n y1 y3 y4 h) (fun y1 y3 y4 h z hz => ih y1 y3 y4 h z hz) y1 y3 y4 r4 _ hf
        · replace hf := (if_neg c13).symm.trans hf
          refine ab_Ex.blk (k := 6) (pc' := 65) (lv' := [(0, .ref 0), (1, .int y1), (3, .int ((y3 ||| ((1 : Int32) <<< (y4 &&& 31))))), (4, .int y4)]) (st' := []) (sh' := ab_SH) (D' := ab_dD r4) (fun n => rfl) ?_
          exact sX11_fogs_J65 d X (fun y1 y3 y4 h => fX11_fogs_L17 n y1 y3 y4 h) (fun y1 y3 y4 h z hz => ih y1 y3 y4 h z hz) y1 ((y3 ||| ((1 : Int32) <<< (y4 &&& 31)))) y4 r4 _ hf
      · have oe7 : ab_tr y1 = 50 := by unfold ab_tr; rw [e7]
        try rw [oe7] at hf
        refine ab_Ex.aald (o := 43) (j := y1) (t := 104) (n := 4) (i := 3) (z := 50) (fun n => rfl) c6 (by decide) e7 rfl (by decide) ?_
        obtain ⟨r14, hr14, hf⟩ := ab_bind_s hf
        refine ab_Ex.call (d := d + 3) (M2 := 61) (as := [.ref 37, .int y4, .int r5, .ref 50]) (rest := []) (fun n => rfl) rfl (Nat.not_lt.mpr (Nat.le_of_ble_eq_true rfl)) (sX5_fits_50 (d) X y4 r5 r4 _ hr14) (fun r hr => ?_)
        subst hr
        show ab_Ex X (d + 4) 153 55 [(0, .ref 0), (1, .int y1), (3, .int y3), (4, .int y4)] [.int r14] ab_SH (ab_dD r4) _
        refine ab_Ex.ifc (c := r14 = 0) (SA := (65, [(0, .ref 0), (1, .int y1), (3, .int y3), (4, .int y4)], [], ab_dD r4)) (SB := (58, [(0, .ref 0), (1, .int y1), (3, .int y3), (4, .int y4)], [], ab_dD r4)) (fun n => rfl) (fun c15 => ?_) (fun c15 => ?_)
        · replace hf := (if_pos c15).symm.trans hf
          exact sX11_fogs_J65 d X (fun y1 y3 y4 h => fX11_fogs_L17 n y1 y3 y4 h) (fun y1 y3 y4 h z hz => ih y1 y3 y4 h z hz) y1 y3 y4 r4 _ hf
        · replace hf := (if_neg c15).symm.trans hf
          refine ab_Ex.blk (k := 6) (pc' := 65) (lv' := [(0, .ref 0), (1, .int y1), (3, .int ((y3 ||| ((1 : Int32) <<< (y4 &&& 31))))), (4, .int y4)]) (st' := []) (sh' := ab_SH) (D' := ab_dD r4) (fun n => rfl) ?_
          exact sX11_fogs_J65 d X (fun y1 y3 y4 h => fX11_fogs_L17 n y1 y3 y4 h) (fun y1 y3 y4 h z hz => ih y1 y3 y4 h z hz) y1 ((y3 ||| ((1 : Int32) <<< (y4 &&& 31)))) y4 r4 _ hf
set_option maxRecDepth 20000 in
theorem sX11_fogs (d : Nat) (X : abX) (x0 : Int32) (h : abJ) (z : (Int32 × abJ)) (hf : fX11_fogs x0 h = some z) : ab_Ex X (d + 4) 153 0 [(0, .ref 0), (1, .int x0)] [] ab_SH (ab_dD h) (fun r => r = (some (.int z.1), ab_SH, ab_dD z.2)) := by
  unfold fX11_fogs at hf
  refine ab_Ex.blk (k := 2) (pc' := 2) (lv' := [(0, .ref 0), (1, .int x0)]) (st' := [.int x0, .ref 0]) (sh' := ab_SH) (D' := ab_dD h) (fun n => rfl) ?_
  obtain ⟨r1, hr1, hf⟩ := ab_bind_s hf
  refine ab_Ex.call (d := d + 3) (M2 := 171) (as := [.ref 0, .int x0]) (rest := []) (fun n => rfl) rfl (Nat.not_lt.mpr (Nat.le_of_ble_eq_true rfl)) (sX11_printsRefused (d + 2) X x0 h _ hr1) (fun r hr => ?_)
  subst hr
  show ab_Ex X (d + 4) 153 5 [(0, .ref 0), (1, .int x0)] [.int r1] ab_SH (ab_dD h) _
  refine ab_Ex.blk (k := 2) (pc' := 7) (lv' := [(2, .int r1), (0, .ref 0), (1, .int x0)]) (st' := [.int r1]) (sh' := ab_SH) (D' := ab_dD h) (fun n => rfl) ?_
  refine ab_Ex.ifc (c := r1 = 0) (SA := (12, [(2, .int r1), (0, .ref 0), (1, .int x0)], [], ab_dD h)) (SB := (10, [(2, .int r1), (0, .ref 0), (1, .int x0)], [], ab_dD h)) (fun n => rfl) (fun c2 => ?_) (fun c2 => ?_)
  · replace hf := (if_pos c2).symm.trans hf
    refine ab_Ex.blk (k := 4) (pc' := 17) (lv' := [(0, .ref 0), (1, .int x0), (3, .int 0), (4, .int 0)]) (st' := []) (sh' := ab_SH) (D' := ab_dD h) (fun n => rfl) ?_
    exact sX11_fogs_L17 d X  ab_N x0 0 0 h _ hf
  · replace hf := (if_neg c2).symm.trans hf
    refine ab_Ex.blk (k := 1) (pc' := 11) (lv' := [(2, .int r1), (0, .ref 0), (1, .int x0)]) (st' := [.int r1]) (sh' := ab_SH) (D' := ab_dD h) (fun n => rfl) ?_
    obtain rfl := Option.some.inj hf
    exact ab_Ex.ret (fun n => rfl) rfl
def fX11_ahead (x0 : Int32) (h : abJ) : Option (Int32 × abJ) := if x0 < 0 then some ((-3), h) else if x0 ≤ 6 then (fX9_code 12 h).bind (fun r3 => (fX8_countAhead ((h.1 12 2)) r3 x0 h).bind (fun r4 => some (r4.1, r4.2))) else some ((-3), h)
set_option maxRecDepth 20000 in
theorem sX11_ahead (d : Nat) (X : abX) (x0 : Int32) (h : abJ) (z : (Int32 × abJ)) (hf : fX11_ahead x0 h = some z) : ab_Ex X (d + 4) 154 0 [(0, .ref 0), (1, .int x0)] [] ab_SH (ab_dD h) (fun r => r = (some (.int z.1), ab_SH, ab_dD z.2)) := by
  unfold fX11_ahead at hf
  refine ab_Ex.blk (k := 1) (pc' := 1) (lv' := [(0, .ref 0), (1, .int x0)]) (st' := [.int x0]) (sh' := ab_SH) (D' := ab_dD h) (fun n => rfl) ?_
  refine ab_Ex.ifc (c := x0 < 0) (SA := (10, [(0, .ref 0), (1, .int x0)], [], ab_dD h)) (SB := (4, [(0, .ref 0), (1, .int x0)], [], ab_dD h)) (fun n => rfl) (fun c1 => ?_) (fun c1 => ?_)
  · replace hf := (if_pos c1).symm.trans hf
    refine ab_Ex.blk (k := 1) (pc' := 12) (lv' := []) (st' := [.int ((-3))]) (sh' := ab_SH) (D' := ab_dD h) (fun n => rfl) ?_
    obtain rfl := Option.some.inj hf
    exact ab_Ex.ret (fun n => rfl) rfl
  · replace hf := (if_neg c1).symm.trans hf
    refine ab_Ex.blk (k := 2) (pc' := 7) (lv' := [(0, .ref 0), (1, .int x0)]) (st' := [.int 6, .int x0]) (sh' := ab_SH) (D' := ab_dD h) (fun n => rfl) ?_
    refine ab_Ex.ifc (c := x0 ≤ 6) (SA := (13, [(0, .ref 0), (1, .int x0)], [], ab_dD h)) (SB := (10, [(0, .ref 0), (1, .int x0)], [], ab_dD h)) (fun n => rfl) (fun c2 => ?_) (fun c2 => ?_)
    · replace hf := (if_pos c2).symm.trans hf
      refine ab_Ex.blk (k := 7) (pc' := 28) (lv' := [(0, .ref 0), (1, .int x0)]) (st' := [.ref 12, .int ((h.1 12 2)), .ref 35]) (sh' := ab_SH) (D' := ab_dD h) (fun n => rfl) ?_
      obtain ⟨r3, hr3, hf⟩ := ab_bind_s hf
      refine ab_Ex.call (d := d + 3) (M2 := 119) (as := [.ref 12]) (rest := [.int ((h.1 12 2)), .ref 35]) (fun n => rfl) rfl (Nat.not_lt.mpr (Nat.le_of_ble_eq_true rfl)) (sX9_code_12 (d + 3) X  h _ hr3) (fun r hr => ?_)
      subst hr
      show ab_Ex X (d + 4) 154 31 [(0, .ref 0), (1, .int x0)] [.int r3, .int ((h.1 12 2)), .ref 35] ab_SH (ab_dD h) _
      refine ab_Ex.blk (k := 1) (pc' := 32) (lv' := [(0, .ref 0), (1, .int x0)]) (st' := [.int x0, .int r3, .int ((h.1 12 2)), .ref 35]) (sh' := ab_SH) (D' := ab_dD h) (fun n => rfl) ?_
      obtain ⟨r4, hr4, hf⟩ := ab_bind_s hf
      refine ab_Ex.call (d := d + 3) (M2 := 112) (as := [.ref 35, .int ((h.1 12 2)), .int r3, .int x0]) (rest := []) (fun n => rfl) rfl (Nat.not_lt.mpr (Nat.le_of_ble_eq_true rfl)) (sX8_countAhead (d) X ((h.1 12 2)) r3 x0 h _ hr4) (fun r hr => ?_)
      subst hr
      show ab_Ex X (d + 4) 154 35 [(0, .ref 0), (1, .int x0)] [.int r4.1] ab_SH (ab_dD r4.2) _
      obtain rfl := Option.some.inj hf
      exact ab_Ex.ret (fun n => rfl) rfl
    · replace hf := (if_neg c2).symm.trans hf
      refine ab_Ex.blk (k := 1) (pc' := 12) (lv' := []) (st' := [.int ((-3))]) (sh' := ab_SH) (D' := ab_dD h) (fun n => rfl) ?_
      obtain rfl := Option.some.inj hf
      exact ab_Ex.ret (fun n => rfl) rfl
def fX11_from  (h : abJ) : Option (Int32 × abJ) := (fX9_code 12 h).bind (fun r1 => (fX8_postsAhead ((h.1 12 2)) r1 h).bind (fun r2 => some (r2.1, r2.2)))
set_option maxRecDepth 20000 in
theorem sX11_from (d : Nat) (X : abX)  (h : abJ) (z : (Int32 × abJ)) (hf : fX11_from  h = some z) : ab_Ex X (d + 4) 155 0 [(0, .ref 0)] [] ab_SH (ab_dD h) (fun r => r = (some (.int z.1), ab_SH, ab_dD z.2)) := by
  unfold fX11_from at hf
  refine ab_Ex.blk (k := 7) (pc' := 15) (lv' := [(0, .ref 0)]) (st' := [.ref 12, .int ((h.1 12 2)), .ref 35]) (sh' := ab_SH) (D' := ab_dD h) (fun n => rfl) ?_
  obtain ⟨r1, hr1, hf⟩ := ab_bind_s hf
  refine ab_Ex.call (d := d + 3) (M2 := 119) (as := [.ref 12]) (rest := [.int ((h.1 12 2)), .ref 35]) (fun n => rfl) rfl (Nat.not_lt.mpr (Nat.le_of_ble_eq_true rfl)) (sX9_code_12 (d + 3) X  h _ hr1) (fun r hr => ?_)
  subst hr
  show ab_Ex X (d + 4) 155 18 [(0, .ref 0)] [.int r1, .int ((h.1 12 2)), .ref 35] ab_SH (ab_dD h) _
  obtain ⟨r2, hr2, hf⟩ := ab_bind_s hf
  refine ab_Ex.call (d := d + 3) (M2 := 113) (as := [.ref 35, .int ((h.1 12 2)), .int r1]) (rest := []) (fun n => rfl) rfl (Nat.not_lt.mpr (Nat.le_of_ble_eq_true rfl)) (sX8_postsAhead (d) X ((h.1 12 2)) r1 h _ hr2) (fun r hr => ?_)
  subst hr
  show ab_Ex X (d + 4) 155 21 [(0, .ref 0)] [.int r2.1] ab_SH (ab_dD r2.2) _
  obtain rfl := Option.some.inj hf
  exact ab_Ex.ret (fun n => rfl) rfl
def fX11_again  (h : abJ) : Option (Int32 × abJ) := (fX8_countAgain ((h.1 12 2)) h).bind (fun r1 => some (r1.1, r1.2))
set_option maxRecDepth 20000 in
theorem sX11_again (d : Nat) (X : abX)  (h : abJ) (z : (Int32 × abJ)) (hf : fX11_again  h = some z) : ab_Ex X (d + 4) 156 0 [(0, .ref 0)] [] ab_SH (ab_dD h) (fun r => r = (some (.int z.1), ab_SH, ab_dD z.2)) := by
  unfold fX11_again at hf
  refine ab_Ex.blk (k := 5) (pc' := 11) (lv' := [(0, .ref 0)]) (st' := [.int ((h.1 12 2)), .ref 35]) (sh' := ab_SH) (D' := ab_dD h) (fun n => rfl) ?_
  obtain ⟨r1, hr1, hf⟩ := ab_bind_s hf
  refine ab_Ex.call (d := d + 3) (M2 := 115) (as := [.ref 35, .int ((h.1 12 2))]) (rest := []) (fun n => rfl) rfl (Nat.not_lt.mpr (Nat.le_of_ble_eq_true rfl)) (sX8_countAgain (d) X ((h.1 12 2)) h _ hr1) (fun r hr => ?_)
  subst hr
  show ab_Ex X (d + 4) 156 14 [(0, .ref 0)] [.int r1.1] ab_SH (ab_dD r1.2) _
  obtain rfl := Option.some.inj hf
  exact ab_Ex.ret (fun n => rfl) rfl
def fX11_trees (x0 : Int32) (h : abJ) : Option Int32 := (fX3_has 1 x0 h).bind (fun r1 => if r1 = 0 then some (-2) else (fX1_countTrees x0 h).bind (fun r3 => some r3))
set_option maxRecDepth 20000 in
theorem sX11_trees (d : Nat) (X : abX) (x0 : Int32) (h : abJ) (z : Int32) (hf : fX11_trees x0 h = some z) : ab_Ex X (d + 4) 157 0 [(0, .ref 0), (1, .int x0)] [] ab_SH (ab_dD h) (fun r => r = (some (.int z), ab_SH, ab_dD h)) := by
  unfold fX11_trees at hf
  refine ab_Ex.blk (k := 3) (pc' := 5) (lv' := [(0, .ref 0), (1, .int x0)]) (st' := [.int x0, .ref 1]) (sh' := ab_SH) (D' := ab_dD h) (fun n => rfl) ?_
  obtain ⟨r1, hr1, hf⟩ := ab_bind_s hf
  refine ab_Ex.call (d := d + 3) (M2 := 34) (as := [.ref 1, .int x0]) (rest := []) (fun n => rfl) rfl (Nat.not_lt.mpr (Nat.le_of_ble_eq_true rfl)) (sX3_has_1 (d + 3) X x0 h _ hr1) (fun r hr => ?_)
  subst hr
  show ab_Ex X (d + 4) 157 8 [(0, .ref 0), (1, .int x0)] [.int r1] ab_SH (ab_dD h) _
  refine ab_Ex.ifc (c := r1 = 0) (SA := (22, [(0, .ref 0), (1, .int x0)], [], ab_dD h)) (SB := (11, [(0, .ref 0), (1, .int x0)], [], ab_dD h)) (fun n => rfl) (fun c2 => ?_) (fun c2 => ?_)
  · replace hf := (if_pos c2).symm.trans hf
    refine ab_Ex.blk (k := 1) (pc' := 24) (lv' := []) (st' := [.int ((-2))]) (sh' := ab_SH) (D' := ab_dD h) (fun n => rfl) ?_
    obtain rfl := Option.some.inj hf
    exact ab_Ex.ret (fun n => rfl) rfl
  · replace hf := (if_neg c2).symm.trans hf
    refine ab_Ex.blk (k := 3) (pc' := 16) (lv' := [(0, .ref 0), (1, .int x0)]) (st' := [.int x0, .ref 39]) (sh' := ab_SH) (D' := ab_dD h) (fun n => rfl) ?_
    obtain ⟨r3, hr3, hf⟩ := ab_bind_s hf
    refine ab_Ex.call (d := d + 3) (M2 := 14) (as := [.ref 39, .int x0]) (rest := []) (fun n => rfl) rfl (Nat.not_lt.mpr (Nat.le_of_ble_eq_true rfl)) (sX1_countTrees (d) X x0 h _ hr3) (fun r hr => ?_)
    subst hr
    show ab_Ex X (d + 4) 157 19 [(0, .ref 0), (1, .int x0)] [.int r3] ab_SH (ab_dD h) _
    refine ab_Ex.blk (k := 1) (pc' := 24) (lv' := []) (st' := [.int r3]) (sh' := ab_SH) (D' := ab_dD h) (fun n => rfl) ?_
    obtain rfl := Option.some.inj hf
    exact ab_Ex.ret (fun n => rfl) rfl
def fX11_chance (x0 : Int32) (x1 : Int32) (x2 : Int32) (h : abJ) : Option (Int64 × abJ) := (fX3_has 1 x0 h).bind (fun r1 => if r1 = 0 then some ((-2), h) else (fX3_has 1 x1 h).bind (fun r3 => if r3 = 0 then some ((-2), h) else if x0 = x1 then some ((-2), h) else if x2 < 0 then some ((-2), h) else if x2 ≤ 1 then (fX4_comesTo ((h.1 12 0)) x0 x1 h).bind (fun r8 => if x2 = 0 then some (((r8).2 40 4), r8) else some (((r8).2 40 5), r8)) else some ((-2), h)))
set_option maxRecDepth 20000 in
theorem sX11_chance (d : Nat) (X : abX) (x0 : Int32) (x1 : Int32) (x2 : Int32) (h : abJ) (z : (Int64 × abJ)) (hf : fX11_chance x0 x1 x2 h = some z) : ab_Ex X (d + 5) 158 0 [(0, .ref 0), (1, .int x0), (2, .int x1), (3, .int x2)] [] ab_SH (ab_dD h) (fun r => r = (some (.long z.1), ab_SH, ab_dD z.2)) := by
  unfold fX11_chance at hf
  refine ab_Ex.blk (k := 3) (pc' := 5) (lv' := [(0, .ref 0), (1, .int x0), (2, .int x1), (3, .int x2)]) (st' := [.int x0, .ref 1]) (sh' := ab_SH) (D' := ab_dD h) (fun n => rfl) ?_
  obtain ⟨r1, hr1, hf⟩ := ab_bind_s hf
  refine ab_Ex.call (d := d + 4) (M2 := 34) (as := [.ref 1, .int x0]) (rest := []) (fun n => rfl) rfl (Nat.not_lt.mpr (Nat.le_of_ble_eq_true rfl)) (sX3_has_1 (d + 4) X x0 h _ hr1) (fun r hr => ?_)
  subst hr
  show ab_Ex X (d + 5) 158 8 [(0, .ref 0), (1, .int x0), (2, .int x1), (3, .int x2)] [.int r1] ab_SH (ab_dD h) _
  refine ab_Ex.ifc (c := r1 = 0) (SA := (36, [(0, .ref 0), (1, .int x0), (2, .int x1), (3, .int x2)], [], ab_dD h)) (SB := (11, [(0, .ref 0), (1, .int x0), (2, .int x1), (3, .int x2)], [], ab_dD h)) (fun n => rfl) (fun c2 => ?_) (fun c2 => ?_)
  · replace hf := (if_pos c2).symm.trans hf
    refine ab_Ex.blk (k := 1) (pc' := 39) (lv' := []) (st' := [.long ((-2))]) (sh' := ab_SH) (D' := ab_dD h) (fun n => rfl) ?_
    obtain rfl := Option.some.inj hf
    exact ab_Ex.ret (fun n => rfl) rfl
  · replace hf := (if_neg c2).symm.trans hf
    refine ab_Ex.blk (k := 3) (pc' := 16) (lv' := [(0, .ref 0), (1, .int x0), (2, .int x1), (3, .int x2)]) (st' := [.int x1, .ref 1]) (sh' := ab_SH) (D' := ab_dD h) (fun n => rfl) ?_
    obtain ⟨r3, hr3, hf⟩ := ab_bind_s hf
    refine ab_Ex.call (d := d + 4) (M2 := 34) (as := [.ref 1, .int x1]) (rest := []) (fun n => rfl) rfl (Nat.not_lt.mpr (Nat.le_of_ble_eq_true rfl)) (sX3_has_1 (d + 4) X x1 h _ hr3) (fun r hr => ?_)
    subst hr
    show ab_Ex X (d + 5) 158 19 [(0, .ref 0), (1, .int x0), (2, .int x1), (3, .int x2)] [.int r3] ab_SH (ab_dD h) _
    refine ab_Ex.ifc (c := r3 = 0) (SA := (36, [(0, .ref 0), (1, .int x0), (2, .int x1), (3, .int x2)], [], ab_dD h)) (SB := (22, [(0, .ref 0), (1, .int x0), (2, .int x1), (3, .int x2)], [], ab_dD h)) (fun n => rfl) (fun c4 => ?_) (fun c4 => ?_)
    · replace hf := (if_pos c4).symm.trans hf
      refine ab_Ex.blk (k := 1) (pc' := 39) (lv' := []) (st' := [.long ((-2))]) (sh' := ab_SH) (D' := ab_dD h) (fun n => rfl) ?_
      obtain rfl := Option.some.inj hf
      exact ab_Ex.ret (fun n => rfl) rfl
    · replace hf := (if_neg c4).symm.trans hf
      refine ab_Ex.blk (k := 2) (pc' := 24) (lv' := [(0, .ref 0), (1, .int x0), (2, .int x1), (3, .int x2)]) (st' := [.int x1, .int x0]) (sh' := ab_SH) (D' := ab_dD h) (fun n => rfl) ?_
      refine ab_Ex.ifc (c := x0 = x1) (SA := (36, [(0, .ref 0), (1, .int x0), (2, .int x1), (3, .int x2)], [], ab_dD h)) (SB := (27, [(0, .ref 0), (1, .int x0), (2, .int x1), (3, .int x2)], [], ab_dD h)) (fun n => rfl) (fun c5 => ?_) (fun c5 => ?_)
      · replace hf := (if_pos c5).symm.trans hf
        refine ab_Ex.blk (k := 1) (pc' := 39) (lv' := []) (st' := [.long ((-2))]) (sh' := ab_SH) (D' := ab_dD h) (fun n => rfl) ?_
        obtain rfl := Option.some.inj hf
        exact ab_Ex.ret (fun n => rfl) rfl
      · replace hf := (if_neg c5).symm.trans hf
        refine ab_Ex.blk (k := 1) (pc' := 28) (lv' := [(0, .ref 0), (1, .int x0), (2, .int x1), (3, .int x2)]) (st' := [.int x2]) (sh' := ab_SH) (D' := ab_dD h) (fun n => rfl) ?_
        refine ab_Ex.ifc (c := x2 < 0) (SA := (36, [(0, .ref 0), (1, .int x0), (2, .int x1), (3, .int x2)], [], ab_dD h)) (SB := (31, [(0, .ref 0), (1, .int x0), (2, .int x1), (3, .int x2)], [], ab_dD h)) (fun n => rfl) (fun c6 => ?_) (fun c6 => ?_)
        · replace hf := (if_pos c6).symm.trans hf
          refine ab_Ex.blk (k := 1) (pc' := 39) (lv' := []) (st' := [.long ((-2))]) (sh' := ab_SH) (D' := ab_dD h) (fun n => rfl) ?_
          obtain rfl := Option.some.inj hf
          exact ab_Ex.ret (fun n => rfl) rfl
        · replace hf := (if_neg c6).symm.trans hf
          refine ab_Ex.blk (k := 2) (pc' := 33) (lv' := [(0, .ref 0), (1, .int x0), (2, .int x1), (3, .int x2)]) (st' := [.int 1, .int x2]) (sh' := ab_SH) (D' := ab_dD h) (fun n => rfl) ?_
          refine ab_Ex.ifc (c := x2 ≤ 1) (SA := (40, [(0, .ref 0), (1, .int x0), (2, .int x1), (3, .int x2)], [], ab_dD h)) (SB := (36, [(0, .ref 0), (1, .int x0), (2, .int x1), (3, .int x2)], [], ab_dD h)) (fun n => rfl) (fun c7 => ?_) (fun c7 => ?_)
          · replace hf := (if_pos c7).symm.trans hf
            refine ab_Ex.blk (k := 7) (pc' := 53) (lv' := [(0, .ref 0), (1, .int x0), (2, .int x1), (3, .int x2)]) (st' := [.int x1, .int x0, .int ((h.1 12 0)), .ref 40]) (sh' := ab_SH) (D' := ab_dD h) (fun n => rfl) ?_
            obtain ⟨r8, hr8, hf⟩ := ab_bind_s hf
            refine ab_Ex.call (d := d + 4) (M2 := 45) (as := [.ref 40, .int ((h.1 12 0)), .int x0, .int x1]) (rest := []) (fun n => rfl) rfl (Nat.not_lt.mpr (Nat.le_of_ble_eq_true rfl)) (sX4_comesTo (d) X ((h.1 12 0)) x0 x1 h _ hr8) (fun r hr => ?_)
            subst hr
            show ab_Ex X (d + 5) 158 56 [(0, .ref 0), (1, .int x0), (2, .int x1), (3, .int x2)] [] ab_SH (ab_dD r8) _
            refine ab_Ex.blk (k := 1) (pc' := 57) (lv' := [(0, .ref 0), (1, .int x0), (2, .int x1), (3, .int x2)]) (st' := [.int x2]) (sh' := ab_SH) (D' := ab_dD r8) (fun n => rfl) ?_
            refine ab_Ex.ifc (c := x2 = 0) (SA := (60, [(0, .ref 0), (1, .int x0), (2, .int x1), (3, .int x2)], [], ab_dD r8)) (SB := (70, [(0, .ref 0), (1, .int x0), (2, .int x1), (3, .int x2)], [], ab_dD r8)) (fun n => rfl) (fun c9 => ?_) (fun c9 => ?_)
            · replace hf := (if_pos c9).symm.trans hf
              refine ab_Ex.blk (k := 4) (pc' := 77) (lv' := []) (st' := [.long (((r8).2 40 4))]) (sh' := ab_SH) (D' := ab_dD r8) (fun n => rfl) ?_
              obtain rfl := Option.some.inj hf
              exact ab_Ex.ret (fun n => rfl) rfl
            · replace hf := (if_neg c9).symm.trans hf
              refine ab_Ex.blk (k := 3) (pc' := 77) (lv' := []) (st' := [.long (((r8).2 40 5))]) (sh' := ab_SH) (D' := ab_dD r8) (fun n => rfl) ?_
              obtain rfl := Option.some.inj hf
              exact ab_Ex.ret (fun n => rfl) rfl
          · replace hf := (if_neg c7).symm.trans hf
            refine ab_Ex.blk (k := 1) (pc' := 39) (lv' := []) (st' := [.long ((-2))]) (sh' := ab_SH) (D' := ab_dD h) (fun n => rfl) ?_
            obtain rfl := Option.some.inj hf
            exact ab_Ex.ret (fun n => rfl) rfl
def fX11_mean (x0 : Int32) (h : abJ) : Option (Int64 × abJ) := if x0 < 0 then some ((-2), h) else if x0 ≤ 1 then (fX4_lasts ((h.1 12 0)) h).bind (fun r3 => if r3.1 = 0 then some ((-1), r3.2) else if x0 = 0 then some (((r3.2).2 40 4), r3.2) else some (((r3.2).2 40 5), r3.2)) else some ((-2), h)
set_option maxRecDepth 20000 in
theorem sX11_mean (d : Nat) (X : abX) (x0 : Int32) (h : abJ) (z : (Int64 × abJ)) (hf : fX11_mean x0 h = some z) : ab_Ex X (d + 5) 159 0 [(0, .ref 0), (1, .int x0)] [] ab_SH (ab_dD h) (fun r => r = (some (.long z.1), ab_SH, ab_dD z.2)) := by
  unfold fX11_mean at hf
  refine ab_Ex.blk (k := 1) (pc' := 1) (lv' := [(0, .ref 0), (1, .int x0)]) (st' := [.int x0]) (sh' := ab_SH) (D' := ab_dD h) (fun n => rfl) ?_
  refine ab_Ex.ifc (c := x0 < 0) (SA := (9, [(0, .ref 0), (1, .int x0)], [], ab_dD h)) (SB := (4, [(0, .ref 0), (1, .int x0)], [], ab_dD h)) (fun n => rfl) (fun c1 => ?_) (fun c1 => ?_)
  · replace hf := (if_pos c1).symm.trans hf
    refine ab_Ex.blk (k := 1) (pc' := 12) (lv' := []) (st' := [.long ((-2))]) (sh' := ab_SH) (D' := ab_dD h) (fun n => rfl) ?_
    obtain rfl := Option.some.inj hf
    exact ab_Ex.ret (fun n => rfl) rfl
  · replace hf := (if_neg c1).symm.trans hf
    refine ab_Ex.blk (k := 2) (pc' := 6) (lv' := [(0, .ref 0), (1, .int x0)]) (st' := [.int 1, .int x0]) (sh' := ab_SH) (D' := ab_dD h) (fun n => rfl) ?_
    refine ab_Ex.ifc (c := x0 ≤ 1) (SA := (13, [(0, .ref 0), (1, .int x0)], [], ab_dD h)) (SB := (9, [(0, .ref 0), (1, .int x0)], [], ab_dD h)) (fun n => rfl) (fun c2 => ?_) (fun c2 => ?_)
    · replace hf := (if_pos c2).symm.trans hf
      refine ab_Ex.blk (k := 5) (pc' := 24) (lv' := [(0, .ref 0), (1, .int x0)]) (st' := [.int ((h.1 12 0)), .ref 40]) (sh' := ab_SH) (D' := ab_dD h) (fun n => rfl) ?_
      obtain ⟨r3, hr3, hf⟩ := ab_bind_s hf
      refine ab_Ex.call (d := d + 4) (M2 := 46) (as := [.ref 40, .int ((h.1 12 0))]) (rest := []) (fun n => rfl) rfl (Nat.not_lt.mpr (Nat.le_of_ble_eq_true rfl)) (sX4_lasts (d) X ((h.1 12 0)) h _ hr3) (fun r hr => ?_)
      subst hr
      show ab_Ex X (d + 5) 159 27 [(0, .ref 0), (1, .int x0)] [.int r3.1] ab_SH (ab_dD r3.2) _
      refine ab_Ex.ifc (c := r3.1 = 0) (SA := (30, [(0, .ref 0), (1, .int x0)], [], ab_dD r3.2)) (SB := (34, [(0, .ref 0), (1, .int x0)], [], ab_dD r3.2)) (fun n => rfl) (fun c4 => ?_) (fun c4 => ?_)
      · replace hf := (if_pos c4).symm.trans hf
        refine ab_Ex.blk (k := 1) (pc' := 33) (lv' := [(0, .ref 0), (1, .int x0)]) (st' := [.long ((-1))]) (sh' := ab_SH) (D' := ab_dD r3.2) (fun n => rfl) ?_
        obtain rfl := Option.some.inj hf
        exact ab_Ex.ret (fun n => rfl) rfl
      · replace hf := (if_neg c4).symm.trans hf
        refine ab_Ex.blk (k := 1) (pc' := 35) (lv' := [(0, .ref 0), (1, .int x0)]) (st' := [.int x0]) (sh' := ab_SH) (D' := ab_dD r3.2) (fun n => rfl) ?_
        refine ab_Ex.ifc (c := x0 = 0) (SA := (38, [(0, .ref 0), (1, .int x0)], [], ab_dD r3.2)) (SB := (48, [(0, .ref 0), (1, .int x0)], [], ab_dD r3.2)) (fun n => rfl) (fun c5 => ?_) (fun c5 => ?_)
        · replace hf := (if_pos c5).symm.trans hf
          refine ab_Ex.blk (k := 4) (pc' := 55) (lv' := []) (st' := [.long (((r3.2).2 40 4))]) (sh' := ab_SH) (D' := ab_dD r3.2) (fun n => rfl) ?_
          obtain rfl := Option.some.inj hf
          exact ab_Ex.ret (fun n => rfl) rfl
        · replace hf := (if_neg c5).symm.trans hf
          refine ab_Ex.blk (k := 3) (pc' := 55) (lv' := []) (st' := [.long (((r3.2).2 40 5))]) (sh' := ab_SH) (D' := ab_dD r3.2) (fun n => rfl) ?_
          obtain rfl := Option.some.inj hf
          exact ab_Ex.ret (fun n => rfl) rfl
    · replace hf := (if_neg c2).symm.trans hf
      refine ab_Ex.blk (k := 1) (pc' := 12) (lv' := []) (st' := [.long ((-2))]) (sh' := ab_SH) (D' := ab_dD h) (fun n => rfl) ?_
      obtain rfl := Option.some.inj hf
      exact ab_Ex.ret (fun n => rfl) rfl
def fX11_score (x0 : Int32) (x1 : Int32) (x2 : Int32) (h : abJ) : Option (Int32 × abJ) := (fX3_has 1 x0 h).bind (fun r1 => if r1 = 0 then some ((-2), h) else (fX3_has 1 x1 h).bind (fun r3 => if r3 = 0 then some ((-2), h) else if x0 = x1 then some ((-2), h) else if x2 < 0 then some ((-3), h) else if x2 ≤ 999 then (fX2_countHits x0 x1 x2 h).bind (fun r8 => some (r8.1, r8.2)) else some ((-3), h)))
set_option maxRecDepth 20000 in
theorem sX11_score (d : Nat) (X : abX) (x0 : Int32) (x1 : Int32) (x2 : Int32) (h : abJ) (z : (Int32 × abJ)) (hf : fX11_score x0 x1 x2 h = some z) : ab_Ex X (d + 5) 160 0 [(0, .ref 0), (1, .int x0), (2, .int x1), (3, .int x2)] [] ab_SH (ab_dD h) (fun r => r = (some (.int z.1), ab_SH, ab_dD z.2)) := by
  unfold fX11_score at hf
  refine ab_Ex.blk (k := 3) (pc' := 5) (lv' := [(0, .ref 0), (1, .int x0), (2, .int x1), (3, .int x2)]) (st' := [.int x0, .ref 1]) (sh' := ab_SH) (D' := ab_dD h) (fun n => rfl) ?_
  obtain ⟨r1, hr1, hf⟩ := ab_bind_s hf
  refine ab_Ex.call (d := d + 4) (M2 := 34) (as := [.ref 1, .int x0]) (rest := []) (fun n => rfl) rfl (Nat.not_lt.mpr (Nat.le_of_ble_eq_true rfl)) (sX3_has_1 (d + 4) X x0 h _ hr1) (fun r hr => ?_)
  subst hr
  show ab_Ex X (d + 5) 160 8 [(0, .ref 0), (1, .int x0), (2, .int x1), (3, .int x2)] [.int r1] ab_SH (ab_dD h) _
  refine ab_Ex.ifc (c := r1 = 0) (SA := (27, [(0, .ref 0), (1, .int x0), (2, .int x1), (3, .int x2)], [], ab_dD h)) (SB := (11, [(0, .ref 0), (1, .int x0), (2, .int x1), (3, .int x2)], [], ab_dD h)) (fun n => rfl) (fun c2 => ?_) (fun c2 => ?_)
  · replace hf := (if_pos c2).symm.trans hf
    refine ab_Ex.blk (k := 1) (pc' := 29) (lv' := []) (st' := [.int ((-2))]) (sh' := ab_SH) (D' := ab_dD h) (fun n => rfl) ?_
    obtain rfl := Option.some.inj hf
    exact ab_Ex.ret (fun n => rfl) rfl
  · replace hf := (if_neg c2).symm.trans hf
    refine ab_Ex.blk (k := 3) (pc' := 16) (lv' := [(0, .ref 0), (1, .int x0), (2, .int x1), (3, .int x2)]) (st' := [.int x1, .ref 1]) (sh' := ab_SH) (D' := ab_dD h) (fun n => rfl) ?_
    obtain ⟨r3, hr3, hf⟩ := ab_bind_s hf
    refine ab_Ex.call (d := d + 4) (M2 := 34) (as := [.ref 1, .int x1]) (rest := []) (fun n => rfl) rfl (Nat.not_lt.mpr (Nat.le_of_ble_eq_true rfl)) (sX3_has_1 (d + 4) X x1 h _ hr3) (fun r hr => ?_)
    subst hr
    show ab_Ex X (d + 5) 160 19 [(0, .ref 0), (1, .int x0), (2, .int x1), (3, .int x2)] [.int r3] ab_SH (ab_dD h) _
    refine ab_Ex.ifc (c := r3 = 0) (SA := (27, [(0, .ref 0), (1, .int x0), (2, .int x1), (3, .int x2)], [], ab_dD h)) (SB := (22, [(0, .ref 0), (1, .int x0), (2, .int x1), (3, .int x2)], [], ab_dD h)) (fun n => rfl) (fun c4 => ?_) (fun c4 => ?_)
    · replace hf := (if_pos c4).symm.trans hf
      refine ab_Ex.blk (k := 1) (pc' := 29) (lv' := []) (st' := [.int ((-2))]) (sh' := ab_SH) (D' := ab_dD h) (fun n => rfl) ?_
      obtain rfl := Option.some.inj hf
      exact ab_Ex.ret (fun n => rfl) rfl
    · replace hf := (if_neg c4).symm.trans hf
      refine ab_Ex.blk (k := 2) (pc' := 24) (lv' := [(0, .ref 0), (1, .int x0), (2, .int x1), (3, .int x2)]) (st' := [.int x1, .int x0]) (sh' := ab_SH) (D' := ab_dD h) (fun n => rfl) ?_
      refine ab_Ex.ifc (c := x0 = x1) (SA := (27, [(0, .ref 0), (1, .int x0), (2, .int x1), (3, .int x2)], [], ab_dD h)) (SB := (30, [(0, .ref 0), (1, .int x0), (2, .int x1), (3, .int x2)], [], ab_dD h)) (fun n => rfl) (fun c5 => ?_) (fun c5 => ?_)
      · replace hf := (if_pos c5).symm.trans hf
        refine ab_Ex.blk (k := 1) (pc' := 29) (lv' := []) (st' := [.int ((-2))]) (sh' := ab_SH) (D' := ab_dD h) (fun n => rfl) ?_
        obtain rfl := Option.some.inj hf
        exact ab_Ex.ret (fun n => rfl) rfl
      · replace hf := (if_neg c5).symm.trans hf
        refine ab_Ex.blk (k := 1) (pc' := 31) (lv' := [(0, .ref 0), (1, .int x0), (2, .int x1), (3, .int x2)]) (st' := [.int x2]) (sh' := ab_SH) (D' := ab_dD h) (fun n => rfl) ?_
        refine ab_Ex.ifc (c := x2 < 0) (SA := (41, [(0, .ref 0), (1, .int x0), (2, .int x1), (3, .int x2)], [], ab_dD h)) (SB := (34, [(0, .ref 0), (1, .int x0), (2, .int x1), (3, .int x2)], [], ab_dD h)) (fun n => rfl) (fun c6 => ?_) (fun c6 => ?_)
        · replace hf := (if_pos c6).symm.trans hf
          refine ab_Ex.blk (k := 1) (pc' := 43) (lv' := []) (st' := [.int ((-3))]) (sh' := ab_SH) (D' := ab_dD h) (fun n => rfl) ?_
          obtain rfl := Option.some.inj hf
          exact ab_Ex.ret (fun n => rfl) rfl
        · replace hf := (if_neg c6).symm.trans hf
          refine ab_Ex.blk (k := 2) (pc' := 38) (lv' := [(0, .ref 0), (1, .int x0), (2, .int x1), (3, .int x2)]) (st' := [.int 999, .int x2]) (sh' := ab_SH) (D' := ab_dD h) (fun n => rfl) ?_
          refine ab_Ex.ifc (c := x2 ≤ 999) (SA := (44, [(0, .ref 0), (1, .int x0), (2, .int x1), (3, .int x2)], [], ab_dD h)) (SB := (41, [(0, .ref 0), (1, .int x0), (2, .int x1), (3, .int x2)], [], ab_dD h)) (fun n => rfl) (fun c7 => ?_) (fun c7 => ?_)
          · replace hf := (if_pos c7).symm.trans hf
            refine ab_Ex.blk (k := 7) (pc' := 55) (lv' := [(0, .ref 0), (1, .int x0), (2, .int x1), (3, .int x2)]) (st' := [.int x2, .int x1, .int x0, .ref 12, .ref 32]) (sh' := ab_SH) (D' := ab_dD h) (fun n => rfl) ?_
            obtain ⟨r8, hr8, hf⟩ := ab_bind_s hf
            refine ab_Ex.call (d := d + 4) (M2 := 30) (as := [.ref 32, .ref 12, .int x0, .int x1, .int x2]) (rest := []) (fun n => rfl) rfl (Nat.not_lt.mpr (Nat.le_of_ble_eq_true rfl)) (sX2_countHits (d) X x0 x1 x2 h _ hr8) (fun r hr => ?_)
            subst hr
            show ab_Ex X (d + 5) 160 58 [(0, .ref 0), (1, .int x0), (2, .int x1), (3, .int x2)] [.int r8.1] ab_SH (ab_dD r8.2) _
            obtain rfl := Option.some.inj hf
            exact ab_Ex.ret (fun n => rfl) rfl
          · replace hf := (if_neg c7).symm.trans hf
            refine ab_Ex.blk (k := 1) (pc' := 43) (lv' := []) (st' := [.int ((-3))]) (sh' := ab_SH) (D' := ab_dD h) (fun n => rfl) ?_
            obtain rfl := Option.some.inj hf
            exact ab_Ex.ret (fun n => rfl) rfl
def fX11_forces (x0 : Int32) (h : abJ) : Option (Int32 × abJ) := (fX3_has 1 x0 h).bind (fun r1 => if r1 = 0 then some ((-2), h) else (fX1_force ((h.1 12 0)) x0 h).bind (fun r3 => some (r3.1, r3.2)))
set_option maxRecDepth 20000 in
theorem sX11_forces (d : Nat) (X : abX) (x0 : Int32) (h : abJ) (z : (Int32 × abJ)) (hf : fX11_forces x0 h = some z) : ab_Ex X (d + 5) 161 0 [(0, .ref 0), (1, .int x0)] [] ab_SH (ab_dD h) (fun r => r = (some (.int z.1), ab_SH, ab_dD z.2)) := by
  unfold fX11_forces at hf
  refine ab_Ex.blk (k := 3) (pc' := 5) (lv' := [(0, .ref 0), (1, .int x0)]) (st' := [.int x0, .ref 1]) (sh' := ab_SH) (D' := ab_dD h) (fun n => rfl) ?_
  obtain ⟨r1, hr1, hf⟩ := ab_bind_s hf
  refine ab_Ex.call (d := d + 4) (M2 := 34) (as := [.ref 1, .int x0]) (rest := []) (fun n => rfl) rfl (Nat.not_lt.mpr (Nat.le_of_ble_eq_true rfl)) (sX3_has_1 (d + 4) X x0 h _ hr1) (fun r hr => ?_)
  subst hr
  show ab_Ex X (d + 5) 161 8 [(0, .ref 0), (1, .int x0)] [.int r1] ab_SH (ab_dD h) _
  refine ab_Ex.ifc (c := r1 = 0) (SA := (29, [(0, .ref 0), (1, .int x0)], [], ab_dD h)) (SB := (11, [(0, .ref 0), (1, .int x0)], [], ab_dD h)) (fun n => rfl) (fun c2 => ?_) (fun c2 => ?_)
  · replace hf := (if_pos c2).symm.trans hf
    refine ab_Ex.blk (k := 1) (pc' := 31) (lv' := []) (st' := [.int ((-2))]) (sh' := ab_SH) (D' := ab_dD h) (fun n => rfl) ?_
    obtain rfl := Option.some.inj hf
    exact ab_Ex.ret (fun n => rfl) rfl
  · replace hf := (if_neg c2).symm.trans hf
    refine ab_Ex.blk (k := 6) (pc' := 23) (lv' := [(0, .ref 0), (1, .int x0)]) (st' := [.int x0, .int ((h.1 12 0)), .ref 39]) (sh' := ab_SH) (D' := ab_dD h) (fun n => rfl) ?_
    obtain ⟨r3, hr3, hf⟩ := ab_bind_s hf
    refine ab_Ex.call (d := d + 4) (M2 := 16) (as := [.ref 39, .int ((h.1 12 0)), .int x0]) (rest := []) (fun n => rfl) rfl (Nat.not_lt.mpr (Nat.le_of_ble_eq_true rfl)) (sX1_force (d) X ((h.1 12 0)) x0 h _ hr3) (fun r hr => ?_)
    subst hr
    show ab_Ex X (d + 5) 161 26 [(0, .ref 0), (1, .int x0)] [.int r3.1] ab_SH (ab_dD r3.2) _
    refine ab_Ex.blk (k := 1) (pc' := 31) (lv' := []) (st' := [.int r3.1]) (sh' := ab_SH) (D' := ab_dD r3.2) (fun n => rfl) ?_
    obtain rfl := Option.some.inj hf
    exact ab_Ex.ret (fun n => rfl) rfl
def fX11_best (x0 : Int32) (h : abJ) : Option (Int32 × abJ) := (fX3_has 1 x0 h).bind (fun r1 => if r1 = 0 then some ((-2), h) else (fX1_forcingRoad ((h.1 12 0)) x0 h).bind (fun r3 => some (r3.1, r3.2)))
set_option maxRecDepth 20000 in
theorem sX11_best (d : Nat) (X : abX) (x0 : Int32) (h : abJ) (z : (Int32 × abJ)) (hf : fX11_best x0 h = some z) : ab_Ex X (d + 6) 162 0 [(0, .ref 0), (1, .int x0)] [] ab_SH (ab_dD h) (fun r => r = (some (.int z.1), ab_SH, ab_dD z.2)) := by
  unfold fX11_best at hf
  refine ab_Ex.blk (k := 3) (pc' := 5) (lv' := [(0, .ref 0), (1, .int x0)]) (st' := [.int x0, .ref 1]) (sh' := ab_SH) (D' := ab_dD h) (fun n => rfl) ?_
  obtain ⟨r1, hr1, hf⟩ := ab_bind_s hf
  refine ab_Ex.call (d := d + 5) (M2 := 34) (as := [.ref 1, .int x0]) (rest := []) (fun n => rfl) rfl (Nat.not_lt.mpr (Nat.le_of_ble_eq_true rfl)) (sX3_has_1 (d + 5) X x0 h _ hr1) (fun r hr => ?_)
  subst hr
  show ab_Ex X (d + 6) 162 8 [(0, .ref 0), (1, .int x0)] [.int r1] ab_SH (ab_dD h) _
  refine ab_Ex.ifc (c := r1 = 0) (SA := (29, [(0, .ref 0), (1, .int x0)], [], ab_dD h)) (SB := (11, [(0, .ref 0), (1, .int x0)], [], ab_dD h)) (fun n => rfl) (fun c2 => ?_) (fun c2 => ?_)
  · replace hf := (if_pos c2).symm.trans hf
    refine ab_Ex.blk (k := 1) (pc' := 31) (lv' := []) (st' := [.int ((-2))]) (sh' := ab_SH) (D' := ab_dD h) (fun n => rfl) ?_
    obtain rfl := Option.some.inj hf
    exact ab_Ex.ret (fun n => rfl) rfl
  · replace hf := (if_neg c2).symm.trans hf
    refine ab_Ex.blk (k := 6) (pc' := 23) (lv' := [(0, .ref 0), (1, .int x0)]) (st' := [.int x0, .int ((h.1 12 0)), .ref 39]) (sh' := ab_SH) (D' := ab_dD h) (fun n => rfl) ?_
    obtain ⟨r3, hr3, hf⟩ := ab_bind_s hf
    refine ab_Ex.call (d := d + 5) (M2 := 17) (as := [.ref 39, .int ((h.1 12 0)), .int x0]) (rest := []) (fun n => rfl) rfl (Nat.not_lt.mpr (Nat.le_of_ble_eq_true rfl)) (sX1_forcingRoad (d) X ((h.1 12 0)) x0 h _ hr3) (fun r hr => ?_)
    subst hr
    show ab_Ex X (d + 6) 162 26 [(0, .ref 0), (1, .int x0)] [.int r3.1] ab_SH (ab_dD r3.2) _
    refine ab_Ex.blk (k := 1) (pc' := 31) (lv' := []) (st' := [.int r3.1]) (sh' := ab_SH) (D' := ab_dD r3.2) (fun n => rfl) ?_
    obtain rfl := Option.some.inj hf
    exact ab_Ex.ret (fun n => rfl) rfl
def fX11_numbers (x0 : Int32) (x1 : Int32) (x2 : Int32) (h : abJ) : Option (Int32 × abJ) := (fX11_noTray x0 h).bind (fun r1 => if r1 = 0 then if x1 < 0 then some ((-2), h) else if x1 ≤ 3 then if x2 < 0 then some ((-3), h) else if x2 ≤ 40 then ab_ask (x0 < 0 ∨ 4 ≤ (x0 : Int32).toNatClampNeg) ((fX10_lay (ab_tr x0) x1 x2 h).bind (fun r8 => some (0, r8))) else some ((-3), h) else some ((-2), h) else some ((-2), h))
set_option maxRecDepth 20000 in
theorem sX11_numbers (d : Nat) (X : abX) (x0 : Int32) (x1 : Int32) (x2 : Int32) (h : abJ) (z : (Int32 × abJ)) (hf : fX11_numbers x0 x1 x2 h = some z) : ab_Ex X (d + 2) 163 0 [(0, .ref 0), (1, .int x0), (2, .int x1), (3, .int x2)] [] ab_SH (ab_dD h) (fun r => r = (some (.int z.1), ab_SH, ab_dD z.2)) := by
  unfold fX11_numbers at hf
  refine ab_Ex.blk (k := 1) (pc' := 1) (lv' := [(0, .ref 0), (1, .int x0), (2, .int x1), (3, .int x2)]) (st' := [.int x0]) (sh' := ab_SH) (D' := ab_dD h) (fun n => rfl) ?_
  obtain ⟨r1, hr1, hf⟩ := ab_bind_s hf
  refine ab_Ex.call (d := d + 1) (M2 := 170) (as := [.int x0]) (rest := []) (fun n => rfl) rfl (Nat.not_lt.mpr (Nat.le_of_ble_eq_true rfl)) (sX11_noTray (d + 1) X x0 h _ hr1) (fun r hr => ?_)
  subst hr
  show ab_Ex X (d + 2) 163 4 [(0, .ref 0), (1, .int x0), (2, .int x1), (3, .int x2)] [.int r1] ab_SH (ab_dD h) _
  refine ab_Ex.ifc (c := r1 = 0) (SA := (7, [(0, .ref 0), (1, .int x0), (2, .int x1), (3, .int x2)], [], ab_dD h)) (SB := (16, [(0, .ref 0), (1, .int x0), (2, .int x1), (3, .int x2)], [], ab_dD h)) (fun n => rfl) (fun c2 => ?_) (fun c2 => ?_)
  · replace hf := (if_pos c2).symm.trans hf
    refine ab_Ex.blk (k := 1) (pc' := 8) (lv' := [(0, .ref 0), (1, .int x0), (2, .int x1), (3, .int x2)]) (st' := [.int x1]) (sh' := ab_SH) (D' := ab_dD h) (fun n => rfl) ?_
    refine ab_Ex.ifc (c := x1 < 0) (SA := (16, [(0, .ref 0), (1, .int x0), (2, .int x1), (3, .int x2)], [], ab_dD h)) (SB := (11, [(0, .ref 0), (1, .int x0), (2, .int x1), (3, .int x2)], [], ab_dD h)) (fun n => rfl) (fun c3 => ?_) (fun c3 => ?_)
    · replace hf := (if_pos c3).symm.trans hf
      refine ab_Ex.blk (k := 1) (pc' := 18) (lv' := []) (st' := [.int ((-2))]) (sh' := ab_SH) (D' := ab_dD h) (fun n => rfl) ?_
      obtain rfl := Option.some.inj hf
      exact ab_Ex.ret (fun n => rfl) rfl
    · replace hf := (if_neg c3).symm.trans hf
      refine ab_Ex.blk (k := 2) (pc' := 13) (lv' := [(0, .ref 0), (1, .int x0), (2, .int x1), (3, .int x2)]) (st' := [.int 3, .int x1]) (sh' := ab_SH) (D' := ab_dD h) (fun n => rfl) ?_
      refine ab_Ex.ifc (c := x1 ≤ 3) (SA := (19, [(0, .ref 0), (1, .int x0), (2, .int x1), (3, .int x2)], [], ab_dD h)) (SB := (16, [(0, .ref 0), (1, .int x0), (2, .int x1), (3, .int x2)], [], ab_dD h)) (fun n => rfl) (fun c4 => ?_) (fun c4 => ?_)
      · replace hf := (if_pos c4).symm.trans hf
        refine ab_Ex.blk (k := 1) (pc' := 20) (lv' := [(0, .ref 0), (1, .int x0), (2, .int x1), (3, .int x2)]) (st' := [.int x2]) (sh' := ab_SH) (D' := ab_dD h) (fun n => rfl) ?_
        refine ab_Ex.ifc (c := x2 < 0) (SA := (29, [(0, .ref 0), (1, .int x0), (2, .int x1), (3, .int x2)], [], ab_dD h)) (SB := (23, [(0, .ref 0), (1, .int x0), (2, .int x1), (3, .int x2)], [], ab_dD h)) (fun n => rfl) (fun c5 => ?_) (fun c5 => ?_)
        · replace hf := (if_pos c5).symm.trans hf
          refine ab_Ex.blk (k := 1) (pc' := 31) (lv' := []) (st' := [.int ((-3))]) (sh' := ab_SH) (D' := ab_dD h) (fun n => rfl) ?_
          obtain rfl := Option.some.inj hf
          exact ab_Ex.ret (fun n => rfl) rfl
        · replace hf := (if_neg c5).symm.trans hf
          refine ab_Ex.blk (k := 2) (pc' := 26) (lv' := [(0, .ref 0), (1, .int x0), (2, .int x1), (3, .int x2)]) (st' := [.int 40, .int x2]) (sh' := ab_SH) (D' := ab_dD h) (fun n => rfl) ?_
          refine ab_Ex.ifc (c := x2 ≤ 40) (SA := (32, [(0, .ref 0), (1, .int x0), (2, .int x1), (3, .int x2)], [], ab_dD h)) (SB := (29, [(0, .ref 0), (1, .int x0), (2, .int x1), (3, .int x2)], [], ab_dD h)) (fun n => rfl) (fun c6 => ?_) (fun c6 => ?_)
          · replace hf := (if_pos c6).symm.trans hf
            refine ab_Ex.blk (k := 3) (pc' := 37) (lv' := [(0, .ref 0), (1, .int x0), (2, .int x1), (3, .int x2)]) (st' := [.int x0, .ref 43]) (sh' := ab_SH) (D' := ab_dD h) (fun n => rfl) ?_
            obtain ⟨c7, hf⟩ := ab_ask_s hf
            rcases ab_lt4 c7 with e8 | e8 | e8 | e8
            · have oe8 : ab_tr x0 = 44 := by unfold ab_tr; rw [e8]
              try rw [oe8] at hf
              refine ab_Ex.aald (o := 43) (j := x0) (t := 104) (n := 4) (i := 0) (z := 44) (fun n => rfl) c7 (by decide) e8 rfl (by decide) ?_
              refine ab_Ex.blk (k := 2) (pc' := 40) (lv' := [(0, .ref 0), (1, .int x0), (2, .int x1), (3, .int x2)]) (st' := [.int x2, .int x1, .ref 44]) (sh' := ab_SH) (D' := ab_dD h) (fun n => rfl) ?_
              obtain ⟨r9, hr9, hf⟩ := ab_bind_s hf
              refine ab_Ex.call (d := d + 1) (M2 := 121) (as := [.ref 44, .int x1, .int x2]) (rest := []) (fun n => rfl) rfl (Nat.not_lt.mpr (Nat.le_of_ble_eq_true rfl)) (sX10_lay_44 (d) X x1 x2 h _ hr9) (fun r hr => ?_)
              subst hr
              show ab_Ex X (d + 2) 163 43 [(0, .ref 0), (1, .int x0), (2, .int x1), (3, .int x2)] [] ab_SH (ab_dD r9) _
              refine ab_Ex.blk (k := 1) (pc' := 44) (lv' := [(0, .ref 0), (1, .int x0), (2, .int x1), (3, .int x2)]) (st' := [.int 0]) (sh' := ab_SH) (D' := ab_dD r9) (fun n => rfl) ?_
              obtain rfl := Option.some.inj hf
              exact ab_Ex.ret (fun n => rfl) rfl
            · have oe8 : ab_tr x0 = 46 := by unfold ab_tr; rw [e8]
              try rw [oe8] at hf
              refine ab_Ex.aald (o := 43) (j := x0) (t := 104) (n := 4) (i := 1) (z := 46) (fun n => rfl) c7 (by decide) e8 rfl (by decide) ?_
              refine ab_Ex.blk (k := 2) (pc' := 40) (lv' := [(0, .ref 0), (1, .int x0), (2, .int x1), (3, .int x2)]) (st' := [.int x2, .int x1, .ref 46]) (sh' := ab_SH) (D' := ab_dD h) (fun n => rfl) ?_
              obtain ⟨r10, hr10, hf⟩ := ab_bind_s hf
              refine ab_Ex.call (d := d + 1) (M2 := 121) (as := [.ref 46, .int x1, .int x2]) (rest := []) (fun n => rfl) rfl (Nat.not_lt.mpr (Nat.le_of_ble_eq_true rfl)) (sX10_lay_46 (d) X x1 x2 h _ hr10) (fun r hr => ?_)
              subst hr
              show ab_Ex X (d + 2) 163 43 [(0, .ref 0), (1, .int x0), (2, .int x1), (3, .int x2)] [] ab_SH (ab_dD r10) _
              refine ab_Ex.blk (k := 1) (pc' := 44) (lv' := [(0, .ref 0), (1, .int x0), (2, .int x1), (3, .int x2)]) (st' := [.int 0]) (sh' := ab_SH) (D' := ab_dD r10) (fun n => rfl) ?_
              obtain rfl := Option.some.inj hf
              exact ab_Ex.ret (fun n => rfl) rfl
            · have oe8 : ab_tr x0 = 48 := by unfold ab_tr; rw [e8]
              try rw [oe8] at hf
              refine ab_Ex.aald (o := 43) (j := x0) (t := 104) (n := 4) (i := 2) (z := 48) (fun n => rfl) c7 (by decide) e8 rfl (by decide) ?_
              refine ab_Ex.blk (k := 2) (pc' := 40) (lv' := [(0, .ref 0), (1, .int x0), (2, .int x1), (3, .int x2)]) (st' := [.int x2, .int x1, .ref 48]) (sh' := ab_SH) (D' := ab_dD h) (fun n => rfl) ?_
              obtain ⟨r11, hr11, hf⟩ := ab_bind_s hf
              refine ab_Ex.call (d := d + 1) (M2 := 121) (as := [.ref 48, .int x1, .int x2]) (rest := []) (fun n => rfl) rfl (Nat.not_lt.mpr (Nat.le_of_ble_eq_true rfl)) (sX10_lay_48 (d) X x1 x2 h _ hr11) (fun r hr => ?_)
              subst hr
              show ab_Ex X (d + 2) 163 43 [(0, .ref 0), (1, .int x0), (2, .int x1), (3, .int x2)] [] ab_SH (ab_dD r11) _
              refine ab_Ex.blk (k := 1) (pc' := 44) (lv' := [(0, .ref 0), (1, .int x0), (2, .int x1), (3, .int x2)]) (st' := [.int 0]) (sh' := ab_SH) (D' := ab_dD r11) (fun n => rfl) ?_
              obtain rfl := Option.some.inj hf
              exact ab_Ex.ret (fun n => rfl) rfl
            · have oe8 : ab_tr x0 = 50 := by unfold ab_tr; rw [e8]
              try rw [oe8] at hf
              refine ab_Ex.aald (o := 43) (j := x0) (t := 104) (n := 4) (i := 3) (z := 50) (fun n => rfl) c7 (by decide) e8 rfl (by decide) ?_
              refine ab_Ex.blk (k := 2) (pc' := 40) (lv' := [(0, .ref 0), (1, .int x0), (2, .int x1), (3, .int x2)]) (st' := [.int x2, .int x1, .ref 50]) (sh' := ab_SH) (D' := ab_dD h) (fun n => rfl) ?_
              obtain ⟨r12, hr12, hf⟩ := ab_bind_s hf
              refine ab_Ex.call (d := d + 1) (M2 := 121) (as := [.ref 50, .int x1, .int x2]) (rest := []) (fun n => rfl) rfl (Nat.not_lt.mpr (Nat.le_of_ble_eq_true rfl)) (sX10_lay_50 (d) X x1 x2 h _ hr12) (fun r hr => ?_)
              subst hr
              show ab_Ex X (d + 2) 163 43 [(0, .ref 0), (1, .int x0), (2, .int x1), (3, .int x2)] [] ab_SH (ab_dD r12) _
              refine ab_Ex.blk (k := 1) (pc' := 44) (lv' := [(0, .ref 0), (1, .int x0), (2, .int x1), (3, .int x2)]) (st' := [.int 0]) (sh' := ab_SH) (D' := ab_dD r12) (fun n => rfl) ?_
              obtain rfl := Option.some.inj hf
              exact ab_Ex.ret (fun n => rfl) rfl
          · replace hf := (if_neg c6).symm.trans hf
            refine ab_Ex.blk (k := 1) (pc' := 31) (lv' := []) (st' := [.int ((-3))]) (sh' := ab_SH) (D' := ab_dD h) (fun n => rfl) ?_
            obtain rfl := Option.some.inj hf
            exact ab_Ex.ret (fun n => rfl) rfl
      · replace hf := (if_neg c4).symm.trans hf
        refine ab_Ex.blk (k := 1) (pc' := 18) (lv' := []) (st' := [.int ((-2))]) (sh' := ab_SH) (D' := ab_dD h) (fun n => rfl) ?_
        obtain rfl := Option.some.inj hf
        exact ab_Ex.ret (fun n => rfl) rfl
  · replace hf := (if_neg c2).symm.trans hf
    refine ab_Ex.blk (k := 1) (pc' := 18) (lv' := []) (st' := [.int ((-2))]) (sh' := ab_SH) (D' := ab_dD h) (fun n => rfl) ?_
    obtain rfl := Option.some.inj hf
    exact ab_Ex.ret (fun n => rfl) rfl
def fX11_write (x0 : Int32) (x1 : Int32) (x2 : Int64) (h : abJ) : Option (Int64 × abJ) := (fX11_noTray x0 h).bind (fun r1 => if r1 = 0 then ab_ask (x0 < 0 ∨ 4 ≤ (x0 : Int32).toNatClampNeg) (if (h.1 (ab_tr x0) 0) = 0 then if x1 < 0 then some ((-7), h) else ab_ask (x0 < 0 ∨ 4 ≤ (x0 : Int32).toNatClampNeg) (if x1 < (h.1 (ab_tr x0) 2) then ab_ask (x0 < 0 ∨ 4 ≤ (x0 : Int32).toNatClampNeg) ((fX10_put (ab_tr x0) x1 x2 h).bind (fun r9 => ab_ask (x0 < 0 ∨ 4 ≤ (x0 : Int32).toNatClampNeg) ((fX10_value (ab_tr x0) x1 r9).bind (fun r11 => some (r11, r9))))) else some ((-7), h)) else some ((-6), h)) else some ((-2), h))
set_option maxRecDepth 20000 in
theorem sX11_write (d : Nat) (X : abX) (x0 : Int32) (x1 : Int32) (x2 : Int64) (h : abJ) (z : (Int64 × abJ)) (hf : fX11_write x0 x1 x2 h = some z) : ab_Ex X (d + 2) 164 0 [(0, .ref 0), (1, .int x0), (2, .int x1), (3, .long x2)] [] ab_SH (ab_dD h) (fun r => r = (some (.long z.1), ab_SH, ab_dD z.2)) := by
  unfold fX11_write at hf
  refine ab_Ex.blk (k := 1) (pc' := 1) (lv' := [(0, .ref 0), (1, .int x0), (2, .int x1), (3, .long x2)]) (st' := [.int x0]) (sh' := ab_SH) (D' := ab_dD h) (fun n => rfl) ?_
  obtain ⟨r1, hr1, hf⟩ := ab_bind_s hf
  refine ab_Ex.call (d := d + 1) (M2 := 170) (as := [.int x0]) (rest := []) (fun n => rfl) rfl (Nat.not_lt.mpr (Nat.le_of_ble_eq_true rfl)) (sX11_noTray (d + 1) X x0 h _ hr1) (fun r hr => ?_)
  subst hr
  show ab_Ex X (d + 2) 164 4 [(0, .ref 0), (1, .int x0), (2, .int x1), (3, .long x2)] [.int r1] ab_SH (ab_dD h) _
  refine ab_Ex.ifc (c := r1 = 0) (SA := (11, [(0, .ref 0), (1, .int x0), (2, .int x1), (3, .long x2)], [], ab_dD h)) (SB := (7, [(0, .ref 0), (1, .int x0), (2, .int x1), (3, .long x2)], [], ab_dD h)) (fun n => rfl) (fun c2 => ?_) (fun c2 => ?_)
  · replace hf := (if_pos c2).symm.trans hf
    refine ab_Ex.blk (k := 3) (pc' := 16) (lv' := [(0, .ref 0), (1, .int x0), (2, .int x1), (3, .long x2)]) (st' := [.int x0, .ref 43]) (sh' := ab_SH) (D' := ab_dD h) (fun n => rfl) ?_
    obtain ⟨c3, hf⟩ := ab_ask_s hf
    rcases ab_lt4 c3 with e4 | e4 | e4 | e4
    · have oe4 : ab_tr x0 = 44 := by unfold ab_tr; rw [e4]
      try rw [oe4] at hf
      refine ab_Ex.aald (o := 43) (j := x0) (t := 104) (n := 4) (i := 0) (z := 44) (fun n => rfl) c3 (by decide) e4 rfl (by decide) ?_
      refine ab_Ex.blk (k := 1) (pc' := 20) (lv' := [(0, .ref 0), (1, .int x0), (2, .int x1), (3, .long x2)]) (st' := [.int ((h.1 44 0))]) (sh' := ab_SH) (D' := ab_dD h) (fun n => rfl) ?_
      refine ab_Ex.ifc (c := (h.1 44 0) = 0) (SA := (27, [(0, .ref 0), (1, .int x0), (2, .int x1), (3, .long x2)], [], ab_dD h)) (SB := (23, [(0, .ref 0), (1, .int x0), (2, .int x1), (3, .long x2)], [], ab_dD h)) (fun n => rfl) (fun c5 => ?_) (fun c5 => ?_)
      · replace hf := (if_pos c5).symm.trans hf
        refine ab_Ex.blk (k := 1) (pc' := 28) (lv' := [(0, .ref 0), (1, .int x0), (2, .int x1), (3, .long x2)]) (st' := [.int x1]) (sh' := ab_SH) (D' := ab_dD h) (fun n => rfl) ?_
        refine ab_Ex.ifc (c := x1 < 0) (SA := (44, [(0, .ref 0), (1, .int x0), (2, .int x1), (3, .long x2)], [], ab_dD h)) (SB := (31, [(0, .ref 0), (1, .int x0), (2, .int x1), (3, .long x2)], [], ab_dD h)) (fun n => rfl) (fun c6 => ?_) (fun c6 => ?_)
        · replace hf := (if_pos c6).symm.trans hf
          refine ab_Ex.blk (k := 1) (pc' := 47) (lv' := []) (st' := [.long ((-7))]) (sh' := ab_SH) (D' := ab_dD h) (fun n => rfl) ?_
          obtain rfl := Option.some.inj hf
          exact ab_Ex.ret (fun n => rfl) rfl
        · replace hf := (if_neg c6).symm.trans hf
          refine ab_Ex.blk (k := 4) (pc' := 37) (lv' := [(0, .ref 0), (1, .int x0), (2, .int x1), (3, .long x2)]) (st' := [.int x0, .ref 43, .int x1]) (sh' := ab_SH) (D' := ab_dD h) (fun n => rfl) ?_
          obtain ⟨c7, hf⟩ := ab_ask_s hf
          have oe8 : ab_tr x0 = 44 := by unfold ab_tr; rw [e4]
          try rw [oe8] at hf
          refine ab_Ex.aald (o := 43) (j := x0) (t := 104) (n := 4) (i := 0) (z := 44) (fun n => rfl) c7 (by decide) e4 rfl (by decide) ?_
          refine ab_Ex.blk (k := 1) (pc' := 41) (lv' := [(0, .ref 0), (1, .int x0), (2, .int x1), (3, .long x2)]) (st' := [.int ((h.1 44 2)), .int x1]) (sh' := ab_SH) (D' := ab_dD h) (fun n => rfl) ?_
          refine ab_Ex.ifc (c := x1 < (h.1 44 2)) (SA := (48, [(0, .ref 0), (1, .int x0), (2, .int x1), (3, .long x2)], [], ab_dD h)) (SB := (44, [(0, .ref 0), (1, .int x0), (2, .int x1), (3, .long x2)], [], ab_dD h)) (fun n => rfl) (fun c9 => ?_) (fun c9 => ?_)
          · replace hf := (if_pos c9).symm.trans hf
            refine ab_Ex.blk (k := 3) (pc' := 53) (lv' := [(0, .ref 0), (1, .int x0), (2, .int x1), (3, .long x2)]) (st' := [.int x0, .ref 43]) (sh' := ab_SH) (D' := ab_dD h) (fun n => rfl) ?_
            obtain ⟨c10, hf⟩ := ab_ask_s hf
            have oe11 : ab_tr x0 = 44 := by unfold ab_tr; rw [e4]
            try rw [oe11] at hf
            refine ab_Ex.aald (o := 43) (j := x0) (t := 104) (n := 4) (i := 0) (z := 44) (fun n => rfl) c10 (by decide) e4 rfl (by decide) ?_
            refine ab_Ex.blk (k := 2) (pc' := 56) (lv' := [(0, .ref 0), (1, .int x0), (2, .int x1), (3, .long x2)]) (st' := [.long x2, .int x1, .ref 44]) (sh' := ab_SH) (D' := ab_dD h) (fun n => rfl) ?_
            obtain ⟨r12, hr12, hf⟩ := ab_bind_s hf
            refine ab_Ex.call (d := d + 1) (M2 := 123) (as := [.ref 44, .int x1, .long x2]) (rest := []) (fun n => rfl) rfl (Nat.not_lt.mpr (Nat.le_of_ble_eq_true rfl)) (sX10_put_44 (d) X x1 x2 h _ hr12) (fun r hr => ?_)
            subst hr
            show ab_Ex X (d + 2) 164 59 [(0, .ref 0), (1, .int x0), (2, .int x1), (3, .long x2)] [] ab_SH (ab_dD r12) _
            refine ab_Ex.blk (k := 3) (pc' := 64) (lv' := [(0, .ref 0), (1, .int x0), (2, .int x1), (3, .long x2)]) (st' := [.int x0, .ref 43]) (sh' := ab_SH) (D' := ab_dD r12) (fun n => rfl) ?_
            obtain ⟨c13, hf⟩ := ab_ask_s hf
            have oe14 : ab_tr x0 = 44 := by unfold ab_tr; rw [e4]
            try rw [oe14] at hf
            refine ab_Ex.aald (o := 43) (j := x0) (t := 104) (n := 4) (i := 0) (z := 44) (fun n => rfl) c13 (by decide) e4 rfl (by decide) ?_
            refine ab_Ex.blk (k := 1) (pc' := 66) (lv' := [(0, .ref 0), (1, .int x0), (2, .int x1), (3, .long x2)]) (st' := [.int x1, .ref 44]) (sh' := ab_SH) (D' := ab_dD r12) (fun n => rfl) ?_
            obtain ⟨r15, hr15, hf⟩ := ab_bind_s hf
            refine ab_Ex.call (d := d + 1) (M2 := 122) (as := [.ref 44, .int x1]) (rest := []) (fun n => rfl) rfl (Nat.not_lt.mpr (Nat.le_of_ble_eq_true rfl)) (sX10_value_44 (d + 1) X x1 r12 _ hr15) (fun r hr => ?_)
            subst hr
            show ab_Ex X (d + 2) 164 69 [(0, .ref 0), (1, .int x0), (2, .int x1), (3, .long x2)] [.long r15] ab_SH (ab_dD r12) _
            obtain rfl := Option.some.inj hf
            exact ab_Ex.ret (fun n => rfl) rfl
          · replace hf := (if_neg c9).symm.trans hf
            refine ab_Ex.blk (k := 1) (pc' := 47) (lv' := []) (st' := [.long ((-7))]) (sh' := ab_SH) (D' := ab_dD h) (fun n => rfl) ?_
            obtain rfl := Option.some.inj hf
            exact ab_Ex.ret (fun n => rfl) rfl
      · replace hf := (if_neg c5).symm.trans hf
        refine ab_Ex.blk (k := 1) (pc' := 26) (lv' := [(0, .ref 0), (1, .int x0), (2, .int x1), (3, .long x2)]) (st' := [.long ((-6))]) (sh' := ab_SH) (D' := ab_dD h) (fun n => rfl) ?_
        obtain rfl := Option.some.inj hf
        exact ab_Ex.ret (fun n => rfl) rfl
    · have oe4 : ab_tr x0 = 46 := by unfold ab_tr; rw [e4]
      try rw [oe4] at hf
      refine ab_Ex.aald (o := 43) (j := x0) (t := 104) (n := 4) (i := 1) (z := 46) (fun n => rfl) c3 (by decide) e4 rfl (by decide) ?_
      refine ab_Ex.blk (k := 1) (pc' := 20) (lv' := [(0, .ref 0), (1, .int x0), (2, .int x1), (3, .long x2)]) (st' := [.int ((h.1 46 0))]) (sh' := ab_SH) (D' := ab_dD h) (fun n => rfl) ?_
      refine ab_Ex.ifc (c := (h.1 46 0) = 0) (SA := (27, [(0, .ref 0), (1, .int x0), (2, .int x1), (3, .long x2)], [], ab_dD h)) (SB := (23, [(0, .ref 0), (1, .int x0), (2, .int x1), (3, .long x2)], [], ab_dD h)) (fun n => rfl) (fun c16 => ?_) (fun c16 => ?_)
      · replace hf := (if_pos c16).symm.trans hf
        refine ab_Ex.blk (k := 1) (pc' := 28) (lv' := [(0, .ref 0), (1, .int x0), (2, .int x1), (3, .long x2)]) (st' := [.int x1]) (sh' := ab_SH) (D' := ab_dD h) (fun n => rfl) ?_
        refine ab_Ex.ifc (c := x1 < 0) (SA := (44, [(0, .ref 0), (1, .int x0), (2, .int x1), (3, .long x2)], [], ab_dD h)) (SB := (31, [(0, .ref 0), (1, .int x0), (2, .int x1), (3, .long x2)], [], ab_dD h)) (fun n => rfl) (fun c17 => ?_) (fun c17 => ?_)
        · replace hf := (if_pos c17).symm.trans hf
          refine ab_Ex.blk (k := 1) (pc' := 47) (lv' := []) (st' := [.long ((-7))]) (sh' := ab_SH) (D' := ab_dD h) (fun n => rfl) ?_
          obtain rfl := Option.some.inj hf
          exact ab_Ex.ret (fun n => rfl) rfl
        · replace hf := (if_neg c17).symm.trans hf
          refine ab_Ex.blk (k := 4) (pc' := 37) (lv' := [(0, .ref 0), (1, .int x0), (2, .int x1), (3, .long x2)]) (st' := [.int x0, .ref 43, .int x1]) (sh' := ab_SH) (D' := ab_dD h) (fun n => rfl) ?_
          obtain ⟨c18, hf⟩ := ab_ask_s hf
          have oe19 : ab_tr x0 = 46 := by unfold ab_tr; rw [e4]
          try rw [oe19] at hf
          refine ab_Ex.aald (o := 43) (j := x0) (t := 104) (n := 4) (i := 1) (z := 46) (fun n => rfl) c18 (by decide) e4 rfl (by decide) ?_
          refine ab_Ex.blk (k := 1) (pc' := 41) (lv' := [(0, .ref 0), (1, .int x0), (2, .int x1), (3, .long x2)]) (st' := [.int ((h.1 46 2)), .int x1]) (sh' := ab_SH) (D' := ab_dD h) (fun n => rfl) ?_
          refine ab_Ex.ifc (c := x1 < (h.1 46 2)) (SA := (48, [(0, .ref 0), (1, .int x0), (2, .int x1), (3, .long x2)], [], ab_dD h)) (SB := (44, [(0, .ref 0), (1, .int x0), (2, .int x1), (3, .long x2)], [], ab_dD h)) (fun n => rfl) (fun c20 => ?_) (fun c20 => ?_)
          · replace hf := (if_pos c20).symm.trans hf
            refine ab_Ex.blk (k := 3) (pc' := 53) (lv' := [(0, .ref 0), (1, .int x0), (2, .int x1), (3, .long x2)]) (st' := [.int x0, .ref 43]) (sh' := ab_SH) (D' := ab_dD h) (fun n => rfl) ?_
            obtain ⟨c21, hf⟩ := ab_ask_s hf
            have oe22 : ab_tr x0 = 46 := by unfold ab_tr; rw [e4]
            try rw [oe22] at hf
            refine ab_Ex.aald (o := 43) (j := x0) (t := 104) (n := 4) (i := 1) (z := 46) (fun n => rfl) c21 (by decide) e4 rfl (by decide) ?_
            refine ab_Ex.blk (k := 2) (pc' := 56) (lv' := [(0, .ref 0), (1, .int x0), (2, .int x1), (3, .long x2)]) (st' := [.long x2, .int x1, .ref 46]) (sh' := ab_SH) (D' := ab_dD h) (fun n => rfl) ?_
            obtain ⟨r23, hr23, hf⟩ := ab_bind_s hf
            refine ab_Ex.call (d := d + 1) (M2 := 123) (as := [.ref 46, .int x1, .long x2]) (rest := []) (fun n => rfl) rfl (Nat.not_lt.mpr (Nat.le_of_ble_eq_true rfl)) (sX10_put_46 (d) X x1 x2 h _ hr23) (fun r hr => ?_)
            subst hr
            show ab_Ex X (d + 2) 164 59 [(0, .ref 0), (1, .int x0), (2, .int x1), (3, .long x2)] [] ab_SH (ab_dD r23) _
            refine ab_Ex.blk (k := 3) (pc' := 64) (lv' := [(0, .ref 0), (1, .int x0), (2, .int x1), (3, .long x2)]) (st' := [.int x0, .ref 43]) (sh' := ab_SH) (D' := ab_dD r23) (fun n => rfl) ?_
            obtain ⟨c24, hf⟩ := ab_ask_s hf
            have oe25 : ab_tr x0 = 46 := by unfold ab_tr; rw [e4]
            try rw [oe25] at hf
            refine ab_Ex.aald (o := 43) (j := x0) (t := 104) (n := 4) (i := 1) (z := 46) (fun n => rfl) c24 (by decide) e4 rfl (by decide) ?_
            refine ab_Ex.blk (k := 1) (pc' := 66) (lv' := [(0, .ref 0), (1, .int x0), (2, .int x1), (3, .long x2)]) (st' := [.int x1, .ref 46]) (sh' := ab_SH) (D' := ab_dD r23) (fun n => rfl) ?_
            obtain ⟨r26, hr26, hf⟩ := ab_bind_s hf
            refine ab_Ex.call (d := d + 1) (M2 := 122) (as := [.ref 46, .int x1]) (rest := []) (fun n => rfl) rfl (Nat.not_lt.mpr (Nat.le_of_ble_eq_true rfl)) (sX10_value_46 (d + 1) X x1 r23 _ hr26) (fun r hr => ?_)
            subst hr
            show ab_Ex X (d + 2) 164 69 [(0, .ref 0), (1, .int x0), (2, .int x1), (3, .long x2)] [.long r26] ab_SH (ab_dD r23) _
            obtain rfl := Option.some.inj hf
            exact ab_Ex.ret (fun n => rfl) rfl
          · replace hf := (if_neg c20).symm.trans hf
            refine ab_Ex.blk (k := 1) (pc' := 47) (lv' := []) (st' := [.long ((-7))]) (sh' := ab_SH) (D' := ab_dD h) (fun n => rfl) ?_
            obtain rfl := Option.some.inj hf
            exact ab_Ex.ret (fun n => rfl) rfl
      · replace hf := (if_neg c16).symm.trans hf
        refine ab_Ex.blk (k := 1) (pc' := 26) (lv' := [(0, .ref 0), (1, .int x0), (2, .int x1), (3, .long x2)]) (st' := [.long ((-6))]) (sh' := ab_SH) (D' := ab_dD h) (fun n => rfl) ?_
        obtain rfl := Option.some.inj hf
        exact ab_Ex.ret (fun n => rfl) rfl
    · have oe4 : ab_tr x0 = 48 := by unfold ab_tr; rw [e4]
      try rw [oe4] at hf
      refine ab_Ex.aald (o := 43) (j := x0) (t := 104) (n := 4) (i := 2) (z := 48) (fun n => rfl) c3 (by decide) e4 rfl (by decide) ?_
      refine ab_Ex.blk (k := 1) (pc' := 20) (lv' := [(0, .ref 0), (1, .int x0), (2, .int x1), (3, .long x2)]) (st' := [.int ((h.1 48 0))]) (sh' := ab_SH) (D' := ab_dD h) (fun n => rfl) ?_
      refine ab_Ex.ifc (c := (h.1 48 0) = 0) (SA := (27, [(0, .ref 0), (1, .int x0), (2, .int x1), (3, .long x2)], [], ab_dD h)) (SB := (23, [(0, .ref 0), (1, .int x0), (2, .int x1), (3, .long x2)], [], ab_dD h)) (fun n => rfl) (fun c27 => ?_) (fun c27 => ?_)
      · replace hf := (if_pos c27).symm.trans hf
        refine ab_Ex.blk (k := 1) (pc' := 28) (lv' := [(0, .ref 0), (1, .int x0), (2, .int x1), (3, .long x2)]) (st' := [.int x1]) (sh' := ab_SH) (D' := ab_dD h) (fun n => rfl) ?_
        refine ab_Ex.ifc (c := x1 < 0) (SA := (44, [(0, .ref 0), (1, .int x0), (2, .int x1), (3, .long x2)], [], ab_dD h)) (SB := (31, [(0, .ref 0), (1, .int x0), (2, .int x1), (3, .long x2)], [], ab_dD h)) (fun n => rfl) (fun c28 => ?_) (fun c28 => ?_)
        · replace hf := (if_pos c28).symm.trans hf
          refine ab_Ex.blk (k := 1) (pc' := 47) (lv' := []) (st' := [.long ((-7))]) (sh' := ab_SH) (D' := ab_dD h) (fun n => rfl) ?_
          obtain rfl := Option.some.inj hf
          exact ab_Ex.ret (fun n => rfl) rfl
        · replace hf := (if_neg c28).symm.trans hf
          refine ab_Ex.blk (k := 4) (pc' := 37) (lv' := [(0, .ref 0), (1, .int x0), (2, .int x1), (3, .long x2)]) (st' := [.int x0, .ref 43, .int x1]) (sh' := ab_SH) (D' := ab_dD h) (fun n => rfl) ?_
          obtain ⟨c29, hf⟩ := ab_ask_s hf
          have oe30 : ab_tr x0 = 48 := by unfold ab_tr; rw [e4]
          try rw [oe30] at hf
          refine ab_Ex.aald (o := 43) (j := x0) (t := 104) (n := 4) (i := 2) (z := 48) (fun n => rfl) c29 (by decide) e4 rfl (by decide) ?_
          refine ab_Ex.blk (k := 1) (pc' := 41) (lv' := [(0, .ref 0), (1, .int x0), (2, .int x1), (3, .long x2)]) (st' := [.int ((h.1 48 2)), .int x1]) (sh' := ab_SH) (D' := ab_dD h) (fun n => rfl) ?_
          refine ab_Ex.ifc (c := x1 < (h.1 48 2)) (SA := (48, [(0, .ref 0), (1, .int x0), (2, .int x1), (3, .long x2)], [], ab_dD h)) (SB := (44, [(0, .ref 0), (1, .int x0), (2, .int x1), (3, .long x2)], [], ab_dD h)) (fun n => rfl) (fun c31 => ?_) (fun c31 => ?_)
          · replace hf := (if_pos c31).symm.trans hf
            refine ab_Ex.blk (k := 3) (pc' := 53) (lv' := [(0, .ref 0), (1, .int x0), (2, .int x1), (3, .long x2)]) (st' := [.int x0, .ref 43]) (sh' := ab_SH) (D' := ab_dD h) (fun n => rfl) ?_
            obtain ⟨c32, hf⟩ := ab_ask_s hf
            have oe33 : ab_tr x0 = 48 := by unfold ab_tr; rw [e4]
            try rw [oe33] at hf
            refine ab_Ex.aald (o := 43) (j := x0) (t := 104) (n := 4) (i := 2) (z := 48) (fun n => rfl) c32 (by decide) e4 rfl (by decide) ?_
            refine ab_Ex.blk (k := 2) (pc' := 56) (lv' := [(0, .ref 0), (1, .int x0), (2, .int x1), (3, .long x2)]) (st' := [.long x2, .int x1, .ref 48]) (sh' := ab_SH) (D' := ab_dD h) (fun n => rfl) ?_
            obtain ⟨r34, hr34, hf⟩ := ab_bind_s hf
            refine ab_Ex.call (d := d + 1) (M2 := 123) (as := [.ref 48, .int x1, .long x2]) (rest := []) (fun n => rfl) rfl (Nat.not_lt.mpr (Nat.le_of_ble_eq_true rfl)) (sX10_put_48 (d) X x1 x2 h _ hr34) (fun r hr => ?_)
            subst hr
            show ab_Ex X (d + 2) 164 59 [(0, .ref 0), (1, .int x0), (2, .int x1), (3, .long x2)] [] ab_SH (ab_dD r34) _
            refine ab_Ex.blk (k := 3) (pc' := 64) (lv' := [(0, .ref 0), (1, .int x0), (2, .int x1), (3, .long x2)]) (st' := [.int x0, .ref 43]) (sh' := ab_SH) (D' := ab_dD r34) (fun n => rfl) ?_
            obtain ⟨c35, hf⟩ := ab_ask_s hf
            have oe36 : ab_tr x0 = 48 := by unfold ab_tr; rw [e4]
            try rw [oe36] at hf
            refine ab_Ex.aald (o := 43) (j := x0) (t := 104) (n := 4) (i := 2) (z := 48) (fun n => rfl) c35 (by decide) e4 rfl (by decide) ?_
            refine ab_Ex.blk (k := 1) (pc' := 66) (lv' := [(0, .ref 0), (1, .int x0), (2, .int x1), (3, .long x2)]) (st' := [.int x1, .ref 48]) (sh' := ab_SH) (D' := ab_dD r34) (fun n => rfl) ?_
            obtain ⟨r37, hr37, hf⟩ := ab_bind_s hf
            refine ab_Ex.call (d := d + 1) (M2 := 122) (as := [.ref 48, .int x1]) (rest := []) (fun n => rfl) rfl (Nat.not_lt.mpr (Nat.le_of_ble_eq_true rfl)) (sX10_value_48 (d + 1) X x1 r34 _ hr37) (fun r hr => ?_)
            subst hr
            show ab_Ex X (d + 2) 164 69 [(0, .ref 0), (1, .int x0), (2, .int x1), (3, .long x2)] [.long r37] ab_SH (ab_dD r34) _
            obtain rfl := Option.some.inj hf
            exact ab_Ex.ret (fun n => rfl) rfl
          · replace hf := (if_neg c31).symm.trans hf
            refine ab_Ex.blk (k := 1) (pc' := 47) (lv' := []) (st' := [.long ((-7))]) (sh' := ab_SH) (D' := ab_dD h) (fun n => rfl) ?_
            obtain rfl := Option.some.inj hf
            exact ab_Ex.ret (fun n => rfl) rfl
      · replace hf := (if_neg c27).symm.trans hf
        refine ab_Ex.blk (k := 1) (pc' := 26) (lv' := [(0, .ref 0), (1, .int x0), (2, .int x1), (3, .long x2)]) (st' := [.long ((-6))]) (sh' := ab_SH) (D' := ab_dD h) (fun n => rfl) ?_
        obtain rfl := Option.some.inj hf
        exact ab_Ex.ret (fun n => rfl) rfl
    · have oe4 : ab_tr x0 = 50 := by unfold ab_tr; rw [e4]
      try rw [oe4] at hf
      refine ab_Ex.aald (o := 43) (j := x0) (t := 104) (n := 4) (i := 3) (z := 50) (fun n => rfl) c3 (by decide) e4 rfl (by decide) ?_
      refine ab_Ex.blk (k := 1) (pc' := 20) (lv' := [(0, .ref 0), (1, .int x0), (2, .int x1), (3, .long x2)]) (st' := [.int ((h.1 50 0))]) (sh' := ab_SH) (D' := ab_dD h) (fun n => rfl) ?_
      refine ab_Ex.ifc (c := (h.1 50 0) = 0) (SA := (27, [(0, .ref 0), (1, .int x0), (2, .int x1), (3, .long x2)], [], ab_dD h)) (SB := (23, [(0, .ref 0), (1, .int x0), (2, .int x1), (3, .long x2)], [], ab_dD h)) (fun n => rfl) (fun c38 => ?_) (fun c38 => ?_)
      · replace hf := (if_pos c38).symm.trans hf
        refine ab_Ex.blk (k := 1) (pc' := 28) (lv' := [(0, .ref 0), (1, .int x0), (2, .int x1), (3, .long x2)]) (st' := [.int x1]) (sh' := ab_SH) (D' := ab_dD h) (fun n => rfl) ?_
        refine ab_Ex.ifc (c := x1 < 0) (SA := (44, [(0, .ref 0), (1, .int x0), (2, .int x1), (3, .long x2)], [], ab_dD h)) (SB := (31, [(0, .ref 0), (1, .int x0), (2, .int x1), (3, .long x2)], [], ab_dD h)) (fun n => rfl) (fun c39 => ?_) (fun c39 => ?_)
        · replace hf := (if_pos c39).symm.trans hf
          refine ab_Ex.blk (k := 1) (pc' := 47) (lv' := []) (st' := [.long ((-7))]) (sh' := ab_SH) (D' := ab_dD h) (fun n => rfl) ?_
          obtain rfl := Option.some.inj hf
          exact ab_Ex.ret (fun n => rfl) rfl
        · replace hf := (if_neg c39).symm.trans hf
          refine ab_Ex.blk (k := 4) (pc' := 37) (lv' := [(0, .ref 0), (1, .int x0), (2, .int x1), (3, .long x2)]) (st' := [.int x0, .ref 43, .int x1]) (sh' := ab_SH) (D' := ab_dD h) (fun n => rfl) ?_
          obtain ⟨c40, hf⟩ := ab_ask_s hf
          have oe41 : ab_tr x0 = 50 := by unfold ab_tr; rw [e4]
          try rw [oe41] at hf
          refine ab_Ex.aald (o := 43) (j := x0) (t := 104) (n := 4) (i := 3) (z := 50) (fun n => rfl) c40 (by decide) e4 rfl (by decide) ?_
          refine ab_Ex.blk (k := 1) (pc' := 41) (lv' := [(0, .ref 0), (1, .int x0), (2, .int x1), (3, .long x2)]) (st' := [.int ((h.1 50 2)), .int x1]) (sh' := ab_SH) (D' := ab_dD h) (fun n => rfl) ?_
          refine ab_Ex.ifc (c := x1 < (h.1 50 2)) (SA := (48, [(0, .ref 0), (1, .int x0), (2, .int x1), (3, .long x2)], [], ab_dD h)) (SB := (44, [(0, .ref 0), (1, .int x0), (2, .int x1), (3, .long x2)], [], ab_dD h)) (fun n => rfl) (fun c42 => ?_) (fun c42 => ?_)
          · replace hf := (if_pos c42).symm.trans hf
            refine ab_Ex.blk (k := 3) (pc' := 53) (lv' := [(0, .ref 0), (1, .int x0), (2, .int x1), (3, .long x2)]) (st' := [.int x0, .ref 43]) (sh' := ab_SH) (D' := ab_dD h) (fun n => rfl) ?_
            obtain ⟨c43, hf⟩ := ab_ask_s hf
            have oe44 : ab_tr x0 = 50 := by unfold ab_tr; rw [e4]
            try rw [oe44] at hf
            refine ab_Ex.aald (o := 43) (j := x0) (t := 104) (n := 4) (i := 3) (z := 50) (fun n => rfl) c43 (by decide) e4 rfl (by decide) ?_
            refine ab_Ex.blk (k := 2) (pc' := 56) (lv' := [(0, .ref 0), (1, .int x0), (2, .int x1), (3, .long x2)]) (st' := [.long x2, .int x1, .ref 50]) (sh' := ab_SH) (D' := ab_dD h) (fun n => rfl) ?_
            obtain ⟨r45, hr45, hf⟩ := ab_bind_s hf
            refine ab_Ex.call (d := d + 1) (M2 := 123) (as := [.ref 50, .int x1, .long x2]) (rest := []) (fun n => rfl) rfl (Nat.not_lt.mpr (Nat.le_of_ble_eq_true rfl)) (sX10_put_50 (d) X x1 x2 h _ hr45) (fun r hr => ?_)
            subst hr
            show ab_Ex X (d + 2) 164 59 [(0, .ref 0), (1, .int x0), (2, .int x1), (3, .long x2)] [] ab_SH (ab_dD r45) _
            refine ab_Ex.blk (k := 3) (pc' := 64) (lv' := [(0, .ref 0), (1, .int x0), (2, .int x1), (3, .long x2)]) (st' := [.int x0, .ref 43]) (sh' := ab_SH) (D' := ab_dD r45) (fun n => rfl) ?_
            obtain ⟨c46, hf⟩ := ab_ask_s hf
            have oe47 : ab_tr x0 = 50 := by unfold ab_tr; rw [e4]
            try rw [oe47] at hf
            refine ab_Ex.aald (o := 43) (j := x0) (t := 104) (n := 4) (i := 3) (z := 50) (fun n => rfl) c46 (by decide) e4 rfl (by decide) ?_
            refine ab_Ex.blk (k := 1) (pc' := 66) (lv' := [(0, .ref 0), (1, .int x0), (2, .int x1), (3, .long x2)]) (st' := [.int x1, .ref 50]) (sh' := ab_SH) (D' := ab_dD r45) (fun n => rfl) ?_
            obtain ⟨r48, hr48, hf⟩ := ab_bind_s hf
            refine ab_Ex.call (d := d + 1) (M2 := 122) (as := [.ref 50, .int x1]) (rest := []) (fun n => rfl) rfl (Nat.not_lt.mpr (Nat.le_of_ble_eq_true rfl)) (sX10_value_50 (d + 1) X x1 r45 _ hr48) (fun r hr => ?_)
            subst hr
            show ab_Ex X (d + 2) 164 69 [(0, .ref 0), (1, .int x0), (2, .int x1), (3, .long x2)] [.long r48] ab_SH (ab_dD r45) _
            obtain rfl := Option.some.inj hf
            exact ab_Ex.ret (fun n => rfl) rfl
          · replace hf := (if_neg c42).symm.trans hf
            refine ab_Ex.blk (k := 1) (pc' := 47) (lv' := []) (st' := [.long ((-7))]) (sh' := ab_SH) (D' := ab_dD h) (fun n => rfl) ?_
            obtain rfl := Option.some.inj hf
            exact ab_Ex.ret (fun n => rfl) rfl
      · replace hf := (if_neg c38).symm.trans hf
        refine ab_Ex.blk (k := 1) (pc' := 26) (lv' := [(0, .ref 0), (1, .int x0), (2, .int x1), (3, .long x2)]) (st' := [.long ((-6))]) (sh' := ab_SH) (D' := ab_dD h) (fun n => rfl) ?_
        obtain rfl := Option.some.inj hf
        exact ab_Ex.ret (fun n => rfl) rfl
  · replace hf := (if_neg c2).symm.trans hf
    refine ab_Ex.blk (k := 1) (pc' := 10) (lv' := [(0, .ref 0), (1, .int x0), (2, .int x1), (3, .long x2)]) (st' := [.long ((-2))]) (sh' := ab_SH) (D' := ab_dD h) (fun n => rfl) ?_
    obtain rfl := Option.some.inj hf
    exact ab_Ex.ret (fun n => rfl) rfl
def fX11_lists_L48   : Nat → Int32 → Int32 → abJ → Option (Int32 × abJ)
  | 0, _, _, _ => none
  | n + 1, y1, y2, h => ab_ask (y1 < 0 ∨ 4 ≤ (y1 : Int32).toNatClampNeg) (if (h.1 (ab_tr y1) 2) ≤ y2 then ab_ask (y1 < 0 ∨ 4 ≤ (y1 : Int32).toNatClampNeg) (some ((h.1 (ab_tr y1) 2), h)) else ab_ask (y1 < 0 ∨ 4 ≤ (y1 : Int32).toNatClampNeg) ((fX2_standBehind (((y2 : Int32).toInt64 + 1)) h).bind (fun r11 => (fX10_put (ab_tr y1) y2 (((r11 - r11 / 6 * 6) : Int32).toInt64) h).bind (fun r12 => fX11_lists_L48 n y1 ((y2 + 1)) r12))))
def fX11_lists (x0 : Int32) (h : abJ) : Option (Int32 × abJ) := (fX11_noTray x0 h).bind (fun r1 => if r1 = 0 then ab_ask (x0 < 0 ∨ 4 ≤ (x0 : Int32).toNatClampNeg) (if (h.1 (ab_tr x0) 0) = 0 then (fX9_code 12 h).bind (fun r5 => (fX2_walk ((h.1 12 2)) r5 h).bind (fun r6 => fX11_lists_L48 ab_N x0 0 r6)) else some ((-6), h)) else some ((-2), h))
set_option maxRecDepth 20000 in
theorem sX11_lists_L48 (d : Nat) (X : abX)   : ∀ (n : Nat), ∀ (y1 : Int32) (y2 : Int32) (h : abJ) (z : (Int32 × abJ)), fX11_lists_L48 n y1 y2 h = some z → ab_Ex X (d + 4) 165 48 [(0, .ref 0), (1, .int y1), (2, .int y2)] [] ab_SH (ab_dD h) (fun r => r = (some (.int z.1), ab_SH, ab_dD z.2)) := by
  intro n
  induction n with
  | zero => intro y1 y2 h z hf; cases hf
  | succ n ih =>
    intro y1 y2 h z hf
    rw [fX11_lists_L48] at hf
    refine ab_Ex.blk (k := 4) (pc' := 54) (lv' := [(0, .ref 0), (1, .int y1), (2, .int y2)]) (st' := [.int y1, .ref 43, .int y2]) (sh' := ab_SH) (D' := ab_dD h) (fun n => rfl) ?_
    obtain ⟨c8, hf⟩ := ab_ask_s hf
    rcases ab_lt4 c8 with e9 | e9 | e9 | e9
    · have oe9 : ab_tr y1 = 44 := by unfold ab_tr; rw [e9]
      try rw [oe9] at hf
      refine ab_Ex.aald (o := 43) (j := y1) (t := 104) (n := 4) (i := 0) (z := 44) (fun n => rfl) c8 (by decide) e9 rfl (by decide) ?_
      refine ab_Ex.blk (k := 1) (pc' := 58) (lv' := [(0, .ref 0), (1, .int y1), (2, .int y2)]) (st' := [.int ((h.1 44 2)), .int y2]) (sh' := ab_SH) (D' := ab_dD h) (fun n => rfl) ?_
      refine ab_Ex.ifc (c := (h.1 44 2) ≤ y2) (SA := (92, [(0, .ref 0), (1, .int y1), (2, .int y2)], [], ab_dD h)) (SB := (61, [(0, .ref 0), (1, .int y1), (2, .int y2)], [], ab_dD h)) (fun n => rfl) (fun c10 => ?_) (fun c10 => ?_)
      · replace hf := (if_pos c10).symm.trans hf
        refine ab_Ex.blk (k := 3) (pc' := 97) (lv' := [(0, .ref 0), (1, .int y1), (2, .int y2)]) (st' := [.int y1, .ref 43]) (sh' := ab_SH) (D' := ab_dD h) (fun n => rfl) ?_
        obtain ⟨c11, hf⟩ := ab_ask_s hf
        have oe12 : ab_tr y1 = 44 := by unfold ab_tr; rw [e9]
        try rw [oe12] at hf
        refine ab_Ex.aald (o := 43) (j := y1) (t := 104) (n := 4) (i := 0) (z := 44) (fun n => rfl) c11 (by decide) e9 rfl (by decide) ?_
        refine ab_Ex.blk (k := 1) (pc' := 101) (lv' := [(0, .ref 0), (1, .int y1), (2, .int y2)]) (st' := [.int ((h.1 44 2))]) (sh' := ab_SH) (D' := ab_dD h) (fun n => rfl) ?_
        obtain rfl := Option.some.inj hf
        exact ab_Ex.ret (fun n => rfl) rfl
      · replace hf := (if_neg c10).symm.trans hf
        refine ab_Ex.blk (k := 3) (pc' := 66) (lv' := [(0, .ref 0), (1, .int y1), (2, .int y2)]) (st' := [.int y1, .ref 43]) (sh' := ab_SH) (D' := ab_dD h) (fun n => rfl) ?_
        obtain ⟨c13, hf⟩ := ab_ask_s hf
        have oe14 : ab_tr y1 = 44 := by unfold ab_tr; rw [e9]
        try rw [oe14] at hf
        refine ab_Ex.aald (o := 43) (j := y1) (t := 104) (n := 4) (i := 0) (z := 44) (fun n => rfl) c13 (by decide) e9 rfl (by decide) ?_
        refine ab_Ex.blk (k := 7) (pc' := 76) (lv' := [(0, .ref 0), (1, .int y1), (2, .int y2)]) (st' := [.long (((y2 : Int32).toInt64 + 1)), .ref 32, .int y2, .ref 44]) (sh' := ab_SH) (D' := ab_dD h) (fun n => rfl) ?_
        obtain ⟨r15, hr15, hf⟩ := ab_bind_s hf
        refine ab_Ex.call (d := d + 3) (M2 := 23) (as := [.ref 32, .long (((y2 : Int32).toInt64 + 1))]) (rest := [.int y2, .ref 44]) (fun n => rfl) rfl (Nat.not_lt.mpr (Nat.le_of_ble_eq_true rfl)) (sX2_standBehind (d + 3) X (((y2 : Int32).toInt64 + 1)) h _ hr15) (fun r hr => ?_)
        subst hr
        show ab_Ex X (d + 4) 165 79 [(0, .ref 0), (1, .int y1), (2, .int y2)] [.int r15, .int y2, .ref 44] ab_SH (ab_dD h) _
        refine ab_Ex.blk (k := 1) (pc' := 81) (lv' := [(0, .ref 0), (1, .int y1), (2, .int y2)]) (st' := [.int 6, .int r15, .int y2, .ref 44]) (sh' := ab_SH) (D' := ab_dD h) (fun n => rfl) ?_
        refine ab_Ex.blk (k := 1) (pc' := 82) (lv' := [(0, .ref 0), (1, .int y1), (2, .int y2)]) (st' := [.int ((r15 - r15 / 6 * 6)), .int y2, .ref 44]) (sh' := ab_SH) (D' := ab_dD h) (fun n => rfl) ?_
        refine ab_Ex.blk (k := 1) (pc' := 83) (lv' := [(0, .ref 0), (1, .int y1), (2, .int y2)]) (st' := [.long (((r15 - r15 / 6 * 6) : Int32).toInt64), .int y2, .ref 44]) (sh' := ab_SH) (D' := ab_dD h) (fun n => rfl) ?_
        obtain ⟨r16, hr16, hf⟩ := ab_bind_s hf
        refine ab_Ex.call (d := d + 3) (M2 := 123) (as := [.ref 44, .int y2, .long (((r15 - r15 / 6 * 6) : Int32).toInt64)]) (rest := []) (fun n => rfl) rfl (Nat.not_lt.mpr (Nat.le_of_ble_eq_true rfl)) (sX10_put_44 (d + 2) X y2 (((r15 - r15 / 6 * 6) : Int32).toInt64) h _ hr16) (fun r hr => ?_)
        subst hr
        show ab_Ex X (d + 4) 165 86 [(0, .ref 0), (1, .int y1), (2, .int y2)] [] ab_SH (ab_dD r16) _
        refine ab_Ex.blk (k := 2) (pc' := 48) (lv' := [(0, .ref 0), (1, .int y1), (2, .int ((y2 + 1)))]) (st' := []) (sh' := ab_SH) (D' := ab_dD r16) (fun n => rfl) ?_
        exact ih y1 ((y2 + 1)) r16 _ hf
    · have oe9 : ab_tr y1 = 46 := by unfold ab_tr; rw [e9]
      try rw [oe9] at hf
      refine ab_Ex.aald (o := 43) (j := y1) (t := 104) (n := 4) (i := 1) (z := 46) (fun n => rfl) c8 (by decide) e9 rfl (by decide) ?_
      refine ab_Ex.blk (k := 1) (pc' := 58) (lv' := [(0, .ref 0), (1, .int y1), (2, .int y2)]) (st' := [.int ((h.1 46 2)), .int y2]) (sh' := ab_SH) (D' := ab_dD h) (fun n => rfl) ?_
      refine ab_Ex.ifc (c := (h.1 46 2) ≤ y2) (SA := (92, [(0, .ref 0), (1, .int y1), (2, .int y2)], [], ab_dD h)) (SB := (61, [(0, .ref 0), (1, .int y1), (2, .int y2)], [], ab_dD h)) (fun n => rfl) (fun c17 => ?_) (fun c17 => ?_)
      · replace hf := (if_pos c17).symm.trans hf
        refine ab_Ex.blk (k := 3) (pc' := 97) (lv' := [(0, .ref 0), (1, .int y1), (2, .int y2)]) (st' := [.int y1, .ref 43]) (sh' := ab_SH) (D' := ab_dD h) (fun n => rfl) ?_
        obtain ⟨c18, hf⟩ := ab_ask_s hf
        have oe19 : ab_tr y1 = 46 := by unfold ab_tr; rw [e9]
        try rw [oe19] at hf
        refine ab_Ex.aald (o := 43) (j := y1) (t := 104) (n := 4) (i := 1) (z := 46) (fun n => rfl) c18 (by decide) e9 rfl (by decide) ?_
        refine ab_Ex.blk (k := 1) (pc' := 101) (lv' := [(0, .ref 0), (1, .int y1), (2, .int y2)]) (st' := [.int ((h.1 46 2))]) (sh' := ab_SH) (D' := ab_dD h) (fun n => rfl) ?_
        obtain rfl := Option.some.inj hf
        exact ab_Ex.ret (fun n => rfl) rfl
      · replace hf := (if_neg c17).symm.trans hf
        refine ab_Ex.blk (k := 3) (pc' := 66) (lv' := [(0, .ref 0), (1, .int y1), (2, .int y2)]) (st' := [.int y1, .ref 43]) (sh' := ab_SH) (D' := ab_dD h) (fun n => rfl) ?_
        obtain ⟨c20, hf⟩ := ab_ask_s hf
        have oe21 : ab_tr y1 = 46 := by unfold ab_tr; rw [e9]
        try rw [oe21] at hf
        refine ab_Ex.aald (o := 43) (j := y1) (t := 104) (n := 4) (i := 1) (z := 46) (fun n => rfl) c20 (by decide) e9 rfl (by decide) ?_
        refine ab_Ex.blk (k := 7) (pc' := 76) (lv' := [(0, .ref 0), (1, .int y1), (2, .int y2)]) (st' := [.long (((y2 : Int32).toInt64 + 1)), .ref 32, .int y2, .ref 46]) (sh' := ab_SH) (D' := ab_dD h) (fun n => rfl) ?_
        obtain ⟨r22, hr22, hf⟩ := ab_bind_s hf
        refine ab_Ex.call (d := d + 3) (M2 := 23) (as := [.ref 32, .long (((y2 : Int32).toInt64 + 1))]) (rest := [.int y2, .ref 46]) (fun n => rfl) rfl (Nat.not_lt.mpr (Nat.le_of_ble_eq_true rfl)) (sX2_standBehind (d + 3) X (((y2 : Int32).toInt64 + 1)) h _ hr22) (fun r hr => ?_)
        subst hr
        show ab_Ex X (d + 4) 165 79 [(0, .ref 0), (1, .int y1), (2, .int y2)] [.int r22, .int y2, .ref 46] ab_SH (ab_dD h) _
        refine ab_Ex.blk (k := 1) (pc' := 81) (lv' := [(0, .ref 0), (1, .int y1), (2, .int y2)]) (st' := [.int 6, .int r22, .int y2, .ref 46]) (sh' := ab_SH) (D' := ab_dD h) (fun n => rfl) ?_
        refine ab_Ex.blk (k := 1) (pc' := 82) (lv' := [(0, .ref 0), (1, .int y1), (2, .int y2)]) (st' := [.int ((r22 - r22 / 6 * 6)), .int y2, .ref 46]) (sh' := ab_SH) (D' := ab_dD h) (fun n => rfl) ?_
        refine ab_Ex.blk (k := 1) (pc' := 83) (lv' := [(0, .ref 0), (1, .int y1), (2, .int y2)]) (st' := [.long (((r22 - r22 / 6 * 6) : Int32).toInt64), .int y2, .ref 46]) (sh' := ab_SH) (D' := ab_dD h) (fun n => rfl) ?_
        obtain ⟨r23, hr23, hf⟩ := ab_bind_s hf
        refine ab_Ex.call (d := d + 3) (M2 := 123) (as := [.ref 46, .int y2, .long (((r22 - r22 / 6 * 6) : Int32).toInt64)]) (rest := []) (fun n => rfl) rfl (Nat.not_lt.mpr (Nat.le_of_ble_eq_true rfl)) (sX10_put_46 (d + 2) X y2 (((r22 - r22 / 6 * 6) : Int32).toInt64) h _ hr23) (fun r hr => ?_)
        subst hr
        show ab_Ex X (d + 4) 165 86 [(0, .ref 0), (1, .int y1), (2, .int y2)] [] ab_SH (ab_dD r23) _
        refine ab_Ex.blk (k := 2) (pc' := 48) (lv' := [(0, .ref 0), (1, .int y1), (2, .int ((y2 + 1)))]) (st' := []) (sh' := ab_SH) (D' := ab_dD r23) (fun n => rfl) ?_
        exact ih y1 ((y2 + 1)) r23 _ hf
    · have oe9 : ab_tr y1 = 48 := by unfold ab_tr; rw [e9]
      try rw [oe9] at hf
      refine ab_Ex.aald (o := 43) (j := y1) (t := 104) (n := 4) (i := 2) (z := 48) (fun n => rfl) c8 (by decide) e9 rfl (by decide) ?_
      refine ab_Ex.blk (k := 1) (pc' := 58) (lv' := [(0, .ref 0), (1, .int y1), (2, .int y2)]) (st' := [.int ((h.1 48 2)), .int y2]) (sh' := ab_SH) (D' := ab_dD h) (fun n => rfl) ?_
      refine ab_Ex.ifc (c := (h.1 48 2) ≤ y2) (SA := (92, [(0, .ref 0), (1, .int y1), (2, .int y2)], [], ab_dD h)) (SB := (61, [(0, .ref 0), (1, .int y1), (2, .int y2)], [], ab_dD h)) (fun n => rfl) (fun c24 => ?_) (fun c24 => ?_)
      · replace hf := (if_pos c24).symm.trans hf
        refine ab_Ex.blk (k := 3) (pc' := 97) (lv' := [(0, .ref 0), (1, .int y1), (2, .int y2)]) (st' := [.int y1, .ref 43]) (sh' := ab_SH) (D' := ab_dD h) (fun n => rfl) ?_
        obtain ⟨c25, hf⟩ := ab_ask_s hf
        have oe26 : ab_tr y1 = 48 := by unfold ab_tr; rw [e9]
        try rw [oe26] at hf
        refine ab_Ex.aald (o := 43) (j := y1) (t := 104) (n := 4) (i := 2) (z := 48) (fun n => rfl) c25 (by decide) e9 rfl (by decide) ?_
        refine ab_Ex.blk (k := 1) (pc' := 101) (lv' := [(0, .ref 0), (1, .int y1), (2, .int y2)]) (st' := [.int ((h.1 48 2))]) (sh' := ab_SH) (D' := ab_dD h) (fun n => rfl) ?_
        obtain rfl := Option.some.inj hf
        exact ab_Ex.ret (fun n => rfl) rfl
      · replace hf := (if_neg c24).symm.trans hf
        refine ab_Ex.blk (k := 3) (pc' := 66) (lv' := [(0, .ref 0), (1, .int y1), (2, .int y2)]) (st' := [.int y1, .ref 43]) (sh' := ab_SH) (D' := ab_dD h) (fun n => rfl) ?_
        obtain ⟨c27, hf⟩ := ab_ask_s hf
        have oe28 : ab_tr y1 = 48 := by unfold ab_tr; rw [e9]
        try rw [oe28] at hf
        refine ab_Ex.aald (o := 43) (j := y1) (t := 104) (n := 4) (i := 2) (z := 48) (fun n => rfl) c27 (by decide) e9 rfl (by decide) ?_
        refine ab_Ex.blk (k := 7) (pc' := 76) (lv' := [(0, .ref 0), (1, .int y1), (2, .int y2)]) (st' := [.long (((y2 : Int32).toInt64 + 1)), .ref 32, .int y2, .ref 48]) (sh' := ab_SH) (D' := ab_dD h) (fun n => rfl) ?_
        obtain ⟨r29, hr29, hf⟩ := ab_bind_s hf
        refine ab_Ex.call (d := d + 3) (M2 := 23) (as := [.ref 32, .long (((y2 : Int32).toInt64 + 1))]) (rest := [.int y2, .ref 48]) (fun n => rfl) rfl (Nat.not_lt.mpr (Nat.le_of_ble_eq_true rfl)) (sX2_standBehind (d + 3) X (((y2 : Int32).toInt64 + 1)) h _ hr29) (fun r hr => ?_)
        subst hr
        show ab_Ex X (d + 4) 165 79 [(0, .ref 0), (1, .int y1), (2, .int y2)] [.int r29, .int y2, .ref 48] ab_SH (ab_dD h) _
        refine ab_Ex.blk (k := 1) (pc' := 81) (lv' := [(0, .ref 0), (1, .int y1), (2, .int y2)]) (st' := [.int 6, .int r29, .int y2, .ref 48]) (sh' := ab_SH) (D' := ab_dD h) (fun n => rfl) ?_
        refine ab_Ex.blk (k := 1) (pc' := 82) (lv' := [(0, .ref 0), (1, .int y1), (2, .int y2)]) (st' := [.int ((r29 - r29 / 6 * 6)), .int y2, .ref 48]) (sh' := ab_SH) (D' := ab_dD h) (fun n => rfl) ?_
        refine ab_Ex.blk (k := 1) (pc' := 83) (lv' := [(0, .ref 0), (1, .int y1), (2, .int y2)]) (st' := [.long (((r29 - r29 / 6 * 6) : Int32).toInt64), .int y2, .ref 48]) (sh' := ab_SH) (D' := ab_dD h) (fun n => rfl) ?_
        obtain ⟨r30, hr30, hf⟩ := ab_bind_s hf
        refine ab_Ex.call (d := d + 3) (M2 := 123) (as := [.ref 48, .int y2, .long (((r29 - r29 / 6 * 6) : Int32).toInt64)]) (rest := []) (fun n => rfl) rfl (Nat.not_lt.mpr (Nat.le_of_ble_eq_true rfl)) (sX10_put_48 (d + 2) X y2 (((r29 - r29 / 6 * 6) : Int32).toInt64) h _ hr30) (fun r hr => ?_)
        subst hr
        show ab_Ex X (d + 4) 165 86 [(0, .ref 0), (1, .int y1), (2, .int y2)] [] ab_SH (ab_dD r30) _
        refine ab_Ex.blk (k := 2) (pc' := 48) (lv' := [(0, .ref 0), (1, .int y1), (2, .int ((y2 + 1)))]) (st' := []) (sh' := ab_SH) (D' := ab_dD r30) (fun n => rfl) ?_
        exact ih y1 ((y2 + 1)) r30 _ hf
    · have oe9 : ab_tr y1 = 50 := by unfold ab_tr; rw [e9]
      try rw [oe9] at hf
      refine ab_Ex.aald (o := 43) (j := y1) (t := 104) (n := 4) (i := 3) (z := 50) (fun n => rfl) c8 (by decide) e9 rfl (by decide) ?_
      refine ab_Ex.blk (k := 1) (pc' := 58) (lv' := [(0, .ref 0), (1, .int y1), (2, .int y2)]) (st' := [.int ((h.1 50 2)), .int y2]) (sh' := ab_SH) (D' := ab_dD h) (fun n => rfl) ?_
      refine ab_Ex.ifc (c := (h.1 50 2) ≤ y2) (SA := (92, [(0, .ref 0), (1, .int y1), (2, .int y2)], [], ab_dD h)) (SB := (61, [(0, .ref 0), (1, .int y1), (2, .int y2)], [], ab_dD h)) (fun n => rfl) (fun c31 => ?_) (fun c31 => ?_)
      · replace hf := (if_pos c31).symm.trans hf
        refine ab_Ex.blk (k := 3) (pc' := 97) (lv' := [(0, .ref 0), (1, .int y1), (2, .int y2)]) (st' := [.int y1, .ref 43]) (sh' := ab_SH) (D' := ab_dD h) (fun n => rfl) ?_
        obtain ⟨c32, hf⟩ := ab_ask_s hf
        have oe33 : ab_tr y1 = 50 := by unfold ab_tr; rw [e9]
        try rw [oe33] at hf
        refine ab_Ex.aald (o := 43) (j := y1) (t := 104) (n := 4) (i := 3) (z := 50) (fun n => rfl) c32 (by decide) e9 rfl (by decide) ?_
        refine ab_Ex.blk (k := 1) (pc' := 101) (lv' := [(0, .ref 0), (1, .int y1), (2, .int y2)]) (st' := [.int ((h.1 50 2))]) (sh' := ab_SH) (D' := ab_dD h) (fun n => rfl) ?_
        obtain rfl := Option.some.inj hf
        exact ab_Ex.ret (fun n => rfl) rfl
      · replace hf := (if_neg c31).symm.trans hf
        refine ab_Ex.blk (k := 3) (pc' := 66) (lv' := [(0, .ref 0), (1, .int y1), (2, .int y2)]) (st' := [.int y1, .ref 43]) (sh' := ab_SH) (D' := ab_dD h) (fun n => rfl) ?_
        obtain ⟨c34, hf⟩ := ab_ask_s hf
        have oe35 : ab_tr y1 = 50 := by unfold ab_tr; rw [e9]
        try rw [oe35] at hf
        refine ab_Ex.aald (o := 43) (j := y1) (t := 104) (n := 4) (i := 3) (z := 50) (fun n => rfl) c34 (by decide) e9 rfl (by decide) ?_
        refine ab_Ex.blk (k := 7) (pc' := 76) (lv' := [(0, .ref 0), (1, .int y1), (2, .int y2)]) (st' := [.long (((y2 : Int32).toInt64 + 1)), .ref 32, .int y2, .ref 50]) (sh' := ab_SH) (D' := ab_dD h) (fun n => rfl) ?_
        obtain ⟨r36, hr36, hf⟩ := ab_bind_s hf
        refine ab_Ex.call (d := d + 3) (M2 := 23) (as := [.ref 32, .long (((y2 : Int32).toInt64 + 1))]) (rest := [.int y2, .ref 50]) (fun n => rfl) rfl (Nat.not_lt.mpr (Nat.le_of_ble_eq_true rfl)) (sX2_standBehind (d + 3) X (((y2 : Int32).toInt64 + 1)) h _ hr36) (fun r hr => ?_)
        subst hr
        show ab_Ex X (d + 4) 165 79 [(0, .ref 0), (1, .int y1), (2, .int y2)] [.int r36, .int y2, .ref 50] ab_SH (ab_dD h) _
        refine ab_Ex.blk (k := 1) (pc' := 81) (lv' := [(0, .ref 0), (1, .int y1), (2, .int y2)]) (st' := [.int 6, .int r36, .int y2, .ref 50]) (sh' := ab_SH) (D' := ab_dD h) (fun n => rfl) ?_
        refine ab_Ex.blk (k := 1) (pc' := 82) (lv' := [(0, .ref 0), (1, .int y1), (2, .int y2)]) (st' := [.int ((r36 - r36 / 6 * 6)), .int y2, .ref 50]) (sh' := ab_SH) (D' := ab_dD h) (fun n => rfl) ?_
        refine ab_Ex.blk (k := 1) (pc' := 83) (lv' := [(0, .ref 0), (1, .int y1), (2, .int y2)]) (st' := [.long (((r36 - r36 / 6 * 6) : Int32).toInt64), .int y2, .ref 50]) (sh' := ab_SH) (D' := ab_dD h) (fun n => rfl) ?_
        obtain ⟨r37, hr37, hf⟩ := ab_bind_s hf
        refine ab_Ex.call (d := d + 3) (M2 := 123) (as := [.ref 50, .int y2, .long (((r36 - r36 / 6 * 6) : Int32).toInt64)]) (rest := []) (fun n => rfl) rfl (Nat.not_lt.mpr (Nat.le_of_ble_eq_true rfl)) (sX10_put_50 (d + 2) X y2 (((r36 - r36 / 6 * 6) : Int32).toInt64) h _ hr37) (fun r hr => ?_)
        subst hr
        show ab_Ex X (d + 4) 165 86 [(0, .ref 0), (1, .int y1), (2, .int y2)] [] ab_SH (ab_dD r37) _
        refine ab_Ex.blk (k := 2) (pc' := 48) (lv' := [(0, .ref 0), (1, .int y1), (2, .int ((y2 + 1)))]) (st' := []) (sh' := ab_SH) (D' := ab_dD r37) (fun n => rfl) ?_
        exact ih y1 ((y2 + 1)) r37 _ hf
set_option maxRecDepth 20000 in
theorem sX11_lists (d : Nat) (X : abX) (x0 : Int32) (h : abJ) (z : (Int32 × abJ)) (hf : fX11_lists x0 h = some z) : ab_Ex X (d + 4) 165 0 [(0, .ref 0), (1, .int x0)] [] ab_SH (ab_dD h) (fun r => r = (some (.int z.1), ab_SH, ab_dD z.2)) := by
  unfold fX11_lists at hf
  refine ab_Ex.blk (k := 1) (pc' := 1) (lv' := [(0, .ref 0), (1, .int x0)]) (st' := [.int x0]) (sh' := ab_SH) (D' := ab_dD h) (fun n => rfl) ?_
  obtain ⟨r1, hr1, hf⟩ := ab_bind_s hf
  refine ab_Ex.call (d := d + 3) (M2 := 170) (as := [.int x0]) (rest := []) (fun n => rfl) rfl (Nat.not_lt.mpr (Nat.le_of_ble_eq_true rfl)) (sX11_noTray (d + 3) X x0 h _ hr1) (fun r hr => ?_)
  subst hr
  show ab_Ex X (d + 4) 165 4 [(0, .ref 0), (1, .int x0)] [.int r1] ab_SH (ab_dD h) _
  refine ab_Ex.ifc (c := r1 = 0) (SA := (10, [(0, .ref 0), (1, .int x0)], [], ab_dD h)) (SB := (7, [(0, .ref 0), (1, .int x0)], [], ab_dD h)) (fun n => rfl) (fun c2 => ?_) (fun c2 => ?_)
  · replace hf := (if_pos c2).symm.trans hf
    refine ab_Ex.blk (k := 3) (pc' := 15) (lv' := [(0, .ref 0), (1, .int x0)]) (st' := [.int x0, .ref 43]) (sh' := ab_SH) (D' := ab_dD h) (fun n => rfl) ?_
    obtain ⟨c3, hf⟩ := ab_ask_s hf
    rcases ab_lt4 c3 with e4 | e4 | e4 | e4
    · have oe4 : ab_tr x0 = 44 := by unfold ab_tr; rw [e4]
      try rw [oe4] at hf
      refine ab_Ex.aald (o := 43) (j := x0) (t := 104) (n := 4) (i := 0) (z := 44) (fun n => rfl) c3 (by decide) e4 rfl (by decide) ?_
      refine ab_Ex.blk (k := 1) (pc' := 19) (lv' := [(0, .ref 0), (1, .int x0)]) (st' := [.int ((h.1 44 0))]) (sh' := ab_SH) (D' := ab_dD h) (fun n => rfl) ?_
      refine ab_Ex.ifc (c := (h.1 44 0) = 0) (SA := (25, [(0, .ref 0), (1, .int x0)], [], ab_dD h)) (SB := (22, [(0, .ref 0), (1, .int x0)], [], ab_dD h)) (fun n => rfl) (fun c5 => ?_) (fun c5 => ?_)
      · replace hf := (if_pos c5).symm.trans hf
        refine ab_Ex.blk (k := 7) (pc' := 40) (lv' := [(0, .ref 0), (1, .int x0)]) (st' := [.ref 12, .int ((h.1 12 2)), .ref 32]) (sh' := ab_SH) (D' := ab_dD h) (fun n => rfl) ?_
        obtain ⟨r6, hr6, hf⟩ := ab_bind_s hf
        refine ab_Ex.call (d := d + 3) (M2 := 119) (as := [.ref 12]) (rest := [.int ((h.1 12 2)), .ref 32]) (fun n => rfl) rfl (Nat.not_lt.mpr (Nat.le_of_ble_eq_true rfl)) (sX9_code_12 (d + 3) X  h _ hr6) (fun r hr => ?_)
        subst hr
        show ab_Ex X (d + 4) 165 43 [(0, .ref 0), (1, .int x0)] [.int r6, .int ((h.1 12 2)), .ref 32] ab_SH (ab_dD h) _
        obtain ⟨r7, hr7, hf⟩ := ab_bind_s hf
        refine ab_Ex.call (d := d + 3) (M2 := 22) (as := [.ref 32, .int ((h.1 12 2)), .int r6]) (rest := []) (fun n => rfl) rfl (Nat.not_lt.mpr (Nat.le_of_ble_eq_true rfl)) (sX2_walk (d) X ((h.1 12 2)) r6 h _ hr7) (fun r hr => ?_)
        subst hr
        show ab_Ex X (d + 4) 165 46 [(0, .ref 0), (1, .int x0)] [] ab_SH (ab_dD r7) _
        refine ab_Ex.blk (k := 2) (pc' := 48) (lv' := [(0, .ref 0), (1, .int x0), (2, .int 0)]) (st' := []) (sh' := ab_SH) (D' := ab_dD r7) (fun n => rfl) ?_
        exact sX11_lists_L48 d X  ab_N x0 0 r7 _ hf
      · replace hf := (if_neg c5).symm.trans hf
        refine ab_Ex.blk (k := 1) (pc' := 24) (lv' := [(0, .ref 0), (1, .int x0)]) (st' := [.int ((-6))]) (sh' := ab_SH) (D' := ab_dD h) (fun n => rfl) ?_
        obtain rfl := Option.some.inj hf
        exact ab_Ex.ret (fun n => rfl) rfl
    · have oe4 : ab_tr x0 = 46 := by unfold ab_tr; rw [e4]
      try rw [oe4] at hf
      refine ab_Ex.aald (o := 43) (j := x0) (t := 104) (n := 4) (i := 1) (z := 46) (fun n => rfl) c3 (by decide) e4 rfl (by decide) ?_
      refine ab_Ex.blk (k := 1) (pc' := 19) (lv' := [(0, .ref 0), (1, .int x0)]) (st' := [.int ((h.1 46 0))]) (sh' := ab_SH) (D' := ab_dD h) (fun n => rfl) ?_
      refine ab_Ex.ifc (c := (h.1 46 0) = 0) (SA := (25, [(0, .ref 0), (1, .int x0)], [], ab_dD h)) (SB := (22, [(0, .ref 0), (1, .int x0)], [], ab_dD h)) (fun n => rfl) (fun c38 => ?_) (fun c38 => ?_)
      · replace hf := (if_pos c38).symm.trans hf
        refine ab_Ex.blk (k := 7) (pc' := 40) (lv' := [(0, .ref 0), (1, .int x0)]) (st' := [.ref 12, .int ((h.1 12 2)), .ref 32]) (sh' := ab_SH) (D' := ab_dD h) (fun n => rfl) ?_
        obtain ⟨r39, hr39, hf⟩ := ab_bind_s hf
        refine ab_Ex.call (d := d + 3) (M2 := 119) (as := [.ref 12]) (rest := [.int ((h.1 12 2)), .ref 32]) (fun n => rfl) rfl (Nat.not_lt.mpr (Nat.le_of_ble_eq_true rfl)) (sX9_code_12 (d + 3) X  h _ hr39) (fun r hr => ?_)
        subst hr
        show ab_Ex X (d + 4) 165 43 [(0, .ref 0), (1, .int x0)] [.int r39, .int ((h.1 12 2)), .ref 32] ab_SH (ab_dD h) _
        obtain ⟨r40, hr40, hf⟩ := ab_bind_s hf
        refine ab_Ex.call (d := d + 3) (M2 := 22) (as := [.ref 32, .int ((h.1 12 2)), .int r39]) (rest := []) (fun n => rfl) rfl (Nat.not_lt.mpr (Nat.le_of_ble_eq_true rfl)) (sX2_walk (d) X ((h.1 12 2)) r39 h _ hr40) (fun r hr => ?_)
        subst hr
        show ab_Ex X (d + 4) 165 46 [(0, .ref 0), (1, .int x0)] [] ab_SH (ab_dD r40) _
        refine ab_Ex.blk (k := 2) (pc' := 48) (lv' := [(0, .ref 0), (1, .int x0), (2, .int 0)]) (st' := []) (sh' := ab_SH) (D' := ab_dD r40) (fun n => rfl) ?_
        exact sX11_lists_L48 d X  ab_N x0 0 r40 _ hf
      · replace hf := (if_neg c38).symm.trans hf
        refine ab_Ex.blk (k := 1) (pc' := 24) (lv' := [(0, .ref 0), (1, .int x0)]) (st' := [.int ((-6))]) (sh' := ab_SH) (D' := ab_dD h) (fun n => rfl) ?_
        obtain rfl := Option.some.inj hf
        exact ab_Ex.ret (fun n => rfl) rfl
    · have oe4 : ab_tr x0 = 48 := by unfold ab_tr; rw [e4]
      try rw [oe4] at hf
      refine ab_Ex.aald (o := 43) (j := x0) (t := 104) (n := 4) (i := 2) (z := 48) (fun n => rfl) c3 (by decide) e4 rfl (by decide) ?_
      refine ab_Ex.blk (k := 1) (pc' := 19) (lv' := [(0, .ref 0), (1, .int x0)]) (st' := [.int ((h.1 48 0))]) (sh' := ab_SH) (D' := ab_dD h) (fun n => rfl) ?_
      refine ab_Ex.ifc (c := (h.1 48 0) = 0) (SA := (25, [(0, .ref 0), (1, .int x0)], [], ab_dD h)) (SB := (22, [(0, .ref 0), (1, .int x0)], [], ab_dD h)) (fun n => rfl) (fun c41 => ?_) (fun c41 => ?_)
      · replace hf := (if_pos c41).symm.trans hf
        refine ab_Ex.blk (k := 7) (pc' := 40) (lv' := [(0, .ref 0), (1, .int x0)]) (st' := [.ref 12, .int ((h.1 12 2)), .ref 32]) (sh' := ab_SH) (D' := ab_dD h) (fun n => rfl) ?_
        obtain ⟨r42, hr42, hf⟩ := ab_bind_s hf
        refine ab_Ex.call (d := d + 3) (M2 := 119) (as := [.ref 12]) (rest := [.int ((h.1 12 2)), .ref 32]) (fun n => rfl) rfl (Nat.not_lt.mpr (Nat.le_of_ble_eq_true rfl)) (sX9_code_12 (d + 3) X  h _ hr42) (fun r hr => ?_)
        subst hr
        show ab_Ex X (d + 4) 165 43 [(0, .ref 0), (1, .int x0)] [.int r42, .int ((h.1 12 2)), .ref 32] ab_SH (ab_dD h) _
        obtain ⟨r43, hr43, hf⟩ := ab_bind_s hf
        refine ab_Ex.call (d := d + 3) (M2 := 22) (as := [.ref 32, .int ((h.1 12 2)), .int r42]) (rest := []) (fun n => rfl) rfl (Nat.not_lt.mpr (Nat.le_of_ble_eq_true rfl)) (sX2_walk (d) X ((h.1 12 2)) r42 h _ hr43) (fun r hr => ?_)
        subst hr
        show ab_Ex X (d + 4) 165 46 [(0, .ref 0), (1, .int x0)] [] ab_SH (ab_dD r43) _
        refine ab_Ex.blk (k := 2) (pc' := 48) (lv' := [(0, .ref 0), (1, .int x0), (2, .int 0)]) (st' := []) (sh' := ab_SH) (D' := ab_dD r43) (fun n => rfl) ?_
        exact sX11_lists_L48 d X  ab_N x0 0 r43 _ hf
      · replace hf := (if_neg c41).symm.trans hf
        refine ab_Ex.blk (k := 1) (pc' := 24) (lv' := [(0, .ref 0), (1, .int x0)]) (st' := [.int ((-6))]) (sh' := ab_SH) (D' := ab_dD h) (fun n => rfl) ?_
        obtain rfl := Option.some.inj hf
        exact ab_Ex.ret (fun n => rfl) rfl
    · have oe4 : ab_tr x0 = 50 := by unfold ab_tr; rw [e4]
      try rw [oe4] at hf
      refine ab_Ex.aald (o := 43) (j := x0) (t := 104) (n := 4) (i := 3) (z := 50) (fun n => rfl) c3 (by decide) e4 rfl (by decide) ?_
      refine ab_Ex.blk (k := 1) (pc' := 19) (lv' := [(0, .ref 0), (1, .int x0)]) (st' := [.int ((h.1 50 0))]) (sh' := ab_SH) (D' := ab_dD h) (fun n => rfl) ?_
      refine ab_Ex.ifc (c := (h.1 50 0) = 0) (SA := (25, [(0, .ref 0), (1, .int x0)], [], ab_dD h)) (SB := (22, [(0, .ref 0), (1, .int x0)], [], ab_dD h)) (fun n => rfl) (fun c44 => ?_) (fun c44 => ?_)
      · replace hf := (if_pos c44).symm.trans hf
        refine ab_Ex.blk (k := 7) (pc' := 40) (lv' := [(0, .ref 0), (1, .int x0)]) (st' := [.ref 12, .int ((h.1 12 2)), .ref 32]) (sh' := ab_SH) (D' := ab_dD h) (fun n => rfl) ?_
        obtain ⟨r45, hr45, hf⟩ := ab_bind_s hf
        refine ab_Ex.call (d := d + 3) (M2 := 119) (as := [.ref 12]) (rest := [.int ((h.1 12 2)), .ref 32]) (fun n => rfl) rfl (Nat.not_lt.mpr (Nat.le_of_ble_eq_true rfl)) (sX9_code_12 (d + 3) X  h _ hr45) (fun r hr => ?_)
        subst hr
        show ab_Ex X (d + 4) 165 43 [(0, .ref 0), (1, .int x0)] [.int r45, .int ((h.1 12 2)), .ref 32] ab_SH (ab_dD h) _
        obtain ⟨r46, hr46, hf⟩ := ab_bind_s hf
        refine ab_Ex.call (d := d + 3) (M2 := 22) (as := [.ref 32, .int ((h.1 12 2)), .int r45]) (rest := []) (fun n => rfl) rfl (Nat.not_lt.mpr (Nat.le_of_ble_eq_true rfl)) (sX2_walk (d) X ((h.1 12 2)) r45 h _ hr46) (fun r hr => ?_)
        subst hr
        show ab_Ex X (d + 4) 165 46 [(0, .ref 0), (1, .int x0)] [] ab_SH (ab_dD r46) _
        refine ab_Ex.blk (k := 2) (pc' := 48) (lv' := [(0, .ref 0), (1, .int x0), (2, .int 0)]) (st' := []) (sh' := ab_SH) (D' := ab_dD r46) (fun n => rfl) ?_
        exact sX11_lists_L48 d X  ab_N x0 0 r46 _ hf
      · replace hf := (if_neg c44).symm.trans hf
        refine ab_Ex.blk (k := 1) (pc' := 24) (lv' := [(0, .ref 0), (1, .int x0)]) (st' := [.int ((-6))]) (sh' := ab_SH) (D' := ab_dD h) (fun n => rfl) ?_
        obtain rfl := Option.some.inj hf
        exact ab_Ex.ret (fun n => rfl) rfl
  · replace hf := (if_neg c2).symm.trans hf
    refine ab_Ex.blk (k := 1) (pc' := 9) (lv' := [(0, .ref 0), (1, .int x0)]) (st' := [.int ((-2))]) (sh' := ab_SH) (D' := ab_dD h) (fun n => rfl) ?_
    obtain rfl := Option.some.inj hf
    exact ab_Ex.ret (fun n => rfl) rfl
