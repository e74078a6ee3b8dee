def fX12_comesTo_J117  (h : abJ) (k5 : Int32 → Int32 → Int32 → Option Int32) (y2 : Int32) (y3 : Int32) (t0 : Int32) : Option Int32 := k5 y2 y3 t0
def fX12_comesTo_J100  (h : abJ) (k16 : Int32 → Int32 → Int32 → Int32 → Option Int32) (y2 : Int32) (y3 : Int32) (y5 : Int32) (y6 : Int32) : Option Int32 := k16 y2 y3 y5 ((y6 + 1))
def fX12_comesTo_J92  (h : abJ) (k52 : Int32 → Int32 → Int32 → Int32 → Int32 → Option Int32) (y2 : Int32) (y5 : Int32) (y6 : Int32) (y7 : Int32) (t0 : Int32) (t1 : Int32) : Option Int32 := k52 y2 ((t0 ||| t1)) y5 y6 ((y7 + 1))
def fX12_comesTo_L52  (h : abJ) (k16 : Int32 → Int32 → Int32 → Int32 → Option Int32) : Nat → Int32 → Int32 → Int32 → Int32 → Int32 → Option Int32
  | 0, _, _, _, _, _ => none
  | n + 1, y2, y3, y5, y6, y7 => ab_ask ((9 + y6) < 0 ∨ 3102 ≤ ((9 + y6) : Int32).toNatClampNeg) (if (h.1 65 ((9 + y6) : Int32).toNatClampNeg) ≤ y7 then fX12_comesTo_J100 h k16 y2 y3 y5 y6 else (fX12_roadOf y6 y7 h).bind (fun r11 => (fX12_isIn ((y3 : Int32).toInt64) r11 h).bind (fun r12 => if r12 = 0 then fX12_comesTo_J92 h (fun y2 y3 y5 y6 y7 => fX12_comesTo_L52 h k16 n y2 y3 y5 y6 y7) y2 y5 y6 y7 y3 0 else fX12_comesTo_J92 h (fun y2 y3 y5 y6 y7 => fX12_comesTo_L52 h k16 n y2 y3 y5 y6 y7) y2 y5 y6 y7 y3 (((1 : Int32) <<< (y6 &&& 31))))))
def fX12_comesTo_L16  (h : abJ) (k5 : Int32 → Int32 → Int32 → Option Int32) : Nat → Int32 → Int32 → Int32 → Int32 → Option Int32
  | 0, _, _, _, _ => none
  | n + 1, y2, y3, y5, y6 => if (h.1 65 1) ≤ y6 then if y3 = y5 then fX12_comesTo_J117 h k5 y2 y3 0 else fX12_comesTo_J117 h k5 y2 y3 1 else (fX12_isIn ((y2 : Int32).toInt64) y6 h).bind (fun r4 => if r4 = 0 then (fX12_isRest y6 h).bind (fun r6 => if r6 = 0 then fX12_comesTo_L52 h (fun y2 y3 y5 y6 => fX12_comesTo_L16 h k5 n y2 y3 y5 y6) ab_N y2 y3 y5 y6 0 else fX12_comesTo_J100 h (fun y2 y3 y5 y6 => fX12_comesTo_L16 h k5 n y2 y3 y5 y6) y2 y3 y5 y6) else fX12_comesTo_J100 h (fun y2 y3 y5 y6 => fX12_comesTo_L16 h k5 n y2 y3 y5 y6) y2 y3 y5 y6)
def fX12_comesTo_L5  (h : abJ)  : Nat → Int32 → Int32 → Int32 → Option Int32
  | 0, _, _, _ => none
  | n + 1, y2, y3, y4 => if y4 = 0 then some y3 else fX12_comesTo_L16 h (fun y2 y3 y4 => fX12_comesTo_L5 h n y2 y3 y4) ab_N y2 y3 y3 0
def fX12_comesTo (x0 : Int32) (x1 : Int32) (h : abJ) : Option Int32 := fX12_comesTo_L5 h ab_N x1 x0 1
set_option maxRecDepth 20000 in
theorem sX12_comesTo_J117 (d : Nat) (X : abX) (h : abJ) (k5 : Int32 → Int32 → Int32 → Option Int32) (hk5 : ∀ (y2 : Int32) (y3 : Int32) (y4 : Int32) (z : Int32), k5 y2 y3 y4 = some z → ab_Ex X (d + 2) 282 5 [(0, .ref 64), (2, .int y2), (3, .int y3), (4, .int y4)] [] ab_SH (ab_dD h) (fun r => r = (some (.int z), ab_SH, ab_dD h))) : ∀ (y2 : Int32) (y3 : Int32) (t0 : Int32) (z : Int32), fX12_comesTo_J117 h k5 y2 y3 t0 = some z → ab_Ex X (d + 2) 282 117 [(0, .ref 64), (2, .int y2), (3, .int y3)] [.int t0] ab_SH (ab_dD h) (fun r => r = (some (.int z), ab_SH, ab_dD h)) := by
  intro y2 y3 t0 z hf
  unfold fX12_comesTo_J117 at hf
  refine ab_Ex.blk (k := 2) (pc' := 5) (lv' := [(0, .ref 64), (2, .int y2), (3, .int y3), (4, .int t0)]) (st' := []) (sh' := ab_SH) (D' := ab_dD h) (fun n => rfl) ?_
  exact hk5 y2 y3 t0 _ hf
set_option maxRecDepth 20000 in
theorem sX12_comesTo_J100 (d : Nat) (X : abX) (h : abJ) (k16 : Int32 → Int32 → Int32 → Int32 → Option Int32) (hk16 : ∀ (y2 : Int32) (y3 : Int32) (y5 : Int32) (y6 : Int32) (z : Int32), k16 y2 y3 y5 y6 = some z → ab_Ex X (d + 2) 282 16 [(0, .ref 64), (2, .int y2), (3, .int y3), (5, .int y5), (6, .int y6)] [] ab_SH (ab_dD h) (fun r => r = (some (.int z), ab_SH, ab_dD h))) : ∀ (y2 : Int32) (y3 : Int32) (y5 : Int32) (y6 : Int32) (z : Int32), fX12_comesTo_J100 h k16 y2 y3 y5 y6 = some z → ab_Ex X (d + 2) 282 100 [(0, .ref 64), (2, .int y2), (3, .int y3), (5, .int y5), (6, .int y6)] [] ab_SH (ab_dD h) (fun r => r = (some (.int z), ab_SH, ab_dD h)) := by
  intro y2 y3 y5 y6 z hf
  unfold fX12_comesTo_J100 at hf
  refine ab_Ex.blk (k := 2) (pc' := 16) (lv' := [(0, .ref 64), (2, .int y2), (3, .int y3), (5, .int y5), (6, .int ((y6 + 1)))]) (st' := []) (sh' := ab_SH) (D' := ab_dD h) (fun n => rfl) ?_
  exact hk16 y2 y3 y5 ((y6 + 1)) _ hf
set_option maxRecDepth 20000 in
theorem sX12_comesTo_J92 (d : Nat) (X : abX) (h : abJ) (k52 : Int32 → Int32 → Int32 → Int32 → Int32 → Option Int32) (hk52 : ∀ (y2 : Int32) (y3 : Int32) (y5 : Int32) (y6 : Int32) (y7 : Int32) (z : Int32), k52 y2 y3 y5 y6 y7 = some z → ab_Ex X (d + 2) 282 52 [(0, .ref 64), (2, .int y2), (3, .int y3), (5, .int y5), (6, .int y6), (7, .int y7)] [] ab_SH (ab_dD h) (fun r => r = (some (.int z), ab_SH, ab_dD h))) : ∀ (y2 : Int32) (y5 : Int32) (y6 : Int32) (y7 : Int32) (t0 : Int32) (t1 : Int32) (z : Int32), fX12_comesTo_J92 h k52 y2 y5 y6 y7 t0 t1 = some z → ab_Ex X (d + 2) 282 92 [(0, .ref 64), (2, .int y2), (5, .int y5), (6, .int y6), (7, .int y7)] [.int t1, .int t0] ab_SH (ab_dD h) (fun r => r = (some (.int z), ab_SH, ab_dD h)) := by
  intro y2 y5 y6 y7 t0 t1 z hf
  unfold fX12_comesTo_J92 at hf
  refine ab_Ex.blk (k := 4) (pc' := 52) (lv' := [(0, .ref 64), (2, .int y2), (3, .int ((t0 ||| t1))), (5, .int y5), (6, .int y6), (7, .int ((y7 + 1)))]) (st' := []) (sh' := ab_SH) (D' := ab_dD h) (fun n => rfl) ?_
  exact hk52 y2 ((t0 ||| t1)) y5 y6 ((y7 + 1)) _ hf
set_option maxRecDepth 20000 in
theorem sX12_comesTo_L52 (d : Nat) (X : abX) (h : abJ) (k16 : Int32 → Int32 → Int32 → Int32 → Option Int32) (hk16 : ∀ (y2 : Int32) (y3 : Int32) (y5 : Int32) (y6 : Int32) (z : Int32), k16 y2 y3 y5 y6 = some z → ab_Ex X (d + 2) 282 16 [(0, .ref 64), (2, .int y2), (3, .int y3), (5, .int y5), (6, .int y6)] [] ab_SH (ab_dD h) (fun r => r = (some (.int z), ab_SH, ab_dD h))) : ∀ (n : Nat), ∀ (y2 : Int32) (y3 : Int32) (y5 : Int32) (y6 : Int32) (y7 : Int32) (z : Int32), fX12_comesTo_L52 h k16 n y2 y3 y5 y6 y7 = some z → ab_Ex X (d + 2) 282 52 [(0, .ref 64), (2, .int y2), (3, .int y3), (5, .int y5), (6, .int y6), (7, .int y7)] [] ab_SH (ab_dD h) (fun r => r = (some (.int z), ab_SH, ab_dD h)) := by
  intro n
  induction n with
  | zero => intro y2 y3 y5 y6 y7 z hf; cases hf
  | succ n ih =>
    intro y2 y3 y5 y6 y7 z hf
    rw [fX12_comesTo_L52] at hf
    refine ab_Ex.blk (k := 6) (pc' := 63) (lv' := [(0, .ref 64), (2, .int y2), (3, .int y3), (5, .int y5), (6, .int y6), (7, .int y7)]) (st' := [.int ((9 + y6)), .ref 65, .int y7]) (sh' := ab_SH) (D' := ab_dD h) (fun n => rfl) ?_
    obtain ⟨c9, hf⟩ := ab_ask_s hf
    refine ab_Ex.grd (c := (9 + y6) < 0 ∨ 3102 ≤ ((9 + y6) : Int32).toNatClampNeg) (S := (64, [(0, .ref 64), (2, .int y2), (3, .int y3), (5, .int y5), (6, .int y6), (7, .int y7)], [.int ((h.1 65 ((9 + y6) : Int32).toNatClampNeg)), .int y7], ab_dD h)) (fun n => rfl) c9 ?_
    refine ab_Ex.ifc (c := (h.1 65 ((9 + y6) : Int32).toNatClampNeg) ≤ y7) (SA := (100, [(0, .ref 64), (2, .int y2), (3, .int y3), (5, .int y5), (6, .int y6), (7, .int y7)], [], ab_dD h)) (SB := (67, [(0, .ref 64), (2, .int y2), (3, .int y3), (5, .int y5), (6, .int y6), (7, .int y7)], [], ab_dD h)) (fun n => rfl) (fun c10 => ?_) (fun c10 => ?_)
    · replace hf := (if_pos c10).symm.trans hf
      exact sX12_comesTo_J100 d X h k16 hk16 y2 y3 y5 y6 _ hf
    · replace hf := (if_neg c10).symm.trans hf
      refine ab_Ex.blk (k := 6) (pc' := 75) (lv' := [(0, .ref 64), (2, .int y2), (3, .int y3), (5, .int y5), (6, .int y6), (7, .int y7)]) (st' := [.int y7, .int y6, .ref 64, .long ((y3 : Int32).toInt64), .int y3]) (sh' := ab_SH) (D' := ab_dD h) (fun n => rfl) ?_
      obtain ⟨r11, hr11, hf⟩ := ab_bind_s hf
      refine ab_Ex.call (d := d + 1) (M2 := 218) (as := [.ref 64, .int y6, .int y7]) (rest := [.long ((y3 : Int32).toInt64), .int y3]) (fun n => rfl) rfl (Nat.not_lt.mpr (Nat.le_of_ble_eq_true rfl)) (sX12_roadOf (d + 1) X y6 y7 h _ hr11) (fun r hr => ?_)
      subst hr
      show ab_Ex X (d + 2) 282 78 [(0, .ref 64), (2, .int y2), (3, .int y3), (5, .int y5), (6, .int y6), (7, .int y7)] [.int r11, .long ((y3 : Int32).toInt64), .int y3] ab_SH (ab_dD h) _
      obtain ⟨r12, hr12, hf⟩ := ab_bind_s hf
      refine ab_Ex.call (d := d + 1) (M2 := 188) (as := [.long ((y3 : Int32).toInt64), .int r11]) (rest := [.int y3]) (fun n => rfl) rfl (Nat.not_lt.mpr (Nat.le_of_ble_eq_true rfl)) (sX12_isIn (d + 1) X ((y3 : Int32).toInt64) r11 h _ hr12) (fun r hr => ?_)
      subst hr
      show ab_Ex X (d + 2) 282 81 [(0, .ref 64), (2, .int y2), (3, .int y3), (5, .int y5), (6, .int y6), (7, .int y7)] [.int r12, .int y3] ab_SH (ab_dD h) _
      refine ab_Ex.ifc (c := r12 = 0) (SA := (91, [(0, .ref 64), (2, .int y2), (3, .int y3), (5, .int y5), (6, .int y6), (7, .int y7)], [.int y3], ab_dD h)) (SB := (84, [(0, .ref 64), (2, .int y2), (3, .int y3), (5, .int y5), (6, .int y6), (7, .int y7)], [.int y3], ab_dD h)) (fun n => rfl) (fun c13 => ?_) (fun c13 => ?_)
      · replace hf := (if_pos c13).symm.trans hf
        refine ab_Ex.blk (k := 1) (pc' := 92) (lv' := [(0, .ref 64), (2, .int y2), (5, .int y5), (6, .int y6), (7, .int y7)]) (st' := [.int 0, .int y3]) (sh' := ab_SH) (D' := ab_dD h) (fun n => rfl) ?_
        exact sX12_comesTo_J92 d X h (fun y2 y3 y5 y6 y7 => fX12_comesTo_L52 h k16 n y2 y3 y5 y6 y7) (fun y2 y3 y5 y6 y7 z hz => ih y2 y3 y5 y6 y7 z hz) y2 y5 y6 y7 y3 0 _ hf
      · replace hf := (if_neg c13).symm.trans hf
        refine ab_Ex.blk (k := 4) (pc' := 92) (lv' := [(0, .ref 64), (2, .int y2), (5, .int y5), (6, .int y6), (7, .int y7)]) (st' := [.int (((1 : Int32) <<< (y6 &&& 31))), .int y3]) (sh' := ab_SH) (D' := ab_dD h) (fun n => rfl) ?_
        exact sX12_comesTo_J92 d X h (fun y2 y3 y5 y6 y7 => fX12_comesTo_L52 h k16 n y2 y3 y5 y6 y7) (fun y2 y3 y5 y6 y7 z hz => ih y2 y3 y5 y6 y7 z hz) y2 y5 y6 y7 y3 (((1 : Int32) <<< (y6 &&& 31))) _ hf
set_option maxRecDepth 20000 in
theorem sX12_comesTo_L16 (d : Nat) (X : abX) (h : abJ) (k5 : Int32 → Int32 → Int32 → Option Int32) (hk5 : ∀ (y2 : Int32) (y3 : Int32) (y4 : Int32) (z : Int32), k5 y2 y3 y4 = some z → ab_Ex X (d + 2) 282 5 [(0, .ref 64), (2, .int y2), (3, .int y3), (4, .int y4)] [] ab_SH (ab_dD h) (fun r => r = (some (.int z), ab_SH, ab_dD h))) : ∀ (n : Nat), ∀ (y2 : Int32) (y3 : Int32) (y5 : Int32) (y6 : Int32) (z : Int32), fX12_comesTo_L16 h k5 n y2 y3 y5 y6 = some z → ab_Ex X (d + 2) 282 16 [(0, .ref 64), (2, .int y2), (3, .int y3), (5, .int y5), (6, .int y6)] [] ab_SH (ab_dD h) (fun r => r = (some (.int z), ab_SH, ab_dD h)) := by
  intro n
  induction n with
  | zero => intro y2 y3 y5 y6 z hf; cases hf
  | succ n ih =>
    intro y2 y3 y5 y6 z hf
    rw [fX12_comesTo_L16] at hf
    refine ab_Ex.blk (k := 4) (pc' := 23) (lv' := [(0, .ref 64), (2, .int y2), (3, .int y3), (5, .int y5), (6, .int y6)]) (st' := [.int 1, .ref 65, .int y6]) (sh' := ab_SH) (D' := ab_dD h) (fun n => rfl) ?_
    refine ab_Ex.blk (k := 1) (pc' := 24) (lv' := [(0, .ref 64), (2, .int y2), (3, .int y3), (5, .int y5), (6, .int y6)]) (st' := [.int ((h.1 65 1)), .int y6]) (sh' := ab_SH) (D' := ab_dD h) (fun n => rfl) ?_
    refine ab_Ex.ifc (c := (h.1 65 1) ≤ y6) (SA := (106, [(0, .ref 64), (2, .int y2), (3, .int y3), (5, .int y5), (6, .int y6)], [], ab_dD h)) (SB := (27, [(0, .ref 64), (2, .int y2), (3, .int y3), (5, .int y5), (6, .int y6)], [], ab_dD h)) (fun n => rfl) (fun c2 => ?_) (fun c2 => ?_)
    · replace hf := (if_pos c2).symm.trans hf
      refine ab_Ex.blk (k := 2) (pc' := 109) (lv' := [(0, .ref 64), (2, .int y2), (3, .int y3), (5, .int y5), (6, .int y6)]) (st' := [.int y5, .int y3]) (sh' := ab_SH) (D' := ab_dD h) (fun n => rfl) ?_
      refine ab_Ex.ifc (c := y3 = y5) (SA := (116, [(0, .ref 64), (2, .int y2), (3, .int y3), (5, .int y5), (6, .int y6)], [], ab_dD h)) (SB := (112, [(0, .ref 64), (2, .int y2), (3, .int y3), (5, .int y5), (6, .int y6)], [], ab_dD h)) (fun n => rfl) (fun c3 => ?_) (fun c3 => ?_)
      · replace hf := (if_pos c3).symm.trans hf
        refine ab_Ex.blk (k := 1) (pc' := 117) (lv' := [(0, .ref 64), (2, .int y2), (3, .int y3)]) (st' := [.int 0]) (sh' := ab_SH) (D' := ab_dD h) (fun n => rfl) ?_
        exact sX12_comesTo_J117 d X h k5 hk5 y2 y3 0 _ hf
      · replace hf := (if_neg c3).symm.trans hf
        refine ab_Ex.blk (k := 2) (pc' := 117) (lv' := [(0, .ref 64), (2, .int y2), (3, .int y3)]) (st' := [.int 1]) (sh' := ab_SH) (D' := ab_dD h) (fun n => rfl) ?_
        exact sX12_comesTo_J117 d X h k5 hk5 y2 y3 1 _ hf
    · replace hf := (if_neg c2).symm.trans hf
      refine ab_Ex.blk (k := 3) (pc' := 31) (lv' := [(0, .ref 64), (2, .int y2), (3, .int y3), (5, .int y5), (6, .int y6)]) (st' := [.int y6, .long ((y2 : Int32).toInt64)]) (sh' := ab_SH) (D' := ab_dD h) (fun n => rfl) ?_
      obtain ⟨r4, hr4, hf⟩ := ab_bind_s hf
      refine ab_Ex.call (d := d + 1) (M2 := 188) (as := [.long ((y2 : Int32).toInt64), .int y6]) (rest := []) (fun n => rfl) rfl (Nat.not_lt.mpr (Nat.le_of_ble_eq_true rfl)) (sX12_isIn (d + 1) X ((y2 : Int32).toInt64) y6 h _ hr4) (fun r hr => ?_)
      subst hr
      show ab_Ex X (d + 2) 282 34 [(0, .ref 64), (2, .int y2), (3, .int y3), (5, .int y5), (6, .int y6)] [.int r4] ab_SH (ab_dD h) _
      refine ab_Ex.ifc (c := r4 = 0) (SA := (37, [(0, .ref 64), (2, .int y2), (3, .int y3), (5, .int y5), (6, .int y6)], [], ab_dD h)) (SB := (100, [(0, .ref 64), (2, .int y2), (3, .int y3), (5, .int y5), (6, .int y6)], [], ab_dD h)) (fun n => rfl) (fun c5 => ?_) (fun c5 => ?_)
      · replace hf := (if_pos c5).symm.trans hf
        refine ab_Ex.blk (k := 2) (pc' := 40) (lv' := [(0, .ref 64), (2, .int y2), (3, .int y3), (5, .int y5), (6, .int y6)]) (st' := [.int y6, .ref 64]) (sh' := ab_SH) (D' := ab_dD h) (fun n => rfl) ?_
        obtain ⟨r6, hr6, hf⟩ := ab_bind_s hf
        refine ab_Ex.call (d := d + 1) (M2 := 223) (as := [.ref 64, .int y6]) (rest := []) (fun n => rfl) rfl (Nat.not_lt.mpr (Nat.le_of_ble_eq_true rfl)) (sX12_isRest (d) X y6 h _ hr6) (fun r hr => ?_)
        subst hr
        show ab_Ex X (d + 2) 282 43 [(0, .ref 64), (2, .int y2), (3, .int y3), (5, .int y5), (6, .int y6)] [.int r6] ab_SH (ab_dD h) _
        refine ab_Ex.ifc (c := r6 = 0) (SA := (49, [(0, .ref 64), (2, .int y2), (3, .int y3), (5, .int y5), (6, .int y6)], [], ab_dD h)) (SB := (46, [(0, .ref 64), (2, .int y2), (3, .int y3), (5, .int y5), (6, .int y6)], [], ab_dD h)) (fun n => rfl) (fun c7 => ?_) (fun c7 => ?_)
        · replace hf := (if_pos c7).symm.trans hf
          refine ab_Ex.blk (k := 2) (pc' := 52) (lv' := [(0, .ref 64), (2, .int y2), (3, .int y3), (5, .int y5), (6, .int y6), (7, .int 0)]) (st' := []) (sh' := ab_SH) (D' := ab_dD h) (fun n => rfl) ?_
          exact sX12_comesTo_L52 d X h (fun y2 y3 y5 y6 => fX12_comesTo_L16 h k5 n y2 y3 y5 y6) (fun y2 y3 y5 y6 z hz => ih y2 y3 y5 y6 z hz) ab_N y2 y3 y5 y6 0 _ hf
        · replace hf := (if_neg c7).symm.trans hf
          refine ab_Ex.blk (k := 1) (pc' := 100) (lv' := [(0, .ref 64), (2, .int y2), (3, .int y3), (5, .int y5), (6, .int y6)]) (st' := []) (sh' := ab_SH) (D' := ab_dD h) (fun n => rfl) ?_
          exact sX12_comesTo_J100 d X h (fun y2 y3 y5 y6 => fX12_comesTo_L16 h k5 n y2 y3 y5 y6) (fun y2 y3 y5 y6 z hz => ih y2 y3 y5 y6 z hz) y2 y3 y5 y6 _ hf
      · replace hf := (if_neg c5).symm.trans hf
        exact sX12_comesTo_J100 d X h (fun y2 y3 y5 y6 => fX12_comesTo_L16 h k5 n y2 y3 y5 y6) (fun y2 y3 y5 y6 z hz => ih y2 y3 y5 y6 z hz) y2 y3 y5 y6 _ hf
set_option maxRecDepth 20000 in
theorem sX12_comesTo_L5 (d : Nat) (X : abX) (h : abJ)   : ∀ (n : Nat), ∀ (y2 : Int32) (y3 : Int32) (y4 : Int32) (z : Int32), fX12_comesTo_L5 h n y2 y3 y4 = some z → ab_Ex X (d + 2) 282 5 [(0, .ref 64), (2, .int y2), (3, .int y3), (4, .int y4)] [] ab_SH (ab_dD h) (fun r => r = (some (.int z), ab_SH, ab_dD h)) := by
  intro n
  induction n with
  | zero => intro y2 y3 y4 z hf; cases hf
  | succ n ih =>
    intro y2 y3 y4 z hf
    rw [fX12_comesTo_L5] at hf
    refine ab_Ex.blk (k := 1) (pc' := 7) (lv' := [(0, .ref 64), (2, .int y2), (3, .int y3), (4, .int y4)]) (st' := [.int y4]) (sh' := ab_SH) (D' := ab_dD h) (fun n => rfl) ?_
    refine ab_Ex.ifc (c := y4 = 0) (SA := (122, [(0, .ref 64), (2, .int y2), (3, .int y3), (4, .int y4)], [], ab_dD h)) (SB := (10, [(0, .ref 64), (2, .int y2), (3, .int y3), (4, .int y4)], [], ab_dD h)) (fun n => rfl) (fun c1 => ?_) (fun c1 => ?_)
    · replace hf := (if_pos c1).symm.trans hf
      refine ab_Ex.blk (k := 1) (pc' := 123) (lv' := [(0, .ref 64), (2, .int y2), (3, .int y3), (4, .int y4)]) (st' := [.int y3]) (sh' := ab_SH) (D' := ab_dD h) (fun n => rfl) ?_
      obtain rfl := Option.some.inj hf
      exact ab_Ex.ret (fun n => rfl) rfl
    · replace hf := (if_neg c1).symm.trans hf
      refine ab_Ex.blk (k := 4) (pc' := 16) (lv' := [(0, .ref 64), (2, .int y2), (3, .int y3), (5, .int y3), (6, .int 0)]) (st' := []) (sh' := ab_SH) (D' := ab_dD h) (fun n => rfl) ?_
      exact sX12_comesTo_L16 d X h (fun y2 y3 y4 => fX12_comesTo_L5 h n y2 y3 y4) (fun y2 y3 y4 z hz => ih y2 y3 y4 z hz) ab_N y2 y3 y3 0 _ hf
set_option maxRecDepth 20000 in
theorem sX12_comesTo (d : Nat) (X : abX) (x0 : Int32) (x1 : Int32) (h : abJ) (z : Int32) (hf : fX12_comesTo x0 x1 h = some z) : ab_Ex X (d + 2) 282 0 [(0, .ref 64), (1, .int x0), (2, .int x1)] [] ab_SH (ab_dD h) (fun r => r = (some (.int z), ab_SH, ab_dD h)) := by
  unfold fX12_comesTo at hf
  refine ab_Ex.blk (k := 4) (pc' := 5) (lv' := [(0, .ref 64), (2, .int x1), (3, .int x0), (4, .int 1)]) (st' := []) (sh' := ab_SH) (D' := ab_dD h) (fun n => rfl) ?_
  exact sX12_comesTo_L5 d X h ab_N x1 x0 1 _ hf
def fX12_beginsRows_J26  (k2 : Int32 → abJ → Option abJ) (y1 : Int32) (t1 : Int32) (t2 : Int64) (h : abJ) : Option abJ := (fX12_lays t1 t2 1 h).bind (fun r3 => k2 ((y1 + 1)) r3)
def fX12_beginsRows_L2   : Nat → Int32 → abJ → Option abJ
  | 0, _, _ => none
  | n + 1, y1, h => if 42 ≤ y1 then some h else if (y1 - y1 / 7 * 7) = (y1 / 7) then fX12_beginsRows_J26 (fun y1 h => fX12_beginsRows_L2 n y1 h) y1 y1 1 h else fX12_beginsRows_J26 (fun y1 h => fX12_beginsRows_L2 n y1 h) y1 y1 0 h
def fX12_beginsRows  (h : abJ) : Option abJ := fX12_beginsRows_L2 ab_N 0 h
set_option maxRecDepth 20000 in
theorem sX12_beginsRows_J26 (d : Nat) (X : abX) (k2 : Int32 → abJ → Option abJ) (hk2 : ∀ (y1 : Int32) (h : abJ) (z : abJ), k2 y1 h = some z → ab_Ex X (d + 102) 283 2 [(0, .ref 64), (1, .int y1)] [] ab_SH (ab_dD h) (fun r => r = (none, ab_SH, ab_dD z))) : ∀ (y1 : Int32) (t1 : Int32) (t2 : Int64) (h : abJ) (z : abJ), fX12_beginsRows_J26 k2 y1 t1 t2 h = some z → ab_Ex X (d + 102) 283 26 [(0, .ref 64), (1, .int y1)] [.long t2, .int t1, .ref 64] ab_SH (ab_dD h) (fun r => r = (none, ab_SH, ab_dD z)) := by
  intro y1 t1 t2 h z hf
  unfold fX12_beginsRows_J26 at hf
  refine ab_Ex.blk (k := 1) (pc' := 27) (lv' := [(0, .ref 64), (1, .int y1)]) (st' := [.long 1, .long t2, .int t1, .ref 64]) (sh' := ab_SH) (D' := ab_dD h) (fun n => rfl) ?_
  obtain ⟨r3, hr3, hf⟩ := ab_bind_s hf
  refine ab_Ex.call (d := d + 101) (M2 := 278) (as := [.ref 64, .int t1, .long t2, .long 1]) (rest := []) (fun n => rfl) rfl (Nat.not_lt.mpr (Nat.le_of_ble_eq_true rfl)) (sX12_lays (d) X t1 t2 1 h _ hr3) (fun r hr => ?_)
  subst hr
  show ab_Ex X (d + 102) 283 30 [(0, .ref 64), (1, .int y1)] [] ab_SH (ab_dD r3) _
  refine ab_Ex.blk (k := 2) (pc' := 2) (lv' := [(0, .ref 64), (1, .int ((y1 + 1)))]) (st' := []) (sh' := ab_SH) (D' := ab_dD r3) (fun n => rfl) ?_
  exact hk2 ((y1 + 1)) r3 _ hf
set_option maxRecDepth 20000 in
theorem sX12_beginsRows_L2 (d : Nat) (X : abX)   : ∀ (n : Nat), ∀ (y1 : Int32) (h : abJ) (z : abJ), fX12_beginsRows_L2 n y1 h = some z → ab_Ex X (d + 102) 283 2 [(0, .ref 64), (1, .int y1)] [] ab_SH (ab_dD h) (fun r => r = (none, ab_SH, ab_dD z)) := by
  intro n
  induction n with
  | zero => intro y1 h z hf; cases hf
  | succ n ih =>
    intro y1 h z hf
    rw [fX12_beginsRows_L2] at hf
    refine ab_Ex.blk (k := 2) (pc' := 5) (lv' := [(0, .ref 64), (1, .int y1)]) (st' := [.int 42, .int y1]) (sh' := ab_SH) (D' := ab_dD h) (fun n => rfl) ?_
    refine ab_Ex.ifc (c := 42 ≤ y1) (SA := (36, [(0, .ref 64), (1, .int y1)], [], ab_dD h)) (SB := (8, [(0, .ref 64), (1, .int y1)], [], ab_dD h)) (fun n => rfl) (fun c1 => ?_) (fun c1 => ?_)
    · replace hf := (if_pos c1).symm.trans hf
      obtain rfl := Option.some.inj hf
      exact ab_Ex.ret (fun n => rfl) rfl
    · replace hf := (if_neg c1).symm.trans hf
      refine ab_Ex.blk (k := 4) (pc' := 13) (lv' := [(0, .ref 64), (1, .int y1)]) (st' := [.int 7, .int y1, .int y1, .ref 64]) (sh' := ab_SH) (D' := ab_dD h) (fun n => rfl) ?_
      refine ab_Ex.blk (k := 1) (pc' := 14) (lv' := [(0, .ref 64), (1, .int y1)]) (st' := [.int ((y1 - y1 / 7 * 7)), .int y1, .ref 64]) (sh' := ab_SH) (D' := ab_dD h) (fun n => rfl) ?_
      refine ab_Ex.blk (k := 2) (pc' := 17) (lv' := [(0, .ref 64), (1, .int y1)]) (st' := [.int 7, .int y1, .int ((y1 - y1 / 7 * 7)), .int y1, .ref 64]) (sh' := ab_SH) (D' := ab_dD h) (fun n => rfl) ?_
      refine ab_Ex.blk (k := 1) (pc' := 18) (lv' := [(0, .ref 64), (1, .int y1)]) (st' := [.int ((y1 / 7)), .int ((y1 - y1 / 7 * 7)), .int y1, .ref 64]) (sh' := ab_SH) (D' := ab_dD h) (fun n => rfl) ?_
      refine ab_Ex.ifc (c := (y1 - y1 / 7 * 7) = (y1 / 7)) (SA := (21, [(0, .ref 64), (1, .int y1)], [.int y1, .ref 64], ab_dD h)) (SB := (25, [(0, .ref 64), (1, .int y1)], [.int y1, .ref 64], ab_dD h)) (fun n => rfl) (fun c2 => ?_) (fun c2 => ?_)
      · replace hf := (if_pos c2).symm.trans hf
        refine ab_Ex.blk (k := 2) (pc' := 26) (lv' := [(0, .ref 64), (1, .int y1)]) (st' := [.long 1, .int y1, .ref 64]) (sh' := ab_SH) (D' := ab_dD h) (fun n => rfl) ?_
        exact sX12_beginsRows_J26 d X (fun y1 h => fX12_beginsRows_L2 n y1 h) (fun y1 h z hz => ih y1 h z hz) y1 y1 1 h _ hf
      · replace hf := (if_neg c2).symm.trans hf
        refine ab_Ex.blk (k := 1) (pc' := 26) (lv' := [(0, .ref 64), (1, .int y1)]) (st' := [.long 0, .int y1, .ref 64]) (sh' := ab_SH) (D' := ab_dD h) (fun n => rfl) ?_
        exact sX12_beginsRows_J26 d X (fun y1 h => fX12_beginsRows_L2 n y1 h) (fun y1 h z hz => ih y1 h z hz) y1 y1 0 h _ hf
set_option maxRecDepth 20000 in
theorem sX12_beginsRows (d : Nat) (X : abX)  (h : abJ) (z : abJ) (hf : fX12_beginsRows  h = some z) : ab_Ex X (d + 102) 283 0 [(0, .ref 64)] [] ab_SH (ab_dD h) (fun r => r = (none, ab_SH, ab_dD z)) := by
  unfold fX12_beginsRows at hf
  refine ab_Ex.blk (k := 2) (pc' := 2) (lv' := [(0, .ref 64), (1, .int 0)]) (st' := []) (sh' := ab_SH) (D' := ab_dD h) (fun n => rfl) ?_
  exact sX12_beginsRows_L2 d X  ab_N 0 h _ hf
def fX12_chance_J344  (k117 : Int32 → Int32 → Int32 → Int32 → Int32 → abJ → Option (Int64 × abJ)) (y1 : Int32) (y3 : Int32) (y4 : Int32) (y5 : Int32) (y6 : Int32) (h : abJ) : Option (Int64 × abJ) := k117 y1 y3 y4 y5 ((y6 + 1)) h
def fX12_chance_J338  (k181 : Int32 → Int32 → Int32 → Int32 → Int32 → Int32 → Int32 → abJ → Option (Int64 × abJ)) (y1 : Int32) (y3 : Int32) (y4 : Int32) (y5 : Int32) (y6 : Int32) (y7 : Int32) (y8 : Int32) (h : abJ) : Option (Int64 × abJ) := k181 y1 y3 y4 y5 y6 y7 ((y8 + 1)) h
def fX12_chance_L181  (k117 : Int32 → Int32 → Int32 → Int32 → Int32 → abJ → Option (Int64 × abJ)) : Nat → Int32 → Int32 → Int32 → Int32 → Int32 → Int32 → Int32 → abJ → Option (Int64 × abJ)
  | 0, _, _, _, _, _, _, _, _ => none
  | n + 1, y1, y3, y4, y5, y6, y7, y8, h => if y7 ≤ y8 then fX12_chance_J344 k117 y1 y3 y4 y5 y6 h else (fX12_roadOf y6 y8 h).bind (fun r36 => if r36 = y1 then ab_ask (((7 * y6) + 6) < 0 ∨ 42 ≤ (((7 * y6) + 6) : Int32).toNatClampNeg) (ab_ask (((7 * y6) + 6) < 0 ∨ 42 ≤ (((7 * y6) + 6) : Int32).toNatClampNeg) (ab_ask (((7 * y6) + 6) < 0 ∨ 42 ≤ (((7 * y6) + 6) : Int32).toNatClampNeg) ((fX12_lays (((7 * y6) + 6)) ((((h.2 80 (((7 * y6) + 6) : Int32).toNatClampNeg) * (y7 : Int32).toInt64) + (h.2 81 (((7 * y6) + 6) : Int32).toNatClampNeg))) (((h.2 81 (((7 * y6) + 6) : Int32).toNatClampNeg) * (y7 : Int32).toInt64)) h).bind (fun r44 => fX12_chance_J338 (fun y1 y3 y4 y5 y6 y7 y8 h => fX12_chance_L181 k117 n y1 y3 y4 y5 y6 y7 y8 h) y1 y3 y4 y5 y6 y7 y8 r44)))) else (fX12_isIn ((y5 : Int32).toInt64) r36 h).bind (fun r45 => if r45 = 0 then fX12_chance_J338 (fun y1 y3 y4 y5 y6 y7 y8 h => fX12_chance_L181 k117 n y1 y3 y4 y5 y6 y7 y8 h) y1 y3 y4 y5 y6 y7 y8 h else ab_ask (((7 * y6) + r36) < 0 ∨ 42 ≤ (((7 * y6) + r36) : Int32).toNatClampNeg) (ab_ask (((7 * y6) + r36) < 0 ∨ 42 ≤ (((7 * y6) + r36) : Int32).toNatClampNeg) (ab_ask (((7 * y6) + r36) < 0 ∨ 42 ≤ (((7 * y6) + r36) : Int32).toNatClampNeg) ((fX12_lays (((7 * y6) + r36)) ((((h.2 80 (((7 * y6) + r36) : Int32).toNatClampNeg) * (y7 : Int32).toInt64) - (h.2 81 (((7 * y6) + r36) : Int32).toNatClampNeg))) (((h.2 81 (((7 * y6) + r36) : Int32).toNatClampNeg) * (y7 : Int32).toInt64)) h).bind (fun r53 => fX12_chance_J338 (fun y1 y3 y4 y5 y6 y7 y8 h => fX12_chance_L181 k117 n y1 y3 y4 y5 y6 y7 y8 h) y1 y3 y4 y5 y6 y7 y8 r53))))))
def fX12_chance_J152  (k117 : Int32 → Int32 → Int32 → Int32 → Int32 → abJ → Option (Int64 × abJ)) (y1 : Int32) (y3 : Int32) (y4 : Int32) (y5 : Int32) (y6 : Int32) (t1 : Int32) (t2 : Int32) (h : abJ) : Option (Int64 × abJ) := ab_ask (t1 < 0 ∨ 6 ≤ (t1 : Int32).toNatClampNeg) (ab_ask (y6 < 0 ∨ 6 ≤ (y6 : Int32).toNatClampNeg) (if ((ab_wI h 82 (t1 : Int32).toNatClampNeg (vp_nar .boolean t2)).1 82 (y6 : Int32).toNatClampNeg) = 0 then fX12_chance_J344 k117 y1 y3 y4 y5 y6 (ab_wI h 82 (t1 : Int32).toNatClampNeg (vp_nar .boolean t2)) else ab_ask ((9 + y6) < 0 ∨ 3102 ≤ ((9 + y6) : Int32).toNatClampNeg) (fX12_chance_L181 k117 ab_N y1 y3 y4 y5 y6 (((ab_wI h 82 (t1 : Int32).toNatClampNeg (vp_nar .boolean t2)).1 65 ((9 + y6) : Int32).toNatClampNeg)) 0 (ab_wI h 82 (t1 : Int32).toNatClampNeg (vp_nar .boolean t2)))))
def fX12_chance_J151  (k117 : Int32 → Int32 → Int32 → Int32 → Int32 → abJ → Option (Int64 × abJ)) (y1 : Int32) (y3 : Int32) (y4 : Int32) (y5 : Int32) (y6 : Int32) (t1 : Int32) (h : abJ) : Option (Int64 × abJ) := fX12_chance_J152 k117 y1 y3 y4 y5 y6 t1 0 h
def fX12_chance_L117   : Nat → Int32 → Int32 → Int32 → Int32 → Int32 → abJ → Option (Int64 × abJ)
  | 0, _, _, _, _, _, _ => none
  | n + 1, y1, y3, y4, y5, y6, h => if 6 ≤ y6 then (fX12_solves h).bind (fun r21 => if y3 = 0 then ab_ask (((7 * y4) + 6) < 0 ∨ 42 ≤ (((7 * y4) + 6) : Int32).toNatClampNeg) (some ((r21.2 80 (((7 * y4) + 6) : Int32).toNatClampNeg), r21)) else ab_ask (((7 * y4) + 6) < 0 ∨ 42 ≤ (((7 * y4) + 6) : Int32).toNatClampNeg) (some ((r21.2 81 (((7 * y4) + 6) : Int32).toNatClampNeg), r21))) else (fX12_isIn ((y5 : Int32).toInt64) y6 h).bind (fun r27 => if r27 = 0 then fX12_chance_J151 (fun y1 y3 y4 y5 y6 h => fX12_chance_L117 n y1 y3 y4 y5 y6 h) y1 y3 y4 y5 y6 y6 h else if y6 = y1 then fX12_chance_J151 (fun y1 y3 y4 y5 y6 h => fX12_chance_L117 n y1 y3 y4 y5 y6 h) y1 y3 y4 y5 y6 y6 h else fX12_chance_J152 (fun y1 y3 y4 y5 y6 h => fX12_chance_L117 n y1 y3 y4 y5 y6 h) y1 y3 y4 y5 y6 y6 1 h)
def fX12_chance (x0 : Int32) (x1 : Int32) (x2 : Int32) (h : abJ) : Option (Int64 × abJ) := (fX12_isPost ((x0 : Int32).toInt64) (ab_wI h 64 0 0)).bind (fun r1 => if r1 = 0 then some ((-2), (ab_wI h 64 0 0)) else (fX12_isPost ((x1 : Int32).toInt64) (ab_wI h 64 0 0)).bind (fun r3 => if r3 = 0 then some ((-2), (ab_wI h 64 0 0)) else if x0 = x1 then some ((-2), (ab_wI h 64 0 0)) else (fX12_within ((x2 : Int32).toInt64) 0 1 (ab_wI h 64 0 0)).bind (fun r6 => if r6 = 0 then some ((-2), (ab_wI h 64 0 0)) else (fX12_comesTo (((1 : Int32) <<< (x0 &&& 31))) ((((1 : Int32) <<< (x0 &&& 31)) ||| ((1 : Int32) <<< (x1 &&& 31)))) (ab_wI h 64 0 0)).bind (fun r8 => if ((ab_wI h 64 0 0).1 65 33) = x0 then if x2 = 0 then if ((ab_wI h 64 0 0).1 65 33) = x0 then some (1, (ab_wI h 64 0 0)) else some (0, (ab_wI h 64 0 0)) else some (1, (ab_wI h 64 0 0)) else if ((ab_wI h 64 0 0).1 65 33) = x1 then if x2 = 0 then if ((ab_wI h 64 0 0).1 65 33) = x0 then some (1, (ab_wI h 64 0 0)) else some (0, (ab_wI h 64 0 0)) else some (1, (ab_wI h 64 0 0)) else (fX12_isIn ((r8 : Int32).toInt64) (((ab_wI h 64 0 0).1 65 33)) (ab_wI h 64 0 0)).bind (fun r15 => if r15 = 0 then if x2 = 0 then if ((ab_wI h 64 0 0).1 65 33) = x0 then some (1, (ab_wI h 64 0 0)) else some (0, (ab_wI h 64 0 0)) else some (1, (ab_wI h 64 0 0)) else (fX12_beginsRows (ab_wI h 64 0 0)).bind (fun r19 => fX12_chance_L117 ab_N x0 x2 (((ab_wI h 64 0 0).1 65 33)) r8 0 r19))))))
set_option maxRecDepth 20000 in
theorem sX12_chance_J344 (d : Nat) (X : abX) (k117 : Int32 → Int32 → Int32 → Int32 → Int32 → abJ → Option (Int64 × abJ)) (hk117 : ∀ (y1 : Int32) (y3 : Int32) (y4 : Int32) (y5 : Int32) (y6 : Int32) (h : abJ) (z : (Int64 × abJ)), k117 y1 y3 y4 y5 y6 h = some z → ab_Ex X (d + 104) 284 117 [(0, .ref 64), (1, .int y1), (3, .int y3), (4, .int y4), (5, .int y5), (6, .int y6)] [] ab_SH (ab_dD h) (fun r => r = (some (.long z.1), ab_SH, ab_dD z.2))) : ∀ (y1 : Int32) (y3 : Int32) (y4 : Int32) (y5 : Int32) (y6 : Int32) (h : abJ) (z : (Int64 × abJ)), fX12_chance_J344 k117 y1 y3 y4 y5 y6 h = some z → ab_Ex X (d + 104) 284 344 [(0, .ref 64), (1, .int y1), (3, .int y3), (4, .int y4), (5, .int y5), (6, .int y6)] [] ab_SH (ab_dD h) (fun r => r = (some (.long z.1), ab_SH, ab_dD z.2)) := by
  intro y1 y3 y4 y5 y6 h z hf
  unfold fX12_chance_J344 at hf
  refine ab_Ex.blk (k := 2) (pc' := 117) (lv' := [(0, .ref 64), (1, .int y1), (3, .int y3), (4, .int y4), (5, .int y5), (6, .int ((y6 + 1)))]) (st' := []) (sh' := ab_SH) (D' := ab_dD h) (fun n => rfl) ?_
  exact hk117 y1 y3 y4 y5 ((y6 + 1)) h _ hf
set_option maxRecDepth 20000 in
theorem sX12_chance_J338 (d : Nat) (X : abX) (k181 : Int32 → Int32 → Int32 → Int32 → Int32 → Int32 → Int32 → abJ → Option (Int64 × abJ)) (hk181 : ∀ (y1 : Int32) (y3 : Int32) (y4 : Int32) (y5 : Int32) (y6 : Int32) (y7 : Int32) (y8 : Int32) (h : abJ) (z : (Int64 × abJ)), k181 y1 y3 y4 y5 y6 y7 y8 h = some z → ab_Ex X (d + 104) 284 181 [(0, .ref 64), (1, .int y1), (3, .int y3), (4, .int y4), (5, .int y5), (6, .int y6), (7, .int y7), (8, .int y8)] [] ab_SH (ab_dD h) (fun r => r = (some (.long z.1), ab_SH, ab_dD z.2))) : ∀ (y1 : Int32) (y3 : Int32) (y4 : Int32) (y5 : Int32) (y6 : Int32) (y7 : Int32) (y8 : Int32) (h : abJ) (z : (Int64 × abJ)), fX12_chance_J338 k181 y1 y3 y4 y5 y6 y7 y8 h = some z → ab_Ex X (d + 104) 284 338 [(0, .ref 64), (1, .int y1), (3, .int y3), (4, .int y4), (5, .int y5), (6, .int y6), (7, .int y7), (8, .int y8)] [] ab_SH (ab_dD h) (fun r => r = (some (.long z.1), ab_SH, ab_dD z.2)) := by
  intro y1 y3 y4 y5 y6 y7 y8 h z hf
  unfold fX12_chance_J338 at hf
  refine ab_Ex.blk (k := 2) (pc' := 181) (lv' := [(0, .ref 64), (1, .int y1), (3, .int y3), (4, .int y4), (5, .int y5), (6, .int y6), (7, .int y7), (8, .int ((y8 + 1)))]) (st' := []) (sh' := ab_SH) (D' := ab_dD h) (fun n => rfl) ?_
  exact hk181 y1 y3 y4 y5 y6 y7 ((y8 + 1)) h _ hf
set_option maxRecDepth 20000 in
theorem sX12_chance_L181 (d : Nat) (X : abX) (k117 : Int32 → Int32 → Int32 → Int32 → Int32 → abJ → Option (Int64 × abJ)) (hk117 : ∀ (y1 : Int32) (y3 : Int32) (y4 : Int32) (y5 : Int32) (y6 : Int32) (h : abJ) (z : (Int64 × abJ)), k117 y1 y3 y4 y5 y6 h = some z → ab_Ex X (d + 104) 284 117 [(0, .ref 64), (1, .int y1), (3, .int y3), (4, .int y4), (5, .int y5), (6, .int y6)] [] ab_SH (ab_dD h) (fun r => r = (some (.long z.1), ab_SH, ab_dD z.2))) : ∀ (n : Nat), ∀ (y1 : Int32) (y3 : Int32) (y4 : Int32) (y5 : Int32) (y6 : Int32) (y7 : Int32) (y8 : Int32) (h : abJ) (z : (Int64 × abJ)), fX12_chance_L181 k117 n y1 y3 y4 y5 y6 y7 y8 h = some z → ab_Ex X (d + 104) 284 181 [(0, .ref 64), (1, .int y1), (3, .int y3), (4, .int y4), (5, .int y5), (6, .int y6), (7, .int y7), (8, .int y8)] [] ab_SH (ab_dD h) (fun r => r = (some (.long z.1), ab_SH, ab_dD z.2)) := by
  intro n
  induction n with
  | zero => intro y1 y3 y4 y5 y6 y7 y8 h z hf; cases hf
  | succ n ih =>
    intro y1 y3 y4 y5 y6 y7 y8 h z hf
    rw [fX12_chance_L181] at hf
    refine ab_Ex.blk (k := 2) (pc' := 185) (lv' := [(0, .ref 64), (1, .int y1), (3, .int y3), (4, .int y4), (5, .int y5), (6, .int y6), (7, .int y7), (8, .int y8)]) (st' := [.int y7, .int y8]) (sh' := ab_SH) (D' := ab_dD h) (fun n => rfl) ?_
    refine ab_Ex.ifc (c := y7 ≤ y8) (SA := (344, [(0, .ref 64), (1, .int y1), (3, .int y3), (4, .int y4), (5, .int y5), (6, .int y6), (7, .int y7), (8, .int y8)], [], ab_dD h)) (SB := (188, [(0, .ref 64), (1, .int y1), (3, .int y3), (4, .int y4), (5, .int y5), (6, .int y6), (7, .int y7), (8, .int y8)], [], ab_dD h)) (fun n => rfl) (fun c35 => ?_) (fun c35 => ?_)
    · replace hf := (if_pos c35).symm.trans hf
      exact sX12_chance_J344 d X k117 hk117 y1 y3 y4 y5 y6 h _ hf
    · replace hf := (if_neg c35).symm.trans hf
      refine ab_Ex.blk (k := 3) (pc' := 193) (lv' := [(0, .ref 64), (1, .int y1), (3, .int y3), (4, .int y4), (5, .int y5), (6, .int y6), (7, .int y7), (8, .int y8)]) (st' := [.int y8, .int y6, .ref 64]) (sh' := ab_SH) (D' := ab_dD h) (fun n => rfl) ?_
      obtain ⟨r36, hr36, hf⟩ := ab_bind_s hf
      refine ab_Ex.call (d := d + 103) (M2 := 218) (as := [.ref 64, .int y6, .int y8]) (rest := []) (fun n => rfl) rfl (Nat.not_lt.mpr (Nat.le_of_ble_eq_true rfl)) (sX12_roadOf (d + 103) X y6 y8 h _ hr36) (fun r hr => ?_)
      subst hr
      show ab_Ex X (d + 104) 284 196 [(0, .ref 64), (1, .int y1), (3, .int y3), (4, .int y4), (5, .int y5), (6, .int y6), (7, .int y7), (8, .int y8)] [.int r36] ab_SH (ab_dD h) _
      refine ab_Ex.blk (k := 3) (pc' := 201) (lv' := [(9, .int r36), (0, .ref 64), (1, .int y1), (3, .int y3), (4, .int y4), (5, .int y5), (6, .int y6), (7, .int y7), (8, .int y8)]) (st' := [.int y1, .int r36]) (sh' := ab_SH) (D' := ab_dD h) (fun n => rfl) ?_
      refine ab_Ex.ifc (c := r36 = y1) (SA := (204, [(9, .int r36), (0, .ref 64), (1, .int y1), (3, .int y3), (4, .int y4), (5, .int y5), (6, .int y6), (7, .int y7), (8, .int y8)], [], ab_dD h)) (SB := (267, [(9, .int r36), (0, .ref 64), (1, .int y1), (3, .int y3), (4, .int y4), (5, .int y5), (6, .int y6), (7, .int y7), (8, .int y8)], [], ab_dD h)) (fun n => rfl) (fun c37 => ?_) (fun c37 => ?_)
      · replace hf := (if_pos c37).symm.trans hf
        refine ab_Ex.blk (k := 13) (pc' := 225) (lv' := [(9, .int r36), (0, .ref 64), (1, .int y1), (3, .int y3), (4, .int y4), (5, .int y5), (6, .int y6), (7, .int y7), (8, .int y8)]) (st' := [.int (((7 * y6) + 6)), .ref 80, .int (((7 * y6) + 6)), .ref 64]) (sh' := ab_SH) (D' := ab_dD h) (fun n => rfl) ?_
        obtain ⟨c39, hf⟩ := ab_ask_s hf
        refine ab_Ex.grd (c := ((7 * y6) + 6) < 0 ∨ 42 ≤ (((7 * y6) + 6) : Int32).toNatClampNeg) (S := (226, [(9, .int r36), (0, .ref 64), (1, .int y1), (3, .int y3), (4, .int y4), (5, .int y5), (6, .int y6), (7, .int y7), (8, .int y8)], [.long ((h.2 80 (((7 * y6) + 6) : Int32).toNatClampNeg)), .int (((7 * y6) + 6)), .ref 64], ab_dD h)) (fun n => rfl) c39 ?_
        refine ab_Ex.blk (k := 10) (pc' := 242) (lv' := [(9, .int r36), (0, .ref 64), (1, .int y1), (3, .int y3), (4, .int y4), (5, .int y5), (6, .int y6), (7, .int y7), (8, .int y8)]) (st' := [.int (((7 * y6) + 6)), .ref 81, .long (((h.2 80 (((7 * y6) + 6) : Int32).toNatClampNeg) * (y7 : Int32).toInt64)), .int (((7 * y6) + 6)), .ref 64]) (sh' := ab_SH) (D' := ab_dD h) (fun n => rfl) ?_
        obtain ⟨c41, hf⟩ := ab_ask_s hf
        refine ab_Ex.grd (c := ((7 * y6) + 6) < 0 ∨ 42 ≤ (((7 * y6) + 6) : Int32).toNatClampNeg) (S := (243, [(9, .int r36), (0, .ref 64), (1, .int y1), (3, .int y3), (4, .int y4), (5, .int y5), (6, .int y6), (7, .int y7), (8, .int y8)], [.long ((h.2 81 (((7 * y6) + 6) : Int32).toNatClampNeg)), .long (((h.2 80 (((7 * y6) + 6) : Int32).toNatClampNeg) * (y7 : Int32).toInt64)), .int (((7 * y6) + 6)), .ref 64], ab_dD h)) (fun n => rfl) c41 ?_
        refine ab_Ex.blk (k := 8) (pc' := 256) (lv' := [(9, .int r36), (0, .ref 64), (1, .int y1), (3, .int y3), (4, .int y4), (5, .int y5), (6, .int y6), (7, .int y7), (8, .int y8)]) (st' := [.int (((7 * y6) + 6)), .ref 81, .long ((((h.2 80 (((7 * y6) + 6) : Int32).toNatClampNeg) * (y7 : Int32).toInt64) + (h.2 81 (((7 * y6) + 6) : Int32).toNatClampNeg))), .int (((7 * y6) + 6)), .ref 64]) (sh' := ab_SH) (D' := ab_dD h) (fun n => rfl) ?_
        obtain ⟨c43, hf⟩ := ab_ask_s hf
        refine ab_Ex.grd (c := ((7 * y6) + 6) < 0 ∨ 42 ≤ (((7 * y6) + 6) : Int32).toNatClampNeg) (S := (257, [(9, .int r36), (0, .ref 64), (1, .int y1), (3, .int y3), (4, .int y4), (5, .int y5), (6, .int y6), (7, .int y7), (8, .int y8)], [.long ((h.2 81 (((7 * y6) + 6) : Int32).toNatClampNeg)), .long ((((h.2 80 (((7 * y6) + 6) : Int32).toNatClampNeg) * (y7 : Int32).toInt64) + (h.2 81 (((7 * y6) + 6) : Int32).toNatClampNeg))), .int (((7 * y6) + 6)), .ref 64], ab_dD h)) (fun n => rfl) c43 ?_
        refine ab_Ex.blk (k := 3) (pc' := 261) (lv' := [(9, .int r36), (0, .ref 64), (1, .int y1), (3, .int y3), (4, .int y4), (5, .int y5), (6, .int y6), (7, .int y7), (8, .int y8)]) (st' := [.long (((h.2 81 (((7 * y6) + 6) : Int32).toNatClampNeg) * (y7 : Int32).toInt64)), .long ((((h.2 80 (((7 * y6) + 6) : Int32).toNatClampNeg) * (y7 : Int32).toInt64) + (h.2 81 (((7 * y6) + 6) : Int32).toNatClampNeg))), .int (((7 * y6) + 6)), .ref 64]) (sh' := ab_SH) (D' := ab_dD h) (fun n => rfl) ?_
        obtain ⟨r44, hr44, hf⟩ := ab_bind_s hf
        refine ab_Ex.call (d := d + 103) (M2 := 278) (as := [.ref 64, .int (((7 * y6) + 6)), .long ((((h.2 80 (((7 * y6) + 6) : Int32).toNatClampNeg) * (y7 : Int32).toInt64) + (h.2 81 (((7 * y6) + 6) : Int32).toNatClampNeg))), .long (((h.2 81 (((7 * y6) + 6) : Int32).toNatClampNeg) * (y7 : Int32).toInt64))]) (rest := []) (fun n => rfl) rfl (Nat.not_lt.mpr (Nat.le_of_ble_eq_true rfl)) (sX12_lays (d + 2) X (((7 * y6) + 6)) ((((h.2 80 (((7 * y6) + 6) : Int32).toNatClampNeg) * (y7 : Int32).toInt64) + (h.2 81 (((7 * y6) + 6) : Int32).toNatClampNeg))) (((h.2 81 (((7 * y6) + 6) : Int32).toNatClampNeg) * (y7 : Int32).toInt64)) h _ hr44) (fun r hr => ?_)
        subst hr
        show ab_Ex X (d + 104) 284 264 [(9, .int r36), (0, .ref 64), (1, .int y1), (3, .int y3), (4, .int y4), (5, .int y5), (6, .int y6), (7, .int y7), (8, .int y8)] [] ab_SH (ab_dD r44) _
        refine ab_Ex.blk (k := 1) (pc' := 338) (lv' := [(0, .ref 64), (1, .int y1), (3, .int y3), (4, .int y4), (5, .int y5), (6, .int y6), (7, .int y7), (8, .int y8)]) (st' := []) (sh' := ab_SH) (D' := ab_dD r44) (fun n => rfl) ?_
        exact sX12_chance_J338 d X (fun y1 y3 y4 y5 y6 y7 y8 h => fX12_chance_L181 k117 n y1 y3 y4 y5 y6 y7 y8 h) (fun y1 y3 y4 y5 y6 y7 y8 h z hz => ih y1 y3 y4 y5 y6 y7 y8 h z hz) y1 y3 y4 y5 y6 y7 y8 r44 _ hf
      · replace hf := (if_neg c37).symm.trans hf
        refine ab_Ex.blk (k := 3) (pc' := 272) (lv' := [(9, .int r36), (0, .ref 64), (1, .int y1), (3, .int y3), (4, .int y4), (5, .int y5), (6, .int y6), (7, .int y7), (8, .int y8)]) (st' := [.int r36, .long ((y5 : Int32).toInt64)]) (sh' := ab_SH) (D' := ab_dD h) (fun n => rfl) ?_
        obtain ⟨r45, hr45, hf⟩ := ab_bind_s hf
        refine ab_Ex.call (d := d + 103) (M2 := 188) (as := [.long ((y5 : Int32).toInt64), .int r36]) (rest := []) (fun n => rfl) rfl (Nat.not_lt.mpr (Nat.le_of_ble_eq_true rfl)) (sX12_isIn (d + 103) X ((y5 : Int32).toInt64) r36 h _ hr45) (fun r hr => ?_)
        subst hr
        show ab_Ex X (d + 104) 284 275 [(9, .int r36), (0, .ref 64), (1, .int y1), (3, .int y3), (4, .int y4), (5, .int y5), (6, .int y6), (7, .int y7), (8, .int y8)] [.int r45] ab_SH (ab_dD h) _
        refine ab_Ex.ifc (c := r45 = 0) (SA := (338, [(9, .int r36), (0, .ref 64), (1, .int y1), (3, .int y3), (4, .int y4), (5, .int y5), (6, .int y6), (7, .int y7), (8, .int y8)], [], ab_dD h)) (SB := (278, [(9, .int r36), (0, .ref 64), (1, .int y1), (3, .int y3), (4, .int y4), (5, .int y5), (6, .int y6), (7, .int y7), (8, .int y8)], [], ab_dD h)) (fun n => rfl) (fun c46 => ?_) (fun c46 => ?_)
        · replace hf := (if_pos c46).symm.trans hf
          exact sX12_chance_J338 d X (fun y1 y3 y4 y5 y6 y7 y8 h => fX12_chance_L181 k117 n y1 y3 y4 y5 y6 y7 y8 h) (fun y1 y3 y4 y5 y6 y7 y8 h z hz => ih y1 y3 y4 y5 y6 y7 y8 h z hz) y1 y3 y4 y5 y6 y7 y8 h _ hf
        · replace hf := (if_neg c46).symm.trans hf
          refine ab_Ex.blk (k := 13) (pc' := 299) (lv' := [(9, .int r36), (0, .ref 64), (1, .int y1), (3, .int y3), (4, .int y4), (5, .int y5), (6, .int y6), (7, .int y7), (8, .int y8)]) (st' := [.int (((7 * y6) + r36)), .ref 80, .int (((7 * y6) + r36)), .ref 64]) (sh' := ab_SH) (D' := ab_dD h) (fun n => rfl) ?_
          obtain ⟨c48, hf⟩ := ab_ask_s hf
          refine ab_Ex.grd (c := ((7 * y6) + r36) < 0 ∨ 42 ≤ (((7 * y6) + r36) : Int32).toNatClampNeg) (S := (300, [(9, .int r36), (0, .ref 64), (1, .int y1), (3, .int y3), (4, .int y4), (5, .int y5), (6, .int y6), (7, .int y7), (8, .int y8)], [.long ((h.2 80 (((7 * y6) + r36) : Int32).toNatClampNeg)), .int (((7 * y6) + r36)), .ref 64], ab_dD h)) (fun n => rfl) c48 ?_
          refine ab_Ex.blk (k := 10) (pc' := 316) (lv' := [(9, .int r36), (0, .ref 64), (1, .int y1), (3, .int y3), (4, .int y4), (5, .int y5), (6, .int y6), (7, .int y7), (8, .int y8)]) (st' := [.int (((7 * y6) + r36)), .ref 81, .long (((h.2 80 (((7 * y6) + r36) : Int32).toNatClampNeg) * (y7 : Int32).toInt64)), .int (((7 * y6) + r36)), .ref 64]) (sh' := ab_SH) (D' := ab_dD h) (fun n => rfl) ?_
          obtain ⟨c50, hf⟩ := ab_ask_s hf
          refine ab_Ex.grd (c := ((7 * y6) + r36) < 0 ∨ 42 ≤ (((7 * y6) + r36) : Int32).toNatClampNeg) (S := (317, [(9, .int r36), (0, .ref 64), (1, .int y1), (3, .int y3), (4, .int y4), (5, .int y5), (6, .int y6), (7, .int y7), (8, .int y8)], [.long ((h.2 81 (((7 * y6) + r36) : Int32).toNatClampNeg)), .long (((h.2 80 (((7 * y6) + r36) : Int32).toNatClampNeg) * (y7 : Int32).toInt64)), .int (((7 * y6) + r36)), .ref 64], ab_dD h)) (fun n => rfl) c50 ?_
          refine ab_Ex.blk (k := 8) (pc' := 330) (lv' := [(9, .int r36), (0, .ref 64), (1, .int y1), (3, .int y3), (4, .int y4), (5, .int y5), (6, .int y6), (7, .int y7), (8, .int y8)]) (st' := [.int (((7 * y6) + r36)), .ref 81, .long ((((h.2 80 (((7 * y6) + r36) : Int32).toNatClampNeg) * (y7 : Int32).toInt64) - (h.2 81 (((7 * y6) + r36) : Int32).toNatClampNeg))), .int (((7 * y6) + r36)), .ref 64]) (sh' := ab_SH) (D' := ab_dD h) (fun n => rfl) ?_
          obtain ⟨c52, hf⟩ := ab_ask_s hf
          refine ab_Ex.grd (c := ((7 * y6) + r36) < 0 ∨ 42 ≤ (((7 * y6) + r36) : Int32).toNatClampNeg) (S := (331, [(9, .int r36), (0, .ref 64), (1, .int y1), (3, .int y3), (4, .int y4), (5, .int y5), (6, .int y6), (7, .int y7), (8, .int y8)], [.long ((h.2 81 (((7 * y6) + r36) : Int32).toNatClampNeg)), .long ((((h.2 80 (((7 * y6) + r36) : Int32).toNatClampNeg) * (y7 : Int32).toInt64) - (h.2 81 (((7 * y6) + r36) : Int32).toNatClampNeg))), .int (((7 * y6) + r36)), .ref 64], ab_dD h)) (fun n => rfl) c52 ?_
          refine ab_Ex.blk (k := 3) (pc' := 335) (lv' := [(9, .int r36), (0, .ref 64), (1, .int y1), (3, .int y3), (4, .int y4), (5, .int y5), (6, .int y6), (7, .int y7), (8, .int y8)]) (st' := [.long (((h.2 81 (((7 * y6) + r36) : Int32).toNatClampNeg) * (y7 : Int32).toInt64)), .long ((((h.2 80 (((7 * y6) + r36) : Int32).toNatClampNeg) * (y7 : Int32).toInt64) - (h.2 81 (((7 * y6) + r36) : Int32).toNatClampNeg))), .int (((7 * y6) + r36)), .ref 64]) (sh' := ab_SH) (D' := ab_dD h) (fun n => rfl) ?_
          obtain ⟨r53, hr53, hf⟩ := ab_bind_s hf
          refine ab_Ex.call (d := d + 103) (M2 := 278) (as := [.ref 64, .int (((7 * y6) + r36)), .long ((((h.2 80 (((7 * y6) + r36) : Int32).toNatClampNeg) * (y7 : Int32).toInt64) - (h.2 81 (((7 * y6) + r36) : Int32).toNatClampNeg))), .long (((h.2 81 (((7 * y6) + r36) : Int32).toNatClampNeg) * (y7 : Int32).toInt64))]) (rest := []) (fun n => rfl) rfl (Nat.not_lt.mpr (Nat.le_of_ble_eq_true rfl)) (sX12_lays (d + 2) X (((7 * y6) + r36)) ((((h.2 80 (((7 * y6) + r36) : Int32).toNatClampNeg) * (y7 : Int32).toInt64) - (h.2 81 (((7 * y6) + r36) : Int32).toNatClampNeg))) (((h.2 81 (((7 * y6) + r36) : Int32).toNatClampNeg) * (y7 : Int32).toInt64)) h _ hr53) (fun r hr => ?_)
          subst hr
          show ab_Ex X (d + 104) 284 338 [(0, .ref 64), (1, .int y1), (3, .int y3), (4, .int y4), (5, .int y5), (6, .int y6), (7, .int y7), (8, .int y8)] [] ab_SH (ab_dD r53) _
          exact sX12_chance_J338 d X (fun y1 y3 y4 y5 y6 y7 y8 h => fX12_chance_L181 k117 n y1 y3 y4 y5 y6 y7 y8 h) (fun y1 y3 y4 y5 y6 y7 y8 h z hz => ih y1 y3 y4 y5 y6 y7 y8 h z hz) y1 y3 y4 y5 y6 y7 y8 r53 _ hf
set_option maxRecDepth 20000 in
theorem sX12_chance_J152 (d : Nat) (X : abX) (k117 : Int32 → Int32 → Int32 → Int32 → Int32 → abJ → Option (Int64 × abJ)) (hk117 : ∀ (y1 : Int32) (y3 : Int32) (y4 : Int32) (y5 : Int32) (y6 : Int32) (h : abJ) (z : (Int64 × abJ)), k117 y1 y3 y4 y5 y6 h = some z → ab_Ex X (d + 104) 284 117 [(0, .ref 64), (1, .int y1), (3, .int y3), (4, .int y4), (5, .int y5), (6, .int y6)] [] ab_SH (ab_dD h) (fun r => r = (some (.long z.1), ab_SH, ab_dD z.2))) : ∀ (y1 : Int32) (y3 : Int32) (y4 : Int32) (y5 : Int32) (y6 : Int32) (t1 : Int32) (t2 : Int32) (h : abJ) (z : (Int64 × abJ)), fX12_chance_J152 k117 y1 y3 y4 y5 y6 t1 t2 h = some z → ab_Ex X (d + 104) 284 152 [(0, .ref 64), (1, .int y1), (3, .int y3), (4, .int y4), (5, .int y5), (6, .int y6)] [.int t2, .int t1, .ref 82] ab_SH (ab_dD h) (fun r => r = (some (.long z.1), ab_SH, ab_dD z.2)) := by
  intro y1 y3 y4 y5 y6 t1 t2 h z hf
  unfold fX12_chance_J152 at hf
  obtain ⟨c29, hf⟩ := ab_ask_s hf
  refine ab_Ex.grd (c := t1 < 0 ∨ 6 ≤ (t1 : Int32).toNatClampNeg) (S := (153, [(0, .ref 64), (1, .int y1), (3, .int y3), (4, .int y4), (5, .int y5), (6, .int y6)], [], ab_dD (ab_wI h 82 (t1 : Int32).toNatClampNeg (vp_nar .boolean t2)))) (fun n => rfl) c29 ?_
  refine ab_Ex.blk (k := 3) (pc' := 159) (lv' := [(0, .ref 64), (1, .int y1), (3, .int y3), (4, .int y4), (5, .int y5), (6, .int y6)]) (st' := [.int y6, .ref 82]) (sh' := ab_SH) (D' := ab_dD (ab_wI h 82 (t1 : Int32).toNatClampNeg (vp_nar .boolean t2))) (fun n => rfl) ?_
  obtain ⟨c31, hf⟩ := ab_ask_s hf
  refine ab_Ex.grd (c := y6 < 0 ∨ 6 ≤ (y6 : Int32).toNatClampNeg) (S := (160, [(0, .ref 64), (1, .int y1), (3, .int y3), (4, .int y4), (5, .int y5), (6, .int y6)], [.int (((ab_wI h 82 (t1 : Int32).toNatClampNeg (vp_nar .boolean t2)).1 82 (y6 : Int32).toNatClampNeg))], ab_dD (ab_wI h 82 (t1 : Int32).toNatClampNeg (vp_nar .boolean t2)))) (fun n => rfl) c31 ?_
  refine ab_Ex.ifc (c := ((ab_wI h 82 (t1 : Int32).toNatClampNeg (vp_nar .boolean t2)).1 82 (y6 : Int32).toNatClampNeg) = 0) (SA := (163, [(0, .ref 64), (1, .int y1), (3, .int y3), (4, .int y4), (5, .int y5), (6, .int y6)], [], ab_dD (ab_wI h 82 (t1 : Int32).toNatClampNeg (vp_nar .boolean t2)))) (SB := (166, [(0, .ref 64), (1, .int y1), (3, .int y3), (4, .int y4), (5, .int y5), (6, .int y6)], [], ab_dD (ab_wI h 82 (t1 : Int32).toNatClampNeg (vp_nar .boolean t2)))) (fun n => rfl) (fun c32 => ?_) (fun c32 => ?_)
  · replace hf := (if_pos c32).symm.trans hf
    refine ab_Ex.blk (k := 1) (pc' := 344) (lv' := [(0, .ref 64), (1, .int y1), (3, .int y3), (4, .int y4), (5, .int y5), (6, .int y6)]) (st' := []) (sh' := ab_SH) (D' := ab_dD (ab_wI h 82 (t1 : Int32).toNatClampNeg (vp_nar .boolean t2))) (fun n => rfl) ?_
    exact sX12_chance_J344 d X k117 hk117 y1 y3 y4 y5 y6 (ab_wI h 82 (t1 : Int32).toNatClampNeg (vp_nar .boolean t2)) _ hf
  · replace hf := (if_neg c32).symm.trans hf
    refine ab_Ex.blk (k := 5) (pc' := 175) (lv' := [(0, .ref 64), (1, .int y1), (3, .int y3), (4, .int y4), (5, .int y5), (6, .int y6)]) (st' := [.int ((9 + y6)), .ref 65]) (sh' := ab_SH) (D' := ab_dD (ab_wI h 82 (t1 : Int32).toNatClampNeg (vp_nar .boolean t2))) (fun n => rfl) ?_
    obtain ⟨c34, hf⟩ := ab_ask_s hf
    refine ab_Ex.grd (c := (9 + y6) < 0 ∨ 3102 ≤ ((9 + y6) : Int32).toNatClampNeg) (S := (176, [(0, .ref 64), (1, .int y1), (3, .int y3), (4, .int y4), (5, .int y5), (6, .int y6)], [.int (((ab_wI h 82 (t1 : Int32).toNatClampNeg (vp_nar .boolean t2)).1 65 ((9 + y6) : Int32).toNatClampNeg))], ab_dD (ab_wI h 82 (t1 : Int32).toNatClampNeg (vp_nar .boolean t2)))) (fun n => rfl) c34 ?_
    refine ab_Ex.blk (k := 3) (pc' := 181) (lv' := [(0, .ref 64), (1, .int y1), (3, .int y3), (4, .int y4), (5, .int y5), (6, .int y6), (7, .int (((ab_wI h 82 (t1 : Int32).toNatClampNeg (vp_nar .boolean t2)).1 65 ((9 + y6) : Int32).toNatClampNeg))), (8, .int 0)]) (st' := []) (sh' := ab_SH) (D' := ab_dD (ab_wI h 82 (t1 : Int32).toNatClampNeg (vp_nar .boolean t2))) (fun n => rfl) ?_
    exact sX12_chance_L181 d X k117 hk117 ab_N y1 y3 y4 y5 y6 (((ab_wI h 82 (t1 : Int32).toNatClampNeg (vp_nar .boolean t2)).1 65 ((9 + y6) : Int32).toNatClampNeg)) 0 (ab_wI h 82 (t1 : Int32).toNatClampNeg (vp_nar .boolean t2)) _ hf
set_option maxRecDepth 20000 in
theorem sX12_chance_J151 (d : Nat) (X : abX) (k117 : Int32 → Int32 → Int32 → Int32 → Int32 → abJ → Option (Int64 × abJ)) (hk117 : ∀ (y1 : Int32) (y3 : Int32) (y4 : Int32) (y5 : Int32) (y6 : Int32) (h : abJ) (z : (Int64 × abJ)), k117 y1 y3 y4 y5 y6 h = some z → ab_Ex X (d + 104) 284 117 [(0, .ref 64), (1, .int y1), (3, .int y3), (4, .int y4), (5, .int y5), (6, .int y6)] [] ab_SH (ab_dD h) (fun r => r = (some (.long z.1), ab_SH, ab_dD z.2))) : ∀ (y1 : Int32) (y3 : Int32) (y4 : Int32) (y5 : Int32) (y6 : Int32) (t1 : Int32) (h : abJ) (z : (Int64 × abJ)), fX12_chance_J151 k117 y1 y3 y4 y5 y6 t1 h = some z → ab_Ex X (d + 104) 284 151 [(0, .ref 64), (1, .int y1), (3, .int y3), (4, .int y4), (5, .int y5), (6, .int y6)] [.int t1, .ref 82] ab_SH (ab_dD h) (fun r => r = (some (.long z.1), ab_SH, ab_dD z.2)) := by
  intro y1 y3 y4 y5 y6 t1 h z hf
  unfold fX12_chance_J151 at hf
  refine ab_Ex.blk (k := 1) (pc' := 152) (lv' := [(0, .ref 64), (1, .int y1), (3, .int y3), (4, .int y4), (5, .int y5), (6, .int y6)]) (st' := [.int 0, .int t1, .ref 82]) (sh' := ab_SH) (D' := ab_dD h) (fun n => rfl) ?_
  exact sX12_chance_J152 d X k117 hk117 y1 y3 y4 y5 y6 t1 0 h _ hf
set_option maxRecDepth 20000 in
theorem sX12_chance_L117 (d : Nat) (X : abX)   : ∀ (n : Nat), ∀ (y1 : Int32) (y3 : Int32) (y4 : Int32) (y5 : Int32) (y6 : Int32) (h : abJ) (z : (Int64 × abJ)), fX12_chance_L117 n y1 y3 y4 y5 y6 h = some z → ab_Ex X (d + 104) 284 117 [(0, .ref 64), (1, .int y1), (3, .int y3), (4, .int y4), (5, .int y5), (6, .int y6)] [] ab_SH (ab_dD h) (fun r => r = (some (.long z.1), ab_SH, ab_dD z.2)) := by
  intro n
  induction n with
  | zero => intro y1 y3 y4 y5 y6 h z hf; cases hf
  | succ n ih =>
    intro y1 y3 y4 y5 y6 h z hf
    rw [fX12_chance_L117] at hf
    refine ab_Ex.blk (k := 2) (pc' := 121) (lv' := [(0, .ref 64), (1, .int y1), (3, .int y3), (4, .int y4), (5, .int y5), (6, .int y6)]) (st' := [.int 6, .int y6]) (sh' := ab_SH) (D' := ab_dD h) (fun n => rfl) ?_
    refine ab_Ex.ifc (c := 6 ≤ y6) (SA := (350, [(0, .ref 64), (1, .int y1), (3, .int y3), (4, .int y4), (5, .int y5), (6, .int y6)], [], ab_dD h)) (SB := (124, [(0, .ref 64), (1, .int y1), (3, .int y3), (4, .int y4), (5, .int y5), (6, .int y6)], [], ab_dD h)) (fun n => rfl) (fun c20 => ?_) (fun c20 => ?_)
    · replace hf := (if_pos c20).symm.trans hf
      refine ab_Ex.blk (k := 1) (pc' := 351) (lv' := [(0, .ref 64), (1, .int y1), (3, .int y3), (4, .int y4), (5, .int y5), (6, .int y6)]) (st' := [.ref 64]) (sh' := ab_SH) (D' := ab_dD h) (fun n => rfl) ?_
      obtain ⟨r21, hr21, hf⟩ := ab_bind_s hf
      refine ab_Ex.call (d := d + 103) (M2 := 280) (as := [.ref 64]) (rest := []) (fun n => rfl) rfl (Nat.not_lt.mpr (Nat.le_of_ble_eq_true rfl)) (sX12_solves (d) X  h _ hr21) (fun r hr => ?_)
      subst hr
      show ab_Ex X (d + 104) 284 354 [(0, .ref 64), (1, .int y1), (3, .int y3), (4, .int y4), (5, .int y5), (6, .int y6)] [] ab_SH (ab_dD r21) _
      refine ab_Ex.blk (k := 1) (pc' := 355) (lv' := [(0, .ref 64), (1, .int y1), (3, .int y3), (4, .int y4), (5, .int y5), (6, .int y6)]) (st' := [.int y3]) (sh' := ab_SH) (D' := ab_dD r21) (fun n => rfl) ?_
      refine ab_Ex.ifc (c := y3 = 0) (SA := (358, [(0, .ref 64), (1, .int y1), (3, .int y3), (4, .int y4), (5, .int y5), (6, .int y6)], [], ab_dD r21)) (SB := (374, [(0, .ref 64), (1, .int y1), (3, .int y3), (4, .int y4), (5, .int y5), (6, .int y6)], [], ab_dD r21)) (fun n => rfl) (fun c22 => ?_) (fun c22 => ?_)
      · replace hf := (if_pos c22).symm.trans hf
        refine ab_Ex.blk (k := 7) (pc' := 370) (lv' := [(0, .ref 64), (1, .int y1), (3, .int y3), (4, .int y4), (5, .int y5), (6, .int y6)]) (st' := [.int (((7 * y4) + 6)), .ref 80]) (sh' := ab_SH) (D' := ab_dD r21) (fun n => rfl) ?_
        obtain ⟨c24, hf⟩ := ab_ask_s hf
        refine ab_Ex.grd (c := ((7 * y4) + 6) < 0 ∨ 42 ≤ (((7 * y4) + 6) : Int32).toNatClampNeg) (S := (371, [(0, .ref 64), (1, .int y1), (3, .int y3), (4, .int y4), (5, .int y5), (6, .int y6)], [.long ((r21.2 80 (((7 * y4) + 6) : Int32).toNatClampNeg))], ab_dD r21)) (fun n => rfl) c24 ?_
        refine ab_Ex.blk (k := 1) (pc' := 387) (lv' := []) (st' := [.long ((r21.2 80 (((7 * y4) + 6) : Int32).toNatClampNeg))]) (sh' := ab_SH) (D' := ab_dD r21) (fun n => rfl) ?_
        obtain rfl := Option.some.inj hf
        exact ab_Ex.ret (fun n => rfl) rfl
      · replace hf := (if_neg c22).symm.trans hf
        refine ab_Ex.blk (k := 7) (pc' := 386) (lv' := [(0, .ref 64), (1, .int y1), (3, .int y3), (4, .int y4), (5, .int y5), (6, .int y6)]) (st' := [.int (((7 * y4) + 6)), .ref 81]) (sh' := ab_SH) (D' := ab_dD r21) (fun n => rfl) ?_
        obtain ⟨c26, hf⟩ := ab_ask_s hf
        refine ab_Ex.grd (c := ((7 * y4) + 6) < 0 ∨ 42 ≤ (((7 * y4) + 6) : Int32).toNatClampNeg) (S := (387, [(0, .ref 64), (1, .int y1), (3, .int y3), (4, .int y4), (5, .int y5), (6, .int y6)], [.long ((r21.2 81 (((7 * y4) + 6) : Int32).toNatClampNeg))], ab_dD r21)) (fun n => rfl) c26 ?_
        obtain rfl := Option.some.inj hf
        exact ab_Ex.ret (fun n => rfl) rfl
    · replace hf := (if_neg c20).symm.trans hf
      refine ab_Ex.blk (k := 6) (pc' := 135) (lv' := [(0, .ref 64), (1, .int y1), (3, .int y3), (4, .int y4), (5, .int y5), (6, .int y6)]) (st' := [.int y6, .long ((y5 : Int32).toInt64), .int y6, .ref 82]) (sh' := ab_SH) (D' := ab_dD h) (fun n => rfl) ?_
      obtain ⟨r27, hr27, hf⟩ := ab_bind_s hf
      refine ab_Ex.call (d := d + 103) (M2 := 188) (as := [.long ((y5 : Int32).toInt64), .int y6]) (rest := [.int y6, .ref 82]) (fun n => rfl) rfl (Nat.not_lt.mpr (Nat.le_of_ble_eq_true rfl)) (sX12_isIn (d + 103) X ((y5 : Int32).toInt64) y6 h _ hr27) (fun r hr => ?_)
      subst hr
      show ab_Ex X (d + 104) 284 138 [(0, .ref 64), (1, .int y1), (3, .int y3), (4, .int y4), (5, .int y5), (6, .int y6)] [.int r27, .int y6, .ref 82] ab_SH (ab_dD h) _
      refine ab_Ex.ifc (c := r27 = 0) (SA := (151, [(0, .ref 64), (1, .int y1), (3, .int y3), (4, .int y4), (5, .int y5), (6, .int y6)], [.int y6, .ref 82], ab_dD h)) (SB := (141, [(0, .ref 64), (1, .int y1), (3, .int y3), (4, .int y4), (5, .int y5), (6, .int y6)], [.int y6, .ref 82], ab_dD h)) (fun n => rfl) (fun c28 => ?_) (fun c28 => ?_)
      · replace hf := (if_pos c28).symm.trans hf
        exact sX12_chance_J151 d X (fun y1 y3 y4 y5 y6 h => fX12_chance_L117 n y1 y3 y4 y5 y6 h) (fun y1 y3 y4 y5 y6 h z hz => ih y1 y3 y4 y5 y6 h z hz) y1 y3 y4 y5 y6 y6 h _ hf
      · replace hf := (if_neg c28).symm.trans hf
        refine ab_Ex.blk (k := 2) (pc' := 144) (lv' := [(0, .ref 64), (1, .int y1), (3, .int y3), (4, .int y4), (5, .int y5), (6, .int y6)]) (st' := [.int y1, .int y6, .int y6, .ref 82]) (sh' := ab_SH) (D' := ab_dD h) (fun n => rfl) ?_
        refine ab_Ex.ifc (c := y6 = y1) (SA := (151, [(0, .ref 64), (1, .int y1), (3, .int y3), (4, .int y4), (5, .int y5), (6, .int y6)], [.int y6, .ref 82], ab_dD h)) (SB := (147, [(0, .ref 64), (1, .int y1), (3, .int y3), (4, .int y4), (5, .int y5), (6, .int y6)], [.int y6, .ref 82], ab_dD h)) (fun n => rfl) (fun c54 => ?_) (fun c54 => ?_)
        · replace hf := (if_pos c54).symm.trans hf
          exact sX12_chance_J151 d X (fun y1 y3 y4 y5 y6 h => fX12_chance_L117 n y1 y3 y4 y5 y6 h) (fun y1 y3 y4 y5 y6 h z hz => ih y1 y3 y4 y5 y6 h z hz) y1 y3 y4 y5 y6 y6 h _ hf
        · replace hf := (if_neg c54).symm.trans hf
          refine ab_Ex.blk (k := 2) (pc' := 152) (lv' := [(0, .ref 64), (1, .int y1), (3, .int y3), (4, .int y4), (5, .int y5), (6, .int y6)]) (st' := [.int 1, .int y6, .ref 82]) (sh' := ab_SH) (D' := ab_dD h) (fun n => rfl) ?_
          exact sX12_chance_J152 d X (fun y1 y3 y4 y5 y6 h => fX12_chance_L117 n y1 y3 y4 y5 y6 h) (fun y1 y3 y4 y5 y6 h z hz => ih y1 y3 y4 y5 y6 h z hz) y1 y3 y4 y5 y6 y6 1 h _ hf
set_option maxRecDepth 20000 in
theorem sX12_chance (d : Nat) (X : abX) (x0 : Int32) (x1 : Int32) (x2 : Int32) (h : abJ) (z : (Int64 × abJ)) (hf : fX12_chance x0 x1 x2 h = some z) : ab_Ex X (d + 104) 284 0 [(0, .ref 64), (1, .int x0), (2, .int x1), (3, .int x2)] [] ab_SH (ab_dD h) (fun r => r = (some (.long z.1), ab_SH, ab_dD z.2)) := by
  unfold fX12_chance at hf
  refine ab_Ex.blk (k := 6) (pc' := 8) (lv' := [(0, .ref 64), (1, .int x0), (2, .int x1), (3, .int x2)]) (st' := [.long ((x0 : Int32).toInt64), .ref 64]) (sh' := ab_SH) (D' := ab_dD (ab_wI h 64 0 0)) (fun n => rfl) ?_
  obtain ⟨r1, hr1, hf⟩ := ab_bind_s hf
  refine ab_Ex.call (d := d + 103) (M2 := 209) (as := [.ref 64, .long ((x0 : Int32).toInt64)]) (rest := []) (fun n => rfl) rfl (Nat.not_lt.mpr (Nat.le_of_ble_eq_true rfl)) (sX12_isPost (d + 102) X ((x0 : Int32).toInt64) (ab_wI h 64 0 0) _ hr1) (fun r hr => ?_)
  subst hr
  show ab_Ex X (d + 104) 284 11 [(0, .ref 64), (1, .int x0), (2, .int x1), (3, .int x2)] [.int r1] ab_SH (ab_dD (ab_wI h 64 0 0)) _
  refine ab_Ex.ifc (c := r1 = 0) (SA := (38, [(0, .ref 64), (1, .int x0), (2, .int x1), (3, .int x2)], [], ab_dD (ab_wI h 64 0 0))) (SB := (14, [(0, .ref 64), (1, .int x0), (2, .int x1), (3, .int x2)], [], ab_dD (ab_wI h 64 0 0))) (fun n => rfl) (fun c2 => ?_) (fun c2 => ?_)
  · replace hf := (if_pos c2).symm.trans hf
    refine ab_Ex.blk (k := 1) (pc' := 41) (lv' := []) (st' := [.long ((-2))]) (sh' := ab_SH) (D' := ab_dD (ab_wI h 64 0 0)) (fun n => rfl) ?_
    obtain rfl := Option.some.inj hf
    exact ab_Ex.ret (fun n => rfl) rfl
  · replace hf := (if_neg c2).symm.trans hf
    refine ab_Ex.blk (k := 3) (pc' := 17) (lv' := [(0, .ref 64), (1, .int x0), (2, .int x1), (3, .int x2)]) (st' := [.long ((x1 : Int32).toInt64), .ref 64]) (sh' := ab_SH) (D' := ab_dD (ab_wI h 64 0 0)) (fun n => rfl) ?_
    obtain ⟨r3, hr3, hf⟩ := ab_bind_s hf
    refine ab_Ex.call (d := d + 103) (M2 := 209) (as := [.ref 64, .long ((x1 : Int32).toInt64)]) (rest := []) (fun n => rfl) rfl (Nat.not_lt.mpr (Nat.le_of_ble_eq_true rfl)) (sX12_isPost (d + 102) X ((x1 : Int32).toInt64) (ab_wI h 64 0 0) _ hr3) (fun r hr => ?_)
    subst hr
    show ab_Ex X (d + 104) 284 20 [(0, .ref 64), (1, .int x0), (2, .int x1), (3, .int x2)] [.int r3] ab_SH (ab_dD (ab_wI h 64 0 0)) _
    refine ab_Ex.ifc (c := r3 = 0) (SA := (38, [(0, .ref 64), (1, .int x0), (2, .int x1), (3, .int x2)], [], ab_dD (ab_wI h 64 0 0))) (SB := (23, [(0, .ref 64), (1, .int x0), (2, .int x1), (3, .int x2)], [], ab_dD (ab_wI h 64 0 0))) (fun n => rfl) (fun c4 => ?_) (fun c4 => ?_)
    · replace hf := (if_pos c4).symm.trans hf
      refine ab_Ex.blk (k := 1) (pc' := 41) (lv' := []) (st' := [.long ((-2))]) (sh' := ab_SH) (D' := ab_dD (ab_wI h 64 0 0)) (fun n => rfl) ?_
      obtain rfl := Option.some.inj hf
      exact ab_Ex.ret (fun n => rfl) rfl
    · replace hf := (if_neg c4).symm.trans hf
      refine ab_Ex.blk (k := 2) (pc' := 25) (lv' := [(0, .ref 64), (1, .int x0), (2, .int x1), (3, .int x2)]) (st' := [.int x1, .int x0]) (sh' := ab_SH) (D' := ab_dD (ab_wI h 64 0 0)) (fun n => rfl) ?_
      refine ab_Ex.ifc (c := x0 = x1) (SA := (38, [(0, .ref 64), (1, .int x0), (2, .int x1), (3, .int x2)], [], ab_dD (ab_wI h 64 0 0))) (SB := (28, [(0, .ref 64), (1, .int x0), (2, .int x1), (3, .int x2)], [], ab_dD (ab_wI h 64 0 0))) (fun n => rfl) (fun c5 => ?_) (fun c5 => ?_)
      · replace hf := (if_pos c5).symm.trans hf
        refine ab_Ex.blk (k := 1) (pc' := 41) (lv' := []) (st' := [.long ((-2))]) (sh' := ab_SH) (D' := ab_dD (ab_wI h 64 0 0)) (fun n => rfl) ?_
        obtain rfl := Option.some.inj hf
        exact ab_Ex.ret (fun n => rfl) rfl
      · replace hf := (if_neg c5).symm.trans hf
        refine ab_Ex.blk (k := 4) (pc' := 32) (lv' := [(0, .ref 64), (1, .int x0), (2, .int x1), (3, .int x2)]) (st' := [.long 1, .long 0, .long ((x2 : Int32).toInt64)]) (sh' := ab_SH) (D' := ab_dD (ab_wI h 64 0 0)) (fun n => rfl) ?_
        obtain ⟨r6, hr6, hf⟩ := ab_bind_s hf
        refine ab_Ex.call (d := d + 103) (M2 := 175) (as := [.long ((x2 : Int32).toInt64), .long 0, .long 1]) (rest := []) (fun n => rfl) rfl (Nat.not_lt.mpr (Nat.le_of_ble_eq_true rfl)) (sX12_within (d + 103) X ((x2 : Int32).toInt64) 0 1 (ab_wI h 64 0 0) _ hr6) (fun r hr => ?_)
        subst hr
        show ab_Ex X (d + 104) 284 35 [(0, .ref 64), (1, .int x0), (2, .int x1), (3, .int x2)] [.int r6] ab_SH (ab_dD (ab_wI h 64 0 0)) _
        refine ab_Ex.ifc (c := r6 = 0) (SA := (38, [(0, .ref 64), (1, .int x0), (2, .int x1), (3, .int x2)], [], ab_dD (ab_wI h 64 0 0))) (SB := (42, [(0, .ref 64), (1, .int x0), (2, .int x1), (3, .int x2)], [], ab_dD (ab_wI h 64 0 0))) (fun n => rfl) (fun c7 => ?_) (fun c7 => ?_)
        · replace hf := (if_pos c7).symm.trans hf
          refine ab_Ex.blk (k := 1) (pc' := 41) (lv' := []) (st' := [.long ((-2))]) (sh' := ab_SH) (D' := ab_dD (ab_wI h 64 0 0)) (fun n => rfl) ?_
          obtain rfl := Option.some.inj hf
          exact ab_Ex.ret (fun n => rfl) rfl
        · replace hf := (if_neg c7).symm.trans hf
          refine ab_Ex.blk (k := 3) (pc' := 48) (lv' := [(0, .ref 64), (1, .int x0), (2, .int x1), (3, .int x2)]) (st' := [.int 33, .ref 65]) (sh' := ab_SH) (D' := ab_dD (ab_wI h 64 0 0)) (fun n => rfl) ?_
          refine ab_Ex.blk (k := 1) (pc' := 49) (lv' := [(0, .ref 64), (1, .int x0), (2, .int x1), (3, .int x2)]) (st' := [.int (((ab_wI h 64 0 0).1 65 33))]) (sh' := ab_SH) (D' := ab_dD (ab_wI h 64 0 0)) (fun n => rfl) ?_
          refine ab_Ex.blk (k := 12) (pc' := 62) (lv' := [(4, .int (((ab_wI h 64 0 0).1 65 33))), (0, .ref 64), (1, .int x0), (2, .int x1), (3, .int x2)]) (st' := [.int ((((1 : Int32) <<< (x0 &&& 31)) ||| ((1 : Int32) <<< (x1 &&& 31)))), .int (((1 : Int32) <<< (x0 &&& 31))), .ref 64]) (sh' := ab_SH) (D' := ab_dD (ab_wI h 64 0 0)) (fun n => rfl) ?_
          obtain ⟨r8, hr8, hf⟩ := ab_bind_s hf
          refine ab_Ex.call (d := d + 103) (M2 := 282) (as := [.ref 64, .int (((1 : Int32) <<< (x0 &&& 31))), .int ((((1 : Int32) <<< (x0 &&& 31)) ||| ((1 : Int32) <<< (x1 &&& 31))))]) (rest := []) (fun n => rfl) rfl (Nat.not_lt.mpr (Nat.le_of_ble_eq_true rfl)) (sX12_comesTo (d + 101) X (((1 : Int32) <<< (x0 &&& 31))) ((((1 : Int32) <<< (x0 &&& 31)) ||| ((1 : Int32) <<< (x1 &&& 31)))) (ab_wI h 64 0 0) _ hr8) (fun r hr => ?_)
          subst hr
          show ab_Ex X (d + 104) 284 65 [(4, .int (((ab_wI h 64 0 0).1 65 33))), (0, .ref 64), (1, .int x0), (2, .int x1), (3, .int x2)] [.int r8] ab_SH (ab_dD (ab_wI h 64 0 0)) _
          refine ab_Ex.blk (k := 3) (pc' := 70) (lv' := [(5, .int r8), (4, .int (((ab_wI h 64 0 0).1 65 33))), (0, .ref 64), (1, .int x0), (2, .int x1), (3, .int x2)]) (st' := [.int x0, .int (((ab_wI h 64 0 0).1 65 33))]) (sh' := ab_SH) (D' := ab_dD (ab_wI h 64 0 0)) (fun n => rfl) ?_
          refine ab_Ex.ifc (c := ((ab_wI h 64 0 0).1 65 33) = x0) (SA := (90, [(5, .int r8), (4, .int (((ab_wI h 64 0 0).1 65 33))), (0, .ref 64), (1, .int x0), (2, .int x1), (3, .int x2)], [], ab_dD (ab_wI h 64 0 0))) (SB := (73, [(5, .int r8), (4, .int (((ab_wI h 64 0 0).1 65 33))), (0, .ref 64), (1, .int x0), (2, .int x1), (3, .int x2)], [], ab_dD (ab_wI h 64 0 0))) (fun n => rfl) (fun c9 => ?_) (fun c9 => ?_)
          · replace hf := (if_pos c9).symm.trans hf
            refine ab_Ex.blk (k := 1) (pc' := 91) (lv' := [(1, .int x0), (3, .int x2), (4, .int (((ab_wI h 64 0 0).1 65 33)))]) (st' := [.int x2]) (sh' := ab_SH) (D' := ab_dD (ab_wI h 64 0 0)) (fun n => rfl) ?_
            refine ab_Ex.ifc (c := x2 = 0) (SA := (94, [(1, .int x0), (3, .int x2), (4, .int (((ab_wI h 64 0 0).1 65 33)))], [], ab_dD (ab_wI h 64 0 0))) (SB := (108, [(1, .int x0), (3, .int x2), (4, .int (((ab_wI h 64 0 0).1 65 33)))], [], ab_dD (ab_wI h 64 0 0))) (fun n => rfl) (fun c10 => ?_) (fun c10 => ?_)
            · replace hf := (if_pos c10).symm.trans hf
              refine ab_Ex.blk (k := 2) (pc' := 97) (lv' := [(1, .int x0), (3, .int x2), (4, .int (((ab_wI h 64 0 0).1 65 33)))]) (st' := [.int x0, .int (((ab_wI h 64 0 0).1 65 33))]) (sh' := ab_SH) (D' := ab_dD (ab_wI h 64 0 0)) (fun n => rfl) ?_
              refine ab_Ex.ifc (c := ((ab_wI h 64 0 0).1 65 33) = x0) (SA := (100, [(1, .int x0), (3, .int x2), (4, .int (((ab_wI h 64 0 0).1 65 33)))], [], ab_dD (ab_wI h 64 0 0))) (SB := (104, [(1, .int x0), (3, .int x2), (4, .int (((ab_wI h 64 0 0).1 65 33)))], [], ab_dD (ab_wI h 64 0 0))) (fun n => rfl) (fun c11 => ?_) (fun c11 => ?_)
              · replace hf := (if_pos c11).symm.trans hf
                refine ab_Ex.blk (k := 2) (pc' := 109) (lv' := []) (st' := [.long 1]) (sh' := ab_SH) (D' := ab_dD (ab_wI h 64 0 0)) (fun n => rfl) ?_
                obtain rfl := Option.some.inj hf
                exact ab_Ex.ret (fun n => rfl) rfl
              · replace hf := (if_neg c11).symm.trans hf
                refine ab_Ex.blk (k := 2) (pc' := 109) (lv' := []) (st' := [.long 0]) (sh' := ab_SH) (D' := ab_dD (ab_wI h 64 0 0)) (fun n => rfl) ?_
                obtain rfl := Option.some.inj hf
                exact ab_Ex.ret (fun n => rfl) rfl
            · replace hf := (if_neg c10).symm.trans hf
              refine ab_Ex.blk (k := 1) (pc' := 109) (lv' := []) (st' := [.long 1]) (sh' := ab_SH) (D' := ab_dD (ab_wI h 64 0 0)) (fun n => rfl) ?_
              obtain rfl := Option.some.inj hf
              exact ab_Ex.ret (fun n => rfl) rfl
          · replace hf := (if_neg c9).symm.trans hf
            refine ab_Ex.blk (k := 2) (pc' := 76) (lv' := [(5, .int r8), (4, .int (((ab_wI h 64 0 0).1 65 33))), (0, .ref 64), (1, .int x0), (2, .int x1), (3, .int x2)]) (st' := [.int x1, .int (((ab_wI h 64 0 0).1 65 33))]) (sh' := ab_SH) (D' := ab_dD (ab_wI h 64 0 0)) (fun n => rfl) ?_
            refine ab_Ex.ifc (c := ((ab_wI h 64 0 0).1 65 33) = x1) (SA := (90, [(5, .int r8), (4, .int (((ab_wI h 64 0 0).1 65 33))), (0, .ref 64), (1, .int x0), (2, .int x1), (3, .int x2)], [], ab_dD (ab_wI h 64 0 0))) (SB := (79, [(5, .int r8), (4, .int (((ab_wI h 64 0 0).1 65 33))), (0, .ref 64), (1, .int x0), (2, .int x1), (3, .int x2)], [], ab_dD (ab_wI h 64 0 0))) (fun n => rfl) (fun c12 => ?_) (fun c12 => ?_)
            · replace hf := (if_pos c12).symm.trans hf
              refine ab_Ex.blk (k := 1) (pc' := 91) (lv' := [(1, .int x0), (3, .int x2), (4, .int (((ab_wI h 64 0 0).1 65 33)))]) (st' := [.int x2]) (sh' := ab_SH) (D' := ab_dD (ab_wI h 64 0 0)) (fun n => rfl) ?_
              refine ab_Ex.ifc (c := x2 = 0) (SA := (94, [(1, .int x0), (3, .int x2), (4, .int (((ab_wI h 64 0 0).1 65 33)))], [], ab_dD (ab_wI h 64 0 0))) (SB := (108, [(1, .int x0), (3, .int x2), (4, .int (((ab_wI h 64 0 0).1 65 33)))], [], ab_dD (ab_wI h 64 0 0))) (fun n => rfl) (fun c13 => ?_) (fun c13 => ?_)
              · replace hf := (if_pos c13).symm.trans hf
                refine ab_Ex.blk (k := 2) (pc' := 97) (lv' := [(1, .int x0), (3, .int x2), (4, .int (((ab_wI h 64 0 0).1 65 33)))]) (st' := [.int x0, .int (((ab_wI h 64 0 0).1 65 33))]) (sh' := ab_SH) (D' := ab_dD (ab_wI h 64 0 0)) (fun n => rfl) ?_
                refine ab_Ex.ifc (c := ((ab_wI h 64 0 0).1 65 33) = x0) (SA := (100, [(1, .int x0), (3, .int x2), (4, .int (((ab_wI h 64 0 0).1 65 33)))], [], ab_dD (ab_wI h 64 0 0))) (SB := (104, [(1, .int x0), (3, .int x2), (4, .int (((ab_wI h 64 0 0).1 65 33)))], [], ab_dD (ab_wI h 64 0 0))) (fun n => rfl) (fun c14 => ?_) (fun c14 => ?_)
                · replace hf := (if_pos c14).symm.trans hf
                  refine ab_Ex.blk (k := 2) (pc' := 109) (lv' := []) (st' := [.long 1]) (sh' := ab_SH) (D' := ab_dD (ab_wI h 64 0 0)) (fun n => rfl) ?_
                  obtain rfl := Option.some.inj hf
                  exact ab_Ex.ret (fun n => rfl) rfl
                · replace hf := (if_neg c14).symm.trans hf
                  refine ab_Ex.blk (k := 2) (pc' := 109) (lv' := []) (st' := [.long 0]) (sh' := ab_SH) (D' := ab_dD (ab_wI h 64 0 0)) (fun n => rfl) ?_
                  obtain rfl := Option.some.inj hf
                  exact ab_Ex.ret (fun n => rfl) rfl
              · replace hf := (if_neg c13).symm.trans hf
                refine ab_Ex.blk (k := 1) (pc' := 109) (lv' := []) (st' := [.long 1]) (sh' := ab_SH) (D' := ab_dD (ab_wI h 64 0 0)) (fun n => rfl) ?_
                obtain rfl := Option.some.inj hf
                exact ab_Ex.ret (fun n => rfl) rfl
            · replace hf := (if_neg c12).symm.trans hf
              refine ab_Ex.blk (k := 3) (pc' := 84) (lv' := [(5, .int r8), (4, .int (((ab_wI h 64 0 0).1 65 33))), (0, .ref 64), (1, .int x0), (2, .int x1), (3, .int x2)]) (st' := [.int (((ab_wI h 64 0 0).1 65 33)), .long ((r8 : Int32).toInt64)]) (sh' := ab_SH) (D' := ab_dD (ab_wI h 64 0 0)) (fun n => rfl) ?_
              obtain ⟨r15, hr15, hf⟩ := ab_bind_s hf
              refine ab_Ex.call (d := d + 103) (M2 := 188) (as := [.long ((r8 : Int32).toInt64), .int (((ab_wI h 64 0 0).1 65 33))]) (rest := []) (fun n => rfl) rfl (Nat.not_lt.mpr (Nat.le_of_ble_eq_true rfl)) (sX12_isIn (d + 103) X ((r8 : Int32).toInt64) (((ab_wI h 64 0 0).1 65 33)) (ab_wI h 64 0 0) _ hr15) (fun r hr => ?_)
              subst hr
              show ab_Ex X (d + 104) 284 87 [(5, .int r8), (4, .int (((ab_wI h 64 0 0).1 65 33))), (0, .ref 64), (1, .int x0), (2, .int x1), (3, .int x2)] [.int r15] ab_SH (ab_dD (ab_wI h 64 0 0)) _
              refine ab_Ex.ifc (c := r15 = 0) (SA := (90, [(5, .int r8), (4, .int (((ab_wI h 64 0 0).1 65 33))), (0, .ref 64), (1, .int x0), (2, .int x1), (3, .int x2)], [], ab_dD (ab_wI h 64 0 0))) (SB := (110, [(5, .int r8), (4, .int (((ab_wI h 64 0 0).1 65 33))), (0, .ref 64), (1, .int x0), (2, .int x1), (3, .int x2)], [], ab_dD (ab_wI h 64 0 0))) (fun n => rfl) (fun c16 => ?_) (fun c16 => ?_)
              · replace hf := (if_pos c16).symm.trans hf
                refine ab_Ex.blk (k := 1) (pc' := 91) (lv' := [(1, .int x0), (3, .int x2), (4, .int (((ab_wI h 64 0 0).1 65 33)))]) (st' := [.int x2]) (sh' := ab_SH) (D' := ab_dD (ab_wI h 64 0 0)) (fun n => rfl) ?_
                refine ab_Ex.ifc (c := x2 = 0) (SA := (94, [(1, .int x0), (3, .int x2), (4, .int (((ab_wI h 64 0 0).1 65 33)))], [], ab_dD (ab_wI h 64 0 0))) (SB := (108, [(1, .int x0), (3, .int x2), (4, .int (((ab_wI h 64 0 0).1 65 33)))], [], ab_dD (ab_wI h 64 0 0))) (fun n => rfl) (fun c17 => ?_) (fun c17 => ?_)
                · replace hf := (if_pos c17).symm.trans hf
                  refine ab_Ex.blk (k := 2) (pc' := 97) (lv' := [(1, .int x0), (3, .int x2), (4, .int (((ab_wI h 64 0 0).1 65 33)))]) (st' := [.int x0, .int (((ab_wI h 64 0 0).1 65 33))]) (sh' := ab_SH) (D' := ab_dD (ab_wI h 64 0 0)) (fun n => rfl) ?_
                  refine ab_Ex.ifc (c := ((ab_wI h 64 0 0).1 65 33) = x0) (SA := (100, [(1, .int x0), (3, .int x2), (4, .int (((ab_wI h 64 0 0).1 65 33)))], [], ab_dD (ab_wI h 64 0 0))) (SB := (104, [(1, .int x0), (3, .int x2), (4, .int (((ab_wI h 64 0 0).1 65 33)))], [], ab_dD (ab_wI h 64 0 0))) (fun n => rfl) (fun c18 => ?_) (fun c18 => ?_)
                  · replace hf := (if_pos c18).symm.trans hf
                    refine ab_Ex.blk (k := 2) (pc' := 109) (lv' := []) (st' := [.long 1]) (sh' := ab_SH) (D' := ab_dD (ab_wI h 64 0 0)) (fun n => rfl) ?_
                    obtain rfl := Option.some.inj hf
                    exact ab_Ex.ret (fun n => rfl) rfl
                  · replace hf := (if_neg c18).symm.trans hf
                    refine ab_Ex.blk (k := 2) (pc' := 109) (lv' := []) (st' := [.long 0]) (sh' := ab_SH) (D' := ab_dD (ab_wI h 64 0 0)) (fun n => rfl) ?_
                    obtain rfl := Option.some.inj hf
                    exact ab_Ex.ret (fun n => rfl) rfl
                · replace hf := (if_neg c17).symm.trans hf
                  refine ab_Ex.blk (k := 1) (pc' := 109) (lv' := []) (st' := [.long 1]) (sh' := ab_SH) (D' := ab_dD (ab_wI h 64 0 0)) (fun n => rfl) ?_
                  obtain rfl := Option.some.inj hf
                  exact ab_Ex.ret (fun n => rfl) rfl
              · replace hf := (if_neg c16).symm.trans hf
                refine ab_Ex.blk (k := 1) (pc' := 111) (lv' := [(5, .int r8), (4, .int (((ab_wI h 64 0 0).1 65 33))), (0, .ref 64), (1, .int x0), (2, .int x1), (3, .int x2)]) (st' := [.ref 64]) (sh' := ab_SH) (D' := ab_dD (ab_wI h 64 0 0)) (fun n => rfl) ?_
                obtain ⟨r19, hr19, hf⟩ := ab_bind_s hf
                refine ab_Ex.call (d := d + 103) (M2 := 283) (as := [.ref 64]) (rest := []) (fun n => rfl) rfl (Nat.not_lt.mpr (Nat.le_of_ble_eq_true rfl)) (sX12_beginsRows (d + 1) X  (ab_wI h 64 0 0) _ hr19) (fun r hr => ?_)
                subst hr
                show ab_Ex X (d + 104) 284 114 [(5, .int r8), (4, .int (((ab_wI h 64 0 0).1 65 33))), (0, .ref 64), (1, .int x0), (2, .int x1), (3, .int x2)] [] ab_SH (ab_dD r19) _
                refine ab_Ex.blk (k := 2) (pc' := 117) (lv' := [(0, .ref 64), (1, .int x0), (3, .int x2), (4, .int (((ab_wI h 64 0 0).1 65 33))), (5, .int r8), (6, .int 0)]) (st' := []) (sh' := ab_SH) (D' := ab_dD r19) (fun n => rfl) ?_
                exact sX12_chance_L117 d X  ab_N x0 x2 (((ab_wI h 64 0 0).1 65 33)) r8 0 r19 _ hf
def fX12_strays_J108  (h : abJ) (k12 : Int32 → Int32 → Option Int32) (y1 : Int32) (t0 : Int32) : Option Int32 := k12 y1 t0
def fX12_strays_J84  (h : abJ) (k35 : Int32 → Int32 → Int32 → Int32 → Option Int32) (y3 : Int32) (y4 : Int32) (y5 : Int32) (t0 : Int32) (t1 : Int32) : Option Int32 := k35 ((t0 ||| t1)) y3 y4 ((y5 + 1))
def fX12_strays_J83  (h : abJ) (k35 : Int32 → Int32 → Int32 → Int32 → Option Int32) (y3 : Int32) (y4 : Int32) (y5 : Int32) (t0 : Int32) : Option Int32 := fX12_strays_J84 h k35 y3 y4 y5 t0 0
def fX12_strays_L35  (h : abJ) (k21 : Int32 → Int32 → Int32 → Option Int32) : Nat → Int32 → Int32 → Int32 → Int32 → Option Int32
  | 0, _, _, _, _ => none
  | n + 1, y1, y3, y4, y5 => ab_ask ((9 + y4) < 0 ∨ 3102 ≤ ((9 + y4) : Int32).toNatClampNeg) (if (h.1 65 ((9 + y4) : Int32).toNatClampNeg) ≤ y5 then k21 y1 y3 ((y4 + 1)) else (fX12_isIn ((y1 : Int32).toInt64) y4 h).bind (fun r7 => if r7 = 0 then fX12_strays_J83 h (fun y1 y3 y4 y5 => fX12_strays_L35 h k21 n y1 y3 y4 y5) y3 y4 y5 y1 else (fX12_isRest y4 h).bind (fun r9 => if r9 = 0 then (fX12_roadOf y4 y5 h).bind (fun r11 => fX12_strays_J84 h (fun y1 y3 y4 y5 => fX12_strays_L35 h k21 n y1 y3 y4 y5) y3 y4 y5 y1 (((1 : Int32) <<< (r11 &&& 31)))) else fX12_strays_J83 h (fun y1 y3 y4 y5 => fX12_strays_L35 h k21 n y1 y3 y4 y5) y3 y4 y5 y1)))
def fX12_strays_L21  (h : abJ) (k12 : Int32 → Int32 → Option Int32) : Nat → Int32 → Int32 → Int32 → Option Int32
  | 0, _, _, _ => none
  | n + 1, y1, y3, y4 => if (h.1 65 1) ≤ y4 then if y1 = y3 then fX12_strays_J108 h k12 y1 0 else fX12_strays_J108 h k12 y1 1 else fX12_strays_L35 h (fun y1 y3 y4 => fX12_strays_L21 h k12 n y1 y3 y4) ab_N y1 y3 y4 0
def fX12_strays_L12  (h : abJ)  : Nat → Int32 → Int32 → Option Int32
  | 0, _, _ => none
  | n + 1, y1, y2 => if y2 = 0 then some y1 else fX12_strays_L21 h (fun y1 y2 => fX12_strays_L12 h n y1 y2) ab_N y1 y1 0
def fX12_strays  (h : abJ) : Option Int32 := fX12_strays_L12 h ab_N (((1 : Int32) <<< ((h.1 65 33) &&& 31))) 1
set_option maxRecDepth 20000 in
theorem sX12_strays_J108 (d : Nat) (X : abX) (h : abJ) (k12 : Int32 → Int32 → Option Int32) (hk12 : ∀ (y1 : Int32) (y2 : Int32) (z : Int32), k12 y1 y2 = some z → ab_Ex X (d + 2) 285 12 [(0, .ref 64), (1, .int y1), (2, .int y2)] [] ab_SH (ab_dD h) (fun r => r = (some (.int z), ab_SH, ab_dD h))) : ∀ (y1 : Int32) (t0 : Int32) (z : Int32), fX12_strays_J108 h k12 y1 t0 = some z → ab_Ex X (d + 2) 285 108 [(0, .ref 64), (1, .int y1)] [.int t0] ab_SH (ab_dD h) (fun r => r = (some (.int z), ab_SH, ab_dD h)) := by
  intro y1 t0 z hf
  unfold fX12_strays_J108 at hf
  refine ab_Ex.blk (k := 2) (pc' := 12) (lv' := [(0, .ref 64), (1, .int y1), (2, .int t0)]) (st' := []) (sh' := ab_SH) (D' := ab_dD h) (fun n => rfl) ?_
  exact hk12 y1 t0 _ hf
set_option maxRecDepth 20000 in
theorem sX12_strays_J84 (d : Nat) (X : abX) (h : abJ) (k35 : Int32 → Int32 → Int32 → Int32 → Option Int32) (hk35 : ∀ (y1 : Int32) (y3 : Int32) (y4 : Int32) (y5 : Int32) (z : Int32), k35 y1 y3 y4 y5 = some z → ab_Ex X (d + 2) 285 35 [(0, .ref 64), (1, .int y1), (3, .int y3), (4, .int y4), (5, .int y5)] [] ab_SH (ab_dD h) (fun r => r = (some (.int z), ab_SH, ab_dD h))) : ∀ (y3 : Int32) (y4 : Int32) (y5 : Int32) (t0 : Int32) (t1 : Int32) (z : Int32), fX12_strays_J84 h k35 y3 y4 y5 t0 t1 = some z → ab_Ex X (d + 2) 285 84 [(0, .ref 64), (3, .int y3), (4, .int y4), (5, .int y5)] [.int t1, .int t0] ab_SH (ab_dD h) (fun r => r = (some (.int z), ab_SH, ab_dD h)) := by
  intro y3 y4 y5 t0 t1 z hf
  unfold fX12_strays_J84 at hf
  refine ab_Ex.blk (k := 4) (pc' := 35) (lv' := [(0, .ref 64), (1, .int ((t0 ||| t1))), (3, .int y3), (4, .int y4), (5, .int ((y5 + 1)))]) (st' := []) (sh' := ab_SH) (D' := ab_dD h) (fun n => rfl) ?_
  exact hk35 ((t0 ||| t1)) y3 y4 ((y5 + 1)) _ hf
set_option maxRecDepth 20000 in
theorem sX12_strays_J83 (d : Nat) (X : abX) (h : abJ) (k35 : Int32 → Int32 → Int32 → Int32 → Option Int32) (hk35 : ∀ (y1 : Int32) (y3 : Int32) (y4 : Int32) (y5 : Int32) (z : Int32), k35 y1 y3 y4 y5 = some z → ab_Ex X (d + 2) 285 35 [(0, .ref 64), (1, .int y1), (3, .int y3), (4, .int y4), (5, .int y5)] [] ab_SH (ab_dD h) (fun r => r = (some (.int z), ab_SH, ab_dD h))) : ∀ (y3 : Int32) (y4 : Int32) (y5 : Int32) (t0 : Int32) (z : Int32), fX12_strays_J83 h k35 y3 y4 y5 t0 = some z → ab_Ex X (d + 2) 285 83 [(0, .ref 64), (3, .int y3), (4, .int y4), (5, .int y5)] [.int t0] ab_SH (ab_dD h) (fun r => r = (some (.int z), ab_SH, ab_dD h)) := by
  intro y3 y4 y5 t0 z hf
  unfold fX12_strays_J83 at hf
  refine ab_Ex.blk (k := 1) (pc' := 84) (lv' := [(0, .ref 64), (3, .int y3), (4, .int y4), (5, .int y5)]) (st' := [.int 0, .int t0]) (sh' := ab_SH) (D' := ab_dD h) (fun n => rfl) ?_
  exact sX12_strays_J84 d X h k35 hk35 y3 y4 y5 t0 0 _ hf
set_option maxRecDepth 20000 in
theorem sX12_strays_L35 (d : Nat) (X : abX) (h : abJ) (k21 : Int32 → Int32 → Int32 → Option Int32) (hk21 : ∀ (y1 : Int32) (y3 : Int32) (y4 : Int32) (z : Int32), k21 y1 y3 y4 = some z → ab_Ex X (d + 2) 285 21 [(0, .ref 64), (1, .int y1), (3, .int y3), (4, .int y4)] [] ab_SH (ab_dD h) (fun r => r = (some (.int z), ab_SH, ab_dD h))) : ∀ (n : Nat), ∀ (y1 : Int32) (y3 : Int32) (y4 : Int32) (y5 : Int32) (z : Int32), fX12_strays_L35 h k21 n y1 y3 y4 y5 = some z → ab_Ex X (d + 2) 285 35 [(0, .ref 64), (1, .int y1), (3, .int y3), (4, .int y4), (5, .int y5)] [] ab_SH (ab_dD h) (fun r => r = (some (.int z), ab_SH, ab_dD h)) := by
  intro n
  induction n with
  | zero => intro y1 y3 y4 y5 z hf; cases hf
  | succ n ih =>
    intro y1 y3 y4 y5 z hf
    rw [fX12_strays_L35] at hf
    refine ab_Ex.blk (k := 6) (pc' := 46) (lv' := [(0, .ref 64), (1, .int y1), (3, .int y3), (4, .int y4), (5, .int y5)]) (st' := [.int ((9 + y4)), .ref 65, .int y5]) (sh' := ab_SH) (D' := ab_dD h) (fun n => rfl) ?_
    obtain ⟨c5, hf⟩ := ab_ask_s hf
    refine ab_Ex.grd (c := (9 + y4) < 0 ∨ 3102 ≤ ((9 + y4) : Int32).toNatClampNeg) (S := (47, [(0, .ref 64), (1, .int y1), (3, .int y3), (4, .int y4), (5, .int y5)], [.int ((h.1 65 ((9 + y4) : Int32).toNatClampNeg)), .int y5], ab_dD h)) (fun n => rfl) c5 ?_
    refine ab_Ex.ifc (c := (h.1 65 ((9 + y4) : Int32).toNatClampNeg) ≤ y5) (SA := (92, [(0, .ref 64), (1, .int y1), (3, .int y3), (4, .int y4), (5, .int y5)], [], ab_dD h)) (SB := (50, [(0, .ref 64), (1, .int y1), (3, .int y3), (4, .int y4), (5, .int y5)], [], ab_dD h)) (fun n => rfl) (fun c6 => ?_) (fun c6 => ?_)
    · replace hf := (if_pos c6).symm.trans hf
      refine ab_Ex.blk (k := 2) (pc' := 21) (lv' := [(0, .ref 64), (1, .int y1), (3, .int y3), (4, .int ((y4 + 1)))]) (st' := []) (sh' := ab_SH) (D' := ab_dD h) (fun n => rfl) ?_
      exact hk21 y1 y3 ((y4 + 1)) _ hf
    · replace hf := (if_neg c6).symm.trans hf
      refine ab_Ex.blk (k := 4) (pc' := 55) (lv' := [(0, .ref 64), (1, .int y1), (3, .int y3), (4, .int y4), (5, .int y5)]) (st' := [.int y4, .long ((y1 : Int32).toInt64), .int y1]) (sh' := ab_SH) (D' := ab_dD h) (fun n => rfl) ?_
      obtain ⟨r7, hr7, hf⟩ := ab_bind_s hf
      refine ab_Ex.call (d := d + 1) (M2 := 188) (as := [.long ((y1 : Int32).toInt64), .int y4]) (rest := [.int y1]) (fun n => rfl) rfl (Nat.not_lt.mpr (Nat.le_of_ble_eq_true rfl)) (sX12_isIn (d + 1) X ((y1 : Int32).toInt64) y4 h _ hr7) (fun r hr => ?_)
      subst hr
      show ab_Ex X (d + 2) 285 58 [(0, .ref 64), (1, .int y1), (3, .int y3), (4, .int y4), (5, .int y5)] [.int r7, .int y1] ab_SH (ab_dD h) _
      refine ab_Ex.ifc (c := r7 = 0) (SA := (83, [(0, .ref 64), (1, .int y1), (3, .int y3), (4, .int y4), (5, .int y5)], [.int y1], ab_dD h)) (SB := (61, [(0, .ref 64), (1, .int y1), (3, .int y3), (4, .int y4), (5, .int y5)], [.int y1], ab_dD h)) (fun n => rfl) (fun c8 => ?_) (fun c8 => ?_)
      · replace hf := (if_pos c8).symm.trans hf
        exact sX12_strays_J83 d X h (fun y1 y3 y4 y5 => fX12_strays_L35 h k21 n y1 y3 y4 y5) (fun y1 y3 y4 y5 z hz => ih y1 y3 y4 y5 z hz) y3 y4 y5 y1 _ hf
      · replace hf := (if_neg c8).symm.trans hf
        refine ab_Ex.blk (k := 2) (pc' := 64) (lv' := [(0, .ref 64), (1, .int y1), (3, .int y3), (4, .int y4), (5, .int y5)]) (st' := [.int y4, .ref 64, .int y1]) (sh' := ab_SH) (D' := ab_dD h) (fun n => rfl) ?_
        obtain ⟨r9, hr9, hf⟩ := ab_bind_s hf
        refine ab_Ex.call (d := d + 1) (M2 := 223) (as := [.ref 64, .int y4]) (rest := [.int y1]) (fun n => rfl) rfl (Nat.not_lt.mpr (Nat.le_of_ble_eq_true rfl)) (sX12_isRest (d) X y4 h _ hr9) (fun r hr => ?_)
        subst hr
        show ab_Ex X (d + 2) 285 67 [(0, .ref 64), (1, .int y1), (3, .int y3), (4, .int y4), (5, .int y5)] [.int r9, .int y1] ab_SH (ab_dD h) _
        refine ab_Ex.ifc (c := r9 = 0) (SA := (70, [(0, .ref 64), (1, .int y1), (3, .int y3), (4, .int y4), (5, .int y5)], [.int y1], ab_dD h)) (SB := (83, [(0, .ref 64), (1, .int y1), (3, .int y3), (4, .int y4), (5, .int y5)], [.int y1], ab_dD h)) (fun n => rfl) (fun c10 => ?_) (fun c10 => ?_)
        · replace hf := (if_pos c10).symm.trans hf
          refine ab_Ex.blk (k := 4) (pc' := 76) (lv' := [(0, .ref 64), (1, .int y1), (3, .int y3), (4, .int y4), (5, .int y5)]) (st' := [.int y5, .int y4, .ref 64, .int 1, .int y1]) (sh' := ab_SH) (D' := ab_dD h) (fun n => rfl) ?_
          obtain ⟨r11, hr11, hf⟩ := ab_bind_s hf
          refine ab_Ex.call (d := d + 1) (M2 := 218) (as := [.ref 64, .int y4, .int y5]) (rest := [.int 1, .int y1]) (fun n => rfl) rfl (Nat.not_lt.mpr (Nat.le_of_ble_eq_true rfl)) (sX12_roadOf (d + 1) X y4 y5 h _ hr11) (fun r hr => ?_)
          subst hr
          show ab_Ex X (d + 2) 285 79 [(0, .ref 64), (1, .int y1), (3, .int y3), (4, .int y4), (5, .int y5)] [.int r11, .int 1, .int y1] ab_SH (ab_dD h) _
          refine ab_Ex.blk (k := 2) (pc' := 84) (lv' := [(0, .ref 64), (3, .int y3), (4, .int y4), (5, .int y5)]) (st' := [.int (((1 : Int32) <<< (r11 &&& 31))), .int y1]) (sh' := ab_SH) (D' := ab_dD h) (fun n => rfl) ?_
          exact sX12_strays_J84 d X h (fun y1 y3 y4 y5 => fX12_strays_L35 h k21 n y1 y3 y4 y5) (fun y1 y3 y4 y5 z hz => ih y1 y3 y4 y5 z hz) y3 y4 y5 y1 (((1 : Int32) <<< (r11 &&& 31))) _ hf
        · replace hf := (if_neg c10).symm.trans hf
          exact sX12_strays_J83 d X h (fun y1 y3 y4 y5 => fX12_strays_L35 h k21 n y1 y3 y4 y5) (fun y1 y3 y4 y5 z hz => ih y1 y3 y4 y5 z hz) y3 y4 y5 y1 _ hf
set_option maxRecDepth 20000 in
theorem sX12_strays_L21 (d : Nat) (X : abX) (h : abJ) (k12 : Int32 → Int32 → Option Int32) (hk12 : ∀ (y1 : Int32) (y2 : Int32) (z : Int32), k12 y1 y2 = some z → ab_Ex X (d + 2) 285 12 [(0, .ref 64), (1, .int y1), (2, .int y2)] [] ab_SH (ab_dD h) (fun r => r = (some (.int z), ab_SH, ab_dD h))) : ∀ (n : Nat), ∀ (y1 : Int32) (y3 : Int32) (y4 : Int32) (z : Int32), fX12_strays_L21 h k12 n y1 y3 y4 = some z → ab_Ex X (d + 2) 285 21 [(0, .ref 64), (1, .int y1), (3, .int y3), (4, .int y4)] [] ab_SH (ab_dD h) (fun r => r = (some (.int z), ab_SH, ab_dD h)) := by
  intro n
  induction n with
  | zero => intro y1 y3 y4 z hf; cases hf
  | succ n ih =>
    intro y1 y3 y4 z hf
    rw [fX12_strays_L21] at hf
    refine ab_Ex.blk (k := 4) (pc' := 28) (lv' := [(0, .ref 64), (1, .int y1), (3, .int y3), (4, .int y4)]) (st' := [.int 1, .ref 65, .int y4]) (sh' := ab_SH) (D' := ab_dD h) (fun n => rfl) ?_
    refine ab_Ex.blk (k := 1) (pc' := 29) (lv' := [(0, .ref 64), (1, .int y1), (3, .int y3), (4, .int y4)]) (st' := [.int ((h.1 65 1)), .int y4]) (sh' := ab_SH) (D' := ab_dD h) (fun n => rfl) ?_
    refine ab_Ex.ifc (c := (h.1 65 1) ≤ y4) (SA := (98, [(0, .ref 64), (1, .int y1), (3, .int y3), (4, .int y4)], [], ab_dD h)) (SB := (32, [(0, .ref 64), (1, .int y1), (3, .int y3), (4, .int y4)], [], ab_dD h)) (fun n => rfl) (fun c2 => ?_) (fun c2 => ?_)
    · replace hf := (if_pos c2).symm.trans hf
      refine ab_Ex.blk (k := 2) (pc' := 100) (lv' := [(0, .ref 64), (1, .int y1), (3, .int y3), (4, .int y4)]) (st' := [.int y3, .int y1]) (sh' := ab_SH) (D' := ab_dD h) (fun n => rfl) ?_
      refine ab_Ex.ifc (c := y1 = y3) (SA := (107, [(0, .ref 64), (1, .int y1), (3, .int y3), (4, .int y4)], [], ab_dD h)) (SB := (103, [(0, .ref 64), (1, .int y1), (3, .int y3), (4, .int y4)], [], ab_dD h)) (fun n => rfl) (fun c3 => ?_) (fun c3 => ?_)
      · replace hf := (if_pos c3).symm.trans hf
        refine ab_Ex.blk (k := 1) (pc' := 108) (lv' := [(0, .ref 64), (1, .int y1)]) (st' := [.int 0]) (sh' := ab_SH) (D' := ab_dD h) (fun n => rfl) ?_
        exact sX12_strays_J108 d X h k12 hk12 y1 0 _ hf
      · replace hf := (if_neg c3).symm.trans hf
        refine ab_Ex.blk (k := 2) (pc' := 108) (lv' := [(0, .ref 64), (1, .int y1)]) (st' := [.int 1]) (sh' := ab_SH) (D' := ab_dD h) (fun n => rfl) ?_
        exact sX12_strays_J108 d X h k12 hk12 y1 1 _ hf
    · replace hf := (if_neg c2).symm.trans hf
      refine ab_Ex.blk (k := 2) (pc' := 35) (lv' := [(0, .ref 64), (1, .int y1), (3, .int y3), (4, .int y4), (5, .int 0)]) (st' := []) (sh' := ab_SH) (D' := ab_dD h) (fun n => rfl) ?_
      exact sX12_strays_L35 d X h (fun y1 y3 y4 => fX12_strays_L21 h k12 n y1 y3 y4) (fun y1 y3 y4 z hz => ih y1 y3 y4 z hz) ab_N y1 y3 y4 0 _ hf
set_option maxRecDepth 20000 in
theorem sX12_strays_L12 (d : Nat) (X : abX) (h : abJ)   : ∀ (n : Nat), ∀ (y1 : Int32) (y2 : Int32) (z : Int32), fX12_strays_L12 h n y1 y2 = some z → ab_Ex X (d + 2) 285 12 [(0, .ref 64), (1, .int y1), (2, .int y2)] [] ab_SH (ab_dD h) (fun r => r = (some (.int z), ab_SH, ab_dD h)) := by
  intro n
  induction n with
  | zero => intro y1 y2 z hf; cases hf
  | succ n ih =>
    intro y1 y2 z hf
    rw [fX12_strays_L12] at hf
    refine ab_Ex.blk (k := 1) (pc' := 13) (lv' := [(0, .ref 64), (1, .int y1), (2, .int y2)]) (st' := [.int y2]) (sh' := ab_SH) (D' := ab_dD h) (fun n => rfl) ?_
    refine ab_Ex.ifc (c := y2 = 0) (SA := (112, [(0, .ref 64), (1, .int y1), (2, .int y2)], [], ab_dD h)) (SB := (16, [(0, .ref 64), (1, .int y1), (2, .int y2)], [], ab_dD h)) (fun n => rfl) (fun c1 => ?_) (fun c1 => ?_)
    · replace hf := (if_pos c1).symm.trans hf
      refine ab_Ex.blk (k := 1) (pc' := 113) (lv' := [(0, .ref 64), (1, .int y1), (2, .int y2)]) (st' := [.int y1]) (sh' := ab_SH) (D' := ab_dD h) (fun n => rfl) ?_
      obtain rfl := Option.some.inj hf
      exact ab_Ex.ret (fun n => rfl) rfl
    · replace hf := (if_neg c1).symm.trans hf
      refine ab_Ex.blk (k := 4) (pc' := 21) (lv' := [(0, .ref 64), (1, .int y1), (3, .int y1), (4, .int 0)]) (st' := []) (sh' := ab_SH) (D' := ab_dD h) (fun n => rfl) ?_
      exact sX12_strays_L21 d X h (fun y1 y2 => fX12_strays_L12 h n y1 y2) (fun y1 y2 z hz => ih y1 y2 z hz) ab_N y1 y1 0 _ hf
set_option maxRecDepth 20000 in
theorem sX12_strays (d : Nat) (X : abX)  (h : abJ) (z : Int32) (hf : fX12_strays  h = some z) : ab_Ex X (d + 2) 285 0 [(0, .ref 64)] [] ab_SH (ab_dD h) (fun r => r = (some (.int z), ab_SH, ab_dD h)) := by
  unfold fX12_strays at hf
  refine ab_Ex.blk (k := 4) (pc' := 7) (lv' := [(0, .ref 64)]) (st' := [.int 33, .ref 65, .int 1]) (sh' := ab_SH) (D' := ab_dD h) (fun n => rfl) ?_
  refine ab_Ex.blk (k := 1) (pc' := 8) (lv' := [(0, .ref 64)]) (st' := [.int ((h.1 65 33)), .int 1]) (sh' := ab_SH) (D' := ab_dD h) (fun n => rfl) ?_
  refine ab_Ex.blk (k := 4) (pc' := 12) (lv' := [(0, .ref 64), (1, .int (((1 : Int32) <<< ((h.1 65 33) &&& 31)))), (2, .int 1)]) (st' := []) (sh' := ab_SH) (D' := ab_dD h) (fun n => rfl) ?_
  exact sX12_strays_L12 d X h ab_N (((1 : Int32) <<< ((h.1 65 33) &&& 31))) 1 _ hf
def fX12_mean_J275  (k103 : Int32 → Int32 → Int32 → abJ → Option (Int64 × abJ)) (y1 : Int32) (y3 : Int32) (y4 : Int32) (h : abJ) : Option (Int64 × abJ) := k103 y1 y3 ((y4 + 1)) h
def fX12_mean_J269  (k183 : Int32 → Int32 → Int32 → Int32 → Int32 → abJ → Option (Int64 × abJ)) (y1 : Int32) (y3 : Int32) (y4 : Int32) (y5 : Int32) (y6 : Int32) (h : abJ) : Option (Int64 × abJ) := k183 y1 y3 y4 y5 ((y6 + 1)) h
def fX12_mean_L183  (k103 : Int32 → Int32 → Int32 → abJ → Option (Int64 × abJ)) : Nat → Int32 → Int32 → Int32 → Int32 → Int32 → abJ → Option (Int64 × abJ)
  | 0, _, _, _, _, _, _ => none
  | n + 1, y1, y3, y4, y5, y6, h => if y5 ≤ y6 then fX12_mean_J275 k103 y1 y3 y4 h else (fX12_roadOf y4 y6 h).bind (fun r27 => (fX12_isRest r27 h).bind (fun r28 => if r28 = 0 then ab_ask (((7 * y4) + r27) < 0 ∨ 42 ≤ (((7 * y4) + r27) : Int32).toNatClampNeg) (ab_ask (((7 * y4) + r27) < 0 ∨ 42 ≤ (((7 * y4) + r27) : Int32).toNatClampNeg) (ab_ask (((7 * y4) + r27) < 0 ∨ 42 ≤ (((7 * y4) + r27) : Int32).toNatClampNeg) ((fX12_lays (((7 * y4) + r27)) ((((h.2 80 (((7 * y4) + r27) : Int32).toNatClampNeg) * (y5 : Int32).toInt64) - (h.2 81 (((7 * y4) + r27) : Int32).toNatClampNeg))) (((h.2 81 (((7 * y4) + r27) : Int32).toNatClampNeg) * (y5 : Int32).toInt64)) h).bind (fun r36 => fX12_mean_J269 (fun y1 y3 y4 y5 y6 h => fX12_mean_L183 k103 n y1 y3 y4 y5 y6 h) y1 y3 y4 y5 y6 r36)))) else fX12_mean_J269 (fun y1 y3 y4 y5 y6 h => fX12_mean_L183 k103 n y1 y3 y4 y5 y6 h) y1 y3 y4 y5 y6 h))
def fX12_mean_J140  (k103 : Int32 → Int32 → Int32 → abJ → Option (Int64 × abJ)) (y1 : Int32) (y3 : Int32) (y4 : Int32) (t1 : Int32) (t2 : Int32) (h : abJ) : Option (Int64 × abJ) := ab_ask (t1 < 0 ∨ 6 ≤ (t1 : Int32).toNatClampNeg) (ab_ask (y4 < 0 ∨ 6 ≤ (y4 : Int32).toNatClampNeg) (if ((ab_wI h 82 (t1 : Int32).toNatClampNeg (vp_nar .boolean t2)).1 82 (y4 : Int32).toNatClampNeg) = 0 then fX12_mean_J275 k103 y1 y3 y4 (ab_wI h 82 (t1 : Int32).toNatClampNeg (vp_nar .boolean t2)) else ab_ask ((9 + y4) < 0 ∨ 3102 ≤ ((9 + y4) : Int32).toNatClampNeg) ((fX12_lays (((7 * y4) + 6)) 1 1 (ab_wI h 82 (t1 : Int32).toNatClampNeg (vp_nar .boolean t2))).bind (fun r25 => fX12_mean_L183 k103 ab_N y1 y3 y4 (((ab_wI h 82 (t1 : Int32).toNatClampNeg (vp_nar .boolean t2)).1 65 ((9 + y4) : Int32).toNatClampNeg)) 0 r25))))
def fX12_mean_J139  (k103 : Int32 → Int32 → Int32 → abJ → Option (Int64 × abJ)) (y1 : Int32) (y3 : Int32) (y4 : Int32) (t1 : Int32) (h : abJ) : Option (Int64 × abJ) := fX12_mean_J140 k103 y1 y3 y4 t1 0 h
def fX12_mean_L103   : Nat → Int32 → Int32 → Int32 → abJ → Option (Int64 × abJ)
  | 0, _, _, _, _ => none
  | n + 1, y1, y3, y4, h => if 6 ≤ y4 then (fX12_solves h).bind (fun r11 => if y1 = 0 then ab_ask (((7 * (r11.1 65 33)) + 6) < 0 ∨ 42 ≤ (((7 * (r11.1 65 33)) + 6) : Int32).toNatClampNeg) (some ((r11.2 80 (((7 * (r11.1 65 33)) + 6) : Int32).toNatClampNeg), r11)) else ab_ask (((7 * (r11.1 65 33)) + 6) < 0 ∨ 42 ≤ (((7 * (r11.1 65 33)) + 6) : Int32).toNatClampNeg) (some ((r11.2 81 (((7 * (r11.1 65 33)) + 6) : Int32).toNatClampNeg), r11))) else (fX12_isIn ((y3 : Int32).toInt64) y4 h).bind (fun r17 => if r17 = 0 then fX12_mean_J139 (fun y1 y3 y4 h => fX12_mean_L103 n y1 y3 y4 h) y1 y3 y4 y4 h else (fX12_isRest y4 h).bind (fun r37 => if r37 = 0 then fX12_mean_J140 (fun y1 y3 y4 h => fX12_mean_L103 n y1 y3 y4 h) y1 y3 y4 y4 1 h else fX12_mean_J139 (fun y1 y3 y4 h => fX12_mean_L103 n y1 y3 y4 h) y1 y3 y4 y4 h))
def fX12_mean_J49  (k23 : Int32 → Int32 → Int32 → abJ → Option (Int64 × abJ)) (y1 : Int32) (y3 : Int32) (t0 : Int32) (t1 : Int32) (h : abJ) : Option (Int64 × abJ) := k23 y1 ((t0 ||| t1)) ((y3 + 1)) h
def fX12_mean_L23   : Nat → Int32 → Int32 → Int32 → abJ → Option (Int64 × abJ)
  | 0, _, _, _, _ => none
  | n + 1, y1, y2, y3, h => if (h.1 65 1) ≤ y3 then (fX12_strays h).bind (fun r4 => (fX12_comesTo y2 y2 h).bind (fun r5 => if (r4 &&& (r5 ^^^ (-1))) = 0 then (fX12_isRest ((h.1 65 33)) h).bind (fun r7 => if r7 = 0 then (fX12_beginsRows h).bind (fun r9 => fX12_mean_L103 ab_N y1 r4 0 r9) else some ((y1 : Int32).toInt64, h)) else some ((-1), h))) else (fX12_isRest y3 h).bind (fun r39 => if r39 = 0 then fX12_mean_J49 (fun y1 y2 y3 h => fX12_mean_L23 n y1 y2 y3 h) y1 y3 y2 0 h else fX12_mean_J49 (fun y1 y2 y3 h => fX12_mean_L23 n y1 y2 y3 h) y1 y3 y2 (((1 : Int32) <<< (y3 &&& 31))) h)
def fX12_mean (x0 : Int32) (h : abJ) : Option (Int64 × abJ) := (fX12_within ((x0 : Int32).toInt64) 0 1 (ab_wI h 64 0 0)).bind (fun r1 => if r1 = 0 then some ((-2), (ab_wI h 64 0 0)) else fX12_mean_L23 ab_N x0 0 0 (ab_wI h 64 0 0))
set_option maxRecDepth 20000 in
theorem sX12_mean_J275 (d : Nat) (X : abX) (k103 : Int32 → Int32 → Int32 → abJ → Option (Int64 × abJ)) (hk103 : ∀ (y1 : Int32) (y3 : Int32) (y4 : Int32) (h : abJ) (z : (Int64 × abJ)), k103 y1 y3 y4 h = some z → ab_Ex X (d + 104) 286 103 [(0, .ref 64), (1, .int y1), (3, .int y3), (4, .int y4)] [] ab_SH (ab_dD h) (fun r => r = (some (.long z.1), ab_SH, ab_dD z.2))) : ∀ (y1 : Int32) (y3 : Int32) (y4 : Int32) (h : abJ) (z : (Int64 × abJ)), fX12_mean_J275 k103 y1 y3 y4 h = some z → ab_Ex X (d + 104) 286 275 [(0, .ref 64), (1, .int y1), (3, .int y3), (4, .int y4)] [] ab_SH (ab_dD h) (fun r => r = (some (.long z.1), ab_SH, ab_dD z.2)) := by
  intro y1 y3 y4 h z hf
  unfold fX12_mean_J275 at hf
  refine ab_Ex.blk (k := 2) (pc' := 103) (lv' := [(0, .ref 64), (1, .int y1), (3, .int y3), (4, .int ((y4 + 1)))]) (st' := []) (sh' := ab_SH) (D' := ab_dD h) (fun n => rfl) ?_
  exact hk103 y1 y3 ((y4 + 1)) h _ hf
set_option maxRecDepth 20000 in
theorem sX12_mean_J269 (d : Nat) (X : abX) (k183 : Int32 → Int32 → Int32 → Int32 → Int32 → abJ → Option (Int64 × abJ)) (hk183 : ∀ (y1 : Int32) (y3 : Int32) (y4 : Int32) (y5 : Int32) (y6 : Int32) (h : abJ) (z : (Int64 × abJ)), k183 y1 y3 y4 y5 y6 h = some z → ab_Ex X (d + 104) 286 183 [(0, .ref 64), (1, .int y1), (3, .int y3), (4, .int y4), (5, .int y5), (6, .int y6)] [] ab_SH (ab_dD h) (fun r => r = (some (.long z.1), ab_SH, ab_dD z.2))) : ∀ (y1 : Int32) (y3 : Int32) (y4 : Int32) (y5 : Int32) (y6 : Int32) (h : abJ) (z : (Int64 × abJ)), fX12_mean_J269 k183 y1 y3 y4 y5 y6 h = some z → ab_Ex X (d + 104) 286 269 [(0, .ref 64), (1, .int y1), (3, .int y3), (4, .int y4), (5, .int y5), (6, .int y6)] [] ab_SH (ab_dD h) (fun r => r = (some (.long z.1), ab_SH, ab_dD z.2)) := by
  intro y1 y3 y4 y5 y6 h z hf
  unfold fX12_mean_J269 at hf
  refine ab_Ex.blk (k := 2) (pc' := 183) (lv' := [(0, .ref 64), (1, .int y1), (3, .int y3), (4, .int y4), (5, .int y5), (6, .int ((y6 + 1)))]) (st' := []) (sh' := ab_SH) (D' := ab_dD h) (fun n => rfl) ?_
  exact hk183 y1 y3 y4 y5 ((y6 + 1)) h _ hf
set_option maxRecDepth 20000 in
theorem sX12_mean_L183 (d : Nat) (X : abX) (k103 : Int32 → Int32 → Int32 → abJ → Option (Int64 × abJ)) (hk103 : ∀ (y1 : Int32) (y3 : Int32) (y4 : Int32) (h : abJ) (z : (Int64 × abJ)), k103 y1 y3 y4 h = some z → ab_Ex X (d + 104) 286 103 [(0, .ref 64), (1, .int y1), (3, .int y3), (4, .int y4)] [] ab_SH (ab_dD h) (fun r => r = (some (.long z.1), ab_SH, ab_dD z.2))) : ∀ (n : Nat), ∀ (y1 : Int32) (y3 : Int32) (y4 : Int32) (y5 : Int32) (y6 : Int32) (h : abJ) (z : (Int64 × abJ)), fX12_mean_L183 k103 n y1 y3 y4 y5 y6 h = some z → ab_Ex X (d + 104) 286 183 [(0, .ref 64), (1, .int y1), (3, .int y3), (4, .int y4), (5, .int y5), (6, .int y6)] [] ab_SH (ab_dD h) (fun r => r = (some (.long z.1), ab_SH, ab_dD z.2)) := by
  intro n
  induction n with
  | zero => intro y1 y3 y4 y5 y6 h z hf; cases hf
  | succ n ih =>
    intro y1 y3 y4 y5 y6 h z hf
    rw [fX12_mean_L183] at hf
    refine ab_Ex.blk (k := 2) (pc' := 187) (lv' := [(0, .ref 64), (1, .int y1), (3, .int y3), (4, .int y4), (5, .int y5), (6, .int y6)]) (st' := [.int y5, .int y6]) (sh' := ab_SH) (D' := ab_dD h) (fun n => rfl) ?_
    refine ab_Ex.ifc (c := y5 ≤ y6) (SA := (275, [(0, .ref 64), (1, .int y1), (3, .int y3), (4, .int y4), (5, .int y5), (6, .int y6)], [], ab_dD h)) (SB := (190, [(0, .ref 64), (1, .int y1), (3, .int y3), (4, .int y4), (5, .int y5), (6, .int y6)], [], ab_dD h)) (fun n => rfl) (fun c26 => ?_) (fun c26 => ?_)
    · replace hf := (if_pos c26).symm.trans hf
      exact sX12_mean_J275 d X k103 hk103 y1 y3 y4 h _ hf
    · replace hf := (if_neg c26).symm.trans hf
      refine ab_Ex.blk (k := 3) (pc' := 195) (lv' := [(0, .ref 64), (1, .int y1), (3, .int y3), (4, .int y4), (5, .int y5), (6, .int y6)]) (st' := [.int y6, .int y4, .ref 64]) (sh' := ab_SH) (D' := ab_dD h) (fun n => rfl) ?_
      obtain ⟨r27, hr27, hf⟩ := ab_bind_s hf
      refine ab_Ex.call (d := d + 103) (M2 := 218) (as := [.ref 64, .int y4, .int y6]) (rest := []) (fun n => rfl) rfl (Nat.not_lt.mpr (Nat.le_of_ble_eq_true rfl)) (sX12_roadOf (d + 103) X y4 y6 h _ hr27) (fun r hr => ?_)
      subst hr
      show ab_Ex X (d + 104) 286 198 [(0, .ref 64), (1, .int y1), (3, .int y3), (4, .int y4), (5, .int y5), (6, .int y6)] [.int r27] ab_SH (ab_dD h) _
      refine ab_Ex.blk (k := 3) (pc' := 203) (lv' := [(7, .int r27), (0, .ref 64), (1, .int y1), (3, .int y3), (4, .int y4), (5, .int y5), (6, .int y6)]) (st' := [.int r27, .ref 64]) (sh' := ab_SH) (D' := ab_dD h) (fun n => rfl) ?_
      obtain ⟨r28, hr28, hf⟩ := ab_bind_s hf
      refine ab_Ex.call (d := d + 103) (M2 := 223) (as := [.ref 64, .int r27]) (rest := []) (fun n => rfl) rfl (Nat.not_lt.mpr (Nat.le_of_ble_eq_true rfl)) (sX12_isRest (d + 102) X r27 h _ hr28) (fun r hr => ?_)
      subst hr
      show ab_Ex X (d + 104) 286 206 [(7, .int r27), (0, .ref 64), (1, .int y1), (3, .int y3), (4, .int y4), (5, .int y5), (6, .int y6)] [.int r28] ab_SH (ab_dD h) _
      refine ab_Ex.ifc (c := r28 = 0) (SA := (209, [(7, .int r27), (0, .ref 64), (1, .int y1), (3, .int y3), (4, .int y4), (5, .int y5), (6, .int y6)], [], ab_dD h)) (SB := (269, [(7, .int r27), (0, .ref 64), (1, .int y1), (3, .int y3), (4, .int y4), (5, .int y5), (6, .int y6)], [], ab_dD h)) (fun n => rfl) (fun c29 => ?_) (fun c29 => ?_)
      · replace hf := (if_pos c29).symm.trans hf
        refine ab_Ex.blk (k := 13) (pc' := 230) (lv' := [(7, .int r27), (0, .ref 64), (1, .int y1), (3, .int y3), (4, .int y4), (5, .int y5), (6, .int y6)]) (st' := [.int (((7 * y4) + r27)), .ref 80, .int (((7 * y4) + r27)), .ref 64]) (sh' := ab_SH) (D' := ab_dD h) (fun n => rfl) ?_
        obtain ⟨c31, hf⟩ := ab_ask_s hf
        refine ab_Ex.grd (c := ((7 * y4) + r27) < 0 ∨ 42 ≤ (((7 * y4) + r27) : Int32).toNatClampNeg) (S := (231, [(7, .int r27), (0, .ref 64), (1, .int y1), (3, .int y3), (4, .int y4), (5, .int y5), (6, .int y6)], [.long ((h.2 80 (((7 * y4) + r27) : Int32).toNatClampNeg)), .int (((7 * y4) + r27)), .ref 64], ab_dD h)) (fun n => rfl) c31 ?_
        refine ab_Ex.blk (k := 10) (pc' := 247) (lv' := [(7, .int r27), (0, .ref 64), (1, .int y1), (3, .int y3), (4, .int y4), (5, .int y5), (6, .int y6)]) (st' := [.int (((7 * y4) + r27)), .ref 81, .long (((h.2 80 (((7 * y4) + r27) : Int32).toNatClampNeg) * (y5 : Int32).toInt64)), .int (((7 * y4) + r27)), .ref 64]) (sh' := ab_SH) (D' := ab_dD h) (fun n => rfl) ?_
        obtain ⟨c33, hf⟩ := ab_ask_s hf
        refine ab_Ex.grd (c := ((7 * y4) + r27) < 0 ∨ 42 ≤ (((7 * y4) + r27) : Int32).toNatClampNeg) (S := (248, [(7, .int r27), (0, .ref 64), (1, .int y1), (3, .int y3), (4, .int y4), (5, .int y5), (6, .int y6)], [.long ((h.2 81 (((7 * y4) + r27) : Int32).toNatClampNeg)), .long (((h.2 80 (((7 * y4) + r27) : Int32).toNatClampNeg) * (y5 : Int32).toInt64)), .int (((7 * y4) + r27)), .ref 64], ab_dD h)) (fun n => rfl) c33 ?_
        refine ab_Ex.blk (k := 8) (pc' := 261) (lv' := [(7, .int r27), (0, .ref 64), (1, .int y1), (3, .int y3), (4, .int y4), (5, .int y5), (6, .int y6)]) (st' := [.int (((7 * y4) + r27)), .ref 81, .long ((((h.2 80 (((7 * y4) + r27) : Int32).toNatClampNeg) * (y5 : Int32).toInt64) - (h.2 81 (((7 * y4) + r27) : Int32).toNatClampNeg))), .int (((7 * y4) + r27)), .ref 64]) (sh' := ab_SH) (D' := ab_dD h) (fun n => rfl) ?_
        obtain ⟨c35, hf⟩ := ab_ask_s hf
        refine ab_Ex.grd (c := ((7 * y4) + r27) < 0 ∨ 42 ≤ (((7 * y4) + r27) : Int32).toNatClampNeg) (S := (262, [(7, .int r27), (0, .ref 64), (1, .int y1), (3, .int y3), (4, .int y4), (5, .int y5), (6, .int y6)], [.long ((h.2 81 (((7 * y4) + r27) : Int32).toNatClampNeg)), .long ((((h.2 80 (((7 * y4) + r27) : Int32).toNatClampNeg) * (y5 : Int32).toInt64) - (h.2 81 (((7 * y4) + r27) : Int32).toNatClampNeg))), .int (((7 * y4) + r27)), .ref 64], ab_dD h)) (fun n => rfl) c35 ?_
        refine ab_Ex.blk (k := 3) (pc' := 266) (lv' := [(7, .int r27), (0, .ref 64), (1, .int y1), (3, .int y3), (4, .int y4), (5, .int y5), (6, .int y6)]) (st' := [.long (((h.2 81 (((7 * y4) + r27) : Int32).toNatClampNeg) * (y5 : Int32).toInt64)), .long ((((h.2 80 (((7 * y4) + r27) : Int32).toNatClampNeg) * (y5 : Int32).toInt64) - (h.2 81 (((7 * y4) + r27) : Int32).toNatClampNeg))), .int (((7 * y4) + r27)), .ref 64]) (sh' := ab_SH) (D' := ab_dD h) (fun n => rfl) ?_
        obtain ⟨r36, hr36, hf⟩ := ab_bind_s hf
        refine ab_Ex.call (d := d + 103) (M2 := 278) (as := [.ref 64, .int (((7 * y4) + r27)), .long ((((h.2 80 (((7 * y4) + r27) : Int32).toNatClampNeg) * (y5 : Int32).toInt64) - (h.2 81 (((7 * y4) + r27) : Int32).toNatClampNeg))), .long (((h.2 81 (((7 * y4) + r27) : Int32).toNatClampNeg) * (y5 : Int32).toInt64))]) (rest := []) (fun n => rfl) rfl (Nat.not_lt.mpr (Nat.le_of_ble_eq_true rfl)) (sX12_lays (d + 2) X (((7 * y4) + r27)) ((((h.2 80 (((7 * y4) + r27) : Int32).toNatClampNeg) * (y5 : Int32).toInt64) - (h.2 81 (((7 * y4) + r27) : Int32).toNatClampNeg))) (((h.2 81 (((7 * y4) + r27) : Int32).toNatClampNeg) * (y5 : Int32).toInt64)) h _ hr36) (fun r hr => ?_)
        subst hr
        show ab_Ex X (d + 104) 286 269 [(0, .ref 64), (1, .int y1), (3, .int y3), (4, .int y4), (5, .int y5), (6, .int y6)] [] ab_SH (ab_dD r36) _
        exact sX12_mean_J269 d X (fun y1 y3 y4 y5 y6 h => fX12_mean_L183 k103 n y1 y3 y4 y5 y6 h) (fun y1 y3 y4 y5 y6 h z hz => ih y1 y3 y4 y5 y6 h z hz) y1 y3 y4 y5 y6 r36 _ hf
      · replace hf := (if_neg c29).symm.trans hf
        exact sX12_mean_J269 d X (fun y1 y3 y4 y5 y6 h => fX12_mean_L183 k103 n y1 y3 y4 y5 y6 h) (fun y1 y3 y4 y5 y6 h z hz => ih y1 y3 y4 y5 y6 h z hz) y1 y3 y4 y5 y6 h _ hf
set_option maxRecDepth 20000 in
theorem sX12_mean_J140 (d : Nat) (X : abX) (k103 : Int32 → Int32 → Int32 → abJ → Option (Int64 × abJ)) (hk103 : ∀ (y1 : Int32) (y3 : Int32) (y4 : Int32) (h : abJ) (z : (Int64 × abJ)), k103 y1 y3 y4 h = some z → ab_Ex X (d + 104) 286 103 [(0, .ref 64), (1, .int y1), (3, .int y3), (4, .int y4)] [] ab_SH (ab_dD h) (fun r => r = (some (.long z.1), ab_SH, ab_dD z.2))) : ∀ (y1 : Int32) (y3 : Int32) (y4 : Int32) (t1 : Int32) (t2 : Int32) (h : abJ) (z : (Int64 × abJ)), fX12_mean_J140 k103 y1 y3 y4 t1 t2 h = some z → ab_Ex X (d + 104) 286 140 [(0, .ref 64), (1, .int y1), (3, .int y3), (4, .int y4)] [.int t2, .int t1, .ref 82] ab_SH (ab_dD h) (fun r => r = (some (.long z.1), ab_SH, ab_dD z.2)) := by
  intro y1 y3 y4 t1 t2 h z hf
  unfold fX12_mean_J140 at hf
  obtain ⟨c19, hf⟩ := ab_ask_s hf
  refine ab_Ex.grd (c := t1 < 0 ∨ 6 ≤ (t1 : Int32).toNatClampNeg) (S := (141, [(0, .ref 64), (1, .int y1), (3, .int y3), (4, .int y4)], [], ab_dD (ab_wI h 82 (t1 : Int32).toNatClampNeg (vp_nar .boolean t2)))) (fun n => rfl) c19 ?_
  refine ab_Ex.blk (k := 3) (pc' := 147) (lv' := [(0, .ref 64), (1, .int y1), (3, .int y3), (4, .int y4)]) (st' := [.int y4, .ref 82]) (sh' := ab_SH) (D' := ab_dD (ab_wI h 82 (t1 : Int32).toNatClampNeg (vp_nar .boolean t2))) (fun n => rfl) ?_
  obtain ⟨c21, hf⟩ := ab_ask_s hf
  refine ab_Ex.grd (c := y4 < 0 ∨ 6 ≤ (y4 : Int32).toNatClampNeg) (S := (148, [(0, .ref 64), (1, .int y1), (3, .int y3), (4, .int y4)], [.int (((ab_wI h 82 (t1 : Int32).toNatClampNeg (vp_nar .boolean t2)).1 82 (y4 : Int32).toNatClampNeg))], ab_dD (ab_wI h 82 (t1 : Int32).toNatClampNeg (vp_nar .boolean t2)))) (fun n => rfl) c21 ?_
  refine ab_Ex.ifc (c := ((ab_wI h 82 (t1 : Int32).toNatClampNeg (vp_nar .boolean t2)).1 82 (y4 : Int32).toNatClampNeg) = 0) (SA := (151, [(0, .ref 64), (1, .int y1), (3, .int y3), (4, .int y4)], [], ab_dD (ab_wI h 82 (t1 : Int32).toNatClampNeg (vp_nar .boolean t2)))) (SB := (154, [(0, .ref 64), (1, .int y1), (3, .int y3), (4, .int y4)], [], ab_dD (ab_wI h 82 (t1 : Int32).toNatClampNeg (vp_nar .boolean t2)))) (fun n => rfl) (fun c22 => ?_) (fun c22 => ?_)
  · replace hf := (if_pos c22).symm.trans hf
    refine ab_Ex.blk (k := 1) (pc' := 275) (lv' := [(0, .ref 64), (1, .int y1), (3, .int y3), (4, .int y4)]) (st' := []) (sh' := ab_SH) (D' := ab_dD (ab_wI h 82 (t1 : Int32).toNatClampNeg (vp_nar .boolean t2))) (fun n => rfl) ?_
    exact sX12_mean_J275 d X k103 hk103 y1 y3 y4 (ab_wI h 82 (t1 : Int32).toNatClampNeg (vp_nar .boolean t2)) _ hf
  · replace hf := (if_neg c22).symm.trans hf
    refine ab_Ex.blk (k := 5) (pc' := 163) (lv' := [(0, .ref 64), (1, .int y1), (3, .int y3), (4, .int y4)]) (st' := [.int ((9 + y4)), .ref 65]) (sh' := ab_SH) (D' := ab_dD (ab_wI h 82 (t1 : Int32).toNatClampNeg (vp_nar .boolean t2))) (fun n => rfl) ?_
    obtain ⟨c24, hf⟩ := ab_ask_s hf
    refine ab_Ex.grd (c := (9 + y4) < 0 ∨ 3102 ≤ ((9 + y4) : Int32).toNatClampNeg) (S := (164, [(0, .ref 64), (1, .int y1), (3, .int y3), (4, .int y4)], [.int (((ab_wI h 82 (t1 : Int32).toNatClampNeg (vp_nar .boolean t2)).1 65 ((9 + y4) : Int32).toNatClampNeg))], ab_dD (ab_wI h 82 (t1 : Int32).toNatClampNeg (vp_nar .boolean t2)))) (fun n => rfl) c24 ?_
    refine ab_Ex.blk (k := 9) (pc' := 177) (lv' := [(5, .int (((ab_wI h 82 (t1 : Int32).toNatClampNeg (vp_nar .boolean t2)).1 65 ((9 + y4) : Int32).toNatClampNeg))), (0, .ref 64), (1, .int y1), (3, .int y3), (4, .int y4)]) (st' := [.long 1, .long 1, .int (((7 * y4) + 6)), .ref 64]) (sh' := ab_SH) (D' := ab_dD (ab_wI h 82 (t1 : Int32).toNatClampNeg (vp_nar .boolean t2))) (fun n => rfl) ?_
    obtain ⟨r25, hr25, hf⟩ := ab_bind_s hf
    refine ab_Ex.call (d := d + 103) (M2 := 278) (as := [.ref 64, .int (((7 * y4) + 6)), .long 1, .long 1]) (rest := []) (fun n => rfl) rfl (Nat.not_lt.mpr (Nat.le_of_ble_eq_true rfl)) (sX12_lays (d + 2) X (((7 * y4) + 6)) 1 1 (ab_wI h 82 (t1 : Int32).toNatClampNeg (vp_nar .boolean t2)) _ hr25) (fun r hr => ?_)
    subst hr
    show ab_Ex X (d + 104) 286 180 [(5, .int (((ab_wI h 82 (t1 : Int32).toNatClampNeg (vp_nar .boolean t2)).1 65 ((9 + y4) : Int32).toNatClampNeg))), (0, .ref 64), (1, .int y1), (3, .int y3), (4, .int y4)] [] ab_SH (ab_dD r25) _
    refine ab_Ex.blk (k := 2) (pc' := 183) (lv' := [(0, .ref 64), (1, .int y1), (3, .int y3), (4, .int y4), (5, .int (((ab_wI h 82 (t1 : Int32).toNatClampNeg (vp_nar .boolean t2)).1 65 ((9 + y4) : Int32).toNatClampNeg))), (6, .int 0)]) (st' := []) (sh' := ab_SH) (D' := ab_dD r25) (fun n => rfl) ?_
    exact sX12_mean_L183 d X k103 hk103 ab_N y1 y3 y4 (((ab_wI h 82 (t1 : Int32).toNatClampNeg (vp_nar .boolean t2)).1 65 ((9 + y4) : Int32).toNatClampNeg)) 0 r25 _ hf
set_option maxRecDepth 20000 in
theorem sX12_mean_J139 (d : Nat) (X : abX) (k103 : Int32 → Int32 → Int32 → abJ → Option (Int64 × abJ)) (hk103 : ∀ (y1 : Int32) (y3 : Int32) (y4 : Int32) (h : abJ) (z : (Int64 × abJ)), k103 y1 y3 y4 h = some z → ab_Ex X (d + 104) 286 103 [(0, .ref 64), (1, .int y1), (3, .int y3), (4, .int y4)] [] ab_SH (ab_dD h) (fun r => r = (some (.long z.1), ab_SH, ab_dD z.2))) : ∀ (y1 : Int32) (y3 : Int32) (y4 : Int32) (t1 : Int32) (h : abJ) (z : (Int64 × abJ)), fX12_mean_J139 k103 y1 y3 y4 t1 h = some z → ab_Ex X (d + 104) 286 139 [(0, .ref 64), (1, .int y1), (3, .int y3), (4, .int y4)] [.int t1, .ref 82] ab_SH (ab_dD h) (fun r => r = (some (.long z.1), ab_SH, ab_dD z.2)) := by
  intro y1 y3 y4 t1 h z hf
  unfold fX12_mean_J139 at hf
  refine ab_Ex.blk (k := 1) (pc' := 140) (lv' := [(0, .ref 64), (1, .int y1), (3, .int y3), (4, .int y4)]) (st' := [.int 0, .int t1, .ref 82]) (sh' := ab_SH) (D' := ab_dD h) (fun n => rfl) ?_
  exact sX12_mean_J140 d X k103 hk103 y1 y3 y4 t1 0 h _ hf
set_option maxRecDepth 20000 in
theorem sX12_mean_L103 (d : Nat) (X : abX)   : ∀ (n : Nat), ∀ (y1 : Int32) (y3 : Int32) (y4 : Int32) (h : abJ) (z : (Int64 × abJ)), fX12_mean_L103 n y1 y3 y4 h = some z → ab_Ex X (d + 104) 286 103 [(0, .ref 64), (1, .int y1), (3, .int y3), (4, .int y4)] [] ab_SH (ab_dD h) (fun r => r = (some (.long z.1), ab_SH, ab_dD z.2)) := by
  intro n
  induction n with
  | zero => intro y1 y3 y4 h z hf; cases hf
  | succ n ih =>
    intro y1 y3 y4 h z hf
    rw [fX12_mean_L103] at hf
    refine ab_Ex.blk (k := 2) (pc' := 107) (lv' := [(0, .ref 64), (1, .int y1), (3, .int y3), (4, .int y4)]) (st' := [.int 6, .int y4]) (sh' := ab_SH) (D' := ab_dD h) (fun n => rfl) ?_
    refine ab_Ex.ifc (c := 6 ≤ y4) (SA := (281, [(0, .ref 64), (1, .int y1), (3, .int y3), (4, .int y4)], [], ab_dD h)) (SB := (110, [(0, .ref 64), (1, .int y1), (3, .int y3), (4, .int y4)], [], ab_dD h)) (fun n => rfl) (fun c10 => ?_) (fun c10 => ?_)
    · replace hf := (if_pos c10).symm.trans hf
      refine ab_Ex.blk (k := 1) (pc' := 282) (lv' := [(0, .ref 64), (1, .int y1), (3, .int y3), (4, .int y4)]) (st' := [.ref 64]) (sh' := ab_SH) (D' := ab_dD h) (fun n => rfl) ?_
      obtain ⟨r11, hr11, hf⟩ := ab_bind_s hf
      refine ab_Ex.call (d := d + 103) (M2 := 280) (as := [.ref 64]) (rest := []) (fun n => rfl) rfl (Nat.not_lt.mpr (Nat.le_of_ble_eq_true rfl)) (sX12_solves (d) X  h _ hr11) (fun r hr => ?_)
      subst hr
      show ab_Ex X (d + 104) 286 285 [(0, .ref 64), (1, .int y1), (3, .int y3), (4, .int y4)] [] ab_SH (ab_dD r11) _
      refine ab_Ex.blk (k := 1) (pc' := 286) (lv' := [(0, .ref 64), (1, .int y1), (3, .int y3), (4, .int y4)]) (st' := [.int y1]) (sh' := ab_SH) (D' := ab_dD r11) (fun n => rfl) ?_
      refine ab_Ex.ifc (c := y1 = 0) (SA := (289, [(0, .ref 64), (1, .int y1), (3, .int y3), (4, .int y4)], [], ab_dD r11)) (SB := (310, [(0, .ref 64), (1, .int y1), (3, .int y3), (4, .int y4)], [], ab_dD r11)) (fun n => rfl) (fun c12 => ?_) (fun c12 => ?_)
      · replace hf := (if_pos c12).symm.trans hf
        refine ab_Ex.blk (k := 6) (pc' := 301) (lv' := [(0, .ref 64), (1, .int y1), (3, .int y3), (4, .int y4)]) (st' := [.int 33, .ref 65, .int 7, .ref 80]) (sh' := ab_SH) (D' := ab_dD r11) (fun n => rfl) ?_
        refine ab_Ex.blk (k := 1) (pc' := 302) (lv' := [(0, .ref 64), (1, .int y1), (3, .int y3), (4, .int y4)]) (st' := [.int ((r11.1 65 33)), .int 7, .ref 80]) (sh' := ab_SH) (D' := ab_dD r11) (fun n => rfl) ?_
        refine ab_Ex.blk (k := 3) (pc' := 306) (lv' := [(0, .ref 64), (1, .int y1), (3, .int y3), (4, .int y4)]) (st' := [.int (((7 * (r11.1 65 33)) + 6)), .ref 80]) (sh' := ab_SH) (D' := ab_dD r11) (fun n => rfl) ?_
        obtain ⟨c14, hf⟩ := ab_ask_s hf
        refine ab_Ex.grd (c := ((7 * (r11.1 65 33)) + 6) < 0 ∨ 42 ≤ (((7 * (r11.1 65 33)) + 6) : Int32).toNatClampNeg) (S := (307, [(0, .ref 64), (1, .int y1), (3, .int y3), (4, .int y4)], [.long ((r11.2 80 (((7 * (r11.1 65 33)) + 6) : Int32).toNatClampNeg))], ab_dD r11)) (fun n => rfl) c14 ?_
        refine ab_Ex.blk (k := 1) (pc' := 328) (lv' := []) (st' := [.long ((r11.2 80 (((7 * (r11.1 65 33)) + 6) : Int32).toNatClampNeg))]) (sh' := ab_SH) (D' := ab_dD r11) (fun n => rfl) ?_
        obtain rfl := Option.some.inj hf
        exact ab_Ex.ret (fun n => rfl) rfl
      · replace hf := (if_neg c12).symm.trans hf
        refine ab_Ex.blk (k := 6) (pc' := 322) (lv' := [(0, .ref 64), (1, .int y1), (3, .int y3), (4, .int y4)]) (st' := [.int 33, .ref 65, .int 7, .ref 81]) (sh' := ab_SH) (D' := ab_dD r11) (fun n => rfl) ?_
        refine ab_Ex.blk (k := 1) (pc' := 323) (lv' := [(0, .ref 64), (1, .int y1), (3, .int y3), (4, .int y4)]) (st' := [.int ((r11.1 65 33)), .int 7, .ref 81]) (sh' := ab_SH) (D' := ab_dD r11) (fun n => rfl) ?_
        refine ab_Ex.blk (k := 3) (pc' := 327) (lv' := [(0, .ref 64), (1, .int y1), (3, .int y3), (4, .int y4)]) (st' := [.int (((7 * (r11.1 65 33)) + 6)), .ref 81]) (sh' := ab_SH) (D' := ab_dD r11) (fun n => rfl) ?_
        obtain ⟨c16, hf⟩ := ab_ask_s hf
        refine ab_Ex.grd (c := ((7 * (r11.1 65 33)) + 6) < 0 ∨ 42 ≤ (((7 * (r11.1 65 33)) + 6) : Int32).toNatClampNeg) (S := (328, [(0, .ref 64), (1, .int y1), (3, .int y3), (4, .int y4)], [.long ((r11.2 81 (((7 * (r11.1 65 33)) + 6) : Int32).toNatClampNeg))], ab_dD r11)) (fun n => rfl) c16 ?_
        obtain rfl := Option.some.inj hf
        exact ab_Ex.ret (fun n => rfl) rfl
    · replace hf := (if_neg c10).symm.trans hf
      refine ab_Ex.blk (k := 6) (pc' := 120) (lv' := [(0, .ref 64), (1, .int y1), (3, .int y3), (4, .int y4)]) (st' := [.int y4, .long ((y3 : Int32).toInt64), .int y4, .ref 82]) (sh' := ab_SH) (D' := ab_dD h) (fun n => rfl) ?_
      obtain ⟨r17, hr17, hf⟩ := ab_bind_s hf
      refine ab_Ex.call (d := d + 103) (M2 := 188) (as := [.long ((y3 : Int32).toInt64), .int y4]) (rest := [.int y4, .ref 82]) (fun n => rfl) rfl (Nat.not_lt.mpr (Nat.le_of_ble_eq_true rfl)) (sX12_isIn (d + 103) X ((y3 : Int32).toInt64) y4 h _ hr17) (fun r hr => ?_)
      subst hr
      show ab_Ex X (d + 104) 286 123 [(0, .ref 64), (1, .int y1), (3, .int y3), (4, .int y4)] [.int r17, .int y4, .ref 82] ab_SH (ab_dD h) _
      refine ab_Ex.ifc (c := r17 = 0) (SA := (139, [(0, .ref 64), (1, .int y1), (3, .int y3), (4, .int y4)], [.int y4, .ref 82], ab_dD h)) (SB := (126, [(0, .ref 64), (1, .int y1), (3, .int y3), (4, .int y4)], [.int y4, .ref 82], ab_dD h)) (fun n => rfl) (fun c18 => ?_) (fun c18 => ?_)
      · replace hf := (if_pos c18).symm.trans hf
        exact sX12_mean_J139 d X (fun y1 y3 y4 h => fX12_mean_L103 n y1 y3 y4 h) (fun y1 y3 y4 h z hz => ih y1 y3 y4 h z hz) y1 y3 y4 y4 h _ hf
      · replace hf := (if_neg c18).symm.trans hf
        refine ab_Ex.blk (k := 2) (pc' := 129) (lv' := [(0, .ref 64), (1, .int y1), (3, .int y3), (4, .int y4)]) (st' := [.int y4, .ref 64, .int y4, .ref 82]) (sh' := ab_SH) (D' := ab_dD h) (fun n => rfl) ?_
        obtain ⟨r37, hr37, hf⟩ := ab_bind_s hf
        refine ab_Ex.call (d := d + 103) (M2 := 223) (as := [.ref 64, .int y4]) (rest := [.int y4, .ref 82]) (fun n => rfl) rfl (Nat.not_lt.mpr (Nat.le_of_ble_eq_true rfl)) (sX12_isRest (d + 102) X y4 h _ hr37) (fun r hr => ?_)
        subst hr
        show ab_Ex X (d + 104) 286 132 [(0, .ref 64), (1, .int y1), (3, .int y3), (4, .int y4)] [.int r37, .int y4, .ref 82] ab_SH (ab_dD h) _
        refine ab_Ex.ifc (c := r37 = 0) (SA := (135, [(0, .ref 64), (1, .int y1), (3, .int y3), (4, .int y4)], [.int y4, .ref 82], ab_dD h)) (SB := (139, [(0, .ref 64), (1, .int y1), (3, .int y3), (4, .int y4)], [.int y4, .ref 82], ab_dD h)) (fun n => rfl) (fun c38 => ?_) (fun c38 => ?_)
        · replace hf := (if_pos c38).symm.trans hf
          refine ab_Ex.blk (k := 2) (pc' := 140) (lv' := [(0, .ref 64), (1, .int y1), (3, .int y3), (4, .int y4)]) (st' := [.int 1, .int y4, .ref 82]) (sh' := ab_SH) (D' := ab_dD h) (fun n => rfl) ?_
          exact sX12_mean_J140 d X (fun y1 y3 y4 h => fX12_mean_L103 n y1 y3 y4 h) (fun y1 y3 y4 h z hz => ih y1 y3 y4 h z hz) y1 y3 y4 y4 1 h _ hf
        · replace hf := (if_neg c38).symm.trans hf
          exact sX12_mean_J139 d X (fun y1 y3 y4 h => fX12_mean_L103 n y1 y3 y4 h) (fun y1 y3 y4 h z hz => ih y1 y3 y4 h z hz) y1 y3 y4 y4 h _ hf
set_option maxRecDepth 20000 in
theorem sX12_mean_J49 (d : Nat) (X : abX) (k23 : Int32 → Int32 → Int32 → abJ → Option (Int64 × abJ)) (hk23 : ∀ (y1 : Int32) (y2 : Int32) (y3 : Int32) (h : abJ) (z : (Int64 × abJ)), k23 y1 y2 y3 h = some z → ab_Ex X (d + 104) 286 23 [(0, .ref 64), (1, .int y1), (2, .int y2), (3, .int y3)] [] ab_SH (ab_dD h) (fun r => r = (some (.long z.1), ab_SH, ab_dD z.2))) : ∀ (y1 : Int32) (y3 : Int32) (t0 : Int32) (t1 : Int32) (h : abJ) (z : (Int64 × abJ)), fX12_mean_J49 k23 y1 y3 t0 t1 h = some z → ab_Ex X (d + 104) 286 49 [(0, .ref 64), (1, .int y1), (3, .int y3)] [.int t1, .int t0] ab_SH (ab_dD h) (fun r => r = (some (.long z.1), ab_SH, ab_dD z.2)) := by
  intro y1 y3 t0 t1 h z hf
  unfold fX12_mean_J49 at hf
  refine ab_Ex.blk (k := 4) (pc' := 23) (lv' := [(0, .ref 64), (1, .int y1), (2, .int ((t0 ||| t1))), (3, .int ((y3 + 1)))]) (st' := []) (sh' := ab_SH) (D' := ab_dD h) (fun n => rfl) ?_
  exact hk23 y1 ((t0 ||| t1)) ((y3 + 1)) h _ hf
set_option maxRecDepth 20000 in
theorem sX12_mean_L23 (d : Nat) (X : abX)   : ∀ (n : Nat), ∀ (y1 : Int32) (y2 : Int32) (y3 : Int32) (h : abJ) (z : (Int64 × abJ)), fX12_mean_L23 n y1 y2 y3 h = some z → ab_Ex X (d + 104) 286 23 [(0, .ref 64), (1, .int y1), (2, .int y2), (3, .int y3)] [] ab_SH (ab_dD h) (fun r => r = (some (.long z.1), ab_SH, ab_dD z.2)) := by
  intro n
  induction n with
  | zero => intro y1 y2 y3 h z hf; cases hf
  | succ n ih =>
    intro y1 y2 y3 h z hf
    rw [fX12_mean_L23] at hf
    refine ab_Ex.blk (k := 4) (pc' := 29) (lv' := [(0, .ref 64), (1, .int y1), (2, .int y2), (3, .int y3)]) (st' := [.int 1, .ref 65, .int y3]) (sh' := ab_SH) (D' := ab_dD h) (fun n => rfl) ?_
    refine ab_Ex.blk (k := 1) (pc' := 30) (lv' := [(0, .ref 64), (1, .int y1), (2, .int y2), (3, .int y3)]) (st' := [.int ((h.1 65 1)), .int y3]) (sh' := ab_SH) (D' := ab_dD h) (fun n => rfl) ?_
    refine ab_Ex.ifc (c := (h.1 65 1) ≤ y3) (SA := (57, [(0, .ref 64), (1, .int y1), (2, .int y2), (3, .int y3)], [], ab_dD h)) (SB := (33, [(0, .ref 64), (1, .int y1), (2, .int y2), (3, .int y3)], [], ab_dD h)) (fun n => rfl) (fun c3 => ?_) (fun c3 => ?_)
    · replace hf := (if_pos c3).symm.trans hf
      refine ab_Ex.blk (k := 1) (pc' := 58) (lv' := [(0, .ref 64), (1, .int y1), (2, .int y2), (3, .int y3)]) (st' := [.ref 64]) (sh' := ab_SH) (D' := ab_dD h) (fun n => rfl) ?_
      obtain ⟨r4, hr4, hf⟩ := ab_bind_s hf
      refine ab_Ex.call (d := d + 103) (M2 := 285) (as := [.ref 64]) (rest := []) (fun n => rfl) rfl (Nat.not_lt.mpr (Nat.le_of_ble_eq_true rfl)) (sX12_strays (d + 101) X  h _ hr4) (fun r hr => ?_)
      subst hr
      show ab_Ex X (d + 104) 286 61 [(0, .ref 64), (1, .int y1), (2, .int y2), (3, .int y3)] [.int r4] ab_SH (ab_dD h) _
      refine ab_Ex.blk (k := 5) (pc' := 66) (lv' := [(3, .int r4), (0, .ref 64), (1, .int y1), (2, .int y2)]) (st' := [.int y2, .int y2, .ref 64, .int r4]) (sh' := ab_SH) (D' := ab_dD h) (fun n => rfl) ?_
      obtain ⟨r5, hr5, hf⟩ := ab_bind_s hf
      refine ab_Ex.call (d := d + 103) (M2 := 282) (as := [.ref 64, .int y2, .int y2]) (rest := [.int r4]) (fun n => rfl) rfl (Nat.not_lt.mpr (Nat.le_of_ble_eq_true rfl)) (sX12_comesTo (d + 101) X y2 y2 h _ hr5) (fun r hr => ?_)
      subst hr
      show ab_Ex X (d + 104) 286 69 [(3, .int r4), (0, .ref 64), (1, .int y1), (2, .int y2)] [.int r5, .int r4] ab_SH (ab_dD h) _
      refine ab_Ex.blk (k := 3) (pc' := 72) (lv' := [(3, .int r4), (0, .ref 64), (1, .int y1), (2, .int y2)]) (st' := [.int ((r4 &&& (r5 ^^^ (-1))))]) (sh' := ab_SH) (D' := ab_dD h) (fun n => rfl) ?_
      refine ab_Ex.ifc (c := (r4 &&& (r5 ^^^ (-1))) = 0) (SA := (79, [(3, .int r4), (0, .ref 64), (1, .int y1), (2, .int y2)], [], ab_dD h)) (SB := (75, [(3, .int r4), (0, .ref 64), (1, .int y1), (2, .int y2)], [], ab_dD h)) (fun n => rfl) (fun c6 => ?_) (fun c6 => ?_)
      · replace hf := (if_pos c6).symm.trans hf
        refine ab_Ex.blk (k := 4) (pc' := 86) (lv' := [(3, .int r4), (0, .ref 64), (1, .int y1), (2, .int y2)]) (st' := [.int 33, .ref 65, .ref 64]) (sh' := ab_SH) (D' := ab_dD h) (fun n => rfl) ?_
        refine ab_Ex.blk (k := 1) (pc' := 87) (lv' := [(3, .int r4), (0, .ref 64), (1, .int y1), (2, .int y2)]) (st' := [.int ((h.1 65 33)), .ref 64]) (sh' := ab_SH) (D' := ab_dD h) (fun n => rfl) ?_
        obtain ⟨r7, hr7, hf⟩ := ab_bind_s hf
        refine ab_Ex.call (d := d + 103) (M2 := 223) (as := [.ref 64, .int ((h.1 65 33))]) (rest := []) (fun n => rfl) rfl (Nat.not_lt.mpr (Nat.le_of_ble_eq_true rfl)) (sX12_isRest (d + 102) X ((h.1 65 33)) h _ hr7) (fun r hr => ?_)
        subst hr
        show ab_Ex X (d + 104) 286 90 [(3, .int r4), (0, .ref 64), (1, .int y1), (2, .int y2)] [.int r7] ab_SH (ab_dD h) _
        refine ab_Ex.ifc (c := r7 = 0) (SA := (96, [(3, .int r4), (0, .ref 64), (1, .int y1), (2, .int y2)], [], ab_dD h)) (SB := (93, [(3, .int r4), (0, .ref 64), (1, .int y1), (2, .int y2)], [], ab_dD h)) (fun n => rfl) (fun c8 => ?_) (fun c8 => ?_)
        · replace hf := (if_pos c8).symm.trans hf
          refine ab_Ex.blk (k := 1) (pc' := 97) (lv' := [(3, .int r4), (0, .ref 64), (1, .int y1), (2, .int y2)]) (st' := [.ref 64]) (sh' := ab_SH) (D' := ab_dD h) (fun n => rfl) ?_
          obtain ⟨r9, hr9, hf⟩ := ab_bind_s hf
          refine ab_Ex.call (d := d + 103) (M2 := 283) (as := [.ref 64]) (rest := []) (fun n => rfl) rfl (Nat.not_lt.mpr (Nat.le_of_ble_eq_true rfl)) (sX12_beginsRows (d + 1) X  h _ hr9) (fun r hr => ?_)
          subst hr
          show ab_Ex X (d + 104) 286 100 [(3, .int r4), (0, .ref 64), (1, .int y1), (2, .int y2)] [] ab_SH (ab_dD r9) _
          refine ab_Ex.blk (k := 2) (pc' := 103) (lv' := [(0, .ref 64), (1, .int y1), (3, .int r4), (4, .int 0)]) (st' := []) (sh' := ab_SH) (D' := ab_dD r9) (fun n => rfl) ?_
          exact sX12_mean_L103 d X  ab_N y1 r4 0 r9 _ hf
        · replace hf := (if_neg c8).symm.trans hf
          refine ab_Ex.blk (k := 2) (pc' := 95) (lv' := [(3, .int r4), (0, .ref 64), (1, .int y1), (2, .int y2)]) (st' := [.long ((y1 : Int32).toInt64)]) (sh' := ab_SH) (D' := ab_dD h) (fun n => rfl) ?_
          obtain rfl := Option.some.inj hf
          exact ab_Ex.ret (fun n => rfl) rfl
      · replace hf := (if_neg c6).symm.trans hf
        refine ab_Ex.blk (k := 1) (pc' := 78) (lv' := [(3, .int r4), (0, .ref 64), (1, .int y1), (2, .int y2)]) (st' := [.long ((-1))]) (sh' := ab_SH) (D' := ab_dD h) (fun n => rfl) ?_
        obtain rfl := Option.some.inj hf
        exact ab_Ex.ret (fun n => rfl) rfl
    · replace hf := (if_neg c3).symm.trans hf
      refine ab_Ex.blk (k := 3) (pc' := 36) (lv' := [(0, .ref 64), (1, .int y1), (2, .int y2), (3, .int y3)]) (st' := [.int y3, .ref 64, .int y2]) (sh' := ab_SH) (D' := ab_dD h) (fun n => rfl) ?_
      obtain ⟨r39, hr39, hf⟩ := ab_bind_s hf
      refine ab_Ex.call (d := d + 103) (M2 := 223) (as := [.ref 64, .int y3]) (rest := [.int y2]) (fun n => rfl) rfl (Nat.not_lt.mpr (Nat.le_of_ble_eq_true rfl)) (sX12_isRest (d + 102) X y3 h _ hr39) (fun r hr => ?_)
      subst hr
      show ab_Ex X (d + 104) 286 39 [(0, .ref 64), (1, .int y1), (2, .int y2), (3, .int y3)] [.int r39, .int y2] ab_SH (ab_dD h) _
      refine ab_Ex.ifc (c := r39 = 0) (SA := (48, [(0, .ref 64), (1, .int y1), (2, .int y2), (3, .int y3)], [.int y2], ab_dD h)) (SB := (42, [(0, .ref 64), (1, .int y1), (2, .int y2), (3, .int y3)], [.int y2], ab_dD h)) (fun n => rfl) (fun c40 => ?_) (fun c40 => ?_)
      · replace hf := (if_pos c40).symm.trans hf
        refine ab_Ex.blk (k := 1) (pc' := 49) (lv' := [(0, .ref 64), (1, .int y1), (3, .int y3)]) (st' := [.int 0, .int y2]) (sh' := ab_SH) (D' := ab_dD h) (fun n => rfl) ?_
        exact sX12_mean_J49 d X (fun y1 y2 y3 h => fX12_mean_L23 n y1 y2 y3 h) (fun y1 y2 y3 h z hz => ih y1 y2 y3 h z hz) y1 y3 y2 0 h _ hf
      · replace hf := (if_neg c40).symm.trans hf
        refine ab_Ex.blk (k := 4) (pc' := 49) (lv' := [(0, .ref 64), (1, .int y1), (3, .int y3)]) (st' := [.int (((1 : Int32) <<< (y3 &&& 31))), .int y2]) (sh' := ab_SH) (D' := ab_dD h) (fun n => rfl) ?_
        exact sX12_mean_J49 d X (fun y1 y2 y3 h => fX12_mean_L23 n y1 y2 y3 h) (fun y1 y2 y3 h z hz => ih y1 y2 y3 h z hz) y1 y3 y2 (((1 : Int32) <<< (y3 &&& 31))) h _ hf
set_option maxRecDepth 20000 in
theorem sX12_mean (d : Nat) (X : abX) (x0 : Int32) (h : abJ) (z : (Int64 × abJ)) (hf : fX12_mean x0 h = some z) : ab_Ex X (d + 104) 286 0 [(0, .ref 64), (1, .int x0)] [] ab_SH (ab_dD h) (fun r => r = (some (.long z.1), ab_SH, ab_dD z.2)) := by
  unfold fX12_mean at hf
  refine ab_Ex.blk (k := 7) (pc' := 9) (lv' := [(0, .ref 64), (1, .int x0)]) (st' := [.long 1, .long 0, .long ((x0 : Int32).toInt64)]) (sh' := ab_SH) (D' := ab_dD (ab_wI h 64 0 0)) (fun n => rfl) ?_
  obtain ⟨r1, hr1, hf⟩ := ab_bind_s hf
  refine ab_Ex.call (d := d + 103) (M2 := 175) (as := [.long ((x0 : Int32).toInt64), .long 0, .long 1]) (rest := []) (fun n => rfl) rfl (Nat.not_lt.mpr (Nat.le_of_ble_eq_true rfl)) (sX12_within (d + 103) X ((x0 : Int32).toInt64) 0 1 (ab_wI h 64 0 0) _ hr1) (fun r hr => ?_)
  subst hr
  show ab_Ex X (d + 104) 286 12 [(0, .ref 64), (1, .int x0)] [.int r1] ab_SH (ab_dD (ab_wI h 64 0 0)) _
  refine ab_Ex.ifc (c := r1 = 0) (SA := (15, [(0, .ref 64), (1, .int x0)], [], ab_dD (ab_wI h 64 0 0))) (SB := (19, [(0, .ref 64), (1, .int x0)], [], ab_dD (ab_wI h 64 0 0))) (fun n => rfl) (fun c2 => ?_) (fun c2 => ?_)
  · replace hf := (if_pos c2).symm.trans hf
    refine ab_Ex.blk (k := 1) (pc' := 18) (lv' := [(0, .ref 64), (1, .int x0)]) (st' := [.long ((-2))]) (sh' := ab_SH) (D' := ab_dD (ab_wI h 64 0 0)) (fun n => rfl) ?_
    obtain rfl := Option.some.inj hf
    exact ab_Ex.ret (fun n => rfl) rfl
  · replace hf := (if_neg c2).symm.trans hf
    refine ab_Ex.blk (k := 4) (pc' := 23) (lv' := [(0, .ref 64), (1, .int x0), (2, .int 0), (3, .int 0)]) (st' := []) (sh' := ab_SH) (D' := ab_dD (ab_wI h 64 0 0)) (fun n => rfl) ?_
    exact sX12_mean_L23 d X  ab_N x0 0 0 (ab_wI h 64 0 0) _ hf
def fX12_score_J158  (k58 : Int32 → Int32 → Int32 → Int32 → Int32 → Int32 → abJ → Option (Int32 × abJ)) (y1 : Int32) (y2 : Int32) (y3 : Int32) (y6 : Int32) (y7 : Int32) (t0 : Int32) (t1 : Int32) (h : abJ) : Option (Int32 × abJ) := k58 y1 y2 y3 ((y7 / 6)) ((t0 + t1)) ((y6 + 1)) h
def fX12_score_J142  (k58 : Int32 → Int32 → Int32 → Int32 → Int32 → Int32 → abJ → Option (Int32 × abJ)) (y1 : Int32) (y2 : Int32) (y3 : Int32) (y5 : Int32) (y6 : Int32) (y7 : Int32) (h : abJ) : Option (Int32 × abJ) := if (y7 - y7 / 6 * 6) = y1 then fX12_score_J158 k58 y1 y2 y3 y6 y7 y5 1 h else fX12_score_J158 k58 y1 y2 y3 y6 y7 y5 0 h
def fX12_score_J121  (k58 : Int32 → Int32 → Int32 → Int32 → Int32 → Int32 → abJ → Option (Int32 × abJ)) (y1 : Int32) (y2 : Int32) (y3 : Int32) (y5 : Int32) (y6 : Int32) (y7 : Int32) (h : abJ) : Option (Int32 × abJ) := if (y7 - y7 / 6 * 6) = y1 then fX12_score_J142 k58 y1 y2 y3 y5 y6 y7 h else if (y7 - y7 / 6 * 6) = y2 then fX12_score_J142 k58 y1 y2 y3 y5 y6 y7 h else some ((-5), h)
def fX12_score_L81  (k58 : Int32 → Int32 → Int32 → Int32 → Int32 → Int32 → abJ → Option (Int32 × abJ)) : Nat → Int32 → Int32 → Int32 → Int32 → Int32 → Int32 → Int32 → abJ → Option (Int32 × abJ)
  | 0, _, _, _, _, _, _, _, _ => none
  | n + 1, y1, y2, y3, y5, y6, y7, y8, h => if 4374 < y8 then fX12_score_J121 k58 y1 y2 y3 y5 y6 y7 h else if (y7 - y7 / 6 * 6) = y1 then fX12_score_J121 k58 y1 y2 y3 y5 y6 y7 h else if (y7 - y7 / 6 * 6) = y2 then fX12_score_J121 k58 y1 y2 y3 y5 y6 y7 h else (fX12_goesTo y7 h).bind (fun r17 => fX12_score_L81 k58 n y1 y2 y3 y5 y6 r17.1 ((y8 + 1)) r17.2)
def fX12_score_L58   : Nat → Int32 → Int32 → Int32 → Int32 → Int32 → Int32 → abJ → Option (Int32 × abJ)
  | 0, _, _, _, _, _, _, _ => none
  | n + 1, y1, y2, y3, y4, y5, y6, h => if y3 ≤ y6 then some (y5, h) else (fX12_standOf ((h.1 65 33)) y4 h).bind (fun r10 => fX12_score_L81 (fun y1 y2 y3 y4 y5 y6 h => fX12_score_L58 n y1 y2 y3 y4 y5 y6 h) ab_N y1 y2 y3 y5 y6 r10 0 h)
def fX12_score (x0 : Int32) (x1 : Int32) (x2 : Int32) (h : abJ) : Option (Int32 × abJ) := (fX12_isPost ((x0 : Int32).toInt64) (ab_wI h 64 0 0)).bind (fun r1 => if r1 = 0 then some ((-2), (ab_wI h 64 0 0)) else (fX12_isPost ((x1 : Int32).toInt64) (ab_wI h 64 0 0)).bind (fun r3 => if r3 = 0 then some ((-2), (ab_wI h 64 0 0)) else if x0 = x1 then some ((-2), (ab_wI h 64 0 0)) else (fX12_within ((x2 : Int32).toInt64) 0 999 (ab_wI h 64 0 0)).bind (fun r6 => if r6 = 0 then some ((-3), (ab_wI h 64 0 0)) else (fX12_armsNow (ab_wI h 64 0 0)).bind (fun r8 => fX12_score_L58 ab_N x0 x1 x2 r8 0 0 (ab_wI h 64 0 0)))))
set_option maxRecDepth 20000 in
theorem sX12_score_J158 (d : Nat) (X : abX) (k58 : Int32 → Int32 → Int32 → Int32 → Int32 → Int32 → abJ → Option (Int32 × abJ)) (hk58 : ∀ (y1 : Int32) (y2 : Int32) (y3 : Int32) (y4 : Int32) (y5 : Int32) (y6 : Int32) (h : abJ) (z : (Int32 × abJ)), k58 y1 y2 y3 y4 y5 y6 h = some z → ab_Ex X (d + 5) 287 58 [(0, .ref 64), (1, .int y1), (2, .int y2), (3, .int y3), (4, .int y4), (5, .int y5), (6, .int y6)] [] ab_SH (ab_dD h) (fun r => r = (some (.int z.1), ab_SH, ab_dD z.2))) : ∀ (y1 : Int32) (y2 : Int32) (y3 : Int32) (y6 : Int32) (y7 : Int32) (t0 : Int32) (t1 : Int32) (h : abJ) (z : (Int32 × abJ)), fX12_score_J158 k58 y1 y2 y3 y6 y7 t0 t1 h = some z → ab_Ex X (d + 5) 287 158 [(0, .ref 64), (1, .int y1), (2, .int y2), (3, .int y3), (6, .int y6), (7, .int y7)] [.int t1, .int t0] ab_SH (ab_dD h) (fun r => r = (some (.int z.1), ab_SH, ab_dD z.2)) := by
  intro y1 y2 y3 y6 y7 t0 t1 h z hf
  unfold fX12_score_J158 at hf
  refine ab_Ex.blk (k := 4) (pc' := 165) (lv' := [(5, .int ((t0 + t1))), (0, .ref 64), (1, .int y1), (2, .int y2), (3, .int y3), (6, .int y6), (7, .int y7)]) (st' := [.int 6, .int y7]) (sh' := ab_SH) (D' := ab_dD h) (fun n => rfl) ?_
  refine ab_Ex.blk (k := 1) (pc' := 166) (lv' := [(5, .int ((t0 + t1))), (0, .ref 64), (1, .int y1), (2, .int y2), (3, .int y3), (6, .int y6), (7, .int y7)]) (st' := [.int ((y7 / 6))]) (sh' := ab_SH) (D' := ab_dD h) (fun n => rfl) ?_
  refine ab_Ex.blk (k := 3) (pc' := 58) (lv' := [(0, .ref 64), (1, .int y1), (2, .int y2), (3, .int y3), (4, .int ((y7 / 6))), (5, .int ((t0 + t1))), (6, .int ((y6 + 1)))]) (st' := []) (sh' := ab_SH) (D' := ab_dD h) (fun n => rfl) ?_
  exact hk58 y1 y2 y3 ((y7 / 6)) ((t0 + t1)) ((y6 + 1)) h _ hf
set_option maxRecDepth 20000 in
theorem sX12_score_J142 (d : Nat) (X : abX) (k58 : Int32 → Int32 → Int32 → Int32 → Int32 → Int32 → abJ → Option (Int32 × abJ)) (hk58 : ∀ (y1 : Int32) (y2 : Int32) (y3 : Int32) (y4 : Int32) (y5 : Int32) (y6 : Int32) (h : abJ) (z : (Int32 × abJ)), k58 y1 y2 y3 y4 y5 y6 h = some z → ab_Ex X (d + 5) 287 58 [(0, .ref 64), (1, .int y1), (2, .int y2), (3, .int y3), (4, .int y4), (5, .int y5), (6, .int y6)] [] ab_SH (ab_dD h) (fun r => r = (some (.int z.1), ab_SH, ab_dD z.2))) : ∀ (y1 : Int32) (y2 : Int32) (y3 : Int32) (y5 : Int32) (y6 : Int32) (y7 : Int32) (h : abJ) (z : (Int32 × abJ)), fX12_score_J142 k58 y1 y2 y3 y5 y6 y7 h = some z → ab_Ex X (d + 5) 287 142 [(0, .ref 64), (1, .int y1), (2, .int y2), (3, .int y3), (5, .int y5), (6, .int y6), (7, .int y7)] [] ab_SH (ab_dD h) (fun r => r = (some (.int z.1), ab_SH, ab_dD z.2)) := by
  intro y1 y2 y3 y5 y6 y7 h z hf
  unfold fX12_score_J142 at hf
  refine ab_Ex.blk (k := 3) (pc' := 148) (lv' := [(0, .ref 64), (1, .int y1), (2, .int y2), (3, .int y3), (5, .int y5), (6, .int y6), (7, .int y7)]) (st' := [.int 6, .int y7, .int y5]) (sh' := ab_SH) (D' := ab_dD h) (fun n => rfl) ?_
  refine ab_Ex.blk (k := 1) (pc' := 149) (lv' := [(0, .ref 64), (1, .int y1), (2, .int y2), (3, .int y3), (5, .int y5), (6, .int y6), (7, .int y7)]) (st' := [.int ((y7 - y7 / 6 * 6)), .int y5]) (sh' := ab_SH) (D' := ab_dD h) (fun n => rfl) ?_
  refine ab_Ex.blk (k := 1) (pc' := 150) (lv' := [(0, .ref 64), (1, .int y1), (2, .int y2), (3, .int y3), (5, .int y5), (6, .int y6), (7, .int y7)]) (st' := [.int y1, .int ((y7 - y7 / 6 * 6)), .int y5]) (sh' := ab_SH) (D' := ab_dD h) (fun n => rfl) ?_
  refine ab_Ex.ifc (c := (y7 - y7 / 6 * 6) = y1) (SA := (153, [(0, .ref 64), (1, .int y1), (2, .int y2), (3, .int y3), (5, .int y5), (6, .int y6), (7, .int y7)], [.int y5], ab_dD h)) (SB := (157, [(0, .ref 64), (1, .int y1), (2, .int y2), (3, .int y3), (5, .int y5), (6, .int y6), (7, .int y7)], [.int y5], ab_dD h)) (fun n => rfl) (fun c13 => ?_) (fun c13 => ?_)
  · replace hf := (if_pos c13).symm.trans hf
    refine ab_Ex.blk (k := 2) (pc' := 158) (lv' := [(0, .ref 64), (1, .int y1), (2, .int y2), (3, .int y3), (6, .int y6), (7, .int y7)]) (st' := [.int 1, .int y5]) (sh' := ab_SH) (D' := ab_dD h) (fun n => rfl) ?_
    exact sX12_score_J158 d X k58 hk58 y1 y2 y3 y6 y7 y5 1 h _ hf
  · replace hf := (if_neg c13).symm.trans hf
    refine ab_Ex.blk (k := 1) (pc' := 158) (lv' := [(0, .ref 64), (1, .int y1), (2, .int y2), (3, .int y3), (6, .int y6), (7, .int y7)]) (st' := [.int 0, .int y5]) (sh' := ab_SH) (D' := ab_dD h) (fun n => rfl) ?_
    exact sX12_score_J158 d X k58 hk58 y1 y2 y3 y6 y7 y5 0 h _ hf
set_option maxRecDepth 20000 in
theorem sX12_score_J121 (d : Nat) (X : abX) (k58 : Int32 → Int32 → Int32 → Int32 → Int32 → Int32 → abJ → Option (Int32 × abJ)) (hk58 : ∀ (y1 : Int32) (y2 : Int32) (y3 : Int32) (y4 : Int32) (y5 : Int32) (y6 : Int32) (h : abJ) (z : (Int32 × abJ)), k58 y1 y2 y3 y4 y5 y6 h = some z → ab_Ex X (d + 5) 287 58 [(0, .ref 64), (1, .int y1), (2, .int y2), (3, .int y3), (4, .int y4), (5, .int y5), (6, .int y6)] [] ab_SH (ab_dD h) (fun r => r = (some (.int z.1), ab_SH, ab_dD z.2))) : ∀ (y1 : Int32) (y2 : Int32) (y3 : Int32) (y5 : Int32) (y6 : Int32) (y7 : Int32) (h : abJ) (z : (Int32 × abJ)), fX12_score_J121 k58 y1 y2 y3 y5 y6 y7 h = some z → ab_Ex X (d + 5) 287 121 [(0, .ref 64), (1, .int y1), (2, .int y2), (3, .int y3), (5, .int y5), (6, .int y6), (7, .int y7)] [] ab_SH (ab_dD h) (fun r => r = (some (.int z.1), ab_SH, ab_dD z.2)) := by
  intro y1 y2 y3 y5 y6 y7 h z hf
  unfold fX12_score_J121 at hf
  refine ab_Ex.blk (k := 2) (pc' := 125) (lv' := [(0, .ref 64), (1, .int y1), (2, .int y2), (3, .int y3), (5, .int y5), (6, .int y6), (7, .int y7)]) (st' := [.int 6, .int y7]) (sh' := ab_SH) (D' := ab_dD h) (fun n => rfl) ?_
  refine ab_Ex.blk (k := 1) (pc' := 126) (lv' := [(0, .ref 64), (1, .int y1), (2, .int y2), (3, .int y3), (5, .int y5), (6, .int y6), (7, .int y7)]) (st' := [.int ((y7 - y7 / 6 * 6))]) (sh' := ab_SH) (D' := ab_dD h) (fun n => rfl) ?_
  refine ab_Ex.blk (k := 1) (pc' := 127) (lv' := [(0, .ref 64), (1, .int y1), (2, .int y2), (3, .int y3), (5, .int y5), (6, .int y6), (7, .int y7)]) (st' := [.int y1, .int ((y7 - y7 / 6 * 6))]) (sh' := ab_SH) (D' := ab_dD h) (fun n => rfl) ?_
  refine ab_Ex.ifc (c := (y7 - y7 / 6 * 6) = y1) (SA := (142, [(0, .ref 64), (1, .int y1), (2, .int y2), (3, .int y3), (5, .int y5), (6, .int y6), (7, .int y7)], [], ab_dD h)) (SB := (130, [(0, .ref 64), (1, .int y1), (2, .int y2), (3, .int y3), (5, .int y5), (6, .int y6), (7, .int y7)], [], ab_dD h)) (fun n => rfl) (fun c12 => ?_) (fun c12 => ?_)
  · replace hf := (if_pos c12).symm.trans hf
    exact sX12_score_J142 d X k58 hk58 y1 y2 y3 y5 y6 y7 h _ hf
  · replace hf := (if_neg c12).symm.trans hf
    refine ab_Ex.blk (k := 2) (pc' := 134) (lv' := [(0, .ref 64), (1, .int y1), (2, .int y2), (3, .int y3), (5, .int y5), (6, .int y6), (7, .int y7)]) (st' := [.int 6, .int y7]) (sh' := ab_SH) (D' := ab_dD h) (fun n => rfl) ?_
    refine ab_Ex.blk (k := 1) (pc' := 135) (lv' := [(0, .ref 64), (1, .int y1), (2, .int y2), (3, .int y3), (5, .int y5), (6, .int y6), (7, .int y7)]) (st' := [.int ((y7 - y7 / 6 * 6))]) (sh' := ab_SH) (D' := ab_dD h) (fun n => rfl) ?_
    refine ab_Ex.blk (k := 1) (pc' := 136) (lv' := [(0, .ref 64), (1, .int y1), (2, .int y2), (3, .int y3), (5, .int y5), (6, .int y6), (7, .int y7)]) (st' := [.int y2, .int ((y7 - y7 / 6 * 6))]) (sh' := ab_SH) (D' := ab_dD h) (fun n => rfl) ?_
    refine ab_Ex.ifc (c := (y7 - y7 / 6 * 6) = y2) (SA := (142, [(0, .ref 64), (1, .int y1), (2, .int y2), (3, .int y3), (5, .int y5), (6, .int y6), (7, .int y7)], [], ab_dD h)) (SB := (139, [(0, .ref 64), (1, .int y1), (2, .int y2), (3, .int y3), (5, .int y5), (6, .int y6), (7, .int y7)], [], ab_dD h)) (fun n => rfl) (fun c14 => ?_) (fun c14 => ?_)
    · replace hf := (if_pos c14).symm.trans hf
      exact sX12_score_J142 d X k58 hk58 y1 y2 y3 y5 y6 y7 h _ hf
    · replace hf := (if_neg c14).symm.trans hf
      refine ab_Ex.blk (k := 1) (pc' := 141) (lv' := [(0, .ref 64), (1, .int y1), (2, .int y2), (3, .int y3), (5, .int y5), (6, .int y6), (7, .int y7)]) (st' := [.int ((-5))]) (sh' := ab_SH) (D' := ab_dD h) (fun n => rfl) ?_
      obtain rfl := Option.some.inj hf
      exact ab_Ex.ret (fun n => rfl) rfl
set_option maxRecDepth 20000 in
theorem sX12_score_L81 (d : Nat) (X : abX) (k58 : Int32 → Int32 → Int32 → Int32 → Int32 → Int32 → abJ → Option (Int32 × abJ)) (hk58 : ∀ (y1 : Int32) (y2 : Int32) (y3 : Int32) (y4 : Int32) (y5 : Int32) (y6 : Int32) (h : abJ) (z : (Int32 × abJ)), k58 y1 y2 y3 y4 y5 y6 h = some z → ab_Ex X (d + 5) 287 58 [(0, .ref 64), (1, .int y1), (2, .int y2), (3, .int y3), (4, .int y4), (5, .int y5), (6, .int y6)] [] ab_SH (ab_dD h) (fun r => r = (some (.int z.1), ab_SH, ab_dD z.2))) : ∀ (n : Nat), ∀ (y1 : Int32) (y2 : Int32) (y3 : Int32) (y5 : Int32) (y6 : Int32) (y7 : Int32) (y8 : Int32) (h : abJ) (z : (Int32 × abJ)), fX12_score_L81 k58 n y1 y2 y3 y5 y6 y7 y8 h = some z → ab_Ex X (d + 5) 287 81 [(0, .ref 64), (1, .int y1), (2, .int y2), (3, .int y3), (5, .int y5), (6, .int y6), (7, .int y7), (8, .int y8)] [] ab_SH (ab_dD h) (fun r => r = (some (.int z.1), ab_SH, ab_dD z.2)) := by
  intro n
  induction n with
  | zero => intro y1 y2 y3 y5 y6 y7 y8 h z hf; cases hf
  | succ n ih =>
    intro y1 y2 y3 y5 y6 y7 y8 h z hf
    rw [fX12_score_L81] at hf
    refine ab_Ex.blk (k := 2) (pc' := 86) (lv' := [(0, .ref 64), (1, .int y1), (2, .int y2), (3, .int y3), (5, .int y5), (6, .int y6), (7, .int y7), (8, .int y8)]) (st' := [.int 4374, .int y8]) (sh' := ab_SH) (D' := ab_dD h) (fun n => rfl) ?_
    refine ab_Ex.ifc (c := 4374 < y8) (SA := (121, [(0, .ref 64), (1, .int y1), (2, .int y2), (3, .int y3), (5, .int y5), (6, .int y6), (7, .int y7), (8, .int y8)], [], ab_dD h)) (SB := (89, [(0, .ref 64), (1, .int y1), (2, .int y2), (3, .int y3), (5, .int y5), (6, .int y6), (7, .int y7), (8, .int y8)], [], ab_dD h)) (fun n => rfl) (fun c11 => ?_) (fun c11 => ?_)
    · replace hf := (if_pos c11).symm.trans hf
      exact sX12_score_J121 d X k58 hk58 y1 y2 y3 y5 y6 y7 h _ hf
    · replace hf := (if_neg c11).symm.trans hf
      refine ab_Ex.blk (k := 2) (pc' := 93) (lv' := [(0, .ref 64), (1, .int y1), (2, .int y2), (3, .int y3), (5, .int y5), (6, .int y6), (7, .int y7), (8, .int y8)]) (st' := [.int 6, .int y7]) (sh' := ab_SH) (D' := ab_dD h) (fun n => rfl) ?_
      refine ab_Ex.blk (k := 1) (pc' := 94) (lv' := [(0, .ref 64), (1, .int y1), (2, .int y2), (3, .int y3), (5, .int y5), (6, .int y6), (7, .int y7), (8, .int y8)]) (st' := [.int ((y7 - y7 / 6 * 6))]) (sh' := ab_SH) (D' := ab_dD h) (fun n => rfl) ?_
      refine ab_Ex.blk (k := 1) (pc' := 95) (lv' := [(0, .ref 64), (1, .int y1), (2, .int y2), (3, .int y3), (5, .int y5), (6, .int y6), (7, .int y7), (8, .int y8)]) (st' := [.int y1, .int ((y7 - y7 / 6 * 6))]) (sh' := ab_SH) (D' := ab_dD h) (fun n => rfl) ?_
      refine ab_Ex.ifc (c := (y7 - y7 / 6 * 6) = y1) (SA := (121, [(0, .ref 64), (1, .int y1), (2, .int y2), (3, .int y3), (5, .int y5), (6, .int y6), (7, .int y7), (8, .int y8)], [], ab_dD h)) (SB := (98, [(0, .ref 64), (1, .int y1), (2, .int y2), (3, .int y3), (5, .int y5), (6, .int y6), (7, .int y7), (8, .int y8)], [], ab_dD h)) (fun n => rfl) (fun c15 => ?_) (fun c15 => ?_)
      · replace hf := (if_pos c15).symm.trans hf
        exact sX12_score_J121 d X k58 hk58 y1 y2 y3 y5 y6 y7 h _ hf
      · replace hf := (if_neg c15).symm.trans hf
        refine ab_Ex.blk (k := 2) (pc' := 102) (lv' := [(0, .ref 64), (1, .int y1), (2, .int y2), (3, .int y3), (5, .int y5), (6, .int y6), (7, .int y7), (8, .int y8)]) (st' := [.int 6, .int y7]) (sh' := ab_SH) (D' := ab_dD h) (fun n => rfl) ?_
        refine ab_Ex.blk (k := 1) (pc' := 103) (lv' := [(0, .ref 64), (1, .int y1), (2, .int y2), (3, .int y3), (5, .int y5), (6, .int y6), (7, .int y7), (8, .int y8)]) (st' := [.int ((y7 - y7 / 6 * 6))]) (sh' := ab_SH) (D' := ab_dD h) (fun n => rfl) ?_
        refine ab_Ex.blk (k := 1) (pc' := 104) (lv' := [(0, .ref 64), (1, .int y1), (2, .int y2), (3, .int y3), (5, .int y5), (6, .int y6), (7, .int y7), (8, .int y8)]) (st' := [.int y2, .int ((y7 - y7 / 6 * 6))]) (sh' := ab_SH) (D' := ab_dD h) (fun n => rfl) ?_
        refine ab_Ex.ifc (c := (y7 - y7 / 6 * 6) = y2) (SA := (121, [(0, .ref 64), (1, .int y1), (2, .int y2), (3, .int y3), (5, .int y5), (6, .int y6), (7, .int y7), (8, .int y8)], [], ab_dD h)) (SB := (107, [(0, .ref 64), (1, .int y1), (2, .int y2), (3, .int y3), (5, .int y5), (6, .int y6), (7, .int y7), (8, .int y8)], [], ab_dD h)) (fun n => rfl) (fun c16 => ?_) (fun c16 => ?_)
        · replace hf := (if_pos c16).symm.trans hf
          exact sX12_score_J121 d X k58 hk58 y1 y2 y3 y5 y6 y7 h _ hf
        · replace hf := (if_neg c16).symm.trans hf
          refine ab_Ex.blk (k := 2) (pc' := 110) (lv' := [(0, .ref 64), (1, .int y1), (2, .int y2), (3, .int y3), (5, .int y5), (6, .int y6), (7, .int y7), (8, .int y8)]) (st' := [.int y7, .ref 64]) (sh' := ab_SH) (D' := ab_dD h) (fun n => rfl) ?_
          obtain ⟨r17, hr17, hf⟩ := ab_bind_s hf
          refine ab_Ex.call (d := d + 4) (M2 := 225) (as := [.ref 64, .int y7]) (rest := []) (fun n => rfl) rfl (Nat.not_lt.mpr (Nat.le_of_ble_eq_true rfl)) (sX12_goesTo (d) X y7 h _ hr17) (fun r hr => ?_)
          subst hr
          show ab_Ex X (d + 5) 287 113 [(0, .ref 64), (1, .int y1), (2, .int y2), (3, .int y3), (5, .int y5), (6, .int y6), (7, .int y7), (8, .int y8)] [.int r17.1] ab_SH (ab_dD r17.2) _
          refine ab_Ex.blk (k := 3) (pc' := 81) (lv' := [(0, .ref 64), (1, .int y1), (2, .int y2), (3, .int y3), (5, .int y5), (6, .int y6), (7, .int r17.1), (8, .int ((y8 + 1)))]) (st' := []) (sh' := ab_SH) (D' := ab_dD r17.2) (fun n => rfl) ?_
          exact ih y1 y2 y3 y5 y6 r17.1 ((y8 + 1)) r17.2 _ hf
set_option maxRecDepth 20000 in
theorem sX12_score_L58 (d : Nat) (X : abX)   : ∀ (n : Nat), ∀ (y1 : Int32) (y2 : Int32) (y3 : Int32) (y4 : Int32) (y5 : Int32) (y6 : Int32) (h : abJ) (z : (Int32 × abJ)), fX12_score_L58 n y1 y2 y3 y4 y5 y6 h = some z → ab_Ex X (d + 5) 287 58 [(0, .ref 64), (1, .int y1), (2, .int y2), (3, .int y3), (4, .int y4), (5, .int y5), (6, .int y6)] [] ab_SH (ab_dD h) (fun r => r = (some (.int z.1), ab_SH, ab_dD z.2)) := by
  intro n
  induction n with
  | zero => intro y1 y2 y3 y4 y5 y6 h z hf; cases hf
  | succ n ih =>
    intro y1 y2 y3 y4 y5 y6 h z hf
    rw [fX12_score_L58] at hf
    refine ab_Ex.blk (k := 2) (pc' := 61) (lv' := [(0, .ref 64), (1, .int y1), (2, .int y2), (3, .int y3), (4, .int y4), (5, .int y5), (6, .int y6)]) (st' := [.int y3, .int y6]) (sh' := ab_SH) (D' := ab_dD h) (fun n => rfl) ?_
    refine ab_Ex.ifc (c := y3 ≤ y6) (SA := (174, [(0, .ref 64), (1, .int y1), (2, .int y2), (3, .int y3), (4, .int y4), (5, .int y5), (6, .int y6)], [], ab_dD h)) (SB := (64, [(0, .ref 64), (1, .int y1), (2, .int y2), (3, .int y3), (4, .int y4), (5, .int y5), (6, .int y6)], [], ab_dD h)) (fun n => rfl) (fun c9 => ?_) (fun c9 => ?_)
    · replace hf := (if_pos c9).symm.trans hf
      refine ab_Ex.blk (k := 1) (pc' := 176) (lv' := [(0, .ref 64), (1, .int y1), (2, .int y2), (3, .int y3), (4, .int y4), (5, .int y5), (6, .int y6)]) (st' := [.int y5]) (sh' := ab_SH) (D' := ab_dD h) (fun n => rfl) ?_
      obtain rfl := Option.some.inj hf
      exact ab_Ex.ret (fun n => rfl) rfl
    · replace hf := (if_neg c9).symm.trans hf
      refine ab_Ex.blk (k := 3) (pc' := 70) (lv' := [(0, .ref 64), (1, .int y1), (2, .int y2), (3, .int y3), (4, .int y4), (5, .int y5), (6, .int y6)]) (st' := [.int 33, .ref 65]) (sh' := ab_SH) (D' := ab_dD h) (fun n => rfl) ?_
      refine ab_Ex.blk (k := 1) (pc' := 71) (lv' := [(0, .ref 64), (1, .int y1), (2, .int y2), (3, .int y3), (4, .int y4), (5, .int y5), (6, .int y6)]) (st' := [.int ((h.1 65 33))]) (sh' := ab_SH) (D' := ab_dD h) (fun n => rfl) ?_
      refine ab_Ex.blk (k := 1) (pc' := 73) (lv' := [(0, .ref 64), (1, .int y1), (2, .int y2), (3, .int y3), (4, .int y4), (5, .int y5), (6, .int y6)]) (st' := [.int y4, .int ((h.1 65 33))]) (sh' := ab_SH) (D' := ab_dD h) (fun n => rfl) ?_
      obtain ⟨r10, hr10, hf⟩ := ab_bind_s hf
      refine ab_Ex.call (d := d + 4) (M2 := 215) (as := [.int ((h.1 65 33)), .int y4]) (rest := []) (fun n => rfl) rfl (Nat.not_lt.mpr (Nat.le_of_ble_eq_true rfl)) (sX12_standOf (d + 4) X ((h.1 65 33)) y4 h _ hr10) (fun r hr => ?_)
      subst hr
      show ab_Ex X (d + 5) 287 76 [(0, .ref 64), (1, .int y1), (2, .int y2), (3, .int y3), (4, .int y4), (5, .int y5), (6, .int y6)] [.int r10] ab_SH (ab_dD h) _
      refine ab_Ex.blk (k := 3) (pc' := 81) (lv' := [(0, .ref 64), (1, .int y1), (2, .int y2), (3, .int y3), (5, .int y5), (6, .int y6), (7, .int r10), (8, .int 0)]) (st' := []) (sh' := ab_SH) (D' := ab_dD h) (fun n => rfl) ?_
      exact sX12_score_L81 d X (fun y1 y2 y3 y4 y5 y6 h => fX12_score_L58 n y1 y2 y3 y4 y5 y6 h) (fun y1 y2 y3 y4 y5 y6 h z hz => ih y1 y2 y3 y4 y5 y6 h z hz) ab_N y1 y2 y3 y5 y6 r10 0 h _ hf
set_option maxRecDepth 20000 in
theorem sX12_score (d : Nat) (X : abX) (x0 : Int32) (x1 : Int32) (x2 : Int32) (h : abJ) (z : (Int32 × abJ)) (hf : fX12_score x0 x1 x2 h = some z) : ab_Ex X (d + 5) 287 0 [(0, .ref 64), (1, .int x0), (2, .int x1), (3, .int x2)] [] ab_SH (ab_dD h) (fun r => r = (some (.int z.1), ab_SH, ab_dD z.2)) := by
  unfold fX12_score at hf
  refine ab_Ex.blk (k := 6) (pc' := 8) (lv' := [(0, .ref 64), (1, .int x0), (2, .int x1), (3, .int x2)]) (st' := [.long ((x0 : Int32).toInt64), .ref 64]) (sh' := ab_SH) (D' := ab_dD (ab_wI h 64 0 0)) (fun n => rfl) ?_
  obtain ⟨r1, hr1, hf⟩ := ab_bind_s hf
  refine ab_Ex.call (d := d + 4) (M2 := 209) (as := [.ref 64, .long ((x0 : Int32).toInt64)]) (rest := []) (fun n => rfl) rfl (Nat.not_lt.mpr (Nat.le_of_ble_eq_true rfl)) (sX12_isPost (d + 3) X ((x0 : Int32).toInt64) (ab_wI h 64 0 0) _ hr1) (fun r hr => ?_)
  subst hr
  show ab_Ex X (d + 5) 287 11 [(0, .ref 64), (1, .int x0), (2, .int x1), (3, .int x2)] [.int r1] ab_SH (ab_dD (ab_wI h 64 0 0)) _
  refine ab_Ex.ifc (c := r1 = 0) (SA := (28, [(0, .ref 64), (1, .int x0), (2, .int x1), (3, .int x2)], [], ab_dD (ab_wI h 64 0 0))) (SB := (14, [(0, .ref 64), (1, .int x0), (2, .int x1), (3, .int x2)], [], ab_dD (ab_wI h 64 0 0))) (fun n => rfl) (fun c2 => ?_) (fun c2 => ?_)
  · replace hf := (if_pos c2).symm.trans hf
    refine ab_Ex.blk (k := 1) (pc' := 30) (lv' := []) (st' := [.int ((-2))]) (sh' := ab_SH) (D' := ab_dD (ab_wI h 64 0 0)) (fun n => rfl) ?_
    obtain rfl := Option.some.inj hf
    exact ab_Ex.ret (fun n => rfl) rfl
  · replace hf := (if_neg c2).symm.trans hf
    refine ab_Ex.blk (k := 3) (pc' := 17) (lv' := [(0, .ref 64), (1, .int x0), (2, .int x1), (3, .int x2)]) (st' := [.long ((x1 : Int32).toInt64), .ref 64]) (sh' := ab_SH) (D' := ab_dD (ab_wI h 64 0 0)) (fun n => rfl) ?_
    obtain ⟨r3, hr3, hf⟩ := ab_bind_s hf
    refine ab_Ex.call (d := d + 4) (M2 := 209) (as := [.ref 64, .long ((x1 : Int32).toInt64)]) (rest := []) (fun n => rfl) rfl (Nat.not_lt.mpr (Nat.le_of_ble_eq_true rfl)) (sX12_isPost (d + 3) X ((x1 : Int32).toInt64) (ab_wI h 64 0 0) _ hr3) (fun r hr => ?_)
    subst hr
    show ab_Ex X (d + 5) 287 20 [(0, .ref 64), (1, .int x0), (2, .int x1), (3, .int x2)] [.int r3] ab_SH (ab_dD (ab_wI h 64 0 0)) _
    refine ab_Ex.ifc (c := r3 = 0) (SA := (28, [(0, .ref 64), (1, .int x0), (2, .int x1), (3, .int x2)], [], ab_dD (ab_wI h 64 0 0))) (SB := (23, [(0, .ref 64), (1, .int x0), (2, .int x1), (3, .int x2)], [], ab_dD (ab_wI h 64 0 0))) (fun n => rfl) (fun c4 => ?_) (fun c4 => ?_)
    · replace hf := (if_pos c4).symm.trans hf
      refine ab_Ex.blk (k := 1) (pc' := 30) (lv' := []) (st' := [.int ((-2))]) (sh' := ab_SH) (D' := ab_dD (ab_wI h 64 0 0)) (fun n => rfl) ?_
      obtain rfl := Option.some.inj hf
      exact ab_Ex.ret (fun n => rfl) rfl
    · replace hf := (if_neg c4).symm.trans hf
      refine ab_Ex.blk (k := 2) (pc' := 25) (lv' := [(0, .ref 64), (1, .int x0), (2, .int x1), (3, .int x2)]) (st' := [.int x1, .int x0]) (sh' := ab_SH) (D' := ab_dD (ab_wI h 64 0 0)) (fun n => rfl) ?_
      refine ab_Ex.ifc (c := x0 = x1) (SA := (28, [(0, .ref 64), (1, .int x0), (2, .int x1), (3, .int x2)], [], ab_dD (ab_wI h 64 0 0))) (SB := (31, [(0, .ref 64), (1, .int x0), (2, .int x1), (3, .int x2)], [], ab_dD (ab_wI h 64 0 0))) (fun n => rfl) (fun c5 => ?_) (fun c5 => ?_)
      · replace hf := (if_pos c5).symm.trans hf
        refine ab_Ex.blk (k := 1) (pc' := 30) (lv' := []) (st' := [.int ((-2))]) (sh' := ab_SH) (D' := ab_dD (ab_wI h 64 0 0)) (fun n => rfl) ?_
        obtain rfl := Option.some.inj hf
        exact ab_Ex.ret (fun n => rfl) rfl
      · replace hf := (if_neg c5).symm.trans hf
        refine ab_Ex.blk (k := 4) (pc' := 37) (lv' := [(0, .ref 64), (1, .int x0), (2, .int x1), (3, .int x2)]) (st' := [.long 999, .long 0, .long ((x2 : Int32).toInt64)]) (sh' := ab_SH) (D' := ab_dD (ab_wI h 64 0 0)) (fun n => rfl) ?_
        obtain ⟨r6, hr6, hf⟩ := ab_bind_s hf
        refine ab_Ex.call (d := d + 4) (M2 := 175) (as := [.long ((x2 : Int32).toInt64), .long 0, .long 999]) (rest := []) (fun n => rfl) rfl (Nat.not_lt.mpr (Nat.le_of_ble_eq_true rfl)) (sX12_within (d + 4) X ((x2 : Int32).toInt64) 0 999 (ab_wI h 64 0 0) _ hr6) (fun r hr => ?_)
        subst hr
        show ab_Ex X (d + 5) 287 40 [(0, .ref 64), (1, .int x0), (2, .int x1), (3, .int x2)] [.int r6] ab_SH (ab_dD (ab_wI h 64 0 0)) _
        refine ab_Ex.ifc (c := r6 = 0) (SA := (43, [(0, .ref 64), (1, .int x0), (2, .int x1), (3, .int x2)], [], ab_dD (ab_wI h 64 0 0))) (SB := (46, [(0, .ref 64), (1, .int x0), (2, .int x1), (3, .int x2)], [], ab_dD (ab_wI h 64 0 0))) (fun n => rfl) (fun c7 => ?_) (fun c7 => ?_)
        · replace hf := (if_pos c7).symm.trans hf
          refine ab_Ex.blk (k := 1) (pc' := 45) (lv' := [(0, .ref 64), (1, .int x0), (2, .int x1), (3, .int x2)]) (st' := [.int ((-3))]) (sh' := ab_SH) (D' := ab_dD (ab_wI h 64 0 0)) (fun n => rfl) ?_
          obtain rfl := Option.some.inj hf
          exact ab_Ex.ret (fun n => rfl) rfl
        · replace hf := (if_neg c7).symm.trans hf
          refine ab_Ex.blk (k := 1) (pc' := 47) (lv' := [(0, .ref 64), (1, .int x0), (2, .int x1), (3, .int x2)]) (st' := [.ref 64]) (sh' := ab_SH) (D' := ab_dD (ab_wI h 64 0 0)) (fun n => rfl) ?_
          obtain ⟨r8, hr8, hf⟩ := ab_bind_s hf
          refine ab_Ex.call (d := d + 4) (M2 := 214) (as := [.ref 64]) (rest := []) (fun n => rfl) rfl (Nat.not_lt.mpr (Nat.le_of_ble_eq_true rfl)) (sX12_armsNow (d + 3) X  (ab_wI h 64 0 0) _ hr8) (fun r hr => ?_)
          subst hr
          show ab_Ex X (d + 5) 287 50 [(0, .ref 64), (1, .int x0), (2, .int x1), (3, .int x2)] [.int r8] ab_SH (ab_dD (ab_wI h 64 0 0)) _
          refine ab_Ex.blk (k := 5) (pc' := 58) (lv' := [(0, .ref 64), (1, .int x0), (2, .int x1), (3, .int x2), (4, .int r8), (5, .int 0), (6, .int 0)]) (st' := []) (sh' := ab_SH) (D' := ab_dD (ab_wI h 64 0 0)) (fun n => rfl) ?_
          exact sX12_score_L58 d X  ab_N x0 x1 x2 r8 0 0 (ab_wI h 64 0 0) _ hf
def fX12_otherAt_J47  (h : abJ) (k4 : Int32 → Int32 → Int32 → Option Int32) (y1 : Int32) (y3 : Int32) (t0 : Int32) : Option Int32 := k4 y1 t0 ((y3 + 1))
def fX12_otherAt_L4  (h : abJ)  : Nat → Int32 → Int32 → Int32 → Option Int32
  | 0, _, _, _ => none
  | n + 1, y1, y2, y3 => ab_ask ((9 + y1) < 0 ∨ 3102 ≤ ((9 + y1) : Int32).toNatClampNeg) (if (h.1 65 ((9 + y1) : Int32).toNatClampNeg) ≤ y3 then if y2 < 268435456 then some (y2 + 1) else some 268435456 else (fX12_roadOf y1 y3 h).bind (fun r5 => ab_ask (r5 < 0 ∨ 6 ≤ (r5 : Int32).toNatClampNeg) (if (h.1 83 (r5 : Int32).toNatClampNeg) ≤ y2 then fX12_otherAt_J47 h (fun y1 y2 y3 => fX12_otherAt_L4 h n y1 y2 y3) y1 y3 y2 else (fX12_roadOf y1 y3 h).bind (fun r9 => ab_ask (r9 < 0 ∨ 6 ≤ (r9 : Int32).toNatClampNeg) (fX12_otherAt_J47 h (fun y1 y2 y3 => fX12_otherAt_L4 h n y1 y2 y3) y1 y3 ((h.1 83 (r9 : Int32).toNatClampNeg)))))))
def fX12_otherAt (x0 : Int32) (h : abJ) : Option Int32 := fX12_otherAt_L4 h ab_N x0 0 0
set_option maxRecDepth 20000 in
theorem sX12_otherAt_J47 (d : Nat) (X : abX) (h : abJ) (k4 : Int32 → Int32 → Int32 → Option Int32) (hk4 : ∀ (y1 : Int32) (y2 : Int32) (y3 : Int32) (z : Int32), k4 y1 y2 y3 = some z → ab_Ex X (d + 1) 288 4 [(0, .ref 64), (1, .int y1), (2, .int y2), (3, .int y3)] [] ab_SH (ab_dD h) (fun r => r = (some (.int z), ab_SH, ab_dD h))) : ∀ (y1 : Int32) (y3 : Int32) (t0 : Int32) (z : Int32), fX12_otherAt_J47 h k4 y1 y3 t0 = some z → ab_Ex X (d + 1) 288 47 [(0, .ref 64), (1, .int y1), (3, .int y3)] [.int t0] ab_SH (ab_dD h) (fun r => r = (some (.int z), ab_SH, ab_dD h)) := by
  intro y1 y3 t0 z hf
  unfold fX12_otherAt_J47 at hf
  refine ab_Ex.blk (k := 3) (pc' := 4) (lv' := [(0, .ref 64), (1, .int y1), (2, .int t0), (3, .int ((y3 + 1)))]) (st' := []) (sh' := ab_SH) (D' := ab_dD h) (fun n => rfl) ?_
  exact hk4 y1 t0 ((y3 + 1)) _ hf
set_option maxRecDepth 20000 in
theorem sX12_otherAt_L4 (d : Nat) (X : abX) (h : abJ)   : ∀ (n : Nat), ∀ (y1 : Int32) (y2 : Int32) (y3 : Int32) (z : Int32), fX12_otherAt_L4 h n y1 y2 y3 = some z → ab_Ex X (d + 1) 288 4 [(0, .ref 64), (1, .int y1), (2, .int y2), (3, .int y3)] [] ab_SH (ab_dD h) (fun r => r = (some (.int z), ab_SH, ab_dD h)) := by
  intro n
  induction n with
  | zero => intro y1 y2 y3 z hf; cases hf
  | succ n ih =>
    intro y1 y2 y3 z hf
    rw [fX12_otherAt_L4] at hf
    refine ab_Ex.blk (k := 6) (pc' := 13) (lv' := [(0, .ref 64), (1, .int y1), (2, .int y2), (3, .int y3)]) (st' := [.int ((9 + y1)), .ref 65, .int y3]) (sh' := ab_SH) (D' := ab_dD h) (fun n => rfl) ?_
    obtain ⟨c2, hf⟩ := ab_ask_s hf
    refine ab_Ex.grd (c := (9 + y1) < 0 ∨ 3102 ≤ ((9 + y1) : Int32).toNatClampNeg) (S := (14, [(0, .ref 64), (1, .int y1), (2, .int y2), (3, .int y3)], [.int ((h.1 65 ((9 + y1) : Int32).toNatClampNeg)), .int y3], ab_dD h)) (fun n => rfl) c2 ?_
    refine ab_Ex.ifc (c := (h.1 65 ((9 + y1) : Int32).toNatClampNeg) ≤ y3) (SA := (54, [(0, .ref 64), (1, .int y1), (2, .int y2), (3, .int y3)], [], ab_dD h)) (SB := (17, [(0, .ref 64), (1, .int y1), (2, .int y2), (3, .int y3)], [], ab_dD h)) (fun n => rfl) (fun c3 => ?_) (fun c3 => ?_)
    · replace hf := (if_pos c3).symm.trans hf
      refine ab_Ex.blk (k := 2) (pc' := 58) (lv' := [(0, .ref 64), (1, .int y1), (2, .int y2), (3, .int y3)]) (st' := [.int 268435456, .int y2]) (sh' := ab_SH) (D' := ab_dD h) (fun n => rfl) ?_
      refine ab_Ex.ifc (c := y2 < 268435456) (SA := (67, [(0, .ref 64), (1, .int y1), (2, .int y2), (3, .int y3)], [], ab_dD h)) (SB := (61, [(0, .ref 64), (1, .int y1), (2, .int y2), (3, .int y3)], [], ab_dD h)) (fun n => rfl) (fun c4 => ?_) (fun c4 => ?_)
      · replace hf := (if_pos c4).symm.trans hf
        refine ab_Ex.blk (k := 3) (pc' := 70) (lv' := []) (st' := [.int ((y2 + 1))]) (sh' := ab_SH) (D' := ab_dD h) (fun n => rfl) ?_
        obtain rfl := Option.some.inj hf
        exact ab_Ex.ret (fun n => rfl) rfl
      · replace hf := (if_neg c4).symm.trans hf
        refine ab_Ex.blk (k := 2) (pc' := 70) (lv' := []) (st' := [.int 268435456]) (sh' := ab_SH) (D' := ab_dD h) (fun n => rfl) ?_
        obtain rfl := Option.some.inj hf
        exact ab_Ex.ret (fun n => rfl) rfl
    · replace hf := (if_neg c3).symm.trans hf
      refine ab_Ex.blk (k := 5) (pc' := 24) (lv' := [(0, .ref 64), (1, .int y1), (2, .int y2), (3, .int y3)]) (st' := [.int y3, .int y1, .ref 64, .ref 83]) (sh' := ab_SH) (D' := ab_dD h) (fun n => rfl) ?_
      obtain ⟨r5, hr5, hf⟩ := ab_bind_s hf
      refine ab_Ex.call (d := d + 0) (M2 := 218) (as := [.ref 64, .int y1, .int y3]) (rest := [.ref 83]) (fun n => rfl) rfl (Nat.not_lt.mpr (Nat.le_of_ble_eq_true rfl)) (sX12_roadOf (d) X y1 y3 h _ hr5) (fun r hr => ?_)
      subst hr
      show ab_Ex X (d + 1) 288 27 [(0, .ref 64), (1, .int y1), (2, .int y2), (3, .int y3)] [.int r5, .ref 83] ab_SH (ab_dD h) _
      obtain ⟨c7, hf⟩ := ab_ask_s hf
      refine ab_Ex.grd (c := r5 < 0 ∨ 6 ≤ (r5 : Int32).toNatClampNeg) (S := (28, [(0, .ref 64), (1, .int y1), (2, .int y2), (3, .int y3)], [.int ((h.1 83 (r5 : Int32).toNatClampNeg))], ab_dD h)) (fun n => rfl) c7 ?_
      refine ab_Ex.blk (k := 1) (pc' := 29) (lv' := [(0, .ref 64), (1, .int y1), (2, .int y2), (3, .int y3)]) (st' := [.int y2, .int ((h.1 83 (r5 : Int32).toNatClampNeg))]) (sh' := ab_SH) (D' := ab_dD h) (fun n => rfl) ?_
      refine ab_Ex.ifc (c := (h.1 83 (r5 : Int32).toNatClampNeg) ≤ y2) (SA := (46, [(0, .ref 64), (1, .int y1), (2, .int y2), (3, .int y3)], [], ab_dD h)) (SB := (32, [(0, .ref 64), (1, .int y1), (2, .int y2), (3, .int y3)], [], ab_dD h)) (fun n => rfl) (fun c8 => ?_) (fun c8 => ?_)
      · replace hf := (if_pos c8).symm.trans hf
        refine ab_Ex.blk (k := 1) (pc' := 47) (lv' := [(0, .ref 64), (1, .int y1), (3, .int y3)]) (st' := [.int y2]) (sh' := ab_SH) (D' := ab_dD h) (fun n => rfl) ?_
        exact sX12_otherAt_J47 d X h (fun y1 y2 y3 => fX12_otherAt_L4 h n y1 y2 y3) (fun y1 y2 y3 z hz => ih y1 y2 y3 z hz) y1 y3 y2 _ hf
      · replace hf := (if_neg c8).symm.trans hf
        refine ab_Ex.blk (k := 5) (pc' := 39) (lv' := [(0, .ref 64), (1, .int y1), (2, .int y2), (3, .int y3)]) (st' := [.int y3, .int y1, .ref 64, .ref 83]) (sh' := ab_SH) (D' := ab_dD h) (fun n => rfl) ?_
        obtain ⟨r9, hr9, hf⟩ := ab_bind_s hf
        refine ab_Ex.call (d := d + 0) (M2 := 218) (as := [.ref 64, .int y1, .int y3]) (rest := [.ref 83]) (fun n => rfl) rfl (Nat.not_lt.mpr (Nat.le_of_ble_eq_true rfl)) (sX12_roadOf (d) X y1 y3 h _ hr9) (fun r hr => ?_)
        subst hr
        show ab_Ex X (d + 1) 288 42 [(0, .ref 64), (1, .int y1), (2, .int y2), (3, .int y3)] [.int r9, .ref 83] ab_SH (ab_dD h) _
        obtain ⟨c11, hf⟩ := ab_ask_s hf
        refine ab_Ex.grd (c := r9 < 0 ∨ 6 ≤ (r9 : Int32).toNatClampNeg) (S := (43, [(0, .ref 64), (1, .int y1), (2, .int y2), (3, .int y3)], [.int ((h.1 83 (r9 : Int32).toNatClampNeg))], ab_dD h)) (fun n => rfl) c11 ?_
        refine ab_Ex.blk (k := 1) (pc' := 47) (lv' := [(0, .ref 64), (1, .int y1), (3, .int y3)]) (st' := [.int ((h.1 83 (r9 : Int32).toNatClampNeg))]) (sh' := ab_SH) (D' := ab_dD h) (fun n => rfl) ?_
        exact sX12_otherAt_J47 d X h (fun y1 y2 y3 => fX12_otherAt_L4 h n y1 y2 y3) (fun y1 y2 y3 z hz => ih y1 y2 y3 z hz) y1 y3 ((h.1 83 (r9 : Int32).toNatClampNeg)) _ hf
set_option maxRecDepth 20000 in
theorem sX12_otherAt (d : Nat) (X : abX) (x0 : Int32) (h : abJ) (z : Int32) (hf : fX12_otherAt x0 h = some z) : ab_Ex X (d + 1) 288 0 [(0, .ref 64), (1, .int x0)] [] ab_SH (ab_dD h) (fun r => r = (some (.int z), ab_SH, ab_dD h)) := by
  unfold fX12_otherAt at hf
  refine ab_Ex.blk (k := 4) (pc' := 4) (lv' := [(0, .ref 64), (1, .int x0), (2, .int 0), (3, .int 0)]) (st' := []) (sh' := ab_SH) (D' := ab_dD h) (fun n => rfl) ?_
  exact sX12_otherAt_L4 d X h ab_N x0 0 0 _ hf
def fX12_firstBy (x0 : Int32) (x1 : Int32) (h : abJ) : Option Int32 := (fX12_roadOf x0 x1 h).bind (fun r1 => ab_ask (r1 < 0 ∨ 6 ≤ (r1 : Int32).toNatClampNeg) (if (h.1 84 (r1 : Int32).toNatClampNeg) < 268435456 then some ((h.1 84 (r1 : Int32).toNatClampNeg) + 1) else some 268435456))
set_option maxRecDepth 20000 in
theorem sX12_firstBy (d : Nat) (X : abX) (x0 : Int32) (x1 : Int32) (h : abJ) (z : Int32) (hf : fX12_firstBy x0 x1 h = some z) : ab_Ex X (d + 1) 289 0 [(0, .ref 64), (1, .int x0), (2, .int x1)] [] ab_SH (ab_dD h) (fun r => r = (some (.int z), ab_SH, ab_dD h)) := by
  unfold fX12_firstBy at hf
  refine ab_Ex.blk (k := 5) (pc' := 7) (lv' := [(0, .ref 64), (1, .int x0), (2, .int x1)]) (st' := [.int x1, .int x0, .ref 64, .ref 84]) (sh' := ab_SH) (D' := ab_dD h) (fun n => rfl) ?_
  obtain ⟨r1, hr1, hf⟩ := ab_bind_s hf
  refine ab_Ex.call (d := d + 0) (M2 := 218) (as := [.ref 64, .int x0, .int x1]) (rest := [.ref 84]) (fun n => rfl) rfl (Nat.not_lt.mpr (Nat.le_of_ble_eq_true rfl)) (sX12_roadOf (d) X x0 x1 h _ hr1) (fun r hr => ?_)
  subst hr
  show ab_Ex X (d + 1) 289 10 [(0, .ref 64), (1, .int x0), (2, .int x1)] [.int r1, .ref 84] ab_SH (ab_dD h) _
  obtain ⟨c3, hf⟩ := ab_ask_s hf
  refine ab_Ex.grd (c := r1 < 0 ∨ 6 ≤ (r1 : Int32).toNatClampNeg) (S := (11, [(0, .ref 64), (1, .int x0), (2, .int x1)], [.int ((h.1 84 (r1 : Int32).toNatClampNeg))], ab_dD h)) (fun n => rfl) c3 ?_
  refine ab_Ex.blk (k := 3) (pc' := 16) (lv' := [(3, .int ((h.1 84 (r1 : Int32).toNatClampNeg))), (0, .ref 64), (1, .int x0), (2, .int x1)]) (st' := [.int 268435456, .int ((h.1 84 (r1 : Int32).toNatClampNeg))]) (sh' := ab_SH) (D' := ab_dD h) (fun n => rfl) ?_
  refine ab_Ex.ifc (c := (h.1 84 (r1 : Int32).toNatClampNeg) < 268435456) (SA := (25, [(3, .int ((h.1 84 (r1 : Int32).toNatClampNeg))), (0, .ref 64), (1, .int x0), (2, .int x1)], [], ab_dD h)) (SB := (19, [(3, .int ((h.1 84 (r1 : Int32).toNatClampNeg))), (0, .ref 64), (1, .int x0), (2, .int x1)], [], ab_dD h)) (fun n => rfl) (fun c4 => ?_) (fun c4 => ?_)
  · replace hf := (if_pos c4).symm.trans hf
    refine ab_Ex.blk (k := 3) (pc' := 28) (lv' := []) (st' := [.int (((h.1 84 (r1 : Int32).toNatClampNeg) + 1))]) (sh' := ab_SH) (D' := ab_dD h) (fun n => rfl) ?_
    obtain rfl := Option.some.inj hf
    exact ab_Ex.ret (fun n => rfl) rfl
  · replace hf := (if_neg c4).symm.trans hf
    refine ab_Ex.blk (k := 2) (pc' := 28) (lv' := []) (st' := [.int 268435456]) (sh' := ab_SH) (D' := ab_dD h) (fun n => rfl) ?_
    obtain rfl := Option.some.inj hf
    exact ab_Ex.ret (fun n => rfl) rfl
def fX12_laysForce_J210  (k54 : Int32 → Int32 → Int32 → abJ → Option (Int32 × abJ)) (y1 : Int32) (y2 : Int32) (y3 : Int32) (h : abJ) : Option (Int32 × abJ) := k54 y1 y2 ((y3 + 1)) h
def fX12_laysForce_J209  (k54 : Int32 → Int32 → Int32 → abJ → Option (Int32 × abJ)) (y1 : Int32) (y2 : Int32) (y3 : Int32) (t1 : Int32) (t2 : Int32) (h : abJ) : Option (Int32 × abJ) := ab_ask (t1 < 0 ∨ 6 ≤ (t1 : Int32).toNatClampNeg) (fX12_laysForce_J210 k54 y1 y2 y3 (ab_wI h 84 (t1 : Int32).toNatClampNeg t2))
def fX12_laysForce_J172  (k54 : Int32 → Int32 → Int32 → abJ → Option (Int32 × abJ)) (y1 : Int32) (y3 : Int32) (y4 : Int32) (y5 : Int32) (t0 : Int32) (t1 : Int32) (h : abJ) : Option (Int32 × abJ) := ab_ask (y3 < 0 ∨ 6 ≤ (y3 : Int32).toNatClampNeg) (ab_ask (y3 < 0 ∨ 6 ≤ (y3 : Int32).toNatClampNeg) (if ((ab_wI h 83 (y3 : Int32).toNatClampNeg y5).1 84 (y3 : Int32).toNatClampNeg) ≤ y4 then ab_ask (y3 < 0 ∨ 6 ≤ (y3 : Int32).toNatClampNeg) (fX12_laysForce_J209 k54 y1 ((t0 ||| t1)) y3 y3 (((ab_wI h 83 (y3 : Int32).toNatClampNeg y5).1 84 (y3 : Int32).toNatClampNeg)) (ab_wI h 83 (y3 : Int32).toNatClampNeg y5)) else fX12_laysForce_J209 k54 y1 ((t0 ||| t1)) y3 y3 y4 (ab_wI h 83 (y3 : Int32).toNatClampNeg y5)))
def fX12_laysForce_J167  (k54 : Int32 → Int32 → Int32 → abJ → Option (Int32 × abJ)) (y1 : Int32) (y3 : Int32) (y4 : Int32) (y5 : Int32) (t0 : Int32) (h : abJ) : Option (Int32 × abJ) := fX12_laysForce_J172 k54 y1 y3 y4 y5 t0 1 h
def fX12_laysForce_J136  (k98 : Int32 → Int32 → Int32 → Int32 → Int32 → Int32 → abJ → Option (Int32 × abJ)) (y1 : Int32) (y2 : Int32) (y3 : Int32) (y4 : Int32) (y6 : Int32) (t0 : Int32) (h : abJ) : Option (Int32 × abJ) := k98 y1 y2 y3 y4 t0 ((y6 + 1)) h
def fX12_laysForce_L98  (k54 : Int32 → Int32 → Int32 → abJ → Option (Int32 × abJ)) : Nat → Int32 → Int32 → Int32 → Int32 → Int32 → Int32 → abJ → Option (Int32 × abJ)
  | 0, _, _, _, _, _, _, _ => none
  | n + 1, y1, y2, y3, y4, y5, y6, h => ab_ask ((9 + y3) < 0 ∨ 3102 ≤ ((9 + y3) : Int32).toNatClampNeg) (if (h.1 65 ((9 + y3) : Int32).toNatClampNeg) ≤ y6 then ab_ask (y3 < 0 ∨ 6 ≤ (y3 : Int32).toNatClampNeg) (if y5 < (h.1 83 (y3 : Int32).toNatClampNeg) then fX12_laysForce_J167 k54 y1 y3 y4 y5 y2 h else ab_ask (y3 < 0 ∨ 6 ≤ (y3 : Int32).toNatClampNeg) (if (h.1 84 (y3 : Int32).toNatClampNeg) ≤ y4 then fX12_laysForce_J172 k54 y1 y3 y4 y5 y2 0 h else fX12_laysForce_J167 k54 y1 y3 y4 y5 y2 h)) else (fX12_firstBy y3 y6 h).bind (fun r28 => if y5 ≤ r28 then fX12_laysForce_J136 (fun y1 y2 y3 y4 y5 y6 h => fX12_laysForce_L98 k54 n y1 y2 y3 y4 y5 y6 h) y1 y2 y3 y4 y6 y5 h else (fX12_firstBy y3 y6 h).bind (fun r30 => fX12_laysForce_J136 (fun y1 y2 y3 y4 y5 y6 h => fX12_laysForce_L98 k54 n y1 y2 y3 y4 y5 y6 h) y1 y2 y3 y4 y6 r30 h)))
def fX12_laysForce_L54  (k46 : Int32 → Int32 → abJ → Option (Int32 × abJ)) : Nat → Int32 → Int32 → Int32 → abJ → Option (Int32 × abJ)
  | 0, _, _, _, _ => none
  | n + 1, y1, y2, y3, h => if (h.1 65 1) ≤ y3 then k46 y1 y2 h else if y3 = y1 then fX12_laysForce_J210 (fun y1 y2 y3 h => fX12_laysForce_L54 k46 n y1 y2 y3 h) y1 y2 y3 h else (fX12_isRest y3 h).bind (fun r7 => if r7 = 0 then (fX12_otherAt y3 h).bind (fun r9 => ab_ask (y3 < 0 ∨ 6 ≤ (y3 : Int32).toNatClampNeg) (fX12_laysForce_L98 (fun y1 y2 y3 h => fX12_laysForce_L54 k46 n y1 y2 y3 h) ab_N y1 y2 y3 r9 ((h.1 83 (y3 : Int32).toNatClampNeg)) 0 h)) else fX12_laysForce_J210 (fun y1 y2 y3 h => fX12_laysForce_L54 k46 n y1 y2 y3 h) y1 y2 y3 h)
def fX12_laysForce_L46   : Nat → Int32 → Int32 → abJ → Option (Int32 × abJ)
  | 0, _, _, _ => none
  | n + 1, y1, y2, h => if y2 = 0 then ab_ask ((h.1 65 33) < 0 ∨ 6 ≤ ((h.1 65 33) : Int32).toNatClampNeg) (some ((h.1 83 ((h.1 65 33) : Int32).toNatClampNeg), h)) else fX12_laysForce_L54 (fun y1 y2 h => fX12_laysForce_L46 n y1 y2 h) ab_N y1 0 0 h
def fX12_laysForce_J25  (k2 : Int32 → Int32 → abJ → Option (Int32 × abJ)) (y1 : Int32) (y2 : Int32) (t1 : Int32) (t2 : Int32) (h : abJ) : Option (Int32 × abJ) := ab_ask (t1 < 0 ∨ 6 ≤ (t1 : Int32).toNatClampNeg) (ab_ask (y2 < 0 ∨ 6 ≤ (y2 : Int32).toNatClampNeg) (ab_ask (y2 < 0 ∨ 6 ≤ (y2 : Int32).toNatClampNeg) (k2 y1 ((y2 + 1)) (ab_wI (ab_wI h 83 (t1 : Int32).toNatClampNeg t2) 84 (y2 : Int32).toNatClampNeg ((ab_wI h 83 (t1 : Int32).toNatClampNeg t2).1 83 (y2 : Int32).toNatClampNeg)))))
def fX12_laysForce_L2   : Nat → Int32 → Int32 → abJ → Option (Int32 × abJ)
  | 0, _, _, _ => none
  | n + 1, y1, y2, h => if 6 ≤ y2 then fX12_laysForce_L46 ab_N y1 1 h else if y2 = y1 then fX12_laysForce_J25 (fun y1 y2 h => fX12_laysForce_L2 n y1 y2 h) y1 y2 y2 0 h else fX12_laysForce_J25 (fun y1 y2 h => fX12_laysForce_L2 n y1 y2 h) y1 y2 y2 268435456 h
def fX12_laysForce (x0 : Int32) (h : abJ) : Option (Int32 × abJ) := fX12_laysForce_L2 ab_N x0 0 h
set_option maxRecDepth 20000 in
theorem sX12_laysForce_J210 (d : Nat) (X : abX) (k54 : Int32 → Int32 → Int32 → abJ → Option (Int32 × abJ)) (hk54 : ∀ (y1 : Int32) (y2 : Int32) (y3 : Int32) (h : abJ) (z : (Int32 × abJ)), k54 y1 y2 y3 h = some z → ab_Ex X (d + 2) 290 54 [(0, .ref 64), (1, .int y1), (2, .int y2), (3, .int y3)] [] ab_SH (ab_dD h) (fun r => r = (some (.int z.1), ab_SH, ab_dD z.2))) : ∀ (y1 : Int32) (y2 : Int32) (y3 : Int32) (h : abJ) (z : (Int32 × abJ)), fX12_laysForce_J210 k54 y1 y2 y3 h = some z → ab_Ex X (d + 2) 290 210 [(0, .ref 64), (1, .int y1), (2, .int y2), (3, .int y3)] [] ab_SH (ab_dD h) (fun r => r = (some (.int z.1), ab_SH, ab_dD z.2)) := by
  intro y1 y2 y3 h z hf
  unfold fX12_laysForce_J210 at hf
  refine ab_Ex.blk (k := 2) (pc' := 54) (lv' := [(0, .ref 64), (1, .int y1), (2, .int y2), (3, .int ((y3 + 1)))]) (st' := []) (sh' := ab_SH) (D' := ab_dD h) (fun n => rfl) ?_
  exact hk54 y1 y2 ((y3 + 1)) h _ hf
set_option maxRecDepth 20000 in
theorem sX12_laysForce_J209 (d : Nat) (X : abX) (k54 : Int32 → Int32 → Int32 → abJ → Option (Int32 × abJ)) (hk54 : ∀ (y1 : Int32) (y2 : Int32) (y3 : Int32) (h : abJ) (z : (Int32 × abJ)), k54 y1 y2 y3 h = some z → ab_Ex X (d + 2) 290 54 [(0, .ref 64), (1, .int y1), (2, .int y2), (3, .int y3)] [] ab_SH (ab_dD h) (fun r => r = (some (.int z.1), ab_SH, ab_dD z.2))) : ∀ (y1 : Int32) (y2 : Int32) (y3 : Int32) (t1 : Int32) (t2 : Int32) (h : abJ) (z : (Int32 × abJ)), fX12_laysForce_J209 k54 y1 y2 y3 t1 t2 h = some z → ab_Ex X (d + 2) 290 209 [(0, .ref 64), (1, .int y1), (2, .int y2), (3, .int y3)] [.int t2, .int t1, .ref 84] ab_SH (ab_dD h) (fun r => r = (some (.int z.1), ab_SH, ab_dD z.2)) := by
  intro y1 y2 y3 t1 t2 h z hf
  unfold fX12_laysForce_J209 at hf
  obtain ⟨c24, hf⟩ := ab_ask_s hf
  refine ab_Ex.grd (c := t1 < 0 ∨ 6 ≤ (t1 : Int32).toNatClampNeg) (S := (210, [(0, .ref 64), (1, .int y1), (2, .int y2), (3, .int y3)], [], ab_dD (ab_wI h 84 (t1 : Int32).toNatClampNeg t2))) (fun n => rfl) c24 ?_
  exact sX12_laysForce_J210 d X k54 hk54 y1 y2 y3 (ab_wI h 84 (t1 : Int32).toNatClampNeg t2) _ hf
set_option maxRecDepth 20000 in
theorem sX12_laysForce_J172 (d : Nat) (X : abX) (k54 : Int32 → Int32 → Int32 → abJ → Option (Int32 × abJ)) (hk54 : ∀ (y1 : Int32) (y2 : Int32) (y3 : Int32) (h : abJ) (z : (Int32 × abJ)), k54 y1 y2 y3 h = some z → ab_Ex X (d + 2) 290 54 [(0, .ref 64), (1, .int y1), (2, .int y2), (3, .int y3)] [] ab_SH (ab_dD h) (fun r => r = (some (.int z.1), ab_SH, ab_dD z.2))) : ∀ (y1 : Int32) (y3 : Int32) (y4 : Int32) (y5 : Int32) (t0 : Int32) (t1 : Int32) (h : abJ) (z : (Int32 × abJ)), fX12_laysForce_J172 k54 y1 y3 y4 y5 t0 t1 h = some z → ab_Ex X (d + 2) 290 172 [(0, .ref 64), (1, .int y1), (3, .int y3), (4, .int y4), (5, .int y5)] [.int t1, .int t0] ab_SH (ab_dD h) (fun r => r = (some (.int z.1), ab_SH, ab_dD z.2)) := by
  intro y1 y3 y4 y5 t0 t1 h z hf
  unfold fX12_laysForce_J172 at hf
  refine ab_Ex.blk (k := 6) (pc' := 181) (lv' := [(2, .int ((t0 ||| t1))), (0, .ref 64), (1, .int y1), (3, .int y3), (4, .int y4), (5, .int y5)]) (st' := [.int y5, .int y3, .ref 83]) (sh' := ab_SH) (D' := ab_dD h) (fun n => rfl) ?_
  obtain ⟨c18, hf⟩ := ab_ask_s hf
  refine ab_Ex.grd (c := y3 < 0 ∨ 6 ≤ (y3 : Int32).toNatClampNeg) (S := (182, [(2, .int ((t0 ||| t1))), (0, .ref 64), (1, .int y1), (3, .int y3), (4, .int y4), (5, .int y5)], [], ab_dD (ab_wI h 83 (y3 : Int32).toNatClampNeg y5))) (fun n => rfl) c18 ?_
  refine ab_Ex.blk (k := 7) (pc' := 194) (lv' := [(2, .int ((t0 ||| t1))), (0, .ref 64), (1, .int y1), (3, .int y3), (4, .int y4), (5, .int y5)]) (st' := [.int y3, .ref 84, .int y4, .int y3, .ref 84]) (sh' := ab_SH) (D' := ab_dD (ab_wI h 83 (y3 : Int32).toNatClampNeg y5)) (fun n => rfl) ?_
  obtain ⟨c20, hf⟩ := ab_ask_s hf
  refine ab_Ex.grd (c := y3 < 0 ∨ 6 ≤ (y3 : Int32).toNatClampNeg) (S := (195, [(2, .int ((t0 ||| t1))), (0, .ref 64), (1, .int y1), (3, .int y3), (4, .int y4), (5, .int y5)], [.int (((ab_wI h 83 (y3 : Int32).toNatClampNeg y5).1 84 (y3 : Int32).toNatClampNeg)), .int y4, .int y3, .ref 84], ab_dD (ab_wI h 83 (y3 : Int32).toNatClampNeg y5))) (fun n => rfl) c20 ?_
  refine ab_Ex.ifc (c := ((ab_wI h 83 (y3 : Int32).toNatClampNeg y5).1 84 (y3 : Int32).toNatClampNeg) ≤ y4) (SA := (203, [(2, .int ((t0 ||| t1))), (0, .ref 64), (1, .int y1), (3, .int y3), (4, .int y4), (5, .int y5)], [.int y3, .ref 84], ab_dD (ab_wI h 83 (y3 : Int32).toNatClampNeg y5))) (SB := (198, [(2, .int ((t0 ||| t1))), (0, .ref 64), (1, .int y1), (3, .int y3), (4, .int y4), (5, .int y5)], [.int y3, .ref 84], ab_dD (ab_wI h 83 (y3 : Int32).toNatClampNeg y5))) (fun n => rfl) (fun c21 => ?_) (fun c21 => ?_)
  · replace hf := (if_pos c21).symm.trans hf
    refine ab_Ex.blk (k := 3) (pc' := 208) (lv' := [(2, .int ((t0 ||| t1))), (0, .ref 64), (1, .int y1), (3, .int y3), (4, .int y4), (5, .int y5)]) (st' := [.int y3, .ref 84, .int y3, .ref 84]) (sh' := ab_SH) (D' := ab_dD (ab_wI h 83 (y3 : Int32).toNatClampNeg y5)) (fun n => rfl) ?_
    obtain ⟨c23, hf⟩ := ab_ask_s hf
    refine ab_Ex.grd (c := y3 < 0 ∨ 6 ≤ (y3 : Int32).toNatClampNeg) (S := (209, [(2, .int ((t0 ||| t1))), (0, .ref 64), (1, .int y1), (3, .int y3), (4, .int y4), (5, .int y5)], [.int (((ab_wI h 83 (y3 : Int32).toNatClampNeg y5).1 84 (y3 : Int32).toNatClampNeg)), .int y3, .ref 84], ab_dD (ab_wI h 83 (y3 : Int32).toNatClampNeg y5))) (fun n => rfl) c23 ?_
    exact sX12_laysForce_J209 d X k54 hk54 y1 ((t0 ||| t1)) y3 y3 (((ab_wI h 83 (y3 : Int32).toNatClampNeg y5).1 84 (y3 : Int32).toNatClampNeg)) (ab_wI h 83 (y3 : Int32).toNatClampNeg y5) _ hf
  · replace hf := (if_neg c21).symm.trans hf
    refine ab_Ex.blk (k := 2) (pc' := 209) (lv' := [(0, .ref 64), (1, .int y1), (2, .int ((t0 ||| t1))), (3, .int y3)]) (st' := [.int y4, .int y3, .ref 84]) (sh' := ab_SH) (D' := ab_dD (ab_wI h 83 (y3 : Int32).toNatClampNeg y5)) (fun n => rfl) ?_
    exact sX12_laysForce_J209 d X k54 hk54 y1 ((t0 ||| t1)) y3 y3 y4 (ab_wI h 83 (y3 : Int32).toNatClampNeg y5) _ hf
set_option maxRecDepth 20000 in
theorem sX12_laysForce_J167 (d : Nat) (X : abX) (k54 : Int32 → Int32 → Int32 → abJ → Option (Int32 × abJ)) (hk54 : ∀ (y1 : Int32) (y2 : Int32) (y3 : Int32) (h : abJ) (z : (Int32 × abJ)), k54 y1 y2 y3 h = some z → ab_Ex X (d + 2) 290 54 [(0, .ref 64), (1, .int y1), (2, .int y2), (3, .int y3)] [] ab_SH (ab_dD h) (fun r => r = (some (.int z.1), ab_SH, ab_dD z.2))) : ∀ (y1 : Int32) (y3 : Int32) (y4 : Int32) (y5 : Int32) (t0 : Int32) (h : abJ) (z : (Int32 × abJ)), fX12_laysForce_J167 k54 y1 y3 y4 y5 t0 h = some z → ab_Ex X (d + 2) 290 167 [(0, .ref 64), (1, .int y1), (3, .int y3), (4, .int y4), (5, .int y5)] [.int t0] ab_SH (ab_dD h) (fun r => r = (some (.int z.1), ab_SH, ab_dD z.2)) := by
  intro y1 y3 y4 y5 t0 h z hf
  unfold fX12_laysForce_J167 at hf
  refine ab_Ex.blk (k := 2) (pc' := 172) (lv' := [(0, .ref 64), (1, .int y1), (3, .int y3), (4, .int y4), (5, .int y5)]) (st' := [.int 1, .int t0]) (sh' := ab_SH) (D' := ab_dD h) (fun n => rfl) ?_
  exact sX12_laysForce_J172 d X k54 hk54 y1 y3 y4 y5 t0 1 h _ hf
set_option maxRecDepth 20000 in
theorem sX12_laysForce_J136 (d : Nat) (X : abX) (k98 : Int32 → Int32 → Int32 → Int32 → Int32 → Int32 → abJ → Option (Int32 × abJ)) (hk98 : ∀ (y1 : Int32) (y2 : Int32) (y3 : Int32) (y4 : Int32) (y5 : Int32) (y6 : Int32) (h : abJ) (z : (Int32 × abJ)), k98 y1 y2 y3 y4 y5 y6 h = some z → ab_Ex X (d + 2) 290 98 [(0, .ref 64), (1, .int y1), (2, .int y2), (3, .int y3), (4, .int y4), (5, .int y5), (6, .int y6)] [] ab_SH (ab_dD h) (fun r => r = (some (.int z.1), ab_SH, ab_dD z.2))) : ∀ (y1 : Int32) (y2 : Int32) (y3 : Int32) (y4 : Int32) (y6 : Int32) (t0 : Int32) (h : abJ) (z : (Int32 × abJ)), fX12_laysForce_J136 k98 y1 y2 y3 y4 y6 t0 h = some z → ab_Ex X (d + 2) 290 136 [(0, .ref 64), (1, .int y1), (2, .int y2), (3, .int y3), (4, .int y4), (6, .int y6)] [.int t0] ab_SH (ab_dD h) (fun r => r = (some (.int z.1), ab_SH, ab_dD z.2)) := by
  intro y1 y2 y3 y4 y6 t0 h z hf
  unfold fX12_laysForce_J136 at hf
  refine ab_Ex.blk (k := 3) (pc' := 98) (lv' := [(0, .ref 64), (1, .int y1), (2, .int y2), (3, .int y3), (4, .int y4), (5, .int t0), (6, .int ((y6 + 1)))]) (st' := []) (sh' := ab_SH) (D' := ab_dD h) (fun n => rfl) ?_
  exact hk98 y1 y2 y3 y4 t0 ((y6 + 1)) h _ hf
set_option maxRecDepth 20000 in
theorem sX12_laysForce_L98 (d : Nat) (X : abX) (k54 : Int32 → Int32 → Int32 → abJ → Option (Int32 × abJ)) (hk54 : ∀ (y1 : Int32) (y2 : Int32) (y3 : Int32) (h : abJ) (z : (Int32 × abJ)), k54 y1 y2 y3 h = some z → ab_Ex X (d + 2) 290 54 [(0, .ref 64), (1, .int y1), (2, .int y2), (3, .int y3)] [] ab_SH (ab_dD h) (fun r => r = (some (.int z.1), ab_SH, ab_dD z.2))) : ∀ (n : Nat), ∀ (y1 : Int32) (y2 : Int32) (y3 : Int32) (y4 : Int32) (y5 : Int32) (y6 : Int32) (h : abJ) (z : (Int32 × abJ)), fX12_laysForce_L98 k54 n y1 y2 y3 y4 y5 y6 h = some z → ab_Ex X (d + 2) 290 98 [(0, .ref 64), (1, .int y1), (2, .int y2), (3, .int y3), (4, .int y4), (5, .int y5), (6, .int y6)] [] ab_SH (ab_dD h) (fun r => r = (some (.int z.1), ab_SH, ab_dD z.2)) := by
  intro n
  induction n with
  | zero => intro y1 y2 y3 y4 y5 y6 h z hf; cases hf
  | succ n ih =>
    intro y1 y2 y3 y4 y5 y6 h z hf
    rw [fX12_laysForce_L98] at hf
    refine ab_Ex.blk (k := 6) (pc' := 108) (lv' := [(0, .ref 64), (1, .int y1), (2, .int y2), (3, .int y3), (4, .int y4), (5, .int y5), (6, .int y6)]) (st' := [.int ((9 + y3)), .ref 65, .int y6]) (sh' := ab_SH) (D' := ab_dD h) (fun n => rfl) ?_
    obtain ⟨c13, hf⟩ := ab_ask_s hf
    refine ab_Ex.grd (c := (9 + y3) < 0 ∨ 3102 ≤ ((9 + y3) : Int32).toNatClampNeg) (S := (109, [(0, .ref 64), (1, .int y1), (2, .int y2), (3, .int y3), (4, .int y4), (5, .int y5), (6, .int y6)], [.int ((h.1 65 ((9 + y3) : Int32).toNatClampNeg)), .int y6], ab_dD h)) (fun n => rfl) c13 ?_
    refine ab_Ex.ifc (c := (h.1 65 ((9 + y3) : Int32).toNatClampNeg) ≤ y6) (SA := (144, [(0, .ref 64), (1, .int y1), (2, .int y2), (3, .int y3), (4, .int y4), (5, .int y5), (6, .int y6)], [], ab_dD h)) (SB := (112, [(0, .ref 64), (1, .int y1), (2, .int y2), (3, .int y3), (4, .int y4), (5, .int y5), (6, .int y6)], [], ab_dD h)) (fun n => rfl) (fun c14 => ?_) (fun c14 => ?_)
    · replace hf := (if_pos c14).symm.trans hf
      refine ab_Ex.blk (k := 5) (pc' := 152) (lv' := [(0, .ref 64), (1, .int y1), (2, .int y2), (3, .int y3), (4, .int y4), (5, .int y5), (6, .int y6)]) (st' := [.int y3, .ref 83, .int y5, .int y2]) (sh' := ab_SH) (D' := ab_dD h) (fun n => rfl) ?_
      obtain ⟨c16, hf⟩ := ab_ask_s hf
      refine ab_Ex.grd (c := y3 < 0 ∨ 6 ≤ (y3 : Int32).toNatClampNeg) (S := (153, [(0, .ref 64), (1, .int y1), (2, .int y2), (3, .int y3), (4, .int y4), (5, .int y5), (6, .int y6)], [.int ((h.1 83 (y3 : Int32).toNatClampNeg)), .int y5, .int y2], ab_dD h)) (fun n => rfl) c16 ?_
      refine ab_Ex.ifc (c := y5 < (h.1 83 (y3 : Int32).toNatClampNeg)) (SA := (167, [(0, .ref 64), (1, .int y1), (2, .int y2), (3, .int y3), (4, .int y4), (5, .int y5), (6, .int y6)], [.int y2], ab_dD h)) (SB := (156, [(0, .ref 64), (1, .int y1), (2, .int y2), (3, .int y3), (4, .int y4), (5, .int y5), (6, .int y6)], [.int y2], ab_dD h)) (fun n => rfl) (fun c17 => ?_) (fun c17 => ?_)
      · replace hf := (if_pos c17).symm.trans hf
        exact sX12_laysForce_J167 d X k54 hk54 y1 y3 y4 y5 y2 h _ hf
      · replace hf := (if_neg c17).symm.trans hf
        refine ab_Ex.blk (k := 4) (pc' := 163) (lv' := [(0, .ref 64), (1, .int y1), (2, .int y2), (3, .int y3), (4, .int y4), (5, .int y5), (6, .int y6)]) (st' := [.int y3, .ref 84, .int y4, .int y2]) (sh' := ab_SH) (D' := ab_dD h) (fun n => rfl) ?_
        obtain ⟨c26, hf⟩ := ab_ask_s hf
        refine ab_Ex.grd (c := y3 < 0 ∨ 6 ≤ (y3 : Int32).toNatClampNeg) (S := (164, [(0, .ref 64), (1, .int y1), (2, .int y2), (3, .int y3), (4, .int y4), (5, .int y5), (6, .int y6)], [.int ((h.1 84 (y3 : Int32).toNatClampNeg)), .int y4, .int y2], ab_dD h)) (fun n => rfl) c26 ?_
        refine ab_Ex.ifc (c := (h.1 84 (y3 : Int32).toNatClampNeg) ≤ y4) (SA := (171, [(0, .ref 64), (1, .int y1), (2, .int y2), (3, .int y3), (4, .int y4), (5, .int y5), (6, .int y6)], [.int y2], ab_dD h)) (SB := (167, [(0, .ref 64), (1, .int y1), (2, .int y2), (3, .int y3), (4, .int y4), (5, .int y5), (6, .int y6)], [.int y2], ab_dD h)) (fun n => rfl) (fun c27 => ?_) (fun c27 => ?_)
        · replace hf := (if_pos c27).symm.trans hf
          refine ab_Ex.blk (k := 1) (pc' := 172) (lv' := [(0, .ref 64), (1, .int y1), (3, .int y3), (4, .int y4), (5, .int y5)]) (st' := [.int 0, .int y2]) (sh' := ab_SH) (D' := ab_dD h) (fun n => rfl) ?_
          exact sX12_laysForce_J172 d X k54 hk54 y1 y3 y4 y5 y2 0 h _ hf
        · replace hf := (if_neg c27).symm.trans hf
          exact sX12_laysForce_J167 d X k54 hk54 y1 y3 y4 y5 y2 h _ hf
    · replace hf := (if_neg c14).symm.trans hf
      refine ab_Ex.blk (k := 3) (pc' := 116) (lv' := [(0, .ref 64), (1, .int y1), (2, .int y2), (3, .int y3), (4, .int y4), (5, .int y5), (6, .int y6)]) (st' := [.int y6, .int y3, .ref 64]) (sh' := ab_SH) (D' := ab_dD h) (fun n => rfl) ?_
      obtain ⟨r28, hr28, hf⟩ := ab_bind_s hf
      refine ab_Ex.call (d := d + 1) (M2 := 289) (as := [.ref 64, .int y3, .int y6]) (rest := []) (fun n => rfl) rfl (Nat.not_lt.mpr (Nat.le_of_ble_eq_true rfl)) (sX12_firstBy (d) X y3 y6 h _ hr28) (fun r hr => ?_)
      subst hr
      show ab_Ex X (d + 2) 290 119 [(0, .ref 64), (1, .int y1), (2, .int y2), (3, .int y3), (4, .int y4), (5, .int y5), (6, .int y6)] [.int r28] ab_SH (ab_dD h) _
      refine ab_Ex.blk (k := 1) (pc' := 121) (lv' := [(0, .ref 64), (1, .int y1), (2, .int y2), (3, .int y3), (4, .int y4), (5, .int y5), (6, .int y6)]) (st' := [.int y5, .int r28]) (sh' := ab_SH) (D' := ab_dD h) (fun n => rfl) ?_
      refine ab_Ex.ifc (c := y5 ≤ r28) (SA := (134, [(0, .ref 64), (1, .int y1), (2, .int y2), (3, .int y3), (4, .int y4), (5, .int y5), (6, .int y6)], [], ab_dD h)) (SB := (124, [(0, .ref 64), (1, .int y1), (2, .int y2), (3, .int y3), (4, .int y4), (5, .int y5), (6, .int y6)], [], ab_dD h)) (fun n => rfl) (fun c29 => ?_) (fun c29 => ?_)
      · replace hf := (if_pos c29).symm.trans hf
        refine ab_Ex.blk (k := 1) (pc' := 136) (lv' := [(0, .ref 64), (1, .int y1), (2, .int y2), (3, .int y3), (4, .int y4), (6, .int y6)]) (st' := [.int y5]) (sh' := ab_SH) (D' := ab_dD h) (fun n => rfl) ?_
        exact sX12_laysForce_J136 d X (fun y1 y2 y3 y4 y5 y6 h => fX12_laysForce_L98 k54 n y1 y2 y3 y4 y5 y6 h) (fun y1 y2 y3 y4 y5 y6 h z hz => ih y1 y2 y3 y4 y5 y6 h z hz) y1 y2 y3 y4 y6 y5 h _ hf
      · replace hf := (if_neg c29).symm.trans hf
        refine ab_Ex.blk (k := 3) (pc' := 128) (lv' := [(0, .ref 64), (1, .int y1), (2, .int y2), (3, .int y3), (4, .int y4), (5, .int y5), (6, .int y6)]) (st' := [.int y6, .int y3, .ref 64]) (sh' := ab_SH) (D' := ab_dD h) (fun n => rfl) ?_
        obtain ⟨r30, hr30, hf⟩ := ab_bind_s hf
        refine ab_Ex.call (d := d + 1) (M2 := 289) (as := [.ref 64, .int y3, .int y6]) (rest := []) (fun n => rfl) rfl (Nat.not_lt.mpr (Nat.le_of_ble_eq_true rfl)) (sX12_firstBy (d) X y3 y6 h _ hr30) (fun r hr => ?_)
        subst hr
        show ab_Ex X (d + 2) 290 131 [(0, .ref 64), (1, .int y1), (2, .int y2), (3, .int y3), (4, .int y4), (5, .int y5), (6, .int y6)] [.int r30] ab_SH (ab_dD h) _
        refine ab_Ex.blk (k := 1) (pc' := 136) (lv' := [(0, .ref 64), (1, .int y1), (2, .int y2), (3, .int y3), (4, .int y4), (6, .int y6)]) (st' := [.int r30]) (sh' := ab_SH) (D' := ab_dD h) (fun n => rfl) ?_
        exact sX12_laysForce_J136 d X (fun y1 y2 y3 y4 y5 y6 h => fX12_laysForce_L98 k54 n y1 y2 y3 y4 y5 y6 h) (fun y1 y2 y3 y4 y5 y6 h z hz => ih y1 y2 y3 y4 y5 y6 h z hz) y1 y2 y3 y4 y6 r30 h _ hf
set_option maxRecDepth 20000 in
theorem sX12_laysForce_L54 (d : Nat) (X : abX) (k46 : Int32 → Int32 → abJ → Option (Int32 × abJ)) (hk46 : ∀ (y1 : Int32) (y2 : Int32) (h : abJ) (z : (Int32 × abJ)), k46 y1 y2 h = some z → ab_Ex X (d + 2) 290 46 [(0, .ref 64), (1, .int y1), (2, .int y2)] [] ab_SH (ab_dD h) (fun r => r = (some (.int z.1), ab_SH, ab_dD z.2))) : ∀ (n : Nat), ∀ (y1 : Int32) (y2 : Int32) (y3 : Int32) (h : abJ) (z : (Int32 × abJ)), fX12_laysForce_L54 k46 n y1 y2 y3 h = some z → ab_Ex X (d + 2) 290 54 [(0, .ref 64), (1, .int y1), (2, .int y2), (3, .int y3)] [] ab_SH (ab_dD h) (fun r => r = (some (.int z.1), ab_SH, ab_dD z.2)) := by
  intro n
  induction n with
  | zero => intro y1 y2 y3 h z hf; cases hf
  | succ n ih =>
    intro y1 y2 y3 h z hf
    rw [fX12_laysForce_L54] at hf
    refine ab_Ex.blk (k := 4) (pc' := 60) (lv' := [(0, .ref 64), (1, .int y1), (2, .int y2), (3, .int y3)]) (st' := [.int 1, .ref 65, .int y3]) (sh' := ab_SH) (D' := ab_dD h) (fun n => rfl) ?_
    refine ab_Ex.blk (k := 1) (pc' := 61) (lv' := [(0, .ref 64), (1, .int y1), (2, .int y2), (3, .int y3)]) (st' := [.int ((h.1 65 1)), .int y3]) (sh' := ab_SH) (D' := ab_dD h) (fun n => rfl) ?_
    refine ab_Ex.ifc (c := (h.1 65 1) ≤ y3) (SA := (216, [(0, .ref 64), (1, .int y1), (2, .int y2), (3, .int y3)], [], ab_dD h)) (SB := (64, [(0, .ref 64), (1, .int y1), (2, .int y2), (3, .int y3)], [], ab_dD h)) (fun n => rfl) (fun c5 => ?_) (fun c5 => ?_)
    · replace hf := (if_pos c5).symm.trans hf
      refine ab_Ex.blk (k := 1) (pc' := 46) (lv' := [(0, .ref 64), (1, .int y1), (2, .int y2)]) (st' := []) (sh' := ab_SH) (D' := ab_dD h) (fun n => rfl) ?_
      exact hk46 y1 y2 h _ hf
    · replace hf := (if_neg c5).symm.trans hf
      refine ab_Ex.blk (k := 2) (pc' := 66) (lv' := [(0, .ref 64), (1, .int y1), (2, .int y2), (3, .int y3)]) (st' := [.int y1, .int y3]) (sh' := ab_SH) (D' := ab_dD h) (fun n => rfl) ?_
      refine ab_Ex.ifc (c := y3 = y1) (SA := (210, [(0, .ref 64), (1, .int y1), (2, .int y2), (3, .int y3)], [], ab_dD h)) (SB := (69, [(0, .ref 64), (1, .int y1), (2, .int y2), (3, .int y3)], [], ab_dD h)) (fun n => rfl) (fun c6 => ?_) (fun c6 => ?_)
      · replace hf := (if_pos c6).symm.trans hf
        exact sX12_laysForce_J210 d X (fun y1 y2 y3 h => fX12_laysForce_L54 k46 n y1 y2 y3 h) (fun y1 y2 y3 h z hz => ih y1 y2 y3 h z hz) y1 y2 y3 h _ hf
      · replace hf := (if_neg c6).symm.trans hf
        refine ab_Ex.blk (k := 2) (pc' := 71) (lv' := [(0, .ref 64), (1, .int y1), (2, .int y2), (3, .int y3)]) (st' := [.int y3, .ref 64]) (sh' := ab_SH) (D' := ab_dD h) (fun n => rfl) ?_
        obtain ⟨r7, hr7, hf⟩ := ab_bind_s hf
        refine ab_Ex.call (d := d + 1) (M2 := 223) (as := [.ref 64, .int y3]) (rest := []) (fun n => rfl) rfl (Nat.not_lt.mpr (Nat.le_of_ble_eq_true rfl)) (sX12_isRest (d) X y3 h _ hr7) (fun r hr => ?_)
        subst hr
        show ab_Ex X (d + 2) 290 74 [(0, .ref 64), (1, .int y1), (2, .int y2), (3, .int y3)] [.int r7] ab_SH (ab_dD h) _
        refine ab_Ex.ifc (c := r7 = 0) (SA := (80, [(0, .ref 64), (1, .int y1), (2, .int y2), (3, .int y3)], [], ab_dD h)) (SB := (77, [(0, .ref 64), (1, .int y1), (2, .int y2), (3, .int y3)], [], ab_dD h)) (fun n => rfl) (fun c8 => ?_) (fun c8 => ?_)
        · replace hf := (if_pos c8).symm.trans hf
          refine ab_Ex.blk (k := 2) (pc' := 82) (lv' := [(0, .ref 64), (1, .int y1), (2, .int y2), (3, .int y3)]) (st' := [.int y3, .ref 64]) (sh' := ab_SH) (D' := ab_dD h) (fun n => rfl) ?_
          obtain ⟨r9, hr9, hf⟩ := ab_bind_s hf
          refine ab_Ex.call (d := d + 1) (M2 := 288) (as := [.ref 64, .int y3]) (rest := []) (fun n => rfl) rfl (Nat.not_lt.mpr (Nat.le_of_ble_eq_true rfl)) (sX12_otherAt (d) X y3 h _ hr9) (fun r hr => ?_)
          subst hr
          show ab_Ex X (d + 2) 290 85 [(0, .ref 64), (1, .int y1), (2, .int y2), (3, .int y3)] [.int r9] ab_SH (ab_dD h) _
          refine ab_Ex.blk (k := 4) (pc' := 92) (lv' := [(4, .int r9), (0, .ref 64), (1, .int y1), (2, .int y2), (3, .int y3)]) (st' := [.int y3, .ref 83]) (sh' := ab_SH) (D' := ab_dD h) (fun n => rfl) ?_
          obtain ⟨c11, hf⟩ := ab_ask_s hf
          refine ab_Ex.grd (c := y3 < 0 ∨ 6 ≤ (y3 : Int32).toNatClampNeg) (S := (93, [(4, .int r9), (0, .ref 64), (1, .int y1), (2, .int y2), (3, .int y3)], [.int ((h.1 83 (y3 : Int32).toNatClampNeg))], ab_dD h)) (fun n => rfl) c11 ?_
          refine ab_Ex.blk (k := 3) (pc' := 98) (lv' := [(0, .ref 64), (1, .int y1), (2, .int y2), (3, .int y3), (4, .int r9), (5, .int ((h.1 83 (y3 : Int32).toNatClampNeg))), (6, .int 0)]) (st' := []) (sh' := ab_SH) (D' := ab_dD h) (fun n => rfl) ?_
          exact sX12_laysForce_L98 d X (fun y1 y2 y3 h => fX12_laysForce_L54 k46 n y1 y2 y3 h) (fun y1 y2 y3 h z hz => ih y1 y2 y3 h z hz) ab_N y1 y2 y3 r9 ((h.1 83 (y3 : Int32).toNatClampNeg)) 0 h _ hf
        · replace hf := (if_neg c8).symm.trans hf
          refine ab_Ex.blk (k := 1) (pc' := 210) (lv' := [(0, .ref 64), (1, .int y1), (2, .int y2), (3, .int y3)]) (st' := []) (sh' := ab_SH) (D' := ab_dD h) (fun n => rfl) ?_
          exact sX12_laysForce_J210 d X (fun y1 y2 y3 h => fX12_laysForce_L54 k46 n y1 y2 y3 h) (fun y1 y2 y3 h z hz => ih y1 y2 y3 h z hz) y1 y2 y3 h _ hf
set_option maxRecDepth 20000 in
theorem sX12_laysForce_L46 (d : Nat) (X : abX)   : ∀ (n : Nat), ∀ (y1 : Int32) (y2 : Int32) (h : abJ) (z : (Int32 × abJ)), fX12_laysForce_L46 n y1 y2 h = some z → ab_Ex X (d + 2) 290 46 [(0, .ref 64), (1, .int y1), (2, .int y2)] [] ab_SH (ab_dD h) (fun r => r = (some (.int z.1), ab_SH, ab_dD z.2)) := by
  intro n
  induction n with
  | zero => intro y1 y2 h z hf; cases hf
  | succ n ih =>
    intro y1 y2 h z hf
    rw [fX12_laysForce_L46] at hf
    refine ab_Ex.blk (k := 1) (pc' := 47) (lv' := [(0, .ref 64), (1, .int y1), (2, .int y2)]) (st' := [.int y2]) (sh' := ab_SH) (D' := ab_dD h) (fun n => rfl) ?_
    refine ab_Ex.ifc (c := y2 = 0) (SA := (219, [(0, .ref 64), (1, .int y1), (2, .int y2)], [], ab_dD h)) (SB := (50, [(0, .ref 64), (1, .int y1), (2, .int y2)], [], ab_dD h)) (fun n => rfl) (fun c2 => ?_) (fun c2 => ?_)
    · replace hf := (if_pos c2).symm.trans hf
      refine ab_Ex.blk (k := 5) (pc' := 229) (lv' := [(0, .ref 64), (1, .int y1), (2, .int y2)]) (st' := [.int 33, .ref 65, .ref 83]) (sh' := ab_SH) (D' := ab_dD h) (fun n => rfl) ?_
      refine ab_Ex.blk (k := 1) (pc' := 230) (lv' := [(0, .ref 64), (1, .int y1), (2, .int y2)]) (st' := [.int ((h.1 65 33)), .ref 83]) (sh' := ab_SH) (D' := ab_dD h) (fun n => rfl) ?_
      obtain ⟨c4, hf⟩ := ab_ask_s hf
      refine ab_Ex.grd (c := (h.1 65 33) < 0 ∨ 6 ≤ ((h.1 65 33) : Int32).toNatClampNeg) (S := (231, [(0, .ref 64), (1, .int y1), (2, .int y2)], [.int ((h.1 83 ((h.1 65 33) : Int32).toNatClampNeg))], ab_dD h)) (fun n => rfl) c4 ?_
      obtain rfl := Option.some.inj hf
      exact ab_Ex.ret (fun n => rfl) rfl
    · replace hf := (if_neg c2).symm.trans hf
      refine ab_Ex.blk (k := 4) (pc' := 54) (lv' := [(0, .ref 64), (1, .int y1), (2, .int 0), (3, .int 0)]) (st' := []) (sh' := ab_SH) (D' := ab_dD h) (fun n => rfl) ?_
      exact sX12_laysForce_L54 d X (fun y1 y2 h => fX12_laysForce_L46 n y1 y2 h) (fun y1 y2 h z hz => ih y1 y2 h z hz) ab_N y1 0 0 h _ hf
set_option maxRecDepth 20000 in
theorem sX12_laysForce_J25 (d : Nat) (X : abX) (k2 : Int32 → Int32 → abJ → Option (Int32 × abJ)) (hk2 : ∀ (y1 : Int32) (y2 : Int32) (h : abJ) (z : (Int32 × abJ)), k2 y1 y2 h = some z → ab_Ex X (d + 2) 290 2 [(0, .ref 64), (1, .int y1), (2, .int y2)] [] ab_SH (ab_dD h) (fun r => r = (some (.int z.1), ab_SH, ab_dD z.2))) : ∀ (y1 : Int32) (y2 : Int32) (t1 : Int32) (t2 : Int32) (h : abJ) (z : (Int32 × abJ)), fX12_laysForce_J25 k2 y1 y2 t1 t2 h = some z → ab_Ex X (d + 2) 290 25 [(0, .ref 64), (1, .int y1), (2, .int y2)] [.int t2, .int t1, .ref 83] ab_SH (ab_dD h) (fun r => r = (some (.int z.1), ab_SH, ab_dD z.2)) := by
  intro y1 y2 t1 t2 h z hf
  unfold fX12_laysForce_J25 at hf
  obtain ⟨c32, hf⟩ := ab_ask_s hf
  refine ab_Ex.grd (c := t1 < 0 ∨ 6 ≤ (t1 : Int32).toNatClampNeg) (S := (26, [(0, .ref 64), (1, .int y1), (2, .int y2)], [], ab_dD (ab_wI h 83 (t1 : Int32).toNatClampNeg t2))) (fun n => rfl) c32 ?_
  refine ab_Ex.blk (k := 6) (pc' := 36) (lv' := [(0, .ref 64), (1, .int y1), (2, .int y2)]) (st' := [.int y2, .ref 83, .int y2, .ref 84]) (sh' := ab_SH) (D' := ab_dD (ab_wI h 83 (t1 : Int32).toNatClampNeg t2)) (fun n => rfl) ?_
  obtain ⟨c34, hf⟩ := ab_ask_s hf
  refine ab_Ex.grd (c := y2 < 0 ∨ 6 ≤ (y2 : Int32).toNatClampNeg) (S := (37, [(0, .ref 64), (1, .int y1), (2, .int y2)], [.int (((ab_wI h 83 (t1 : Int32).toNatClampNeg t2).1 83 (y2 : Int32).toNatClampNeg)), .int y2, .ref 84], ab_dD (ab_wI h 83 (t1 : Int32).toNatClampNeg t2))) (fun n => rfl) c34 ?_
  obtain ⟨c35, hf⟩ := ab_ask_s hf
  refine ab_Ex.grd (c := y2 < 0 ∨ 6 ≤ (y2 : Int32).toNatClampNeg) (S := (38, [(0, .ref 64), (1, .int y1), (2, .int y2)], [], ab_dD (ab_wI (ab_wI h 83 (t1 : Int32).toNatClampNeg t2) 84 (y2 : Int32).toNatClampNeg ((ab_wI h 83 (t1 : Int32).toNatClampNeg t2).1 83 (y2 : Int32).toNatClampNeg)))) (fun n => rfl) c35 ?_
  refine ab_Ex.blk (k := 2) (pc' := 2) (lv' := [(0, .ref 64), (1, .int y1), (2, .int ((y2 + 1)))]) (st' := []) (sh' := ab_SH) (D' := ab_dD (ab_wI (ab_wI h 83 (t1 : Int32).toNatClampNeg t2) 84 (y2 : Int32).toNatClampNeg ((ab_wI h 83 (t1 : Int32).toNatClampNeg t2).1 83 (y2 : Int32).toNatClampNeg))) (fun n => rfl) ?_
  exact hk2 y1 ((y2 + 1)) (ab_wI (ab_wI h 83 (t1 : Int32).toNatClampNeg t2) 84 (y2 : Int32).toNatClampNeg ((ab_wI h 83 (t1 : Int32).toNatClampNeg t2).1 83 (y2 : Int32).toNatClampNeg)) _ hf
set_option maxRecDepth 20000 in
theorem sX12_laysForce_L2 (d : Nat) (X : abX)   : ∀ (n : Nat), ∀ (y1 : Int32) (y2 : Int32) (h : abJ) (z : (Int32 × abJ)), fX12_laysForce_L2 n y1 y2 h = some z → ab_Ex X (d + 2) 290 2 [(0, .ref 64), (1, .int y1), (2, .int y2)] [] ab_SH (ab_dD h) (fun r => r = (some (.int z.1), ab_SH, ab_dD z.2)) := by
  intro n
  induction n with
  | zero => intro y1 y2 h z hf; cases hf
  | succ n ih =>
    intro y1 y2 h z hf
    rw [fX12_laysForce_L2] at hf
    refine ab_Ex.blk (k := 2) (pc' := 5) (lv' := [(0, .ref 64), (1, .int y1), (2, .int y2)]) (st' := [.int 6, .int y2]) (sh' := ab_SH) (D' := ab_dD h) (fun n => rfl) ?_
    refine ab_Ex.ifc (c := 6 ≤ y2) (SA := (44, [(0, .ref 64), (1, .int y1), (2, .int y2)], [], ab_dD h)) (SB := (8, [(0, .ref 64), (1, .int y1), (2, .int y2)], [], ab_dD h)) (fun n => rfl) (fun c1 => ?_) (fun c1 => ?_)
    · replace hf := (if_pos c1).symm.trans hf
      refine ab_Ex.blk (k := 2) (pc' := 46) (lv' := [(0, .ref 64), (1, .int y1), (2, .int 1)]) (st' := []) (sh' := ab_SH) (D' := ab_dD h) (fun n => rfl) ?_
      exact sX12_laysForce_L46 d X  ab_N y1 1 h _ hf
    · replace hf := (if_neg c1).symm.trans hf
      refine ab_Ex.blk (k := 5) (pc' := 15) (lv' := [(0, .ref 64), (1, .int y1), (2, .int y2)]) (st' := [.int y1, .int y2, .int y2, .ref 83]) (sh' := ab_SH) (D' := ab_dD h) (fun n => rfl) ?_
      refine ab_Ex.ifc (c := y2 = y1) (SA := (18, [(0, .ref 64), (1, .int y1), (2, .int y2)], [.int y2, .ref 83], ab_dD h)) (SB := (22, [(0, .ref 64), (1, .int y1), (2, .int y2)], [.int y2, .ref 83], ab_dD h)) (fun n => rfl) (fun c31 => ?_) (fun c31 => ?_)
      · replace hf := (if_pos c31).symm.trans hf
        refine ab_Ex.blk (k := 2) (pc' := 25) (lv' := [(0, .ref 64), (1, .int y1), (2, .int y2)]) (st' := [.int 0, .int y2, .ref 83]) (sh' := ab_SH) (D' := ab_dD h) (fun n => rfl) ?_
        exact sX12_laysForce_J25 d X (fun y1 y2 h => fX12_laysForce_L2 n y1 y2 h) (fun y1 y2 h z hz => ih y1 y2 h z hz) y1 y2 y2 0 h _ hf
      · replace hf := (if_neg c31).symm.trans hf
        refine ab_Ex.blk (k := 1) (pc' := 25) (lv' := [(0, .ref 64), (1, .int y1), (2, .int y2)]) (st' := [.int 268435456, .int y2, .ref 83]) (sh' := ab_SH) (D' := ab_dD h) (fun n => rfl) ?_
        exact sX12_laysForce_J25 d X (fun y1 y2 h => fX12_laysForce_L2 n y1 y2 h) (fun y1 y2 h z hz => ih y1 y2 h z hz) y1 y2 y2 268435456 h _ hf
set_option maxRecDepth 20000 in
theorem sX12_laysForce (d : Nat) (X : abX) (x0 : Int32) (h : abJ) (z : (Int32 × abJ)) (hf : fX12_laysForce x0 h = some z) : ab_Ex X (d + 2) 290 0 [(0, .ref 64), (1, .int x0)] [] ab_SH (ab_dD h) (fun r => r = (some (.int z.1), ab_SH, ab_dD z.2)) := by
  unfold fX12_laysForce at hf
  refine ab_Ex.blk (k := 2) (pc' := 2) (lv' := [(0, .ref 64), (1, .int x0), (2, .int 0)]) (st' := []) (sh' := ab_SH) (D' := ab_dD h) (fun n => rfl) ?_
  exact sX12_laysForce_L2 d X  ab_N x0 0 h _ hf
def fX12_forces (x0 : Int32) (h : abJ) : Option (Int32 × abJ) := (fX12_isPost ((x0 : Int32).toInt64) (ab_wI h 64 0 0)).bind (fun r1 => if r1 = 0 then some ((-2), (ab_wI h 64 0 0)) else (fX12_laysForce x0 (ab_wI h 64 0 0)).bind (fun r3 => if r3.1 = 268435456 then some ((-1), r3.2) else some (r3.1, r3.2)))
set_option maxRecDepth 20000 in
theorem sX12_forces (d : Nat) (X : abX) (x0 : Int32) (h : abJ) (z : (Int32 × abJ)) (hf : fX12_forces x0 h = some z) : ab_Ex X (d + 3) 291 0 [(0, .ref 64), (1, .int x0)] [] ab_SH (ab_dD h) (fun r => r = (some (.int z.1), ab_SH, ab_dD z.2)) := by
  unfold fX12_forces at hf
  refine ab_Ex.blk (k := 6) (pc' := 8) (lv' := [(0, .ref 64), (1, .int x0)]) (st' := [.long ((x0 : Int32).toInt64), .ref 64]) (sh' := ab_SH) (D' := ab_dD (ab_wI h 64 0 0)) (fun n => rfl) ?_
  obtain ⟨r1, hr1, hf⟩ := ab_bind_s hf
  refine ab_Ex.call (d := d + 2) (M2 := 209) (as := [.ref 64, .long ((x0 : Int32).toInt64)]) (rest := []) (fun n => rfl) rfl (Nat.not_lt.mpr (Nat.le_of_ble_eq_true rfl)) (sX12_isPost (d + 1) X ((x0 : Int32).toInt64) (ab_wI h 64 0 0) _ hr1) (fun r hr => ?_)
  subst hr
  show ab_Ex X (d + 3) 291 11 [(0, .ref 64), (1, .int x0)] [.int r1] ab_SH (ab_dD (ab_wI h 64 0 0)) _
  refine ab_Ex.ifc (c := r1 = 0) (SA := (14, [(0, .ref 64), (1, .int x0)], [], ab_dD (ab_wI h 64 0 0))) (SB := (17, [(0, .ref 64), (1, .int x0)], [], ab_dD (ab_wI h 64 0 0))) (fun n => rfl) (fun c2 => ?_) (fun c2 => ?_)
  · replace hf := (if_pos c2).symm.trans hf
    refine ab_Ex.blk (k := 1) (pc' := 16) (lv' := [(0, .ref 64), (1, .int x0)]) (st' := [.int ((-2))]) (sh' := ab_SH) (D' := ab_dD (ab_wI h 64 0 0)) (fun n => rfl) ?_
    obtain rfl := Option.some.inj hf
    exact ab_Ex.ret (fun n => rfl) rfl
  · replace hf := (if_neg c2).symm.trans hf
    refine ab_Ex.blk (k := 2) (pc' := 19) (lv' := [(0, .ref 64), (1, .int x0)]) (st' := [.int x0, .ref 64]) (sh' := ab_SH) (D' := ab_dD (ab_wI h 64 0 0)) (fun n => rfl) ?_
    obtain ⟨r3, hr3, hf⟩ := ab_bind_s hf
    refine ab_Ex.call (d := d + 2) (M2 := 290) (as := [.ref 64, .int x0]) (rest := []) (fun n => rfl) rfl (Nat.not_lt.mpr (Nat.le_of_ble_eq_true rfl)) (sX12_laysForce (d) X x0 (ab_wI h 64 0 0) _ hr3) (fun r hr => ?_)
    subst hr
    show ab_Ex X (d + 3) 291 22 [(0, .ref 64), (1, .int x0)] [.int r3.1] ab_SH (ab_dD r3.2) _
    refine ab_Ex.blk (k := 3) (pc' := 27) (lv' := [(2, .int r3.1), (0, .ref 64), (1, .int x0)]) (st' := [.int 268435456, .int r3.1]) (sh' := ab_SH) (D' := ab_dD r3.2) (fun n => rfl) ?_
    refine ab_Ex.ifc (c := r3.1 = 268435456) (SA := (30, [(2, .int r3.1), (0, .ref 64), (1, .int x0)], [], ab_dD r3.2)) (SB := (34, [(2, .int r3.1), (0, .ref 64), (1, .int x0)], [], ab_dD r3.2)) (fun n => rfl) (fun c4 => ?_) (fun c4 => ?_)
    · replace hf := (if_pos c4).symm.trans hf
      refine ab_Ex.blk (k := 2) (pc' := 35) (lv' := []) (st' := [.int ((-1))]) (sh' := ab_SH) (D' := ab_dD r3.2) (fun n => rfl) ?_
      obtain rfl := Option.some.inj hf
      exact ab_Ex.ret (fun n => rfl) rfl
    · replace hf := (if_neg c4).symm.trans hf
      refine ab_Ex.blk (k := 1) (pc' := 35) (lv' := []) (st' := [.int r3.1]) (sh' := ab_SH) (D' := ab_dD r3.2) (fun n => rfl) ?_
      obtain rfl := Option.some.inj hf
      exact ab_Ex.ret (fun n => rfl) rfl
def fX12_best_L38   : Nat → Int32 → Int32 → abJ → Option (Int32 × abJ)
  | 0, _, _, _ => none
  | n + 1, y2, y3, h => (fX12_firstBy ((h.1 65 33)) y3 h).bind (fun r6 => if r6 = y2 then some (y3, h) else fX12_best_L38 n y2 ((y3 + 1)) h)
def fX12_best (x0 : Int32) (h : abJ) : Option (Int32 × abJ) := (fX12_isPost ((x0 : Int32).toInt64) (ab_wI h 64 0 0)).bind (fun r1 => if r1 = 0 then some ((-2), (ab_wI h 64 0 0)) else (fX12_laysForce x0 (ab_wI h 64 0 0)).bind (fun r3 => if r3.1 = 0 then some ((-1), r3.2) else if r3.1 = 268435456 then some ((-1), r3.2) else fX12_best_L38 ab_N r3.1 0 r3.2))
set_option maxRecDepth 20000 in
theorem sX12_best_L38 (d : Nat) (X : abX)   : ∀ (n : Nat), ∀ (y2 : Int32) (y3 : Int32) (h : abJ) (z : (Int32 × abJ)), fX12_best_L38 n y2 y3 h = some z → ab_Ex X (d + 3) 292 38 [(0, .ref 64), (2, .int y2), (3, .int y3)] [] ab_SH (ab_dD h) (fun r => r = (some (.int z.1), ab_SH, ab_dD z.2)) := by
  intro n
  induction n with
  | zero => intro y2 y3 h z hf; cases hf
  | succ n ih =>
    intro y2 y3 h z hf
    rw [fX12_best_L38] at hf
    refine ab_Ex.blk (k := 4) (pc' := 45) (lv' := [(0, .ref 64), (2, .int y2), (3, .int y3)]) (st' := [.int 33, .ref 65, .ref 64]) (sh' := ab_SH) (D' := ab_dD h) (fun n => rfl) ?_
    refine ab_Ex.blk (k := 1) (pc' := 46) (lv' := [(0, .ref 64), (2, .int y2), (3, .int y3)]) (st' := [.int ((h.1 65 33)), .ref 64]) (sh' := ab_SH) (D' := ab_dD h) (fun n => rfl) ?_
    refine ab_Ex.blk (k := 1) (pc' := 47) (lv' := [(0, .ref 64), (2, .int y2), (3, .int y3)]) (st' := [.int y3, .int ((h.1 65 33)), .ref 64]) (sh' := ab_SH) (D' := ab_dD h) (fun n => rfl) ?_
    obtain ⟨r6, hr6, hf⟩ := ab_bind_s hf
    refine ab_Ex.call (d := d + 2) (M2 := 289) (as := [.ref 64, .int ((h.1 65 33)), .int y3]) (rest := []) (fun n => rfl) rfl (Nat.not_lt.mpr (Nat.le_of_ble_eq_true rfl)) (sX12_firstBy (d + 1) X ((h.1 65 33)) y3 h _ hr6) (fun r hr => ?_)
    subst hr
    show ab_Ex X (d + 3) 292 50 [(0, .ref 64), (2, .int y2), (3, .int y3)] [.int r6] ab_SH (ab_dD h) _
    refine ab_Ex.blk (k := 1) (pc' := 51) (lv' := [(0, .ref 64), (2, .int y2), (3, .int y3)]) (st' := [.int y2, .int r6]) (sh' := ab_SH) (D' := ab_dD h) (fun n => rfl) ?_
    refine ab_Ex.ifc (c := r6 = y2) (SA := (60, [(0, .ref 64), (2, .int y2), (3, .int y3)], [], ab_dD h)) (SB := (54, [(0, .ref 64), (2, .int y2), (3, .int y3)], [], ab_dD h)) (fun n => rfl) (fun c7 => ?_) (fun c7 => ?_)
    · replace hf := (if_pos c7).symm.trans hf
      refine ab_Ex.blk (k := 1) (pc' := 61) (lv' := [(0, .ref 64), (2, .int y2), (3, .int y3)]) (st' := [.int y3]) (sh' := ab_SH) (D' := ab_dD h) (fun n => rfl) ?_
      obtain rfl := Option.some.inj hf
      exact ab_Ex.ret (fun n => rfl) rfl
    · replace hf := (if_neg c7).symm.trans hf
      refine ab_Ex.blk (k := 2) (pc' := 38) (lv' := [(0, .ref 64), (2, .int y2), (3, .int ((y3 + 1)))]) (st' := []) (sh' := ab_SH) (D' := ab_dD h) (fun n => rfl) ?_
      exact ih y2 ((y3 + 1)) h _ hf
set_option maxRecDepth 20000 in
theorem sX12_best (d : Nat) (X : abX) (x0 : Int32) (h : abJ) (z : (Int32 × abJ)) (hf : fX12_best x0 h = some z) : ab_Ex X (d + 3) 292 0 [(0, .ref 64), (1, .int x0)] [] ab_SH (ab_dD h) (fun r => r = (some (.int z.1), ab_SH, ab_dD z.2)) := by
  unfold fX12_best at hf
  refine ab_Ex.blk (k := 6) (pc' := 8) (lv' := [(0, .ref 64), (1, .int x0)]) (st' := [.long ((x0 : Int32).toInt64), .ref 64]) (sh' := ab_SH) (D' := ab_dD (ab_wI h 64 0 0)) (fun n => rfl) ?_
  obtain ⟨r1, hr1, hf⟩ := ab_bind_s hf
  refine ab_Ex.call (d := d + 2) (M2 := 209) (as := [.ref 64, .long ((x0 : Int32).toInt64)]) (rest := []) (fun n => rfl) rfl (Nat.not_lt.mpr (Nat.le_of_ble_eq_true rfl)) (sX12_isPost (d + 1) X ((x0 : Int32).toInt64) (ab_wI h 64 0 0) _ hr1) (fun r hr => ?_)
  subst hr
  show ab_Ex X (d + 3) 292 11 [(0, .ref 64), (1, .int x0)] [.int r1] ab_SH (ab_dD (ab_wI h 64 0 0)) _
  refine ab_Ex.ifc (c := r1 = 0) (SA := (14, [(0, .ref 64), (1, .int x0)], [], ab_dD (ab_wI h 64 0 0))) (SB := (17, [(0, .ref 64), (1, .int x0)], [], ab_dD (ab_wI h 64 0 0))) (fun n => rfl) (fun c2 => ?_) (fun c2 => ?_)
  · replace hf := (if_pos c2).symm.trans hf
    refine ab_Ex.blk (k := 1) (pc' := 16) (lv' := [(0, .ref 64), (1, .int x0)]) (st' := [.int ((-2))]) (sh' := ab_SH) (D' := ab_dD (ab_wI h 64 0 0)) (fun n => rfl) ?_
    obtain rfl := Option.some.inj hf
    exact ab_Ex.ret (fun n => rfl) rfl
  · replace hf := (if_neg c2).symm.trans hf
    refine ab_Ex.blk (k := 2) (pc' := 19) (lv' := [(0, .ref 64), (1, .int x0)]) (st' := [.int x0, .ref 64]) (sh' := ab_SH) (D' := ab_dD (ab_wI h 64 0 0)) (fun n => rfl) ?_
    obtain ⟨r3, hr3, hf⟩ := ab_bind_s hf
    refine ab_Ex.call (d := d + 2) (M2 := 290) (as := [.ref 64, .int x0]) (rest := []) (fun n => rfl) rfl (Nat.not_lt.mpr (Nat.le_of_ble_eq_true rfl)) (sX12_laysForce (d) X x0 (ab_wI h 64 0 0) _ hr3) (fun r hr => ?_)
    subst hr
    show ab_Ex X (d + 3) 292 22 [(0, .ref 64), (1, .int x0)] [.int r3.1] ab_SH (ab_dD r3.2) _
    refine ab_Ex.blk (k := 2) (pc' := 24) (lv' := [(2, .int r3.1), (0, .ref 64), (1, .int x0)]) (st' := [.int r3.1]) (sh' := ab_SH) (D' := ab_dD r3.2) (fun n => rfl) ?_
    refine ab_Ex.ifc (c := r3.1 = 0) (SA := (34, [(2, .int r3.1), (0, .ref 64), (1, .int x0)], [], ab_dD r3.2)) (SB := (27, [(2, .int r3.1), (0, .ref 64), (1, .int x0)], [], ab_dD r3.2)) (fun n => rfl) (fun c4 => ?_) (fun c4 => ?_)
    · replace hf := (if_pos c4).symm.trans hf
      refine ab_Ex.blk (k := 1) (pc' := 35) (lv' := []) (st' := [.int ((-1))]) (sh' := ab_SH) (D' := ab_dD r3.2) (fun n => rfl) ?_
      obtain rfl := Option.some.inj hf
      exact ab_Ex.ret (fun n => rfl) rfl
    · replace hf := (if_neg c4).symm.trans hf
      refine ab_Ex.blk (k := 2) (pc' := 31) (lv' := [(2, .int r3.1), (0, .ref 64), (1, .int x0)]) (st' := [.int 268435456, .int r3.1]) (sh' := ab_SH) (D' := ab_dD r3.2) (fun n => rfl) ?_
      refine ab_Ex.ifc (c := r3.1 = 268435456) (SA := (34, [(2, .int r3.1), (0, .ref 64), (1, .int x0)], [], ab_dD r3.2)) (SB := (36, [(2, .int r3.1), (0, .ref 64), (1, .int x0)], [], ab_dD r3.2)) (fun n => rfl) (fun c5 => ?_) (fun c5 => ?_)
      · replace hf := (if_pos c5).symm.trans hf
        refine ab_Ex.blk (k := 1) (pc' := 35) (lv' := []) (st' := [.int ((-1))]) (sh' := ab_SH) (D' := ab_dD r3.2) (fun n => rfl) ?_
        obtain rfl := Option.some.inj hf
        exact ab_Ex.ret (fun n => rfl) rfl
      · replace hf := (if_neg c5).symm.trans hf
        refine ab_Ex.blk (k := 2) (pc' := 38) (lv' := [(0, .ref 64), (2, .int r3.1), (3, .int 0)]) (st' := []) (sh' := ab_SH) (D' := ab_dD r3.2) (fun n => rfl) ?_
        exact sX12_best_L38 d X  ab_N r3.1 0 r3.2 _ hf
def fX12_cut (x0 : Int64) (x1 : Int32) (h : abJ) : Option Int64 := if x1 = 0 then some (((x0 : Int64).toInt32 : Int32).toInt8.toInt32 : Int32).toInt64 else if x1 = 1 then some (((x0 : Int64).toInt32 : Int32).toInt16.toInt32 : Int32).toInt64 else if x1 = 2 then some ((x0 : Int64).toInt32 : Int32).toInt64 else some x0
set_option maxRecDepth 20000 in
theorem sX12_cut (d : Nat) (X : abX) (x0 : Int64) (x1 : Int32) (h : abJ) (z : Int64) (hf : fX12_cut x0 x1 h = some z) : ab_Ex X (d + 0) 293 0 [(0, .long x0), (2, .int x1)] [] ab_SH (ab_dD h) (fun r => r = (some (.long z), ab_SH, ab_dD h)) := by
  unfold fX12_cut at hf
  refine ab_Ex.blk (k := 1) (pc' := 1) (lv' := [(0, .long x0), (2, .int x1)]) (st' := [.int x1]) (sh' := ab_SH) (D' := ab_dD h) (fun n => rfl) ?_
  refine ab_Ex.ifc (c := x1 = 0) (SA := (4, [(0, .long x0), (2, .int x1)], [], ab_dD h)) (SB := (11, [(0, .long x0), (2, .int x1)], [], ab_dD h)) (fun n => rfl) (fun c1 => ?_) (fun c1 => ?_)
  · replace hf := (if_pos c1).symm.trans hf
    refine ab_Ex.blk (k := 5) (pc' := 35) (lv' := []) (st' := [.long ((((x0 : Int64).toInt32 : Int32).toInt8.toInt32 : Int32).toInt64)]) (sh' := ab_SH) (D' := ab_dD h) (fun n => rfl) ?_
    obtain rfl := Option.some.inj hf
    exact ab_Ex.ret (fun n => rfl) rfl
  · replace hf := (if_neg c1).symm.trans hf
    refine ab_Ex.blk (k := 2) (pc' := 13) (lv' := [(0, .long x0), (2, .int x1)]) (st' := [.int 1, .int x1]) (sh' := ab_SH) (D' := ab_dD h) (fun n => rfl) ?_
    refine ab_Ex.ifc (c := x1 = 1) (SA := (16, [(0, .long x0), (2, .int x1)], [], ab_dD h)) (SB := (23, [(0, .long x0), (2, .int x1)], [], ab_dD h)) (fun n => rfl) (fun c2 => ?_) (fun c2 => ?_)
    · replace hf := (if_pos c2).symm.trans hf
      refine ab_Ex.blk (k := 5) (pc' := 35) (lv' := []) (st' := [.long ((((x0 : Int64).toInt32 : Int32).toInt16.toInt32 : Int32).toInt64)]) (sh' := ab_SH) (D' := ab_dD h) (fun n => rfl) ?_
      obtain rfl := Option.some.inj hf
      exact ab_Ex.ret (fun n => rfl) rfl
    · replace hf := (if_neg c2).symm.trans hf
      refine ab_Ex.blk (k := 2) (pc' := 25) (lv' := [(0, .long x0), (2, .int x1)]) (st' := [.int 2, .int x1]) (sh' := ab_SH) (D' := ab_dD h) (fun n => rfl) ?_
      refine ab_Ex.ifc (c := x1 = 2) (SA := (28, [(0, .long x0), (2, .int x1)], [], ab_dD h)) (SB := (34, [(0, .long x0), (2, .int x1)], [], ab_dD h)) (fun n => rfl) (fun c3 => ?_) (fun c3 => ?_)
      · replace hf := (if_pos c3).symm.trans hf
        refine ab_Ex.blk (k := 4) (pc' := 35) (lv' := []) (st' := [.long (((x0 : Int64).toInt32 : Int32).toInt64)]) (sh' := ab_SH) (D' := ab_dD h) (fun n => rfl) ?_
        obtain rfl := Option.some.inj hf
        exact ab_Ex.ret (fun n => rfl) rfl
      · replace hf := (if_neg c3).symm.trans hf
        refine ab_Ex.blk (k := 1) (pc' := 35) (lv' := []) (st' := [.long x0]) (sh' := ab_SH) (D' := ab_dD h) (fun n => rfl) ?_
        obtain rfl := Option.some.inj hf
        exact ab_Ex.ret (fun n => rfl) rfl
def fX12_numbers_L64   : Nat → Int32 → Int32 → Int32 → abJ → Option (Int32 × abJ)
  | 0, _, _, _, _ => none
  | n + 1, y1, y3, y4, h => if y3 ≤ y4 then some (0, h) else ab_ask (((40 * y1) + y4) < 0 ∨ 160 ≤ (((40 * y1) + y4) : Int32).toNatClampNeg) (fX12_numbers_L64 n y1 y3 ((y4 + 1)) (ab_wL h 87 (((40 * y1) + y4) : Int32).toNatClampNeg 0))
def fX12_numbers (x0 : Int32) (x1 : Int32) (x2 : Int32) (h : abJ) : Option (Int32 × abJ) := (fX12_within ((x0 : Int32).toInt64) 0 3 (ab_wI h 64 0 0)).bind (fun r1 => if r1 = 0 then some ((-2), (ab_wI h 64 0 0)) else (fX12_within ((x1 : Int32).toInt64) 0 3 (ab_wI h 64 0 0)).bind (fun r3 => if r3 = 0 then some ((-2), (ab_wI h 64 0 0)) else (fX12_within ((x2 : Int32).toInt64) 0 40 (ab_wI h 64 0 0)).bind (fun r5 => if r5 = 0 then some ((-3), (ab_wI h 64 0 0)) else ab_ask (x0 < 0 ∨ 4 ≤ (x0 : Int32).toNatClampNeg) (ab_ask (x0 < 0 ∨ 4 ≤ (x0 : Int32).toNatClampNeg) (fX12_numbers_L64 ab_N x0 x2 0 (ab_wI (ab_wI (ab_wI h 64 0 0) 85 (x0 : Int32).toNatClampNeg x1) 86 (x0 : Int32).toNatClampNeg x2))))))
set_option maxRecDepth 20000 in
theorem sX12_numbers_L64 (d : Nat) (X : abX)   : ∀ (n : Nat), ∀ (y1 : Int32) (y3 : Int32) (y4 : Int32) (h : abJ) (z : (Int32 × abJ)), fX12_numbers_L64 n y1 y3 y4 h = some z → ab_Ex X (d + 1) 294 64 [(0, .ref 64), (1, .int y1), (3, .int y3), (4, .int y4)] [] ab_SH (ab_dD h) (fun r => r = (some (.int z.1), ab_SH, ab_dD z.2)) := by
  intro n
  induction n with
  | zero => intro y1 y3 y4 h z hf; cases hf
  | succ n ih =>
    intro y1 y3 y4 h z hf
    rw [fX12_numbers_L64] at hf
    refine ab_Ex.blk (k := 2) (pc' := 67) (lv' := [(0, .ref 64), (1, .int y1), (3, .int y3), (4, .int y4)]) (st' := [.int y3, .int y4]) (sh' := ab_SH) (D' := ab_dD h) (fun n => rfl) ?_
    refine ab_Ex.ifc (c := y3 ≤ y4) (SA := (89, [(0, .ref 64), (1, .int y1), (3, .int y3), (4, .int y4)], [], ab_dD h)) (SB := (70, [(0, .ref 64), (1, .int y1), (3, .int y3), (4, .int y4)], [], ab_dD h)) (fun n => rfl) (fun c9 => ?_) (fun c9 => ?_)
    · replace hf := (if_pos c9).symm.trans hf
      refine ab_Ex.blk (k := 1) (pc' := 90) (lv' := [(0, .ref 64), (1, .int y1), (3, .int y3), (4, .int y4)]) (st' := [.int 0]) (sh' := ab_SH) (D' := ab_dD h) (fun n => rfl) ?_
      obtain rfl := Option.some.inj hf
      exact ab_Ex.ret (fun n => rfl) rfl
    · replace hf := (if_neg c9).symm.trans hf
      refine ab_Ex.blk (k := 8) (pc' := 82) (lv' := [(0, .ref 64), (1, .int y1), (3, .int y3), (4, .int y4)]) (st' := [.long 0, .int (((40 * y1) + y4)), .ref 87]) (sh' := ab_SH) (D' := ab_dD h) (fun n => rfl) ?_
      obtain ⟨c10, hf⟩ := ab_ask_s hf
      refine ab_Ex.grd (c := ((40 * y1) + y4) < 0 ∨ 160 ≤ (((40 * y1) + y4) : Int32).toNatClampNeg) (S := (83, [(0, .ref 64), (1, .int y1), (3, .int y3), (4, .int y4)], [], ab_dD (ab_wL h 87 (((40 * y1) + y4) : Int32).toNatClampNeg 0))) (fun n => rfl) c10 ?_
      refine ab_Ex.blk (k := 2) (pc' := 64) (lv' := [(0, .ref 64), (1, .int y1), (3, .int y3), (4, .int ((y4 + 1)))]) (st' := []) (sh' := ab_SH) (D' := ab_dD (ab_wL h 87 (((40 * y1) + y4) : Int32).toNatClampNeg 0)) (fun n => rfl) ?_
      exact ih y1 y3 ((y4 + 1)) (ab_wL h 87 (((40 * y1) + y4) : Int32).toNatClampNeg 0) _ hf
set_option maxRecDepth 20000 in
theorem sX12_numbers (d : Nat) (X : abX) (x0 : Int32) (x1 : Int32) (x2 : Int32) (h : abJ) (z : (Int32 × abJ)) (hf : fX12_numbers x0 x1 x2 h = some z) : ab_Ex X (d + 1) 294 0 [(0, .ref 64), (1, .int x0), (2, .int x1), (3, .int x2)] [] ab_SH (ab_dD h) (fun r => r = (some (.int z.1), ab_SH, ab_dD z.2)) := by
  unfold fX12_numbers at hf
  refine ab_Ex.blk (k := 7) (pc' := 11) (lv' := [(0, .ref 64), (1, .int x0), (2, .int x1), (3, .int x2)]) (st' := [.long 3, .long 0, .long ((x0 : Int32).toInt64)]) (sh' := ab_SH) (D' := ab_dD (ab_wI h 64 0 0)) (fun n => rfl) ?_
  obtain ⟨r1, hr1, hf⟩ := ab_bind_s hf
  refine ab_Ex.call (d := d + 0) (M2 := 175) (as := [.long ((x0 : Int32).toInt64), .long 0, .long 3]) (rest := []) (fun n => rfl) rfl (Nat.not_lt.mpr (Nat.le_of_ble_eq_true rfl)) (sX12_within (d) X ((x0 : Int32).toInt64) 0 3 (ab_wI h 64 0 0) _ hr1) (fun r hr => ?_)
  subst hr
  show ab_Ex X (d + 1) 294 14 [(0, .ref 64), (1, .int x0), (2, .int x1), (3, .int x2)] [.int r1] ab_SH (ab_dD (ab_wI h 64 0 0)) _
  refine ab_Ex.ifc (c := r1 = 0) (SA := (29, [(0, .ref 64), (1, .int x0), (2, .int x1), (3, .int x2)], [], ab_dD (ab_wI h 64 0 0))) (SB := (17, [(0, .ref 64), (1, .int x0), (2, .int x1), (3, .int x2)], [], ab_dD (ab_wI h 64 0 0))) (fun n => rfl) (fun c2 => ?_) (fun c2 => ?_)
  · replace hf := (if_pos c2).symm.trans hf
    refine ab_Ex.blk (k := 1) (pc' := 31) (lv' := []) (st' := [.int ((-2))]) (sh' := ab_SH) (D' := ab_dD (ab_wI h 64 0 0)) (fun n => rfl) ?_
    obtain rfl := Option.some.inj hf
    exact ab_Ex.ret (fun n => rfl) rfl
  · replace hf := (if_neg c2).symm.trans hf
    refine ab_Ex.blk (k := 4) (pc' := 23) (lv' := [(0, .ref 64), (1, .int x0), (2, .int x1), (3, .int x2)]) (st' := [.long 3, .long 0, .long ((x1 : Int32).toInt64)]) (sh' := ab_SH) (D' := ab_dD (ab_wI h 64 0 0)) (fun n => rfl) ?_
    obtain ⟨r3, hr3, hf⟩ := ab_bind_s hf
    refine ab_Ex.call (d := d + 0) (M2 := 175) (as := [.long ((x1 : Int32).toInt64), .long 0, .long 3]) (rest := []) (fun n => rfl) rfl (Nat.not_lt.mpr (Nat.le_of_ble_eq_true rfl)) (sX12_within (d) X ((x1 : Int32).toInt64) 0 3 (ab_wI h 64 0 0) _ hr3) (fun r hr => ?_)
    subst hr
    show ab_Ex X (d + 1) 294 26 [(0, .ref 64), (1, .int x0), (2, .int x1), (3, .int x2)] [.int r3] ab_SH (ab_dD (ab_wI h 64 0 0)) _
    refine ab_Ex.ifc (c := r3 = 0) (SA := (29, [(0, .ref 64), (1, .int x0), (2, .int x1), (3, .int x2)], [], ab_dD (ab_wI h 64 0 0))) (SB := (32, [(0, .ref 64), (1, .int x0), (2, .int x1), (3, .int x2)], [], ab_dD (ab_wI h 64 0 0))) (fun n => rfl) (fun c4 => ?_) (fun c4 => ?_)
    · replace hf := (if_pos c4).symm.trans hf
      refine ab_Ex.blk (k := 1) (pc' := 31) (lv' := []) (st' := [.int ((-2))]) (sh' := ab_SH) (D' := ab_dD (ab_wI h 64 0 0)) (fun n => rfl) ?_
      obtain rfl := Option.some.inj hf
      exact ab_Ex.ret (fun n => rfl) rfl
    · replace hf := (if_neg c4).symm.trans hf
      refine ab_Ex.blk (k := 4) (pc' := 38) (lv' := [(0, .ref 64), (1, .int x0), (2, .int x1), (3, .int x2)]) (st' := [.long 40, .long 0, .long ((x2 : Int32).toInt64)]) (sh' := ab_SH) (D' := ab_dD (ab_wI h 64 0 0)) (fun n => rfl) ?_
      obtain ⟨r5, hr5, hf⟩ := ab_bind_s hf
      refine ab_Ex.call (d := d + 0) (M2 := 175) (as := [.long ((x2 : Int32).toInt64), .long 0, .long 40]) (rest := []) (fun n => rfl) rfl (Nat.not_lt.mpr (Nat.le_of_ble_eq_true rfl)) (sX12_within (d) X ((x2 : Int32).toInt64) 0 40 (ab_wI h 64 0 0) _ hr5) (fun r hr => ?_)
      subst hr
      show ab_Ex X (d + 1) 294 41 [(0, .ref 64), (1, .int x0), (2, .int x1), (3, .int x2)] [.int r5] ab_SH (ab_dD (ab_wI h 64 0 0)) _
      refine ab_Ex.ifc (c := r5 = 0) (SA := (44, [(0, .ref 64), (1, .int x0), (2, .int x1), (3, .int x2)], [], ab_dD (ab_wI h 64 0 0))) (SB := (47, [(0, .ref 64), (1, .int x0), (2, .int x1), (3, .int x2)], [], ab_dD (ab_wI h 64 0 0))) (fun n => rfl) (fun c6 => ?_) (fun c6 => ?_)
      · replace hf := (if_pos c6).symm.trans hf
        refine ab_Ex.blk (k := 1) (pc' := 46) (lv' := [(0, .ref 64), (1, .int x0), (2, .int x1), (3, .int x2)]) (st' := [.int ((-3))]) (sh' := ab_SH) (D' := ab_dD (ab_wI h 64 0 0)) (fun n => rfl) ?_
        obtain rfl := Option.some.inj hf
        exact ab_Ex.ret (fun n => rfl) rfl
      · replace hf := (if_neg c6).symm.trans hf
        refine ab_Ex.blk (k := 4) (pc' := 53) (lv' := [(0, .ref 64), (1, .int x0), (2, .int x1), (3, .int x2)]) (st' := [.int x1, .int x0, .ref 85]) (sh' := ab_SH) (D' := ab_dD (ab_wI h 64 0 0)) (fun n => rfl) ?_
        obtain ⟨c7, hf⟩ := ab_ask_s hf
        refine ab_Ex.grd (c := x0 < 0 ∨ 4 ≤ (x0 : Int32).toNatClampNeg) (S := (54, [(0, .ref 64), (1, .int x0), (2, .int x1), (3, .int x2)], [], ab_dD (ab_wI (ab_wI h 64 0 0) 85 (x0 : Int32).toNatClampNeg x1))) (fun n => rfl) c7 ?_
        refine ab_Ex.blk (k := 4) (pc' := 60) (lv' := [(0, .ref 64), (1, .int x0), (2, .int x1), (3, .int x2)]) (st' := [.int x2, .int x0, .ref 86]) (sh' := ab_SH) (D' := ab_dD (ab_wI (ab_wI h 64 0 0) 85 (x0 : Int32).toNatClampNeg x1)) (fun n => rfl) ?_
        obtain ⟨c8, hf⟩ := ab_ask_s hf
        refine ab_Ex.grd (c := x0 < 0 ∨ 4 ≤ (x0 : Int32).toNatClampNeg) (S := (61, [(0, .ref 64), (1, .int x0), (2, .int x1), (3, .int x2)], [], ab_dD (ab_wI (ab_wI (ab_wI h 64 0 0) 85 (x0 : Int32).toNatClampNeg x1) 86 (x0 : Int32).toNatClampNeg x2))) (fun n => rfl) c8 ?_
        refine ab_Ex.blk (k := 2) (pc' := 64) (lv' := [(0, .ref 64), (1, .int x0), (3, .int x2), (4, .int 0)]) (st' := []) (sh' := ab_SH) (D' := ab_dD (ab_wI (ab_wI (ab_wI h 64 0 0) 85 (x0 : Int32).toNatClampNeg x1) 86 (x0 : Int32).toNatClampNeg x2)) (fun n => rfl) ?_
        exact sX12_numbers_L64 d X  ab_N x0 x2 0 (ab_wI (ab_wI (ab_wI h 64 0 0) 85 (x0 : Int32).toNatClampNeg x1) 86 (x0 : Int32).toNatClampNeg x2) _ hf
def fX12_write (x0 : Int32) (x1 : Int32) (x2 : Int64) (h : abJ) : Option (Int64 × abJ) := (fX12_noTray x0 (ab_wI h 64 0 0)).bind (fun r1 => if r1 = 0 then ab_ask (x0 < 0 ∨ 4 ≤ (x0 : Int32).toNatClampNeg) ((fX12_within ((x1 : Int32).toInt64) 0 (((((ab_wI h 64 0 0).1 86 (x0 : Int32).toNatClampNeg) - 1) : Int32).toInt64) (ab_wI h 64 0 0)).bind (fun r5 => if r5 = 0 then some ((-7), (ab_wI h 64 0 0)) else ab_ask (x0 < 0 ∨ 4 ≤ (x0 : Int32).toNatClampNeg) ((fX12_cut x2 (((ab_wI h 64 0 0).1 85 (x0 : Int32).toNatClampNeg)) (ab_wI h 64 0 0)).bind (fun r9 => ab_ask (((40 * x0) + x1) < 0 ∨ 160 ≤ (((40 * x0) + x1) : Int32).toNatClampNeg) (ab_ask (((40 * x0) + x1) < 0 ∨ 160 ≤ (((40 * x0) + x1) : Int32).toNatClampNeg) (some (((ab_wL (ab_wI h 64 0 0) 87 (((40 * x0) + x1) : Int32).toNatClampNeg r9).2 87 (((40 * x0) + x1) : Int32).toNatClampNeg), (ab_wL (ab_wI h 64 0 0) 87 (((40 * x0) + x1) : Int32).toNatClampNeg r9)))))))) else some ((r1 : Int32).toInt64, (ab_wI h 64 0 0)))
set_option maxRecDepth 20000 in
theorem sX12_write (d : Nat) (X : abX) (x0 : Int32) (x1 : Int32) (x2 : Int64) (h : abJ) (z : (Int64 × abJ)) (hf : fX12_write x0 x1 x2 h = some z) : ab_Ex X (d + 2) 295 0 [(0, .ref 64), (1, .int x0), (2, .int x1), (3, .long x2)] [] ab_SH (ab_dD h) (fun r => r = (some (.long z.1), ab_SH, ab_dD z.2)) := by
  unfold fX12_write at hf
  refine ab_Ex.blk (k := 5) (pc' := 7) (lv' := [(0, .ref 64), (1, .int x0), (2, .int x1), (3, .long x2)]) (st' := [.int x0, .ref 64]) (sh' := ab_SH) (D' := ab_dD (ab_wI h 64 0 0)) (fun n => rfl) ?_
  obtain ⟨r1, hr1, hf⟩ := ab_bind_s hf
  refine ab_Ex.call (d := d + 1) (M2 := 241) (as := [.ref 64, .int x0]) (rest := []) (fun n => rfl) rfl (Nat.not_lt.mpr (Nat.le_of_ble_eq_true rfl)) (sX12_noTray (d) X x0 (ab_wI h 64 0 0) _ hr1) (fun r hr => ?_)
  subst hr
  show ab_Ex X (d + 2) 295 10 [(0, .ref 64), (1, .int x0), (2, .int x1), (3, .long x2)] [.int r1] ab_SH (ab_dD (ab_wI h 64 0 0)) _
  refine ab_Ex.blk (k := 2) (pc' := 14) (lv' := [(5, .int r1), (0, .ref 64), (1, .int x0), (2, .int x1), (3, .long x2)]) (st' := [.int r1]) (sh' := ab_SH) (D' := ab_dD (ab_wI h 64 0 0)) (fun n => rfl) ?_
  refine ab_Ex.ifc (c := r1 = 0) (SA := (21, [(5, .int r1), (0, .ref 64), (1, .int x0), (2, .int x1), (3, .long x2)], [], ab_dD (ab_wI h 64 0 0))) (SB := (17, [(5, .int r1), (0, .ref 64), (1, .int x0), (2, .int x1), (3, .long x2)], [], ab_dD (ab_wI h 64 0 0))) (fun n => rfl) (fun c2 => ?_) (fun c2 => ?_)
  · replace hf := (if_pos c2).symm.trans hf
    refine ab_Ex.blk (k := 6) (pc' := 29) (lv' := [(5, .int r1), (0, .ref 64), (1, .int x0), (2, .int x1), (3, .long x2)]) (st' := [.int x0, .ref 86, .long 0, .long ((x1 : Int32).toInt64)]) (sh' := ab_SH) (D' := ab_dD (ab_wI h 64 0 0)) (fun n => rfl) ?_
    obtain ⟨c4, hf⟩ := ab_ask_s hf
    refine ab_Ex.grd (c := x0 < 0 ∨ 4 ≤ (x0 : Int32).toNatClampNeg) (S := (30, [(5, .int r1), (0, .ref 64), (1, .int x0), (2, .int x1), (3, .long x2)], [.int (((ab_wI h 64 0 0).1 86 (x0 : Int32).toNatClampNeg)), .long 0, .long ((x1 : Int32).toInt64)], ab_dD (ab_wI h 64 0 0))) (fun n => rfl) c4 ?_
    refine ab_Ex.blk (k := 3) (pc' := 33) (lv' := [(5, .int r1), (0, .ref 64), (1, .int x0), (2, .int x1), (3, .long x2)]) (st' := [.long (((((ab_wI h 64 0 0).1 86 (x0 : Int32).toNatClampNeg) - 1) : Int32).toInt64), .long 0, .long ((x1 : Int32).toInt64)]) (sh' := ab_SH) (D' := ab_dD (ab_wI h 64 0 0)) (fun n => rfl) ?_
    obtain ⟨r5, hr5, hf⟩ := ab_bind_s hf
    refine ab_Ex.call (d := d + 1) (M2 := 175) (as := [.long ((x1 : Int32).toInt64), .long 0, .long (((((ab_wI h 64 0 0).1 86 (x0 : Int32).toNatClampNeg) - 1) : Int32).toInt64)]) (rest := []) (fun n => rfl) rfl (Nat.not_lt.mpr (Nat.le_of_ble_eq_true rfl)) (sX12_within (d + 1) X ((x1 : Int32).toInt64) 0 (((((ab_wI h 64 0 0).1 86 (x0 : Int32).toNatClampNeg) - 1) : Int32).toInt64) (ab_wI h 64 0 0) _ hr5) (fun r hr => ?_)
    subst hr
    show ab_Ex X (d + 2) 295 36 [(5, .int r1), (0, .ref 64), (1, .int x0), (2, .int x1), (3, .long x2)] [.int r5] ab_SH (ab_dD (ab_wI h 64 0 0)) _
    refine ab_Ex.ifc (c := r5 = 0) (SA := (39, [(5, .int r1), (0, .ref 64), (1, .int x0), (2, .int x1), (3, .long x2)], [], ab_dD (ab_wI h 64 0 0))) (SB := (43, [(5, .int r1), (0, .ref 64), (1, .int x0), (2, .int x1), (3, .long x2)], [], ab_dD (ab_wI h 64 0 0))) (fun n => rfl) (fun c6 => ?_) (fun c6 => ?_)
    · replace hf := (if_pos c6).symm.trans hf
      refine ab_Ex.blk (k := 1) (pc' := 42) (lv' := [(5, .int r1), (0, .ref 64), (1, .int x0), (2, .int x1), (3, .long x2)]) (st' := [.long ((-7))]) (sh' := ab_SH) (D' := ab_dD (ab_wI h 64 0 0)) (fun n => rfl) ?_
      obtain rfl := Option.some.inj hf
      exact ab_Ex.ret (fun n => rfl) rfl
    · replace hf := (if_neg c6).symm.trans hf
      refine ab_Ex.blk (k := 11) (pc' := 59) (lv' := [(5, .int r1), (0, .ref 64), (1, .int x0), (2, .int x1), (3, .long x2)]) (st' := [.int x0, .ref 85, .long x2, .int (((40 * x0) + x1)), .ref 87]) (sh' := ab_SH) (D' := ab_dD (ab_wI h 64 0 0)) (fun n => rfl) ?_
      obtain ⟨c8, hf⟩ := ab_ask_s hf
      refine ab_Ex.grd (c := x0 < 0 ∨ 4 ≤ (x0 : Int32).toNatClampNeg) (S := (60, [(5, .int r1), (0, .ref 64), (1, .int x0), (2, .int x1), (3, .long x2)], [.int (((ab_wI h 64 0 0).1 85 (x0 : Int32).toNatClampNeg)), .long x2, .int (((40 * x0) + x1)), .ref 87], ab_dD (ab_wI h 64 0 0))) (fun n => rfl) c8 ?_
      obtain ⟨r9, hr9, hf⟩ := ab_bind_s hf
      refine ab_Ex.call (d := d + 1) (M2 := 293) (as := [.long x2, .int (((ab_wI h 64 0 0).1 85 (x0 : Int32).toNatClampNeg))]) (rest := [.int (((40 * x0) + x1)), .ref 87]) (fun n => rfl) rfl (Nat.not_lt.mpr (Nat.le_of_ble_eq_true rfl)) (sX12_cut (d + 1) X x2 (((ab_wI h 64 0 0).1 85 (x0 : Int32).toNatClampNeg)) (ab_wI h 64 0 0) _ hr9) (fun r hr => ?_)
      subst hr
      show ab_Ex X (d + 2) 295 63 [(5, .int r1), (0, .ref 64), (1, .int x0), (2, .int x1), (3, .long x2)] [.long r9, .int (((40 * x0) + x1)), .ref 87] ab_SH (ab_dD (ab_wI h 64 0 0)) _
      obtain ⟨c10, hf⟩ := ab_ask_s hf
      refine ab_Ex.grd (c := ((40 * x0) + x1) < 0 ∨ 160 ≤ (((40 * x0) + x1) : Int32).toNatClampNeg) (S := (64, [(5, .int r1), (0, .ref 64), (1, .int x0), (2, .int x1), (3, .long x2)], [], ab_dD (ab_wL (ab_wI h 64 0 0) 87 (((40 * x0) + x1) : Int32).toNatClampNeg r9))) (fun n => rfl) c10 ?_
      refine ab_Ex.blk (k := 7) (pc' := 74) (lv' := [(5, .int r1), (0, .ref 64), (1, .int x0), (2, .int x1), (3, .long x2)]) (st' := [.int (((40 * x0) + x1)), .ref 87]) (sh' := ab_SH) (D' := ab_dD (ab_wL (ab_wI h 64 0 0) 87 (((40 * x0) + x1) : Int32).toNatClampNeg r9)) (fun n => rfl) ?_
      obtain ⟨c12, hf⟩ := ab_ask_s hf
      refine ab_Ex.grd (c := ((40 * x0) + x1) < 0 ∨ 160 ≤ (((40 * x0) + x1) : Int32).toNatClampNeg) (S := (75, [(5, .int r1), (0, .ref 64), (1, .int x0), (2, .int x1), (3, .long x2)], [.long (((ab_wL (ab_wI h 64 0 0) 87 (((40 * x0) + x1) : Int32).toNatClampNeg r9).2 87 (((40 * x0) + x1) : Int32).toNatClampNeg))], ab_dD (ab_wL (ab_wI h 64 0 0) 87 (((40 * x0) + x1) : Int32).toNatClampNeg r9))) (fun n => rfl) c12 ?_
      obtain rfl := Option.some.inj hf
      exact ab_Ex.ret (fun n => rfl) rfl
  · replace hf := (if_neg c2).symm.trans hf
    refine ab_Ex.blk (k := 2) (pc' := 20) (lv' := [(5, .int r1), (0, .ref 64), (1, .int x0), (2, .int x1), (3, .long x2)]) (st' := [.long ((r1 : Int32).toInt64)]) (sh' := ab_SH) (D' := ab_dD (ab_wI h 64 0 0)) (fun n => rfl) ?_
    obtain rfl := Option.some.inj hf
    exact ab_Ex.ret (fun n => rfl) rfl
def fX12_lists_L25   : Nat → Int32 → Int32 → Int32 → abJ → Option (Int32 × abJ)
  | 0, _, _, _, _ => none
  | n + 1, y1, y3, y4, h => ab_ask (y1 < 0 ∨ 4 ≤ (y1 : Int32).toNatClampNeg) (if (h.1 86 (y1 : Int32).toNatClampNeg) ≤ y4 then ab_ask (y1 < 0 ∨ 4 ≤ (y1 : Int32).toNatClampNeg) (some ((h.1 86 (y1 : Int32).toNatClampNeg), h)) else (fX12_goesTo y3 h).bind (fun r9 => ab_ask (((40 * y1) + y4) < 0 ∨ 160 ≤ (((40 * y1) + y4) : Int32).toNatClampNeg) (fX12_lists_L25 n y1 r9.1 ((y4 + 1)) (ab_wL r9.2 87 (((40 * y1) + y4) : Int32).toNatClampNeg ((r9.1 - r9.1 / 6 * 6) : Int32).toInt64))))
def fX12_lists (x0 : Int32) (h : abJ) : Option (Int32 × abJ) := (fX12_noTray x0 (ab_wI h 64 0 0)).bind (fun r1 => if r1 = 0 then (fX12_standNow (ab_wI h 64 0 0)).bind (fun r3 => fX12_lists_L25 ab_N x0 r3 0 (ab_wI h 64 0 0)) else some (r1, (ab_wI h 64 0 0)))
set_option maxRecDepth 20000 in
theorem sX12_lists_L25 (d : Nat) (X : abX)   : ∀ (n : Nat), ∀ (y1 : Int32) (y3 : Int32) (y4 : Int32) (h : abJ) (z : (Int32 × abJ)), fX12_lists_L25 n y1 y3 y4 h = some z → ab_Ex X (d + 5) 296 25 [(0, .ref 64), (1, .int y1), (3, .int y3), (4, .int y4)] [] ab_SH (ab_dD h) (fun r => r = (some (.int z.1), ab_SH, ab_dD z.2)) := by
  intro n
  induction n with
  | zero => intro y1 y3 y4 h z hf; cases hf
  | succ n ih =>
    intro y1 y3 y4 h z hf
    rw [fX12_lists_L25] at hf
    refine ab_Ex.blk (k := 4) (pc' := 32) (lv' := [(0, .ref 64), (1, .int y1), (3, .int y3), (4, .int y4)]) (st' := [.int y1, .ref 86, .int y4]) (sh' := ab_SH) (D' := ab_dD h) (fun n => rfl) ?_
    obtain ⟨c5, hf⟩ := ab_ask_s hf
    refine ab_Ex.grd (c := y1 < 0 ∨ 4 ≤ (y1 : Int32).toNatClampNeg) (S := (33, [(0, .ref 64), (1, .int y1), (3, .int y3), (4, .int y4)], [.int ((h.1 86 (y1 : Int32).toNatClampNeg)), .int y4], ab_dD h)) (fun n => rfl) c5 ?_
    refine ab_Ex.ifc (c := (h.1 86 (y1 : Int32).toNatClampNeg) ≤ y4) (SA := (65, [(0, .ref 64), (1, .int y1), (3, .int y3), (4, .int y4)], [], ab_dD h)) (SB := (36, [(0, .ref 64), (1, .int y1), (3, .int y3), (4, .int y4)], [], ab_dD h)) (fun n => rfl) (fun c6 => ?_) (fun c6 => ?_)
    · replace hf := (if_pos c6).symm.trans hf
      refine ab_Ex.blk (k := 3) (pc' := 70) (lv' := [(0, .ref 64), (1, .int y1), (3, .int y3), (4, .int y4)]) (st' := [.int y1, .ref 86]) (sh' := ab_SH) (D' := ab_dD h) (fun n => rfl) ?_
      obtain ⟨c8, hf⟩ := ab_ask_s hf
      refine ab_Ex.grd (c := y1 < 0 ∨ 4 ≤ (y1 : Int32).toNatClampNeg) (S := (71, [(0, .ref 64), (1, .int y1), (3, .int y3), (4, .int y4)], [.int ((h.1 86 (y1 : Int32).toNatClampNeg))], ab_dD h)) (fun n => rfl) c8 ?_
      obtain rfl := Option.some.inj hf
      exact ab_Ex.ret (fun n => rfl) rfl
    · replace hf := (if_neg c6).symm.trans hf
      refine ab_Ex.blk (k := 2) (pc' := 38) (lv' := [(0, .ref 64), (1, .int y1), (3, .int y3), (4, .int y4)]) (st' := [.int y3, .ref 64]) (sh' := ab_SH) (D' := ab_dD h) (fun n => rfl) ?_
      obtain ⟨r9, hr9, hf⟩ := ab_bind_s hf
      refine ab_Ex.call (d := d + 4) (M2 := 225) (as := [.ref 64, .int y3]) (rest := []) (fun n => rfl) rfl (Nat.not_lt.mpr (Nat.le_of_ble_eq_true rfl)) (sX12_goesTo (d) X y3 h _ hr9) (fun r hr => ?_)
      subst hr
      show ab_Ex X (d + 5) 296 41 [(0, .ref 64), (1, .int y1), (3, .int y3), (4, .int y4)] [.int r9.1] ab_SH (ab_dD r9.2) _
      refine ab_Ex.blk (k := 10) (pc' := 56) (lv' := [(3, .int r9.1), (0, .ref 64), (1, .int y1), (4, .int y4)]) (st' := [.int 6, .int r9.1, .int (((40 * y1) + y4)), .ref 87]) (sh' := ab_SH) (D' := ab_dD r9.2) (fun n => rfl) ?_
      refine ab_Ex.blk (k := 1) (pc' := 57) (lv' := [(3, .int r9.1), (0, .ref 64), (1, .int y1), (4, .int y4)]) (st' := [.int ((r9.1 - r9.1 / 6 * 6)), .int (((40 * y1) + y4)), .ref 87]) (sh' := ab_SH) (D' := ab_dD r9.2) (fun n => rfl) ?_
      refine ab_Ex.blk (k := 1) (pc' := 58) (lv' := [(3, .int r9.1), (0, .ref 64), (1, .int y1), (4, .int y4)]) (st' := [.long (((r9.1 - r9.1 / 6 * 6) : Int32).toInt64), .int (((40 * y1) + y4)), .ref 87]) (sh' := ab_SH) (D' := ab_dD r9.2) (fun n => rfl) ?_
      obtain ⟨c10, hf⟩ := ab_ask_s hf
      refine ab_Ex.grd (c := ((40 * y1) + y4) < 0 ∨ 160 ≤ (((40 * y1) + y4) : Int32).toNatClampNeg) (S := (59, [(3, .int r9.1), (0, .ref 64), (1, .int y1), (4, .int y4)], [], ab_dD (ab_wL r9.2 87 (((40 * y1) + y4) : Int32).toNatClampNeg ((r9.1 - r9.1 / 6 * 6) : Int32).toInt64))) (fun n => rfl) c10 ?_
      refine ab_Ex.blk (k := 2) (pc' := 25) (lv' := [(0, .ref 64), (1, .int y1), (3, .int r9.1), (4, .int ((y4 + 1)))]) (st' := []) (sh' := ab_SH) (D' := ab_dD (ab_wL r9.2 87 (((40 * y1) + y4) : Int32).toNatClampNeg ((r9.1 - r9.1 / 6 * 6) : Int32).toInt64)) (fun n => rfl) ?_
      exact ih y1 r9.1 ((y4 + 1)) (ab_wL r9.2 87 (((40 * y1) + y4) : Int32).toNatClampNeg ((r9.1 - r9.1 / 6 * 6) : Int32).toInt64) _ hf
set_option maxRecDepth 20000 in
theorem sX12_lists (d : Nat) (X : abX) (x0 : Int32) (h : abJ) (z : (Int32 × abJ)) (hf : fX12_lists x0 h = some z) : ab_Ex X (d + 5) 296 0 [(0, .ref 64), (1, .int x0)] [] ab_SH (ab_dD h) (fun r => r = (some (.int z.1), ab_SH, ab_dD z.2)) := by
  unfold fX12_lists at hf
  refine ab_Ex.blk (k := 5) (pc' := 7) (lv' := [(0, .ref 64), (1, .int x0)]) (st' := [.int x0, .ref 64]) (sh' := ab_SH) (D' := ab_dD (ab_wI h 64 0 0)) (fun n => rfl) ?_
  obtain ⟨r1, hr1, hf⟩ := ab_bind_s hf
  refine ab_Ex.call (d := d + 4) (M2 := 241) (as := [.ref 64, .int x0]) (rest := []) (fun n => rfl) rfl (Nat.not_lt.mpr (Nat.le_of_ble_eq_true rfl)) (sX12_noTray (d + 3) X x0 (ab_wI h 64 0 0) _ hr1) (fun r hr => ?_)
  subst hr
  show ab_Ex X (d + 5) 296 10 [(0, .ref 64), (1, .int x0)] [.int r1] ab_SH (ab_dD (ab_wI h 64 0 0)) _
  refine ab_Ex.blk (k := 2) (pc' := 12) (lv' := [(2, .int r1), (0, .ref 64), (1, .int x0)]) (st' := [.int r1]) (sh' := ab_SH) (D' := ab_dD (ab_wI h 64 0 0)) (fun n => rfl) ?_
  refine ab_Ex.ifc (c := r1 = 0) (SA := (17, [(2, .int r1), (0, .ref 64), (1, .int x0)], [], ab_dD (ab_wI h 64 0 0))) (SB := (15, [(2, .int r1), (0, .ref 64), (1, .int x0)], [], ab_dD (ab_wI h 64 0 0))) (fun n => rfl) (fun c2 => ?_) (fun c2 => ?_)
  · replace hf := (if_pos c2).symm.trans hf
    refine ab_Ex.blk (k := 1) (pc' := 18) (lv' := [(2, .int r1), (0, .ref 64), (1, .int x0)]) (st' := [.ref 64]) (sh' := ab_SH) (D' := ab_dD (ab_wI h 64 0 0)) (fun n => rfl) ?_
    obtain ⟨r3, hr3, hf⟩ := ab_bind_s hf
    refine ab_Ex.call (d := d + 4) (M2 := 216) (as := [.ref 64]) (rest := []) (fun n => rfl) rfl (Nat.not_lt.mpr (Nat.le_of_ble_eq_true rfl)) (sX12_standNow (d + 2) X  (ab_wI h 64 0 0) _ hr3) (fun r hr => ?_)
    subst hr
    show ab_Ex X (d + 5) 296 21 [(2, .int r1), (0, .ref 64), (1, .int x0)] [.int r3] ab_SH (ab_dD (ab_wI h 64 0 0)) _
    refine ab_Ex.blk (k := 3) (pc' := 25) (lv' := [(0, .ref 64), (1, .int x0), (3, .int r3), (4, .int 0)]) (st' := []) (sh' := ab_SH) (D' := ab_dD (ab_wI h 64 0 0)) (fun n => rfl) ?_
    exact sX12_lists_L25 d X  ab_N x0 r3 0 (ab_wI h 64 0 0) _ hf
  · replace hf := (if_neg c2).symm.trans hf
    refine ab_Ex.blk (k := 1) (pc' := 16) (lv' := [(2, .int r1), (0, .ref 64), (1, .int x0)]) (st' := [.int r1]) (sh' := ab_SH) (D' := ab_dD (ab_wI h 64 0 0)) (fun n => rfl) ?_
    obtain rfl := Option.some.inj hf
    exact ab_Ex.ret (fun n => rfl) rfl
def fX12_image_L20   : Nat → Int32 → Int32 → abJ → Option (Int32 × abJ)
  | 0, _, _, _ => none
  | n + 1, y1, y2, h => if 1034 ≤ y2 then ab_ask (y1 < 0 ∨ 2 ≤ (y1 : Int32).toNatClampNeg) (some (0, (ab_wI h 66 (y1 : Int32).toNatClampNeg (vp_nar .boolean 1)))) else ab_ask (y2 < 0 ∨ 3102 ≤ (y2 : Int32).toNatClampNeg) (ab_ask (((1034 * (y1 + 1)) + y2) < 0 ∨ 3102 ≤ (((1034 * (y1 + 1)) + y2) : Int32).toNatClampNeg) (fX12_image_L20 n y1 ((y2 + 1)) (ab_wI h 65 (((1034 * (y1 + 1)) + y2) : Int32).toNatClampNeg (h.1 65 (y2 : Int32).toNatClampNeg))))
def fX12_image (x0 : Int32) (h : abJ) : Option (Int32 × abJ) := (fX12_within ((x0 : Int32).toInt64) 0 1 (ab_wI h 64 0 0)).bind (fun r1 => if r1 = 0 then some ((-2), (ab_wI h 64 0 0)) else fX12_image_L20 ab_N x0 0 (ab_wI h 64 0 0))
set_option maxRecDepth 20000 in
theorem sX12_image_L20 (d : Nat) (X : abX)   : ∀ (n : Nat), ∀ (y1 : Int32) (y2 : Int32) (h : abJ) (z : (Int32 × abJ)), fX12_image_L20 n y1 y2 h = some z → ab_Ex X (d + 1) 297 20 [(0, .ref 64), (1, .int y1), (2, .int y2)] [] ab_SH (ab_dD h) (fun r => r = (some (.int z.1), ab_SH, ab_dD z.2)) := by
  intro n
  induction n with
  | zero => intro y1 y2 h z hf; cases hf
  | succ n ih =>
    intro y1 y2 h z hf
    rw [fX12_image_L20] at hf
    refine ab_Ex.blk (k := 2) (pc' := 24) (lv' := [(0, .ref 64), (1, .int y1), (2, .int y2)]) (st' := [.int 1034, .int y2]) (sh' := ab_SH) (D' := ab_dD h) (fun n => rfl) ?_
    refine ab_Ex.ifc (c := 1034 ≤ y2) (SA := (53, [(0, .ref 64), (1, .int y1), (2, .int y2)], [], ab_dD h)) (SB := (27, [(0, .ref 64), (1, .int y1), (2, .int y2)], [], ab_dD h)) (fun n => rfl) (fun c3 => ?_) (fun c3 => ?_)
    · replace hf := (if_pos c3).symm.trans hf
      refine ab_Ex.blk (k := 4) (pc' := 59) (lv' := [(0, .ref 64), (1, .int y1), (2, .int y2)]) (st' := [.int 1, .int y1, .ref 66]) (sh' := ab_SH) (D' := ab_dD h) (fun n => rfl) ?_
      obtain ⟨c4, hf⟩ := ab_ask_s hf
      refine ab_Ex.grd (c := y1 < 0 ∨ 2 ≤ (y1 : Int32).toNatClampNeg) (S := (60, [(0, .ref 64), (1, .int y1), (2, .int y2)], [], ab_dD (ab_wI h 66 (y1 : Int32).toNatClampNeg (vp_nar .boolean 1)))) (fun n => rfl) c4 ?_
      refine ab_Ex.blk (k := 1) (pc' := 61) (lv' := [(0, .ref 64), (1, .int y1), (2, .int y2)]) (st' := [.int 0]) (sh' := ab_SH) (D' := ab_dD (ab_wI h 66 (y1 : Int32).toNatClampNeg (vp_nar .boolean 1))) (fun n => rfl) ?_
      obtain rfl := Option.some.inj hf
      exact ab_Ex.ret (fun n => rfl) rfl
    · replace hf := (if_neg c3).symm.trans hf
      refine ab_Ex.blk (k := 12) (pc' := 45) (lv' := [(0, .ref 64), (1, .int y1), (2, .int y2)]) (st' := [.int y2, .ref 65, .int (((1034 * (y1 + 1)) + y2)), .ref 65]) (sh' := ab_SH) (D' := ab_dD h) (fun n => rfl) ?_
      obtain ⟨c6, hf⟩ := ab_ask_s hf
      refine ab_Ex.grd (c := y2 < 0 ∨ 3102 ≤ (y2 : Int32).toNatClampNeg) (S := (46, [(0, .ref 64), (1, .int y1), (2, .int y2)], [.int ((h.1 65 (y2 : Int32).toNatClampNeg)), .int (((1034 * (y1 + 1)) + y2)), .ref 65], ab_dD h)) (fun n => rfl) c6 ?_
      obtain ⟨c7, hf⟩ := ab_ask_s hf
      refine ab_Ex.grd (c := ((1034 * (y1 + 1)) + y2) < 0 ∨ 3102 ≤ (((1034 * (y1 + 1)) + y2) : Int32).toNatClampNeg) (S := (47, [(0, .ref 64), (1, .int y1), (2, .int y2)], [], ab_dD (ab_wI h 65 (((1034 * (y1 + 1)) + y2) : Int32).toNatClampNeg (h.1 65 (y2 : Int32).toNatClampNeg)))) (fun n => rfl) c7 ?_
      refine ab_Ex.blk (k := 2) (pc' := 20) (lv' := [(0, .ref 64), (1, .int y1), (2, .int ((y2 + 1)))]) (st' := []) (sh' := ab_SH) (D' := ab_dD (ab_wI h 65 (((1034 * (y1 + 1)) + y2) : Int32).toNatClampNeg (h.1 65 (y2 : Int32).toNatClampNeg))) (fun n => rfl) ?_
      exact ih y1 ((y2 + 1)) (ab_wI h 65 (((1034 * (y1 + 1)) + y2) : Int32).toNatClampNeg (h.1 65 (y2 : Int32).toNatClampNeg)) _ hf
set_option maxRecDepth 20000 in
theorem sX12_image (d : Nat) (X : abX) (x0 : Int32) (h : abJ) (z : (Int32 × abJ)) (hf : fX12_image x0 h = some z) : ab_Ex X (d + 1) 297 0 [(0, .ref 64), (1, .int x0)] [] ab_SH (ab_dD h) (fun r => r = (some (.int z.1), ab_SH, ab_dD z.2)) := by
  unfold fX12_image at hf
  refine ab_Ex.blk (k := 7) (pc' := 9) (lv' := [(0, .ref 64), (1, .int x0)]) (st' := [.long 1, .long 0, .long ((x0 : Int32).toInt64)]) (sh' := ab_SH) (D' := ab_dD (ab_wI h 64 0 0)) (fun n => rfl) ?_
  obtain ⟨r1, hr1, hf⟩ := ab_bind_s hf
  refine ab_Ex.call (d := d + 0) (M2 := 175) (as := [.long ((x0 : Int32).toInt64), .long 0, .long 1]) (rest := []) (fun n => rfl) rfl (Nat.not_lt.mpr (Nat.le_of_ble_eq_true rfl)) (sX12_within (d) X ((x0 : Int32).toInt64) 0 1 (ab_wI h 64 0 0) _ hr1) (fun r hr => ?_)
  subst hr
  show ab_Ex X (d + 1) 297 12 [(0, .ref 64), (1, .int x0)] [.int r1] ab_SH (ab_dD (ab_wI h 64 0 0)) _
  refine ab_Ex.ifc (c := r1 = 0) (SA := (15, [(0, .ref 64), (1, .int x0)], [], ab_dD (ab_wI h 64 0 0))) (SB := (18, [(0, .ref 64), (1, .int x0)], [], ab_dD (ab_wI h 64 0 0))) (fun n => rfl) (fun c2 => ?_) (fun c2 => ?_)
  · replace hf := (if_pos c2).symm.trans hf
    refine ab_Ex.blk (k := 1) (pc' := 17) (lv' := [(0, .ref 64), (1, .int x0)]) (st' := [.int ((-2))]) (sh' := ab_SH) (D' := ab_dD (ab_wI h 64 0 0)) (fun n => rfl) ?_
    obtain rfl := Option.some.inj hf
    exact ab_Ex.ret (fun n => rfl) rfl
  · replace hf := (if_neg c2).symm.trans hf
    refine ab_Ex.blk (k := 2) (pc' := 20) (lv' := [(0, .ref 64), (1, .int x0), (2, .int 0)]) (st' := []) (sh' := ab_SH) (D' := ab_dD (ab_wI h 64 0 0)) (fun n => rfl) ?_
    exact sX12_image_L20 d X  ab_N x0 0 (ab_wI h 64 0 0) _ hf
