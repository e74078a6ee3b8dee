def fX6_is_L28 (x0 : Nat) (h : abJ)  : Nat → Int32 → Option Int32
  | 0, _ => none
  | n + 1, y2 => (fJ0_length_8abf5 x0 h).bind (fun r4 => if r4 ≤ y2 then some 1 else if 900 ≤ ((h.1 9 7) + y2) then some 1 else ab_ask (((h.1 9 7) + y2) < 0 ∨ 900 ≤ (((h.1 9 7) + y2) : Int32).toNatClampNeg) ((fJ0_charAt_5068e x0 y2 h).bind (fun r9 => if (h.1 11 (((h.1 9 7) + y2) : Int32).toNatClampNeg) = r9 then fX6_is_L28 x0 h n ((y2 + 1)) else some 0)))
def fX6_is (x0 : Nat) (h : abJ) : Option Int32 := if (h.1 9 6) = 3 then (fJ0_length_8abf5 x0 h).bind (fun r2 => if ((h.1 9 8) - (h.1 9 7)) = r2 then fX6_is_L28 x0 h ab_N 0 else some 0) else some 0
set_option maxRecDepth 20000 in
theorem sX6_is_L28_1000001 (d : Nat) (X : abX) (h : abJ)   : ∀ (n : Nat), ∀ (y2 : Int32) (z : Int32), fX6_is_L28 1000001 h n y2 = some z → ab_Ex X (d + 4) 93 28 [(0, .ref 9), (1, .ref 1000001), (2, .int y2)] [] ab_SH (ab_dD h) (fun r => r = (some (.int z), ab_SH, ab_dD h)) := by
  intro n
  induction n with
  | zero => intro y2 z hf; cases hf
  | succ n ih =>
    intro y2 z hf
    rw [fX6_is_L28] at hf
    try simp only [Nat.reduceAdd] at hf
    refine ab_Ex.blk (k := 2) (pc' := 30) (lv' := [(0, .ref 9), (1, .ref 1000001), (2, .int y2)]) (st' := [.ref 1000001, .int y2]) (sh' := ab_SH) (D' := ab_dD h) (fun n => rfl) ?_
    obtain ⟨r4, hr4, hf⟩ := ab_bind_s hf
    refine ab_Ex.call (d := d + 3) (M2 := 304) (as := [.ref 1000001]) (rest := [.int y2]) (fun n => rfl) rfl (Nat.not_lt.mpr (Nat.le_of_ble_eq_true rfl)) (sJ0_length_8abf5_1000001 (d + 2) X  h _ hr4) (fun r hr => ?_)
    subst hr
    show ab_Ex X (d + 4) 93 33 [(0, .ref 9), (1, .ref 1000001), (2, .int y2)] [.int r4, .int y2] ab_SH (ab_dD h) _
    refine ab_Ex.ifc (c := r4 ≤ y2) (SA := (75, [(0, .ref 9), (1, .ref 1000001), (2, .int y2)], [], ab_dD h)) (SB := (36, [(0, .ref 9), (1, .ref 1000001), (2, .int y2)], [], ab_dD h)) (fun n => rfl) (fun c5 => ?_) (fun c5 => ?_)
    · replace hf := (if_pos c5).symm.trans hf
      refine ab_Ex.blk (k := 1) (pc' := 76) (lv' := []) (st' := [.int 1]) (sh' := ab_SH) (D' := ab_dD h) (fun n => rfl) ?_
      obtain rfl := Option.some.inj hf
      exact ab_Ex.ret (fun n => rfl) rfl
    · replace hf := (if_neg c5).symm.trans hf
      refine ab_Ex.blk (k := 5) (pc' := 45) (lv' := [(0, .ref 9), (1, .ref 1000001), (2, .int y2)]) (st' := [.int 900, .int (((h.1 9 7) + y2))]) (sh' := ab_SH) (D' := ab_dD h) (fun n => rfl) ?_
      refine ab_Ex.ifc (c := 900 ≤ ((h.1 9 7) + y2)) (SA := (75, [(0, .ref 9), (1, .ref 1000001), (2, .int y2)], [], ab_dD h)) (SB := (48, [(0, .ref 9), (1, .ref 1000001), (2, .int y2)], [], ab_dD h)) (fun n => rfl) (fun c6 => ?_) (fun c6 => ?_)
      · replace hf := (if_pos c6).symm.trans hf
        refine ab_Ex.blk (k := 1) (pc' := 76) (lv' := []) (st' := [.int 1]) (sh' := ab_SH) (D' := ab_dD h) (fun n => rfl) ?_
        obtain rfl := Option.some.inj hf
        exact ab_Ex.ret (fun n => rfl) rfl
      · replace hf := (if_neg c6).symm.trans hf
        refine ab_Ex.blk (k := 6) (pc' := 58) (lv' := [(0, .ref 9), (1, .ref 1000001), (2, .int y2)]) (st' := [.int (((h.1 9 7) + y2)), .ref 11]) (sh' := ab_SH) (D' := ab_dD h) (fun n => rfl) ?_
        obtain ⟨c8, hf⟩ := ab_ask_s hf
        refine ab_Ex.grd (c := ((h.1 9 7) + y2) < 0 ∨ 900 ≤ (((h.1 9 7) + y2) : Int32).toNatClampNeg) (S := (59, [(0, .ref 9), (1, .ref 1000001), (2, .int y2)], [.int ((h.1 11 (((h.1 9 7) + y2) : Int32).toNatClampNeg))], ab_dD h)) (fun n => rfl) c8 ?_
        refine ab_Ex.blk (k := 2) (pc' := 61) (lv' := [(0, .ref 9), (1, .ref 1000001), (2, .int y2)]) (st' := [.int y2, .ref 1000001, .int ((h.1 11 (((h.1 9 7) + y2) : Int32).toNatClampNeg))]) (sh' := ab_SH) (D' := ab_dD h) (fun n => rfl) ?_
        obtain ⟨r9, hr9, hf⟩ := ab_bind_s hf
        refine ab_Ex.call (d := d + 3) (M2 := 305) (as := [.ref 1000001, .int y2]) (rest := [.int ((h.1 11 (((h.1 9 7) + y2) : Int32).toNatClampNeg))]) (fun n => rfl) rfl (Nat.not_lt.mpr (Nat.le_of_ble_eq_true rfl)) (sJ0_charAt_5068e_1000001 (d) X y2 h _ hr9) (fun r hr => ?_)
        subst hr
        show ab_Ex X (d + 4) 93 64 [(0, .ref 9), (1, .ref 1000001), (2, .int y2)] [.int r9, .int ((h.1 11 (((h.1 9 7) + y2) : Int32).toNatClampNeg))] ab_SH (ab_dD h) _
        refine ab_Ex.ifc (c := (h.1 11 (((h.1 9 7) + y2) : Int32).toNatClampNeg) = r9) (SA := (69, [(0, .ref 9), (1, .ref 1000001), (2, .int y2)], [], ab_dD h)) (SB := (67, [(0, .ref 9), (1, .ref 1000001), (2, .int y2)], [], ab_dD h)) (fun n => rfl) (fun c10 => ?_) (fun c10 => ?_)
        · replace hf := (if_pos c10).symm.trans hf
          refine ab_Ex.blk (k := 2) (pc' := 28) (lv' := [(0, .ref 9), (1, .ref 1000001), (2, .int ((y2 + 1)))]) (st' := []) (sh' := ab_SH) (D' := ab_dD h) (fun n => rfl) ?_
          exact ih ((y2 + 1)) _ hf
        · replace hf := (if_neg c10).symm.trans hf
          refine ab_Ex.blk (k := 1) (pc' := 68) (lv' := [(0, .ref 9), (1, .ref 1000001), (2, .int y2)]) (st' := [.int 0]) (sh' := ab_SH) (D' := ab_dD h) (fun n => rfl) ?_
          obtain rfl := Option.some.inj hf
          exact ab_Ex.ret (fun n => rfl) rfl
set_option maxRecDepth 20000 in
theorem sX6_is_1000001 (d : Nat) (X : abX)  (h : abJ) (z : Int32) (hf : fX6_is 1000001 h = some z) : ab_Ex X (d + 4) 93 0 [(0, .ref 9), (1, .ref 1000001)] [] ab_SH (ab_dD h) (fun r => r = (some (.int z), ab_SH, ab_dD h)) := by
  unfold fX6_is at hf
  try simp only [Nat.reduceAdd] at hf
  refine ab_Ex.blk (k := 3) (pc' := 5) (lv' := [(0, .ref 9), (1, .ref 1000001)]) (st' := [.int 3, .int ((h.1 9 6))]) (sh' := ab_SH) (D' := ab_dD h) (fun n => rfl) ?_
  refine ab_Ex.ifc (c := (h.1 9 6) = 3) (SA := (8, [(0, .ref 9), (1, .ref 1000001)], [], ab_dD h)) (SB := (24, [(0, .ref 9), (1, .ref 1000001)], [], ab_dD h)) (fun n => rfl) (fun c1 => ?_) (fun c1 => ?_)
  · replace hf := (if_pos c1).symm.trans hf
    refine ab_Ex.blk (k := 6) (pc' := 18) (lv' := [(0, .ref 9), (1, .ref 1000001)]) (st' := [.ref 1000001, .int (((h.1 9 8) - (h.1 9 7)))]) (sh' := ab_SH) (D' := ab_dD h) (fun n => rfl) ?_
    obtain ⟨r2, hr2, hf⟩ := ab_bind_s hf
    refine ab_Ex.call (d := d + 3) (M2 := 304) (as := [.ref 1000001]) (rest := [.int (((h.1 9 8) - (h.1 9 7)))]) (fun n => rfl) rfl (Nat.not_lt.mpr (Nat.le_of_ble_eq_true rfl)) (sJ0_length_8abf5_1000001 (d + 2) X  h _ hr2) (fun r hr => ?_)
    subst hr
    show ab_Ex X (d + 4) 93 21 [(0, .ref 9), (1, .ref 1000001)] [.int r2, .int (((h.1 9 8) - (h.1 9 7)))] ab_SH (ab_dD h) _
    refine ab_Ex.ifc (c := ((h.1 9 8) - (h.1 9 7)) = r2) (SA := (26, [(0, .ref 9), (1, .ref 1000001)], [], ab_dD h)) (SB := (24, [(0, .ref 9), (1, .ref 1000001)], [], ab_dD h)) (fun n => rfl) (fun c3 => ?_) (fun c3 => ?_)
    · replace hf := (if_pos c3).symm.trans hf
      refine ab_Ex.blk (k := 2) (pc' := 28) (lv' := [(0, .ref 9), (1, .ref 1000001), (2, .int 0)]) (st' := []) (sh' := ab_SH) (D' := ab_dD h) (fun n => rfl) ?_
      exact sX6_is_L28_1000001 d X h ab_N 0 _ hf
    · replace hf := (if_neg c3).symm.trans hf
      refine ab_Ex.blk (k := 1) (pc' := 25) (lv' := []) (st' := [.int 0]) (sh' := ab_SH) (D' := ab_dD h) (fun n => rfl) ?_
      obtain rfl := Option.some.inj hf
      exact ab_Ex.ret (fun n => rfl) rfl
  · replace hf := (if_neg c1).symm.trans hf
    refine ab_Ex.blk (k := 1) (pc' := 25) (lv' := []) (st' := [.int 0]) (sh' := ab_SH) (D' := ab_dD h) (fun n => rfl) ?_
    obtain rfl := Option.some.inj hf
    exact ab_Ex.ret (fun n => rfl) rfl
set_option maxRecDepth 20000 in
theorem sX6_is_L28_1000002 (d : Nat) (X : abX) (h : abJ)   : ∀ (n : Nat), ∀ (y2 : Int32) (z : Int32), fX6_is_L28 1000002 h n y2 = some z → ab_Ex X (d + 4) 93 28 [(0, .ref 9), (1, .ref 1000002), (2, .int y2)] [] ab_SH (ab_dD h) (fun r => r = (some (.int z), ab_SH, ab_dD h)) := by
  intro n
  induction n with
  | zero => intro y2 z hf; cases hf
  | succ n ih =>
    intro y2 z hf
    rw [fX6_is_L28] at hf
    try simp only [Nat.reduceAdd] at hf
    refine ab_Ex.blk (k := 2) (pc' := 30) (lv' := [(0, .ref 9), (1, .ref 1000002), (2, .int y2)]) (st' := [.ref 1000002, .int y2]) (sh' := ab_SH) (D' := ab_dD h) (fun n => rfl) ?_
    obtain ⟨r4, hr4, hf⟩ := ab_bind_s hf
    refine ab_Ex.call (d := d + 3) (M2 := 304) (as := [.ref 1000002]) (rest := [.int y2]) (fun n => rfl) rfl (Nat.not_lt.mpr (Nat.le_of_ble_eq_true rfl)) (sJ0_length_8abf5_1000002 (d + 2) X  h _ hr4) (fun r hr => ?_)
    subst hr
    show ab_Ex X (d + 4) 93 33 [(0, .ref 9), (1, .ref 1000002), (2, .int y2)] [.int r4, .int y2] ab_SH (ab_dD h) _
    refine ab_Ex.ifc (c := r4 ≤ y2) (SA := (75, [(0, .ref 9), (1, .ref 1000002), (2, .int y2)], [], ab_dD h)) (SB := (36, [(0, .ref 9), (1, .ref 1000002), (2, .int y2)], [], ab_dD h)) (fun n => rfl) (fun c5 => ?_) (fun c5 => ?_)
    · replace hf := (if_pos c5).symm.trans hf
      refine ab_Ex.blk (k := 1) (pc' := 76) (lv' := []) (st' := [.int 1]) (sh' := ab_SH) (D' := ab_dD h) (fun n => rfl) ?_
      obtain rfl := Option.some.inj hf
      exact ab_Ex.ret (fun n => rfl) rfl
    · replace hf := (if_neg c5).symm.trans hf
      refine ab_Ex.blk (k := 5) (pc' := 45) (lv' := [(0, .ref 9), (1, .ref 1000002), (2, .int y2)]) (st' := [.int 900, .int (((h.1 9 7) + y2))]) (sh' := ab_SH) (D' := ab_dD h) (fun n => rfl) ?_
      refine ab_Ex.ifc (c := 900 ≤ ((h.1 9 7) + y2)) (SA := (75, [(0, .ref 9), (1, .ref 1000002), (2, .int y2)], [], ab_dD h)) (SB := (48, [(0, .ref 9), (1, .ref 1000002), (2, .int y2)], [], ab_dD h)) (fun n => rfl) (fun c6 => ?_) (fun c6 => ?_)
      · replace hf := (if_pos c6).symm.trans hf
        refine ab_Ex.blk (k := 1) (pc' := 76) (lv' := []) (st' := [.int 1]) (sh' := ab_SH) (D' := ab_dD h) (fun n => rfl) ?_
        obtain rfl := Option.some.inj hf
        exact ab_Ex.ret (fun n => rfl) rfl
      · replace hf := (if_neg c6).symm.trans hf
        refine ab_Ex.blk (k := 6) (pc' := 58) (lv' := [(0, .ref 9), (1, .ref 1000002), (2, .int y2)]) (st' := [.int (((h.1 9 7) + y2)), .ref 11]) (sh' := ab_SH) (D' := ab_dD h) (fun n => rfl) ?_
        obtain ⟨c8, hf⟩ := ab_ask_s hf
        refine ab_Ex.grd (c := ((h.1 9 7) + y2) < 0 ∨ 900 ≤ (((h.1 9 7) + y2) : Int32).toNatClampNeg) (S := (59, [(0, .ref 9), (1, .ref 1000002), (2, .int y2)], [.int ((h.1 11 (((h.1 9 7) + y2) : Int32).toNatClampNeg))], ab_dD h)) (fun n => rfl) c8 ?_
        refine ab_Ex.blk (k := 2) (pc' := 61) (lv' := [(0, .ref 9), (1, .ref 1000002), (2, .int y2)]) (st' := [.int y2, .ref 1000002, .int ((h.1 11 (((h.1 9 7) + y2) : Int32).toNatClampNeg))]) (sh' := ab_SH) (D' := ab_dD h) (fun n => rfl) ?_
        obtain ⟨r9, hr9, hf⟩ := ab_bind_s hf
        refine ab_Ex.call (d := d + 3) (M2 := 305) (as := [.ref 1000002, .int y2]) (rest := [.int ((h.1 11 (((h.1 9 7) + y2) : Int32).toNatClampNeg))]) (fun n => rfl) rfl (Nat.not_lt.mpr (Nat.le_of_ble_eq_true rfl)) (sJ0_charAt_5068e_1000002 (d) X y2 h _ hr9) (fun r hr => ?_)
        subst hr
        show ab_Ex X (d + 4) 93 64 [(0, .ref 9), (1, .ref 1000002), (2, .int y2)] [.int r9, .int ((h.1 11 (((h.1 9 7) + y2) : Int32).toNatClampNeg))] ab_SH (ab_dD h) _
        refine ab_Ex.ifc (c := (h.1 11 (((h.1 9 7) + y2) : Int32).toNatClampNeg) = r9) (SA := (69, [(0, .ref 9), (1, .ref 1000002), (2, .int y2)], [], ab_dD h)) (SB := (67, [(0, .ref 9), (1, .ref 1000002), (2, .int y2)], [], ab_dD h)) (fun n => rfl) (fun c10 => ?_) (fun c10 => ?_)
        · replace hf := (if_pos c10).symm.trans hf
          refine ab_Ex.blk (k := 2) (pc' := 28) (lv' := [(0, .ref 9), (1, .ref 1000002), (2, .int ((y2 + 1)))]) (st' := []) (sh' := ab_SH) (D' := ab_dD h) (fun n => rfl) ?_
          exact ih ((y2 + 1)) _ hf
        · replace hf := (if_neg c10).symm.trans hf
          refine ab_Ex.blk (k := 1) (pc' := 68) (lv' := [(0, .ref 9), (1, .ref 1000002), (2, .int y2)]) (st' := [.int 0]) (sh' := ab_SH) (D' := ab_dD h) (fun n => rfl) ?_
          obtain rfl := Option.some.inj hf
          exact ab_Ex.ret (fun n => rfl) rfl
set_option maxRecDepth 20000 in
theorem sX6_is_1000002 (d : Nat) (X : abX)  (h : abJ) (z : Int32) (hf : fX6_is 1000002 h = some z) : ab_Ex X (d + 4) 93 0 [(0, .ref 9), (1, .ref 1000002)] [] ab_SH (ab_dD h) (fun r => r = (some (.int z), ab_SH, ab_dD h)) := by
  unfold fX6_is at hf
  try simp only [Nat.reduceAdd] at hf
  refine ab_Ex.blk (k := 3) (pc' := 5) (lv' := [(0, .ref 9), (1, .ref 1000002)]) (st' := [.int 3, .int ((h.1 9 6))]) (sh' := ab_SH) (D' := ab_dD h) (fun n => rfl) ?_
  refine ab_Ex.ifc (c := (h.1 9 6) = 3) (SA := (8, [(0, .ref 9), (1, .ref 1000002)], [], ab_dD h)) (SB := (24, [(0, .ref 9), (1, .ref 1000002)], [], ab_dD h)) (fun n => rfl) (fun c1 => ?_) (fun c1 => ?_)
  · replace hf := (if_pos c1).symm.trans hf
    refine ab_Ex.blk (k := 6) (pc' := 18) (lv' := [(0, .ref 9), (1, .ref 1000002)]) (st' := [.ref 1000002, .int (((h.1 9 8) - (h.1 9 7)))]) (sh' := ab_SH) (D' := ab_dD h) (fun n => rfl) ?_
    obtain ⟨r2, hr2, hf⟩ := ab_bind_s hf
    refine ab_Ex.call (d := d + 3) (M2 := 304) (as := [.ref 1000002]) (rest := [.int (((h.1 9 8) - (h.1 9 7)))]) (fun n => rfl) rfl (Nat.not_lt.mpr (Nat.le_of_ble_eq_true rfl)) (sJ0_length_8abf5_1000002 (d + 2) X  h _ hr2) (fun r hr => ?_)
    subst hr
    show ab_Ex X (d + 4) 93 21 [(0, .ref 9), (1, .ref 1000002)] [.int r2, .int (((h.1 9 8) - (h.1 9 7)))] ab_SH (ab_dD h) _
    refine ab_Ex.ifc (c := ((h.1 9 8) - (h.1 9 7)) = r2) (SA := (26, [(0, .ref 9), (1, .ref 1000002)], [], ab_dD h)) (SB := (24, [(0, .ref 9), (1, .ref 1000002)], [], ab_dD h)) (fun n => rfl) (fun c3 => ?_) (fun c3 => ?_)
    · replace hf := (if_pos c3).symm.trans hf
      refine ab_Ex.blk (k := 2) (pc' := 28) (lv' := [(0, .ref 9), (1, .ref 1000002), (2, .int 0)]) (st' := []) (sh' := ab_SH) (D' := ab_dD h) (fun n => rfl) ?_
      exact sX6_is_L28_1000002 d X h ab_N 0 _ hf
    · replace hf := (if_neg c3).symm.trans hf
      refine ab_Ex.blk (k := 1) (pc' := 25) (lv' := []) (st' := [.int 0]) (sh' := ab_SH) (D' := ab_dD h) (fun n => rfl) ?_
      obtain rfl := Option.some.inj hf
      exact ab_Ex.ret (fun n => rfl) rfl
  · replace hf := (if_neg c1).symm.trans hf
    refine ab_Ex.blk (k := 1) (pc' := 25) (lv' := []) (st' := [.int 0]) (sh' := ab_SH) (D' := ab_dD h) (fun n => rfl) ?_
    obtain rfl := Option.some.inj hf
    exact ab_Ex.ret (fun n => rfl) rfl
set_option maxRecDepth 20000 in
theorem sX6_is_L28_1000003 (d : Nat) (X : abX) (h : abJ)   : ∀ (n : Nat), ∀ (y2 : Int32) (z : Int32), fX6_is_L28 1000003 h n y2 = some z → ab_Ex X (d + 4) 93 28 [(0, .ref 9), (1, .ref 1000003), (2, .int y2)] [] ab_SH (ab_dD h) (fun r => r = (some (.int z), ab_SH, ab_dD h)) := by
  intro n
  induction n with
  | zero => intro y2 z hf; cases hf
  | succ n ih =>
    intro y2 z hf
    rw [fX6_is_L28] at hf
    try simp only [Nat.reduceAdd] at hf
    refine ab_Ex.blk (k := 2) (pc' := 30) (lv' := [(0, .ref 9), (1, .ref 1000003), (2, .int y2)]) (st' := [.ref 1000003, .int y2]) (sh' := ab_SH) (D' := ab_dD h) (fun n => rfl) ?_
    obtain ⟨r4, hr4, hf⟩ := ab_bind_s hf
    refine ab_Ex.call (d := d + 3) (M2 := 304) (as := [.ref 1000003]) (rest := [.int y2]) (fun n => rfl) rfl (Nat.not_lt.mpr (Nat.le_of_ble_eq_true rfl)) (sJ0_length_8abf5_1000003 (d + 2) X  h _ hr4) (fun r hr => ?_)
    subst hr
    show ab_Ex X (d + 4) 93 33 [(0, .ref 9), (1, .ref 1000003), (2, .int y2)] [.int r4, .int y2] ab_SH (ab_dD h) _
    refine ab_Ex.ifc (c := r4 ≤ y2) (SA := (75, [(0, .ref 9), (1, .ref 1000003), (2, .int y2)], [], ab_dD h)) (SB := (36, [(0, .ref 9), (1, .ref 1000003), (2, .int y2)], [], ab_dD h)) (fun n => rfl) (fun c5 => ?_) (fun c5 => ?_)
    · replace hf := (if_pos c5).symm.trans hf
      refine ab_Ex.blk (k := 1) (pc' := 76) (lv' := []) (st' := [.int 1]) (sh' := ab_SH) (D' := ab_dD h) (fun n => rfl) ?_
      obtain rfl := Option.some.inj hf
      exact ab_Ex.ret (fun n => rfl) rfl
    · replace hf := (if_neg c5).symm.trans hf
      refine ab_Ex.blk (k := 5) (pc' := 45) (lv' := [(0, .ref 9), (1, .ref 1000003), (2, .int y2)]) (st' := [.int 900, .int (((h.1 9 7) + y2))]) (sh' := ab_SH) (D' := ab_dD h) (fun n => rfl) ?_
      refine ab_Ex.ifc (c := 900 ≤ ((h.1 9 7) + y2)) (SA := (75, [(0, .ref 9), (1, .ref 1000003), (2, .int y2)], [], ab_dD h)) (SB := (48, [(0, .ref 9), (1, .ref 1000003), (2, .int y2)], [], ab_dD h)) (fun n => rfl) (fun c6 => ?_) (fun c6 => ?_)
      · replace hf := (if_pos c6).symm.trans hf
        refine ab_Ex.blk (k := 1) (pc' := 76) (lv' := []) (st' := [.int 1]) (sh' := ab_SH) (D' := ab_dD h) (fun n => rfl) ?_
        obtain rfl := Option.some.inj hf
        exact ab_Ex.ret (fun n => rfl) rfl
      · replace hf := (if_neg c6).symm.trans hf
        refine ab_Ex.blk (k := 6) (pc' := 58) (lv' := [(0, .ref 9), (1, .ref 1000003), (2, .int y2)]) (st' := [.int (((h.1 9 7) + y2)), .ref 11]) (sh' := ab_SH) (D' := ab_dD h) (fun n => rfl) ?_
        obtain ⟨c8, hf⟩ := ab_ask_s hf
        refine ab_Ex.grd (c := ((h.1 9 7) + y2) < 0 ∨ 900 ≤ (((h.1 9 7) + y2) : Int32).toNatClampNeg) (S := (59, [(0, .ref 9), (1, .ref 1000003), (2, .int y2)], [.int ((h.1 11 (((h.1 9 7) + y2) : Int32).toNatClampNeg))], ab_dD h)) (fun n => rfl) c8 ?_
        refine ab_Ex.blk (k := 2) (pc' := 61) (lv' := [(0, .ref 9), (1, .ref 1000003), (2, .int y2)]) (st' := [.int y2, .ref 1000003, .int ((h.1 11 (((h.1 9 7) + y2) : Int32).toNatClampNeg))]) (sh' := ab_SH) (D' := ab_dD h) (fun n => rfl) ?_
        obtain ⟨r9, hr9, hf⟩ := ab_bind_s hf
        refine ab_Ex.call (d := d + 3) (M2 := 305) (as := [.ref 1000003, .int y2]) (rest := [.int ((h.1 11 (((h.1 9 7) + y2) : Int32).toNatClampNeg))]) (fun n => rfl) rfl (Nat.not_lt.mpr (Nat.le_of_ble_eq_true rfl)) (sJ0_charAt_5068e_1000003 (d) X y2 h _ hr9) (fun r hr => ?_)
        subst hr
        show ab_Ex X (d + 4) 93 64 [(0, .ref 9), (1, .ref 1000003), (2, .int y2)] [.int r9, .int ((h.1 11 (((h.1 9 7) + y2) : Int32).toNatClampNeg))] ab_SH (ab_dD h) _
        refine ab_Ex.ifc (c := (h.1 11 (((h.1 9 7) + y2) : Int32).toNatClampNeg) = r9) (SA := (69, [(0, .ref 9), (1, .ref 1000003), (2, .int y2)], [], ab_dD h)) (SB := (67, [(0, .ref 9), (1, .ref 1000003), (2, .int y2)], [], ab_dD h)) (fun n => rfl) (fun c10 => ?_) (fun c10 => ?_)
        · replace hf := (if_pos c10).symm.trans hf
          refine ab_Ex.blk (k := 2) (pc' := 28) (lv' := [(0, .ref 9), (1, .ref 1000003), (2, .int ((y2 + 1)))]) (st' := []) (sh' := ab_SH) (D' := ab_dD h) (fun n => rfl) ?_
          exact ih ((y2 + 1)) _ hf
        · replace hf := (if_neg c10).symm.trans hf
          refine ab_Ex.blk (k := 1) (pc' := 68) (lv' := [(0, .ref 9), (1, .ref 1000003), (2, .int y2)]) (st' := [.int 0]) (sh' := ab_SH) (D' := ab_dD h) (fun n => rfl) ?_
          obtain rfl := Option.some.inj hf
          exact ab_Ex.ret (fun n => rfl) rfl
set_option maxRecDepth 20000 in
theorem sX6_is_1000003 (d : Nat) (X : abX)  (h : abJ) (z : Int32) (hf : fX6_is 1000003 h = some z) : ab_Ex X (d + 4) 93 0 [(0, .ref 9), (1, .ref 1000003)] [] ab_SH (ab_dD h) (fun r => r = (some (.int z), ab_SH, ab_dD h)) := by
  unfold fX6_is at hf
  try simp only [Nat.reduceAdd] at hf
  refine ab_Ex.blk (k := 3) (pc' := 5) (lv' := [(0, .ref 9), (1, .ref 1000003)]) (st' := [.int 3, .int ((h.1 9 6))]) (sh' := ab_SH) (D' := ab_dD h) (fun n => rfl) ?_
  refine ab_Ex.ifc (c := (h.1 9 6) = 3) (SA := (8, [(0, .ref 9), (1, .ref 1000003)], [], ab_dD h)) (SB := (24, [(0, .ref 9), (1, .ref 1000003)], [], ab_dD h)) (fun n => rfl) (fun c1 => ?_) (fun c1 => ?_)
  · replace hf := (if_pos c1).symm.trans hf
    refine ab_Ex.blk (k := 6) (pc' := 18) (lv' := [(0, .ref 9), (1, .ref 1000003)]) (st' := [.ref 1000003, .int (((h.1 9 8) - (h.1 9 7)))]) (sh' := ab_SH) (D' := ab_dD h) (fun n => rfl) ?_
    obtain ⟨r2, hr2, hf⟩ := ab_bind_s hf
    refine ab_Ex.call (d := d + 3) (M2 := 304) (as := [.ref 1000003]) (rest := [.int (((h.1 9 8) - (h.1 9 7)))]) (fun n => rfl) rfl (Nat.not_lt.mpr (Nat.le_of_ble_eq_true rfl)) (sJ0_length_8abf5_1000003 (d + 2) X  h _ hr2) (fun r hr => ?_)
    subst hr
    show ab_Ex X (d + 4) 93 21 [(0, .ref 9), (1, .ref 1000003)] [.int r2, .int (((h.1 9 8) - (h.1 9 7)))] ab_SH (ab_dD h) _
    refine ab_Ex.ifc (c := ((h.1 9 8) - (h.1 9 7)) = r2) (SA := (26, [(0, .ref 9), (1, .ref 1000003)], [], ab_dD h)) (SB := (24, [(0, .ref 9), (1, .ref 1000003)], [], ab_dD h)) (fun n => rfl) (fun c3 => ?_) (fun c3 => ?_)
    · replace hf := (if_pos c3).symm.trans hf
      refine ab_Ex.blk (k := 2) (pc' := 28) (lv' := [(0, .ref 9), (1, .ref 1000003), (2, .int 0)]) (st' := []) (sh' := ab_SH) (D' := ab_dD h) (fun n => rfl) ?_
      exact sX6_is_L28_1000003 d X h ab_N 0 _ hf
    · replace hf := (if_neg c3).symm.trans hf
      refine ab_Ex.blk (k := 1) (pc' := 25) (lv' := []) (st' := [.int 0]) (sh' := ab_SH) (D' := ab_dD h) (fun n => rfl) ?_
      obtain rfl := Option.some.inj hf
      exact ab_Ex.ret (fun n => rfl) rfl
  · replace hf := (if_neg c1).symm.trans hf
    refine ab_Ex.blk (k := 1) (pc' := 25) (lv' := []) (st' := [.int 0]) (sh' := ab_SH) (D' := ab_dD h) (fun n => rfl) ?_
    obtain rfl := Option.some.inj hf
    exact ab_Ex.ret (fun n => rfl) rfl
set_option maxRecDepth 20000 in
theorem sX6_is_L28_1000004 (d : Nat) (X : abX) (h : abJ)   : ∀ (n : Nat), ∀ (y2 : Int32) (z : Int32), fX6_is_L28 1000004 h n y2 = some z → ab_Ex X (d + 4) 93 28 [(0, .ref 9), (1, .ref 1000004), (2, .int y2)] [] ab_SH (ab_dD h) (fun r => r = (some (.int z), ab_SH, ab_dD h)) := by
  intro n
  induction n with
  | zero => intro y2 z hf; cases hf
  | succ n ih =>
    intro y2 z hf
    rw [fX6_is_L28] at hf
    try simp only [Nat.reduceAdd] at hf
    refine ab_Ex.blk (k := 2) (pc' := 30) (lv' := [(0, .ref 9), (1, .ref 1000004), (2, .int y2)]) (st' := [.ref 1000004, .int y2]) (sh' := ab_SH) (D' := ab_dD h) (fun n => rfl) ?_
    obtain ⟨r4, hr4, hf⟩ := ab_bind_s hf
    refine ab_Ex.call (d := d + 3) (M2 := 304) (as := [.ref 1000004]) (rest := [.int y2]) (fun n => rfl) rfl (Nat.not_lt.mpr (Nat.le_of_ble_eq_true rfl)) (sJ0_length_8abf5_1000004 (d + 2) X  h _ hr4) (fun r hr => ?_)
    subst hr
    show ab_Ex X (d + 4) 93 33 [(0, .ref 9), (1, .ref 1000004), (2, .int y2)] [.int r4, .int y2] ab_SH (ab_dD h) _
    refine ab_Ex.ifc (c := r4 ≤ y2) (SA := (75, [(0, .ref 9), (1, .ref 1000004), (2, .int y2)], [], ab_dD h)) (SB := (36, [(0, .ref 9), (1, .ref 1000004), (2, .int y2)], [], ab_dD h)) (fun n => rfl) (fun c5 => ?_) (fun c5 => ?_)
    · replace hf := (if_pos c5).symm.trans hf
      refine ab_Ex.blk (k := 1) (pc' := 76) (lv' := []) (st' := [.int 1]) (sh' := ab_SH) (D' := ab_dD h) (fun n => rfl) ?_
      obtain rfl := Option.some.inj hf
      exact ab_Ex.ret (fun n => rfl) rfl
    · replace hf := (if_neg c5).symm.trans hf
      refine ab_Ex.blk (k := 5) (pc' := 45) (lv' := [(0, .ref 9), (1, .ref 1000004), (2, .int y2)]) (st' := [.int 900, .int (((h.1 9 7) + y2))]) (sh' := ab_SH) (D' := ab_dD h) (fun n => rfl) ?_
      refine ab_Ex.ifc (c := 900 ≤ ((h.1 9 7) + y2)) (SA := (75, [(0, .ref 9), (1, .ref 1000004), (2, .int y2)], [], ab_dD h)) (SB := (48, [(0, .ref 9), (1, .ref 1000004), (2, .int y2)], [], ab_dD h)) (fun n => rfl) (fun c6 => ?_) (fun c6 => ?_)
      · replace hf := (if_pos c6).symm.trans hf
        refine ab_Ex.blk (k := 1) (pc' := 76) (lv' := []) (st' := [.int 1]) (sh' := ab_SH) (D' := ab_dD h) (fun n => rfl) ?_
        obtain rfl := Option.some.inj hf
        exact ab_Ex.ret (fun n => rfl) rfl
      · replace hf := (if_neg c6).symm.trans hf
        refine ab_Ex.blk (k := 6) (pc' := 58) (lv' := [(0, .ref 9), (1, .ref 1000004), (2, .int y2)]) (st' := [.int (((h.1 9 7) + y2)), .ref 11]) (sh' := ab_SH) (D' := ab_dD h) (fun n => rfl) ?_
        obtain ⟨c8, hf⟩ := ab_ask_s hf
        refine ab_Ex.grd (c := ((h.1 9 7) + y2) < 0 ∨ 900 ≤ (((h.1 9 7) + y2) : Int32).toNatClampNeg) (S := (59, [(0, .ref 9), (1, .ref 1000004), (2, .int y2)], [.int ((h.1 11 (((h.1 9 7) + y2) : Int32).toNatClampNeg))], ab_dD h)) (fun n => rfl) c8 ?_
        refine ab_Ex.blk (k := 2) (pc' := 61) (lv' := [(0, .ref 9), (1, .ref 1000004), (2, .int y2)]) (st' := [.int y2, .ref 1000004, .int ((h.1 11 (((h.1 9 7) + y2) : Int32).toNatClampNeg))]) (sh' := ab_SH) (D' := ab_dD h) (fun n => rfl) ?_
        obtain ⟨r9, hr9, hf⟩ := ab_bind_s hf
        refine ab_Ex.call (d := d + 3) (M2 := 305) (as := [.ref 1000004, .int y2]) (rest := [.int ((h.1 11 (((h.1 9 7) + y2) : Int32).toNatClampNeg))]) (fun n => rfl) rfl (Nat.not_lt.mpr (Nat.le_of_ble_eq_true rfl)) (sJ0_charAt_5068e_1000004 (d) X y2 h _ hr9) (fun r hr => ?_)
        subst hr
        show ab_Ex X (d + 4) 93 64 [(0, .ref 9), (1, .ref 1000004), (2, .int y2)] [.int r9, .int ((h.1 11 (((h.1 9 7) + y2) : Int32).toNatClampNeg))] ab_SH (ab_dD h) _
        refine ab_Ex.ifc (c := (h.1 11 (((h.1 9 7) + y2) : Int32).toNatClampNeg) = r9) (SA := (69, [(0, .ref 9), (1, .ref 1000004), (2, .int y2)], [], ab_dD h)) (SB := (67, [(0, .ref 9), (1, .ref 1000004), (2, .int y2)], [], ab_dD h)) (fun n => rfl) (fun c10 => ?_) (fun c10 => ?_)
        · replace hf := (if_pos c10).symm.trans hf
          refine ab_Ex.blk (k := 2) (pc' := 28) (lv' := [(0, .ref 9), (1, .ref 1000004), (2, .int ((y2 + 1)))]) (st' := []) (sh' := ab_SH) (D' := ab_dD h) (fun n => rfl) ?_
          exact ih ((y2 + 1)) _ hf
        · replace hf := (if_neg c10).symm.trans hf
          refine ab_Ex.blk (k := 1) (pc' := 68) (lv' := [(0, .ref 9), (1, .ref 1000004), (2, .int y2)]) (st' := [.int 0]) (sh' := ab_SH) (D' := ab_dD h) (fun n => rfl) ?_
          obtain rfl := Option.some.inj hf
          exact ab_Ex.ret (fun n => rfl) rfl
set_option maxRecDepth 20000 in
theorem sX6_is_1000004 (d : Nat) (X : abX)  (h : abJ) (z : Int32) (hf : fX6_is 1000004 h = some z) : ab_Ex X (d + 4) 93 0 [(0, .ref 9), (1, .ref 1000004)] [] ab_SH (ab_dD h) (fun r => r = (some (.int z), ab_SH, ab_dD h)) := by
  unfold fX6_is at hf
  try simp only [Nat.reduceAdd] at hf
  refine ab_Ex.blk (k := 3) (pc' := 5) (lv' := [(0, .ref 9), (1, .ref 1000004)]) (st' := [.int 3, .int ((h.1 9 6))]) (sh' := ab_SH) (D' := ab_dD h) (fun n => rfl) ?_
  refine ab_Ex.ifc (c := (h.1 9 6) = 3) (SA := (8, [(0, .ref 9), (1, .ref 1000004)], [], ab_dD h)) (SB := (24, [(0, .ref 9), (1, .ref 1000004)], [], ab_dD h)) (fun n => rfl) (fun c1 => ?_) (fun c1 => ?_)
  · replace hf := (if_pos c1).symm.trans hf
    refine ab_Ex.blk (k := 6) (pc' := 18) (lv' := [(0, .ref 9), (1, .ref 1000004)]) (st' := [.ref 1000004, .int (((h.1 9 8) - (h.1 9 7)))]) (sh' := ab_SH) (D' := ab_dD h) (fun n => rfl) ?_
    obtain ⟨r2, hr2, hf⟩ := ab_bind_s hf
    refine ab_Ex.call (d := d + 3) (M2 := 304) (as := [.ref 1000004]) (rest := [.int (((h.1 9 8) - (h.1 9 7)))]) (fun n => rfl) rfl (Nat.not_lt.mpr (Nat.le_of_ble_eq_true rfl)) (sJ0_length_8abf5_1000004 (d + 2) X  h _ hr2) (fun r hr => ?_)
    subst hr
    show ab_Ex X (d + 4) 93 21 [(0, .ref 9), (1, .ref 1000004)] [.int r2, .int (((h.1 9 8) - (h.1 9 7)))] ab_SH (ab_dD h) _
    refine ab_Ex.ifc (c := ((h.1 9 8) - (h.1 9 7)) = r2) (SA := (26, [(0, .ref 9), (1, .ref 1000004)], [], ab_dD h)) (SB := (24, [(0, .ref 9), (1, .ref 1000004)], [], ab_dD h)) (fun n => rfl) (fun c3 => ?_) (fun c3 => ?_)
    · replace hf := (if_pos c3).symm.trans hf
      refine ab_Ex.blk (k := 2) (pc' := 28) (lv' := [(0, .ref 9), (1, .ref 1000004), (2, .int 0)]) (st' := []) (sh' := ab_SH) (D' := ab_dD h) (fun n => rfl) ?_
      exact sX6_is_L28_1000004 d X h ab_N 0 _ hf
    · replace hf := (if_neg c3).symm.trans hf
      refine ab_Ex.blk (k := 1) (pc' := 25) (lv' := []) (st' := [.int 0]) (sh' := ab_SH) (D' := ab_dD h) (fun n => rfl) ?_
      obtain rfl := Option.some.inj hf
      exact ab_Ex.ret (fun n => rfl) rfl
  · replace hf := (if_neg c1).symm.trans hf
    refine ab_Ex.blk (k := 1) (pc' := 25) (lv' := []) (st' := [.int 0]) (sh' := ab_SH) (D' := ab_dD h) (fun n => rfl) ?_
    obtain rfl := Option.some.inj hf
    exact ab_Ex.ret (fun n => rfl) rfl
set_option maxRecDepth 20000 in
theorem sX6_is_L28_1000005 (d : Nat) (X : abX) (h : abJ)   : ∀ (n : Nat), ∀ (y2 : Int32) (z : Int32), fX6_is_L28 1000005 h n y2 = some z → ab_Ex X (d + 4) 93 28 [(0, .ref 9), (1, .ref 1000005), (2, .int y2)] [] ab_SH (ab_dD h) (fun r => r = (some (.int z), ab_SH, ab_dD h)) := by
  intro n
  induction n with
  | zero => intro y2 z hf; cases hf
  | succ n ih =>
    intro y2 z hf
    rw [fX6_is_L28] at hf
    try simp only [Nat.reduceAdd] at hf
    refine ab_Ex.blk (k := 2) (pc' := 30) (lv' := [(0, .ref 9), (1, .ref 1000005), (2, .int y2)]) (st' := [.ref 1000005, .int y2]) (sh' := ab_SH) (D' := ab_dD h) (fun n => rfl) ?_
    obtain ⟨r4, hr4, hf⟩ := ab_bind_s hf
    refine ab_Ex.call (d := d + 3) (M2 := 304) (as := [.ref 1000005]) (rest := [.int y2]) (fun n => rfl) rfl (Nat.not_lt.mpr (Nat.le_of_ble_eq_true rfl)) (sJ0_length_8abf5_1000005 (d + 2) X  h _ hr4) (fun r hr => ?_)
    subst hr
    show ab_Ex X (d + 4) 93 33 [(0, .ref 9), (1, .ref 1000005), (2, .int y2)] [.int r4, .int y2] ab_SH (ab_dD h) _
    refine ab_Ex.ifc (c := r4 ≤ y2) (SA := (75, [(0, .ref 9), (1, .ref 1000005), (2, .int y2)], [], ab_dD h)) (SB := (36, [(0, .ref 9), (1, .ref 1000005), (2, .int y2)], [], ab_dD h)) (fun n => rfl) (fun c5 => ?_) (fun c5 => ?_)
    · replace hf := (if_pos c5).symm.trans hf
      refine ab_Ex.blk (k := 1) (pc' := 76) (lv' := []) (st' := [.int 1]) (sh' := ab_SH) (D' := ab_dD h) (fun n => rfl) ?_
      obtain rfl := Option.some.inj hf
      exact ab_Ex.ret (fun n => rfl) rfl
    · replace hf := (if_neg c5).symm.trans hf
      refine ab_Ex.blk (k := 5) (pc' := 45) (lv' := [(0, .ref 9), (1, .ref 1000005), (2, .int y2)]) (st' := [.int 900, .int (((h.1 9 7) + y2))]) (sh' := ab_SH) (D' := ab_dD h) (fun n => rfl) ?_
      refine ab_Ex.ifc (c := 900 ≤ ((h.1 9 7) + y2)) (SA := (75, [(0, .ref 9), (1, .ref 1000005), (2, .int y2)], [], ab_dD h)) (SB := (48, [(0, .ref 9), (1, .ref 1000005), (2, .int y2)], [], ab_dD h)) (fun n => rfl) (fun c6 => ?_) (fun c6 => ?_)
      · replace hf := (if_pos c6).symm.trans hf
        refine ab_Ex.blk (k := 1) (pc' := 76) (lv' := []) (st' := [.int 1]) (sh' := ab_SH) (D' := ab_dD h) (fun n => rfl) ?_
        obtain rfl := Option.some.inj hf
        exact ab_Ex.ret (fun n => rfl) rfl
      · replace hf := (if_neg c6).symm.trans hf
        refine ab_Ex.blk (k := 6) (pc' := 58) (lv' := [(0, .ref 9), (1, .ref 1000005), (2, .int y2)]) (st' := [.int (((h.1 9 7) + y2)), .ref 11]) (sh' := ab_SH) (D' := ab_dD h) (fun n => rfl) ?_
        obtain ⟨c8, hf⟩ := ab_ask_s hf
        refine ab_Ex.grd (c := ((h.1 9 7) + y2) < 0 ∨ 900 ≤ (((h.1 9 7) + y2) : Int32).toNatClampNeg) (S := (59, [(0, .ref 9), (1, .ref 1000005), (2, .int y2)], [.int ((h.1 11 (((h.1 9 7) + y2) : Int32).toNatClampNeg))], ab_dD h)) (fun n => rfl) c8 ?_
        refine ab_Ex.blk (k := 2) (pc' := 61) (lv' := [(0, .ref 9), (1, .ref 1000005), (2, .int y2)]) (st' := [.int y2, .ref 1000005, .int ((h.1 11 (((h.1 9 7) + y2) : Int32).toNatClampNeg))]) (sh' := ab_SH) (D' := ab_dD h) (fun n => rfl) ?_
        obtain ⟨r9, hr9, hf⟩ := ab_bind_s hf
        refine ab_Ex.call (d := d + 3) (M2 := 305) (as := [.ref 1000005, .int y2]) (rest := [.int ((h.1 11 (((h.1 9 7) + y2) : Int32).toNatClampNeg))]) (fun n => rfl) rfl (Nat.not_lt.mpr (Nat.le_of_ble_eq_true rfl)) (sJ0_charAt_5068e_1000005 (d) X y2 h _ hr9) (fun r hr => ?_)
        subst hr
        show ab_Ex X (d + 4) 93 64 [(0, .ref 9), (1, .ref 1000005), (2, .int y2)] [.int r9, .int ((h.1 11 (((h.1 9 7) + y2) : Int32).toNatClampNeg))] ab_SH (ab_dD h) _
        refine ab_Ex.ifc (c := (h.1 11 (((h.1 9 7) + y2) : Int32).toNatClampNeg) = r9) (SA := (69, [(0, .ref 9), (1, .ref 1000005), (2, .int y2)], [], ab_dD h)) (SB := (67, [(0, .ref 9), (1, .ref 1000005), (2, .int y2)], [], ab_dD h)) (fun n => rfl) (fun c10 => ?_) (fun c10 => ?_)
        · replace hf := (if_pos c10).symm.trans hf
          refine ab_Ex.blk (k := 2) (pc' := 28) (lv' := [(0, .ref 9), (1, .ref 1000005), (2, .int ((y2 + 1)))]) (st' := []) (sh' := ab_SH) (D' := ab_dD h) (fun n => rfl) ?_
          exact ih ((y2 + 1)) _ hf
        · replace hf := (if_neg c10).symm.trans hf
          refine ab_Ex.blk (k := 1) (pc' := 68) (lv' := [(0, .ref 9), (1, .ref 1000005), (2, .int y2)]) (st' := [.int 0]) (sh' := ab_SH) (D' := ab_dD h) (fun n => rfl) ?_
          obtain rfl := Option.some.inj hf
          exact ab_Ex.ret (fun n => rfl) rfl
set_option maxRecDepth 20000 in
theorem sX6_is_1000005 (d : Nat) (X : abX)  (h : abJ) (z : Int32) (hf : fX6_is 1000005 h = some z) : ab_Ex X (d + 4) 93 0 [(0, .ref 9), (1, .ref 1000005)] [] ab_SH (ab_dD h) (fun r => r = (some (.int z), ab_SH, ab_dD h)) := by
  unfold fX6_is at hf
  try simp only [Nat.reduceAdd] at hf
  refine ab_Ex.blk (k := 3) (pc' := 5) (lv' := [(0, .ref 9), (1, .ref 1000005)]) (st' := [.int 3, .int ((h.1 9 6))]) (sh' := ab_SH) (D' := ab_dD h) (fun n => rfl) ?_
  refine ab_Ex.ifc (c := (h.1 9 6) = 3) (SA := (8, [(0, .ref 9), (1, .ref 1000005)], [], ab_dD h)) (SB := (24, [(0, .ref 9), (1, .ref 1000005)], [], ab_dD h)) (fun n => rfl) (fun c1 => ?_) (fun c1 => ?_)
  · replace hf := (if_pos c1).symm.trans hf
    refine ab_Ex.blk (k := 6) (pc' := 18) (lv' := [(0, .ref 9), (1, .ref 1000005)]) (st' := [.ref 1000005, .int (((h.1 9 8) - (h.1 9 7)))]) (sh' := ab_SH) (D' := ab_dD h) (fun n => rfl) ?_
    obtain ⟨r2, hr2, hf⟩ := ab_bind_s hf
    refine ab_Ex.call (d := d + 3) (M2 := 304) (as := [.ref 1000005]) (rest := [.int (((h.1 9 8) - (h.1 9 7)))]) (fun n => rfl) rfl (Nat.not_lt.mpr (Nat.le_of_ble_eq_true rfl)) (sJ0_length_8abf5_1000005 (d + 2) X  h _ hr2) (fun r hr => ?_)
    subst hr
    show ab_Ex X (d + 4) 93 21 [(0, .ref 9), (1, .ref 1000005)] [.int r2, .int (((h.1 9 8) - (h.1 9 7)))] ab_SH (ab_dD h) _
    refine ab_Ex.ifc (c := ((h.1 9 8) - (h.1 9 7)) = r2) (SA := (26, [(0, .ref 9), (1, .ref 1000005)], [], ab_dD h)) (SB := (24, [(0, .ref 9), (1, .ref 1000005)], [], ab_dD h)) (fun n => rfl) (fun c3 => ?_) (fun c3 => ?_)
    · replace hf := (if_pos c3).symm.trans hf
      refine ab_Ex.blk (k := 2) (pc' := 28) (lv' := [(0, .ref 9), (1, .ref 1000005), (2, .int 0)]) (st' := []) (sh' := ab_SH) (D' := ab_dD h) (fun n => rfl) ?_
      exact sX6_is_L28_1000005 d X h ab_N 0 _ hf
    · replace hf := (if_neg c3).symm.trans hf
      refine ab_Ex.blk (k := 1) (pc' := 25) (lv' := []) (st' := [.int 0]) (sh' := ab_SH) (D' := ab_dD h) (fun n => rfl) ?_
      obtain rfl := Option.some.inj hf
      exact ab_Ex.ret (fun n => rfl) rfl
  · replace hf := (if_neg c1).symm.trans hf
    refine ab_Ex.blk (k := 1) (pc' := 25) (lv' := []) (st' := [.int 0]) (sh' := ab_SH) (D' := ab_dD h) (fun n => rfl) ?_
    obtain rfl := Option.some.inj hf
    exact ab_Ex.ret (fun n => rfl) rfl
set_option maxRecDepth 20000 in
theorem sX6_is_L28_1000006 (d : Nat) (X : abX) (h : abJ)   : ∀ (n : Nat), ∀ (y2 : Int32) (z : Int32), fX6_is_L28 1000006 h n y2 = some z → ab_Ex X (d + 4) 93 28 [(0, .ref 9), (1, .ref 1000006), (2, .int y2)] [] ab_SH (ab_dD h) (fun r => r = (some (.int z), ab_SH, ab_dD h)) := by
  intro n
  induction n with
  | zero => intro y2 z hf; cases hf
  | succ n ih =>
    intro y2 z hf
    rw [fX6_is_L28] at hf
    try simp only [Nat.reduceAdd] at hf
    refine ab_Ex.blk (k := 2) (pc' := 30) (lv' := [(0, .ref 9), (1, .ref 1000006), (2, .int y2)]) (st' := [.ref 1000006, .int y2]) (sh' := ab_SH) (D' := ab_dD h) (fun n => rfl) ?_
    obtain ⟨r4, hr4, hf⟩ := ab_bind_s hf
    refine ab_Ex.call (d := d + 3) (M2 := 304) (as := [.ref 1000006]) (rest := [.int y2]) (fun n => rfl) rfl (Nat.not_lt.mpr (Nat.le_of_ble_eq_true rfl)) (sJ0_length_8abf5_1000006 (d + 2) X  h _ hr4) (fun r hr => ?_)
    subst hr
    show ab_Ex X (d + 4) 93 33 [(0, .ref 9), (1, .ref 1000006), (2, .int y2)] [.int r4, .int y2] ab_SH (ab_dD h) _
    refine ab_Ex.ifc (c := r4 ≤ y2) (SA := (75, [(0, .ref 9), (1, .ref 1000006), (2, .int y2)], [], ab_dD h)) (SB := (36, [(0, .ref 9), (1, .ref 1000006), (2, .int y2)], [], ab_dD h)) (fun n => rfl) (fun c5 => ?_) (fun c5 => ?_)
    · replace hf := (if_pos c5).symm.trans hf
      refine ab_Ex.blk (k := 1) (pc' := 76) (lv' := []) (st' := [.int 1]) (sh' := ab_SH) (D' := ab_dD h) (fun n => rfl) ?_
      obtain rfl := Option.some.inj hf
      exact ab_Ex.ret (fun n => rfl) rfl
    · replace hf := (if_neg c5).symm.trans hf
      refine ab_Ex.blk (k := 5) (pc' := 45) (lv' := [(0, .ref 9), (1, .ref 1000006), (2, .int y2)]) (st' := [.int 900, .int (((h.1 9 7) + y2))]) (sh' := ab_SH) (D' := ab_dD h) (fun n => rfl) ?_
      refine ab_Ex.ifc (c := 900 ≤ ((h.1 9 7) + y2)) (SA := (75, [(0, .ref 9), (1, .ref 1000006), (2, .int y2)], [], ab_dD h)) (SB := (48, [(0, .ref 9), (1, .ref 1000006), (2, .int y2)], [], ab_dD h)) (fun n => rfl) (fun c6 => ?_) (fun c6 => ?_)
      · replace hf := (if_pos c6).symm.trans hf
        refine ab_Ex.blk (k := 1) (pc' := 76) (lv' := []) (st' := [.int 1]) (sh' := ab_SH) (D' := ab_dD h) (fun n => rfl) ?_
        obtain rfl := Option.some.inj hf
        exact ab_Ex.ret (fun n => rfl) rfl
      · replace hf := (if_neg c6).symm.trans hf
        refine ab_Ex.blk (k := 6) (pc' := 58) (lv' := [(0, .ref 9), (1, .ref 1000006), (2, .int y2)]) (st' := [.int (((h.1 9 7) + y2)), .ref 11]) (sh' := ab_SH) (D' := ab_dD h) (fun n => rfl) ?_
        obtain ⟨c8, hf⟩ := ab_ask_s hf
        refine ab_Ex.grd (c := ((h.1 9 7) + y2) < 0 ∨ 900 ≤ (((h.1 9 7) + y2) : Int32).toNatClampNeg) (S := (59, [(0, .ref 9), (1, .ref 1000006), (2, .int y2)], [.int ((h.1 11 (((h.1 9 7) + y2) : Int32).toNatClampNeg))], ab_dD h)) (fun n => rfl) c8 ?_
        refine ab_Ex.blk (k := 2) (pc' := 61) (lv' := [(0, .ref 9), (1, .ref 1000006), (2, .int y2)]) (st' := [.int y2, .ref 1000006, .int ((h.1 11 (((h.1 9 7) + y2) : Int32).toNatClampNeg))]) (sh' := ab_SH) (D' := ab_dD h) (fun n => rfl) ?_
        obtain ⟨r9, hr9, hf⟩ := ab_bind_s hf
        refine ab_Ex.call (d := d + 3) (M2 := 305) (as := [.ref 1000006, .int y2]) (rest := [.int ((h.1 11 (((h.1 9 7) + y2) : Int32).toNatClampNeg))]) (fun n => rfl) rfl (Nat.not_lt.mpr (Nat.le_of_ble_eq_true rfl)) (sJ0_charAt_5068e_1000006 (d) X y2 h _ hr9) (fun r hr => ?_)
        subst hr
        show ab_Ex X (d + 4) 93 64 [(0, .ref 9), (1, .ref 1000006), (2, .int y2)] [.int r9, .int ((h.1 11 (((h.1 9 7) + y2) : Int32).toNatClampNeg))] ab_SH (ab_dD h) _
        refine ab_Ex.ifc (c := (h.1 11 (((h.1 9 7) + y2) : Int32).toNatClampNeg) = r9) (SA := (69, [(0, .ref 9), (1, .ref 1000006), (2, .int y2)], [], ab_dD h)) (SB := (67, [(0, .ref 9), (1, .ref 1000006), (2, .int y2)], [], ab_dD h)) (fun n => rfl) (fun c10 => ?_) (fun c10 => ?_)
        · replace hf := (if_pos c10).symm.trans hf
          refine ab_Ex.blk (k := 2) (pc' := 28) (lv' := [(0, .ref 9), (1, .ref 1000006), (2, .int ((y2 + 1)))]) (st' := []) (sh' := ab_SH) (D' := ab_dD h) (fun n => rfl) ?_
          exact ih ((y2 + 1)) _ hf
        · replace hf := (if_neg c10).symm.trans hf
          refine ab_Ex.blk (k := 1) (pc' := 68) (lv' := [(0, .ref 9), (1, .ref 1000006), (2, .int y2)]) (st' := [.int 0]) (sh' := ab_SH) (D' := ab_dD h) (fun n => rfl) ?_
          obtain rfl := Option.some.inj hf
          exact ab_Ex.ret (fun n => rfl) rfl
set_option maxRecDepth 20000 in
theorem sX6_is_1000006 (d : Nat) (X : abX)  (h : abJ) (z : Int32) (hf : fX6_is 1000006 h = some z) : ab_Ex X (d + 4) 93 0 [(0, .ref 9), (1, .ref 1000006)] [] ab_SH (ab_dD h) (fun r => r = (some (.int z), ab_SH, ab_dD h)) := by
  unfold fX6_is at hf
  try simp only [Nat.reduceAdd] at hf
  refine ab_Ex.blk (k := 3) (pc' := 5) (lv' := [(0, .ref 9), (1, .ref 1000006)]) (st' := [.int 3, .int ((h.1 9 6))]) (sh' := ab_SH) (D' := ab_dD h) (fun n => rfl) ?_
  refine ab_Ex.ifc (c := (h.1 9 6) = 3) (SA := (8, [(0, .ref 9), (1, .ref 1000006)], [], ab_dD h)) (SB := (24, [(0, .ref 9), (1, .ref 1000006)], [], ab_dD h)) (fun n => rfl) (fun c1 => ?_) (fun c1 => ?_)
  · replace hf := (if_pos c1).symm.trans hf
    refine ab_Ex.blk (k := 6) (pc' := 18) (lv' := [(0, .ref 9), (1, .ref 1000006)]) (st' := [.ref 1000006, .int (((h.1 9 8) - (h.1 9 7)))]) (sh' := ab_SH) (D' := ab_dD h) (fun n => rfl) ?_
    obtain ⟨r2, hr2, hf⟩ := ab_bind_s hf
    refine ab_Ex.call (d := d + 3) (M2 := 304) (as := [.ref 1000006]) (rest := [.int (((h.1 9 8) - (h.1 9 7)))]) (fun n => rfl) rfl (Nat.not_lt.mpr (Nat.le_of_ble_eq_true rfl)) (sJ0_length_8abf5_1000006 (d + 2) X  h _ hr2) (fun r hr => ?_)
    subst hr
    show ab_Ex X (d + 4) 93 21 [(0, .ref 9), (1, .ref 1000006)] [.int r2, .int (((h.1 9 8) - (h.1 9 7)))] ab_SH (ab_dD h) _
    refine ab_Ex.ifc (c := ((h.1 9 8) - (h.1 9 7)) = r2) (SA := (26, [(0, .ref 9), (1, .ref 1000006)], [], ab_dD h)) (SB := (24, [(0, .ref 9), (1, .ref 1000006)], [], ab_dD h)) (fun n => rfl) (fun c3 => ?_) (fun c3 => ?_)
    · replace hf := (if_pos c3).symm.trans hf
      refine ab_Ex.blk (k := 2) (pc' := 28) (lv' := [(0, .ref 9), (1, .ref 1000006), (2, .int 0)]) (st' := []) (sh' := ab_SH) (D' := ab_dD h) (fun n => rfl) ?_
      exact sX6_is_L28_1000006 d X h ab_N 0 _ hf
    · replace hf := (if_neg c3).symm.trans hf
      refine ab_Ex.blk (k := 1) (pc' := 25) (lv' := []) (st' := [.int 0]) (sh' := ab_SH) (D' := ab_dD h) (fun n => rfl) ?_
      obtain rfl := Option.some.inj hf
      exact ab_Ex.ret (fun n => rfl) rfl
  · replace hf := (if_neg c1).symm.trans hf
    refine ab_Ex.blk (k := 1) (pc' := 25) (lv' := []) (st' := [.int 0]) (sh' := ab_SH) (D' := ab_dD h) (fun n => rfl) ?_
    obtain rfl := Option.some.inj hf
    exact ab_Ex.ret (fun n => rfl) rfl
set_option maxRecDepth 20000 in
theorem sX6_is_L28_1000007 (d : Nat) (X : abX) (h : abJ)   : ∀ (n : Nat), ∀ (y2 : Int32) (z : Int32), fX6_is_L28 1000007 h n y2 = some z → ab_Ex X (d + 4) 93 28 [(0, .ref 9), (1, .ref 1000007), (2, .int y2)] [] ab_SH (ab_dD h) (fun r => r = (some (.int z), ab_SH, ab_dD h)) := by
  intro n
  induction n with
  | zero => intro y2 z hf; cases hf
  | succ n ih =>
    intro y2 z hf
    rw [fX6_is_L28] at hf
    try simp only [Nat.reduceAdd] at hf
    refine ab_Ex.blk (k := 2) (pc' := 30) (lv' := [(0, .ref 9), (1, .ref 1000007), (2, .int y2)]) (st' := [.ref 1000007, .int y2]) (sh' := ab_SH) (D' := ab_dD h) (fun n => rfl) ?_
    obtain ⟨r4, hr4, hf⟩ := ab_bind_s hf
    refine ab_Ex.call (d := d + 3) (M2 := 304) (as := [.ref 1000007]) (rest := [.int y2]) (fun n => rfl) rfl (Nat.not_lt.mpr (Nat.le_of_ble_eq_true rfl)) (sJ0_length_8abf5_1000007 (d + 2) X  h _ hr4) (fun r hr => ?_)
    subst hr
    show ab_Ex X (d + 4) 93 33 [(0, .ref 9), (1, .ref 1000007), (2, .int y2)] [.int r4, .int y2] ab_SH (ab_dD h) _
    refine ab_Ex.ifc (c := r4 ≤ y2) (SA := (75, [(0, .ref 9), (1, .ref 1000007), (2, .int y2)], [], ab_dD h)) (SB := (36, [(0, .ref 9), (1, .ref 1000007), (2, .int y2)], [], ab_dD h)) (fun n => rfl) (fun c5 => ?_) (fun c5 => ?_)
    · replace hf := (if_pos c5).symm.trans hf
      refine ab_Ex.blk (k := 1) (pc' := 76) (lv' := []) (st' := [.int 1]) (sh' := ab_SH) (D' := ab_dD h) (fun n => rfl) ?_
      obtain rfl := Option.some.inj hf
      exact ab_Ex.ret (fun n => rfl) rfl
    · replace hf := (if_neg c5).symm.trans hf
      refine ab_Ex.blk (k := 5) (pc' := 45) (lv' := [(0, .ref 9), (1, .ref 1000007), (2, .int y2)]) (st' := [.int 900, .int (((h.1 9 7) + y2))]) (sh' := ab_SH) (D' := ab_dD h) (fun n => rfl) ?_
      refine ab_Ex.ifc (c := 900 ≤ ((h.1 9 7) + y2)) (SA := (75, [(0, .ref 9), (1, .ref 1000007), (2, .int y2)], [], ab_dD h)) (SB := (48, [(0, .ref 9), (1, .ref 1000007), (2, .int y2)], [], ab_dD h)) (fun n => rfl) (fun c6 => ?_) (fun c6 => ?_)
      · replace hf := (if_pos c6).symm.trans hf
        refine ab_Ex.blk (k := 1) (pc' := 76) (lv' := []) (st' := [.int 1]) (sh' := ab_SH) (D' := ab_dD h) (fun n => rfl) ?_
        obtain rfl := Option.some.inj hf
        exact ab_Ex.ret (fun n => rfl) rfl
      · replace hf := (if_neg c6).symm.trans hf
        refine ab_Ex.blk (k := 6) (pc' := 58) (lv' := [(0, .ref 9), (1, .ref 1000007), (2, .int y2)]) (st' := [.int (((h.1 9 7) + y2)), .ref 11]) (sh' := ab_SH) (D' := ab_dD h) (fun n => rfl) ?_
        obtain ⟨c8, hf⟩ := ab_ask_s hf
        refine ab_Ex.grd (c := ((h.1 9 7) + y2) < 0 ∨ 900 ≤ (((h.1 9 7) + y2) : Int32).toNatClampNeg) (S := (59, [(0, .ref 9), (1, .ref 1000007), (2, .int y2)], [.int ((h.1 11 (((h.1 9 7) + y2) : Int32).toNatClampNeg))], ab_dD h)) (fun n => rfl) c8 ?_
        refine ab_Ex.blk (k := 2) (pc' := 61) (lv' := [(0, .ref 9), (1, .ref 1000007), (2, .int y2)]) (st' := [.int y2, .ref 1000007, .int ((h.1 11 (((h.1 9 7) + y2) : Int32).toNatClampNeg))]) (sh' := ab_SH) (D' := ab_dD h) (fun n => rfl) ?_
        obtain ⟨r9, hr9, hf⟩ := ab_bind_s hf
        refine ab_Ex.call (d := d + 3) (M2 := 305) (as := [.ref 1000007, .int y2]) (rest := [.int ((h.1 11 (((h.1 9 7) + y2) : Int32).toNatClampNeg))]) (fun n => rfl) rfl (Nat.not_lt.mpr (Nat.le_of_ble_eq_true rfl)) (sJ0_charAt_5068e_1000007 (d) X y2 h _ hr9) (fun r hr => ?_)
        subst hr
        show ab_Ex X (d + 4) 93 64 [(0, .ref 9), (1, .ref 1000007), (2, .int y2)] [.int r9, .int ((h.1 11 (((h.1 9 7) + y2) : Int32).toNatClampNeg))] ab_SH (ab_dD h) _
        refine ab_Ex.ifc (c := (h.1 11 (((h.1 9 7) + y2) : Int32).toNatClampNeg) = r9) (SA := (69, [(0, .ref 9), (1, .ref 1000007), (2, .int y2)], [], ab_dD h)) (SB := (67, [(0, .ref 9), (1, .ref 1000007), (2, .int y2)], [], ab_dD h)) (fun n => rfl) (fun c10 => ?_) (fun c10 => ?_)
        · replace hf := (if_pos c10).symm.trans hf
          refine ab_Ex.blk (k := 2) (pc' := 28) (lv' := [(0, .ref 9), (1, .ref 1000007), (2, .int ((y2 + 1)))]) (st' := []) (sh' := ab_SH) (D' := ab_dD h) (fun n => rfl) ?_
          exact ih ((y2 + 1)) _ hf
        · replace hf := (if_neg c10).symm.trans hf
          refine ab_Ex.blk (k := 1) (pc' := 68) (lv' := [(0, .ref 9), (1, .ref 1000007), (2, .int y2)]) (st' := [.int 0]) (sh' := ab_SH) (D' := ab_dD h) (fun n => rfl) ?_
          obtain rfl := Option.some.inj hf
          exact ab_Ex.ret (fun n => rfl) rfl
set_option maxRecDepth 20000 in
theorem sX6_is_1000007 (d : Nat) (X : abX)  (h : abJ) (z : Int32) (hf : fX6_is 1000007 h = some z) : ab_Ex X (d + 4) 93 0 [(0, .ref 9), (1, .ref 1000007)] [] ab_SH (ab_dD h) (fun r => r = (some (.int z), ab_SH, ab_dD h)) := by
  unfold fX6_is at hf
  try simp only [Nat.reduceAdd] at hf
  refine ab_Ex.blk (k := 3) (pc' := 5) (lv' := [(0, .ref 9), (1, .ref 1000007)]) (st' := [.int 3, .int ((h.1 9 6))]) (sh' := ab_SH) (D' := ab_dD h) (fun n => rfl) ?_
  refine ab_Ex.ifc (c := (h.1 9 6) = 3) (SA := (8, [(0, .ref 9), (1, .ref 1000007)], [], ab_dD h)) (SB := (24, [(0, .ref 9), (1, .ref 1000007)], [], ab_dD h)) (fun n => rfl) (fun c1 => ?_) (fun c1 => ?_)
  · replace hf := (if_pos c1).symm.trans hf
    refine ab_Ex.blk (k := 6) (pc' := 18) (lv' := [(0, .ref 9), (1, .ref 1000007)]) (st' := [.ref 1000007, .int (((h.1 9 8) - (h.1 9 7)))]) (sh' := ab_SH) (D' := ab_dD h) (fun n => rfl) ?_
    obtain ⟨r2, hr2, hf⟩ := ab_bind_s hf
    refine ab_Ex.call (d := d + 3) (M2 := 304) (as := [.ref 1000007]) (rest := [.int (((h.1 9 8) - (h.1 9 7)))]) (fun n => rfl) rfl (Nat.not_lt.mpr (Nat.le_of_ble_eq_true rfl)) (sJ0_length_8abf5_1000007 (d + 2) X  h _ hr2) (fun r hr => ?_)
    subst hr
    show ab_Ex X (d + 4) 93 21 [(0, .ref 9), (1, .ref 1000007)] [.int r2, .int (((h.1 9 8) - (h.1 9 7)))] ab_SH (ab_dD h) _
    refine ab_Ex.ifc (c := ((h.1 9 8) - (h.1 9 7)) = r2) (SA := (26, [(0, .ref 9), (1, .ref 1000007)], [], ab_dD h)) (SB := (24, [(0, .ref 9), (1, .ref 1000007)], [], ab_dD h)) (fun n => rfl) (fun c3 => ?_) (fun c3 => ?_)
    · replace hf := (if_pos c3).symm.trans hf
      refine ab_Ex.blk (k := 2) (pc' := 28) (lv' := [(0, .ref 9), (1, .ref 1000007), (2, .int 0)]) (st' := []) (sh' := ab_SH) (D' := ab_dD h) (fun n => rfl) ?_
      exact sX6_is_L28_1000007 d X h ab_N 0 _ hf
    · replace hf := (if_neg c3).symm.trans hf
      refine ab_Ex.blk (k := 1) (pc' := 25) (lv' := []) (st' := [.int 0]) (sh' := ab_SH) (D' := ab_dD h) (fun n => rfl) ?_
      obtain rfl := Option.some.inj hf
      exact ab_Ex.ret (fun n => rfl) rfl
  · replace hf := (if_neg c1).symm.trans hf
    refine ab_Ex.blk (k := 1) (pc' := 25) (lv' := []) (st' := [.int 0]) (sh' := ab_SH) (D' := ab_dD h) (fun n => rfl) ?_
    obtain rfl := Option.some.inj hf
    exact ab_Ex.ret (fun n => rfl) rfl
set_option maxRecDepth 20000 in
theorem sX6_is_L28_1000008 (d : Nat) (X : abX) (h : abJ)   : ∀ (n : Nat), ∀ (y2 : Int32) (z : Int32), fX6_is_L28 1000008 h n y2 = some z → ab_Ex X (d + 4) 93 28 [(0, .ref 9), (1, .ref 1000008), (2, .int y2)] [] ab_SH (ab_dD h) (fun r => r = (some (.int z), ab_SH, ab_dD h)) := by
  intro n
  induction n with
  | zero => intro y2 z hf; cases hf
  | succ n ih =>
    intro y2 z hf
    rw [fX6_is_L28] at hf
    try simp only [Nat.reduceAdd] at hf
    refine ab_Ex.blk (k := 2) (pc' := 30) (lv' := [(0, .ref 9), (1, .ref 1000008), (2, .int y2)]) (st' := [.ref 1000008, .int y2]) (sh' := ab_SH) (D' := ab_dD h) (fun n => rfl) ?_
    obtain ⟨r4, hr4, hf⟩ := ab_bind_s hf
    refine ab_Ex.call (d := d + 3) (M2 := 304) (as := [.ref 1000008]) (rest := [.int y2]) (fun n => rfl) rfl (Nat.not_lt.mpr (Nat.le_of_ble_eq_true rfl)) (sJ0_length_8abf5_1000008 (d + 2) X  h _ hr4) (fun r hr => ?_)
    subst hr
    show ab_Ex X (d + 4) 93 33 [(0, .ref 9), (1, .ref 1000008), (2, .int y2)] [.int r4, .int y2] ab_SH (ab_dD h) _
    refine ab_Ex.ifc (c := r4 ≤ y2) (SA := (75, [(0, .ref 9), (1, .ref 1000008), (2, .int y2)], [], ab_dD h)) (SB := (36, [(0, .ref 9), (1, .ref 1000008), (2, .int y2)], [], ab_dD h)) (fun n => rfl) (fun c5 => ?_) (fun c5 => ?_)
    · replace hf := (if_pos c5).symm.trans hf
      refine ab_Ex.blk (k := 1) (pc' := 76) (lv' := []) (st' := [.int 1]) (sh' := ab_SH) (D' := ab_dD h) (fun n => rfl) ?_
      obtain rfl := Option.some.inj hf
      exact ab_Ex.ret (fun n => rfl) rfl
    · replace hf := (if_neg c5).symm.trans hf
      refine ab_Ex.blk (k := 5) (pc' := 45) (lv' := [(0, .ref 9), (1, .ref 1000008), (2, .int y2)]) (st' := [.int 900, .int (((h.1 9 7) + y2))]) (sh' := ab_SH) (D' := ab_dD h) (fun n => rfl) ?_
      refine ab_Ex.ifc (c := 900 ≤ ((h.1 9 7) + y2)) (SA := (75, [(0, .ref 9), (1, .ref 1000008), (2, .int y2)], [], ab_dD h)) (SB := (48, [(0, .ref 9), (1, .ref 1000008), (2, .int y2)], [], ab_dD h)) (fun n => rfl) (fun c6 => ?_) (fun c6 => ?_)
      · replace hf := (if_pos c6).symm.trans hf
        refine ab_Ex.blk (k := 1) (pc' := 76) (lv' := []) (st' := [.int 1]) (sh' := ab_SH) (D' := ab_dD h) (fun n => rfl) ?_
        obtain rfl := Option.some.inj hf
        exact ab_Ex.ret (fun n => rfl) rfl
      · replace hf := (if_neg c6).symm.trans hf
        refine ab_Ex.blk (k := 6) (pc' := 58) (lv' := [(0, .ref 9), (1, .ref 1000008), (2, .int y2)]) (st' := [.int (((h.1 9 7) + y2)), .ref 11]) (sh' := ab_SH) (D' := ab_dD h) (fun n => rfl) ?_
        obtain ⟨c8, hf⟩ := ab_ask_s hf
        refine ab_Ex.grd (c := ((h.1 9 7) + y2) < 0 ∨ 900 ≤ (((h.1 9 7) + y2) : Int32).toNatClampNeg) (S := (59, [(0, .ref 9), (1, .ref 1000008), (2, .int y2)], [.int ((h.1 11 (((h.1 9 7) + y2) : Int32).toNatClampNeg))], ab_dD h)) (fun n => rfl) c8 ?_
        refine ab_Ex.blk (k := 2) (pc' := 61) (lv' := [(0, .ref 9), (1, .ref 1000008), (2, .int y2)]) (st' := [.int y2, .ref 1000008, .int ((h.1 11 (((h.1 9 7) + y2) : Int32).toNatClampNeg))]) (sh' := ab_SH) (D' := ab_dD h) (fun n => rfl) ?_
        obtain ⟨r9, hr9, hf⟩ := ab_bind_s hf
        refine ab_Ex.call (d := d + 3) (M2 := 305) (as := [.ref 1000008, .int y2]) (rest := [.int ((h.1 11 (((h.1 9 7) + y2) : Int32).toNatClampNeg))]) (fun n => rfl) rfl (Nat.not_lt.mpr (Nat.le_of_ble_eq_true rfl)) (sJ0_charAt_5068e_1000008 (d) X y2 h _ hr9) (fun r hr => ?_)
        subst hr
        show ab_Ex X (d + 4) 93 64 [(0, .ref 9), (1, .ref 1000008), (2, .int y2)] [.int r9, .int ((h.1 11 (((h.1 9 7) + y2) : Int32).toNatClampNeg))] ab_SH (ab_dD h) _
        refine ab_Ex.ifc (c := (h.1 11 (((h.1 9 7) + y2) : Int32).toNatClampNeg) = r9) (SA := (69, [(0, .ref 9), (1, .ref 1000008), (2, .int y2)], [], ab_dD h)) (SB := (67, [(0, .ref 9), (1, .ref 1000008), (2, .int y2)], [], ab_dD h)) (fun n => rfl) (fun c10 => ?_) (fun c10 => ?_)
        · replace hf := (if_pos c10).symm.trans hf
          refine ab_Ex.blk (k := 2) (pc' := 28) (lv' := [(0, .ref 9), (1, .ref 1000008), (2, .int ((y2 + 1)))]) (st' := []) (sh' := ab_SH) (D' := ab_dD h) (fun n => rfl) ?_
          exact ih ((y2 + 1)) _ hf
        · replace hf := (if_neg c10).symm.trans hf
          refine ab_Ex.blk (k := 1) (pc' := 68) (lv' := [(0, .ref 9), (1, .ref 1000008), (2, .int y2)]) (st' := [.int 0]) (sh' := ab_SH) (D' := ab_dD h) (fun n => rfl) ?_
          obtain rfl := Option.some.inj hf
          exact ab_Ex.ret (fun n => rfl) rfl
set_option maxRecDepth 20000 in
theorem sX6_is_1000008 (d : Nat) (X : abX)  (h : abJ) (z : Int32) (hf : fX6_is 1000008 h = some z) : ab_Ex X (d + 4) 93 0 [(0, .ref 9), (1, .ref 1000008)] [] ab_SH (ab_dD h) (fun r => r = (some (.int z), ab_SH, ab_dD h)) := by
  unfold fX6_is at hf
  try simp only [Nat.reduceAdd] at hf
  refine ab_Ex.blk (k := 3) (pc' := 5) (lv' := [(0, .ref 9), (1, .ref 1000008)]) (st' := [.int 3, .int ((h.1 9 6))]) (sh' := ab_SH) (D' := ab_dD h) (fun n => rfl) ?_
  refine ab_Ex.ifc (c := (h.1 9 6) = 3) (SA := (8, [(0, .ref 9), (1, .ref 1000008)], [], ab_dD h)) (SB := (24, [(0, .ref 9), (1, .ref 1000008)], [], ab_dD h)) (fun n => rfl) (fun c1 => ?_) (fun c1 => ?_)
  · replace hf := (if_pos c1).symm.trans hf
    refine ab_Ex.blk (k := 6) (pc' := 18) (lv' := [(0, .ref 9), (1, .ref 1000008)]) (st' := [.ref 1000008, .int (((h.1 9 8) - (h.1 9 7)))]) (sh' := ab_SH) (D' := ab_dD h) (fun n => rfl) ?_
    obtain ⟨r2, hr2, hf⟩ := ab_bind_s hf
    refine ab_Ex.call (d := d + 3) (M2 := 304) (as := [.ref 1000008]) (rest := [.int (((h.1 9 8) - (h.1 9 7)))]) (fun n => rfl) rfl (Nat.not_lt.mpr (Nat.le_of_ble_eq_true rfl)) (sJ0_length_8abf5_1000008 (d + 2) X  h _ hr2) (fun r hr => ?_)
    subst hr
    show ab_Ex X (d + 4) 93 21 [(0, .ref 9), (1, .ref 1000008)] [.int r2, .int (((h.1 9 8) - (h.1 9 7)))] ab_SH (ab_dD h) _
    refine ab_Ex.ifc (c := ((h.1 9 8) - (h.1 9 7)) = r2) (SA := (26, [(0, .ref 9), (1, .ref 1000008)], [], ab_dD h)) (SB := (24, [(0, .ref 9), (1, .ref 1000008)], [], ab_dD h)) (fun n => rfl) (fun c3 => ?_) (fun c3 => ?_)
    · replace hf := (if_pos c3).symm.trans hf
      refine ab_Ex.blk (k := 2) (pc' := 28) (lv' := [(0, .ref 9), (1, .ref 1000008), (2, .int 0)]) (st' := []) (sh' := ab_SH) (D' := ab_dD h) (fun n => rfl) ?_
      exact sX6_is_L28_1000008 d X h ab_N 0 _ hf
    · replace hf := (if_neg c3).symm.trans hf
      refine ab_Ex.blk (k := 1) (pc' := 25) (lv' := []) (st' := [.int 0]) (sh' := ab_SH) (D' := ab_dD h) (fun n => rfl) ?_
      obtain rfl := Option.some.inj hf
      exact ab_Ex.ret (fun n => rfl) rfl
  · replace hf := (if_neg c1).symm.trans hf
    refine ab_Ex.blk (k := 1) (pc' := 25) (lv' := []) (st' := [.int 0]) (sh' := ab_SH) (D' := ab_dD h) (fun n => rfl) ?_
    obtain rfl := Option.some.inj hf
    exact ab_Ex.ret (fun n => rfl) rfl
set_option maxRecDepth 20000 in
theorem sX6_is_L28_1000009 (d : Nat) (X : abX) (h : abJ)   : ∀ (n : Nat), ∀ (y2 : Int32) (z : Int32), fX6_is_L28 1000009 h n y2 = some z → ab_Ex X (d + 4) 93 28 [(0, .ref 9), (1, .ref 1000009), (2, .int y2)] [] ab_SH (ab_dD h) (fun r => r = (some (.int z), ab_SH, ab_dD h)) := by
  intro n
  induction n with
  | zero => intro y2 z hf; cases hf
  | succ n ih =>
    intro y2 z hf
    rw [fX6_is_L28] at hf
    try simp only [Nat.reduceAdd] at hf
    refine ab_Ex.blk (k := 2) (pc' := 30) (lv' := [(0, .ref 9), (1, .ref 1000009), (2, .int y2)]) (st' := [.ref 1000009, .int y2]) (sh' := ab_SH) (D' := ab_dD h) (fun n => rfl) ?_
    obtain ⟨r4, hr4, hf⟩ := ab_bind_s hf
    refine ab_Ex.call (d := d + 3) (M2 := 304) (as := [.ref 1000009]) (rest := [.int y2]) (fun n => rfl) rfl (Nat.not_lt.mpr (Nat.le_of_ble_eq_true rfl)) (sJ0_length_8abf5_1000009 (d + 2) X  h _ hr4) (fun r hr => ?_)
    subst hr
    show ab_Ex X (d + 4) 93 33 [(0, .ref 9), (1, .ref 1000009), (2, .int y2)] [.int r4, .int y2] ab_SH (ab_dD h) _
    refine ab_Ex.ifc (c := r4 ≤ y2) (SA := (75, [(0, .ref 9), (1, .ref 1000009), (2, .int y2)], [], ab_dD h)) (SB := (36, [(0, .ref 9), (1, .ref 1000009), (2, .int y2)], [], ab_dD h)) (fun n => rfl) (fun c5 => ?_) (fun c5 => ?_)
    · replace hf := (if_pos c5).symm.trans hf
      refine ab_Ex.blk (k := 1) (pc' := 76) (lv' := []) (st' := [.int 1]) (sh' := ab_SH) (D' := ab_dD h) (fun n => rfl) ?_
      obtain rfl := Option.some.inj hf
      exact ab_Ex.ret (fun n => rfl) rfl
    · replace hf := (if_neg c5).symm.trans hf
      refine ab_Ex.blk (k := 5) (pc' := 45) (lv' := [(0, .ref 9), (1, .ref 1000009), (2, .int y2)]) (st' := [.int 900, .int (((h.1 9 7) + y2))]) (sh' := ab_SH) (D' := ab_dD h) (fun n => rfl) ?_
      refine ab_Ex.ifc (c := 900 ≤ ((h.1 9 7) + y2)) (SA := (75, [(0, .ref 9), (1, .ref 1000009), (2, .int y2)], [], ab_dD h)) (SB := (48, [(0, .ref 9), (1, .ref 1000009), (2, .int y2)], [], ab_dD h)) (fun n => rfl) (fun c6 => ?_) (fun c6 => ?_)
      · replace hf := (if_pos c6).symm.trans hf
        refine ab_Ex.blk (k := 1) (pc' := 76) (lv' := []) (st' := [.int 1]) (sh' := ab_SH) (D' := ab_dD h) (fun n => rfl) ?_
        obtain rfl := Option.some.inj hf
        exact ab_Ex.ret (fun n => rfl) rfl
      · replace hf := (if_neg c6).symm.trans hf
        refine ab_Ex.blk (k := 6) (pc' := 58) (lv' := [(0, .ref 9), (1, .ref 1000009), (2, .int y2)]) (st' := [.int (((h.1 9 7) + y2)), .ref 11]) (sh' := ab_SH) (D' := ab_dD h) (fun n => rfl) ?_
        obtain ⟨c8, hf⟩ := ab_ask_s hf
        refine ab_Ex.grd (c := ((h.1 9 7) + y2) < 0 ∨ 900 ≤ (((h.1 9 7) + y2) : Int32).toNatClampNeg) (S := (59, [(0, .ref 9), (1, .ref 1000009), (2, .int y2)], [.int ((h.1 11 (((h.1 9 7) + y2) : Int32).toNatClampNeg))], ab_dD h)) (fun n => rfl) c8 ?_
        refine ab_Ex.blk (k := 2) (pc' := 61) (lv' := [(0, .ref 9), (1, .ref 1000009), (2, .int y2)]) (st' := [.int y2, .ref 1000009, .int ((h.1 11 (((h.1 9 7) + y2) : Int32).toNatClampNeg))]) (sh' := ab_SH) (D' := ab_dD h) (fun n => rfl) ?_
        obtain ⟨r9, hr9, hf⟩ := ab_bind_s hf
        refine ab_Ex.call (d := d + 3) (M2 := 305) (as := [.ref 1000009, .int y2]) (rest := [.int ((h.1 11 (((h.1 9 7) + y2) : Int32).toNatClampNeg))]) (fun n => rfl) rfl (Nat.not_lt.mpr (Nat.le_of_ble_eq_true rfl)) (sJ0_charAt_5068e_1000009 (d) X y2 h _ hr9) (fun r hr => ?_)
        subst hr
        show ab_Ex X (d + 4) 93 64 [(0, .ref 9), (1, .ref 1000009), (2, .int y2)] [.int r9, .int ((h.1 11 (((h.1 9 7) + y2) : Int32).toNatClampNeg))] ab_SH (ab_dD h) _
        refine ab_Ex.ifc (c := (h.1 11 (((h.1 9 7) + y2) : Int32).toNatClampNeg) = r9) (SA := (69, [(0, .ref 9), (1, .ref 1000009), (2, .int y2)], [], ab_dD h)) (SB := (67, [(0, .ref 9), (1, .ref 1000009), (2, .int y2)], [], ab_dD h)) (fun n => rfl) (fun c10 => ?_) (fun c10 => ?_)
        · replace hf := (if_pos c10).symm.trans hf
          refine ab_Ex.blk (k := 2) (pc' := 28) (lv' := [(0, .ref 9), (1, .ref 1000009), (2, .int ((y2 + 1)))]) (st' := []) (sh' := ab_SH) (D' := ab_dD h) (fun n => rfl) ?_
          exact ih ((y2 + 1)) _ hf
        · replace hf := (if_neg c10).symm.trans hf
          refine ab_Ex.blk (k := 1) (pc' := 68) (lv' := [(0, .ref 9), (1, .ref 1000009), (2, .int y2)]) (st' := [.int 0]) (sh' := ab_SH) (D' := ab_dD h) (fun n => rfl) ?_
          obtain rfl := Option.some.inj hf
          exact ab_Ex.ret (fun n => rfl) rfl
set_option maxRecDepth 20000 in
theorem sX6_is_1000009 (d : Nat) (X : abX)  (h : abJ) (z : Int32) (hf : fX6_is 1000009 h = some z) : ab_Ex X (d + 4) 93 0 [(0, .ref 9), (1, .ref 1000009)] [] ab_SH (ab_dD h) (fun r => r = (some (.int z), ab_SH, ab_dD h)) := by
  unfold fX6_is at hf
  try simp only [Nat.reduceAdd] at hf
  refine ab_Ex.blk (k := 3) (pc' := 5) (lv' := [(0, .ref 9), (1, .ref 1000009)]) (st' := [.int 3, .int ((h.1 9 6))]) (sh' := ab_SH) (D' := ab_dD h) (fun n => rfl) ?_
  refine ab_Ex.ifc (c := (h.1 9 6) = 3) (SA := (8, [(0, .ref 9), (1, .ref 1000009)], [], ab_dD h)) (SB := (24, [(0, .ref 9), (1, .ref 1000009)], [], ab_dD h)) (fun n => rfl) (fun c1 => ?_) (fun c1 => ?_)
  · replace hf := (if_pos c1).symm.trans hf
    refine ab_Ex.blk (k := 6) (pc' := 18) (lv' := [(0, .ref 9), (1, .ref 1000009)]) (st' := [.ref 1000009, .int (((h.1 9 8) - (h.1 9 7)))]) (sh' := ab_SH) (D' := ab_dD h) (fun n => rfl) ?_
    obtain ⟨r2, hr2, hf⟩ := ab_bind_s hf
    refine ab_Ex.call (d := d + 3) (M2 := 304) (as := [.ref 1000009]) (rest := [.int (((h.1 9 8) - (h.1 9 7)))]) (fun n => rfl) rfl (Nat.not_lt.mpr (Nat.le_of_ble_eq_true rfl)) (sJ0_length_8abf5_1000009 (d + 2) X  h _ hr2) (fun r hr => ?_)
    subst hr
    show ab_Ex X (d + 4) 93 21 [(0, .ref 9), (1, .ref 1000009)] [.int r2, .int (((h.1 9 8) - (h.1 9 7)))] ab_SH (ab_dD h) _
    refine ab_Ex.ifc (c := ((h.1 9 8) - (h.1 9 7)) = r2) (SA := (26, [(0, .ref 9), (1, .ref 1000009)], [], ab_dD h)) (SB := (24, [(0, .ref 9), (1, .ref 1000009)], [], ab_dD h)) (fun n => rfl) (fun c3 => ?_) (fun c3 => ?_)
    · replace hf := (if_pos c3).symm.trans hf
      refine ab_Ex.blk (k := 2) (pc' := 28) (lv' := [(0, .ref 9), (1, .ref 1000009), (2, .int 0)]) (st' := []) (sh' := ab_SH) (D' := ab_dD h) (fun n => rfl) ?_
      exact sX6_is_L28_1000009 d X h ab_N 0 _ hf
    · replace hf := (if_neg c3).symm.trans hf
      refine ab_Ex.blk (k := 1) (pc' := 25) (lv' := []) (st' := [.int 0]) (sh' := ab_SH) (D' := ab_dD h) (fun n => rfl) ?_
      obtain rfl := Option.some.inj hf
      exact ab_Ex.ret (fun n => rfl) rfl
  · replace hf := (if_neg c1).symm.trans hf
    refine ab_Ex.blk (k := 1) (pc' := 25) (lv' := []) (st' := [.int 0]) (sh' := ab_SH) (D' := ab_dD h) (fun n => rfl) ?_
    obtain rfl := Option.some.inj hf
    exact ab_Ex.ret (fun n => rfl) rfl
set_option maxRecDepth 20000 in
theorem sX6_is_L28_1000010 (d : Nat) (X : abX) (h : abJ)   : ∀ (n : Nat), ∀ (y2 : Int32) (z : Int32), fX6_is_L28 1000010 h n y2 = some z → ab_Ex X (d + 4) 93 28 [(0, .ref 9), (1, .ref 1000010), (2, .int y2)] [] ab_SH (ab_dD h) (fun r => r = (some (.int z), ab_SH, ab_dD h)) := by
  intro n
  induction n with
  | zero => intro y2 z hf; cases hf
  | succ n ih =>
    intro y2 z hf
    rw [fX6_is_L28] at hf
    try simp only [Nat.reduceAdd] at hf
    refine ab_Ex.blk (k := 2) (pc' := 30) (lv' := [(0, .ref 9), (1, .ref 1000010), (2, .int y2)]) (st' := [.ref 1000010, .int y2]) (sh' := ab_SH) (D' := ab_dD h) (fun n => rfl) ?_
    obtain ⟨r4, hr4, hf⟩ := ab_bind_s hf
    refine ab_Ex.call (d := d + 3) (M2 := 304) (as := [.ref 1000010]) (rest := [.int y2]) (fun n => rfl) rfl (Nat.not_lt.mpr (Nat.le_of_ble_eq_true rfl)) (sJ0_length_8abf5_1000010 (d + 2) X  h _ hr4) (fun r hr => ?_)
    subst hr
    show ab_Ex X (d + 4) 93 33 [(0, .ref 9), (1, .ref 1000010), (2, .int y2)] [.int r4, .int y2] ab_SH (ab_dD h) _
    refine ab_Ex.ifc (c := r4 ≤ y2) (SA := (75, [(0, .ref 9), (1, .ref 1000010), (2, .int y2)], [], ab_dD h)) (SB := (36, [(0, .ref 9), (1, .ref 1000010), (2, .int y2)], [], ab_dD h)) (fun n => rfl) (fun c5 => ?_) (fun c5 => ?_)
    · replace hf := (if_pos c5).symm.trans hf
      refine ab_Ex.blk (k := 1) (pc' := 76) (lv' := []) (st' := [.int 1]) (sh' := ab_SH) (D' := ab_dD h) (fun n => rfl) ?_
      obtain rfl := Option.some.inj hf
      exact ab_Ex.ret (fun n => rfl) rfl
    · replace hf := (if_neg c5).symm.trans hf
      refine ab_Ex.blk (k := 5) (pc' := 45) (lv' := [(0, .ref 9), (1, .ref 1000010), (2, .int y2)]) (st' := [.int 900, .int (((h.1 9 7) + y2))]) (sh' := ab_SH) (D' := ab_dD h) (fun n => rfl) ?_
      refine ab_Ex.ifc (c := 900 ≤ ((h.1 9 7) + y2)) (SA := (75, [(0, .ref 9), (1, .ref 1000010), (2, .int y2)], [], ab_dD h)) (SB := (48, [(0, .ref 9), (1, .ref 1000010), (2, .int y2)], [], ab_dD h)) (fun n => rfl) (fun c6 => ?_) (fun c6 => ?_)
      · replace hf := (if_pos c6).symm.trans hf
        refine ab_Ex.blk (k := 1) (pc' := 76) (lv' := []) (st' := [.int 1]) (sh' := ab_SH) (D' := ab_dD h) (fun n => rfl) ?_
        obtain rfl := Option.some.inj hf
        exact ab_Ex.ret (fun n => rfl) rfl
      · replace hf := (if_neg c6).symm.trans hf
        refine ab_Ex.blk (k := 6) (pc' := 58) (lv' := [(0, .ref 9), (1, .ref 1000010), (2, .int y2)]) (st' := [.int (((h.1 9 7) + y2)), .ref 11]) (sh' := ab_SH) (D' := ab_dD h) (fun n => rfl) ?_
        obtain ⟨c8, hf⟩ := ab_ask_s hf
        refine ab_Ex.grd (c := ((h.1 9 7) + y2) < 0 ∨ 900 ≤ (((h.1 9 7) + y2) : Int32).toNatClampNeg) (S := (59, [(0, .ref 9), (1, .ref 1000010), (2, .int y2)], [.int ((h.1 11 (((h.1 9 7) + y2) : Int32).toNatClampNeg))], ab_dD h)) (fun n => rfl) c8 ?_
        refine ab_Ex.blk (k := 2) (pc' := 61) (lv' := [(0, .ref 9), (1, .ref 1000010), (2, .int y2)]) (st' := [.int y2, .ref 1000010, .int ((h.1 11 (((h.1 9 7) + y2) : Int32).toNatClampNeg))]) (sh' := ab_SH) (D' := ab_dD h) (fun n => rfl) ?_
        obtain ⟨r9, hr9, hf⟩ := ab_bind_s hf
        refine ab_Ex.call (d := d + 3) (M2 := 305) (as := [.ref 1000010, .int y2]) (rest := [.int ((h.1 11 (((h.1 9 7) + y2) : Int32).toNatClampNeg))]) (fun n => rfl) rfl (Nat.not_lt.mpr (Nat.le_of_ble_eq_true rfl)) (sJ0_charAt_5068e_1000010 (d) X y2 h _ hr9) (fun r hr => ?_)
        subst hr
        show ab_Ex X (d + 4) 93 64 [(0, .ref 9), (1, .ref 1000010), (2, .int y2)] [.int r9, .int ((h.1 11 (((h.1 9 7) + y2) : Int32).toNatClampNeg))] ab_SH (ab_dD h) _
        refine ab_Ex.ifc (c := (h.1 11 (((h.1 9 7) + y2) : Int32).toNatClampNeg) = r9) (SA := (69, [(0, .ref 9), (1, .ref 1000010), (2, .int y2)], [], ab_dD h)) (SB := (67, [(0, .ref 9), (1, .ref 1000010), (2, .int y2)], [], ab_dD h)) (fun n => rfl) (fun c10 => ?_) (fun c10 => ?_)
        · replace hf := (if_pos c10).symm.trans hf
          refine ab_Ex.blk (k := 2) (pc' := 28) (lv' := [(0, .ref 9), (1, .ref 1000010), (2, .int ((y2 + 1)))]) (st' := []) (sh' := ab_SH) (D' := ab_dD h) (fun n => rfl) ?_
          exact ih ((y2 + 1)) _ hf
        · replace hf := (if_neg c10).symm.trans hf
          refine ab_Ex.blk (k := 1) (pc' := 68) (lv' := [(0, .ref 9), (1, .ref 1000010), (2, .int y2)]) (st' := [.int 0]) (sh' := ab_SH) (D' := ab_dD h) (fun n => rfl) ?_
          obtain rfl := Option.some.inj hf
          exact ab_Ex.ret (fun n => rfl) rfl
set_option maxRecDepth 20000 in
theorem sX6_is_1000010 (d : Nat) (X : abX)  (h : abJ) (z : Int32) (hf : fX6_is 1000010 h = some z) : ab_Ex X (d + 4) 93 0 [(0, .ref 9), (1, .ref 1000010)] [] ab_SH (ab_dD h) (fun r => r = (some (.int z), ab_SH, ab_dD h)) := by
  unfold fX6_is at hf
  try simp only [Nat.reduceAdd] at hf
  refine ab_Ex.blk (k := 3) (pc' := 5) (lv' := [(0, .ref 9), (1, .ref 1000010)]) (st' := [.int 3, .int ((h.1 9 6))]) (sh' := ab_SH) (D' := ab_dD h) (fun n => rfl) ?_
  refine ab_Ex.ifc (c := (h.1 9 6) = 3) (SA := (8, [(0, .ref 9), (1, .ref 1000010)], [], ab_dD h)) (SB := (24, [(0, .ref 9), (1, .ref 1000010)], [], ab_dD h)) (fun n => rfl) (fun c1 => ?_) (fun c1 => ?_)
  · replace hf := (if_pos c1).symm.trans hf
    refine ab_Ex.blk (k := 6) (pc' := 18) (lv' := [(0, .ref 9), (1, .ref 1000010)]) (st' := [.ref 1000010, .int (((h.1 9 8) - (h.1 9 7)))]) (sh' := ab_SH) (D' := ab_dD h) (fun n => rfl) ?_
    obtain ⟨r2, hr2, hf⟩ := ab_bind_s hf
    refine ab_Ex.call (d := d + 3) (M2 := 304) (as := [.ref 1000010]) (rest := [.int (((h.1 9 8) - (h.1 9 7)))]) (fun n => rfl) rfl (Nat.not_lt.mpr (Nat.le_of_ble_eq_true rfl)) (sJ0_length_8abf5_1000010 (d + 2) X  h _ hr2) (fun r hr => ?_)
    subst hr
    show ab_Ex X (d + 4) 93 21 [(0, .ref 9), (1, .ref 1000010)] [.int r2, .int (((h.1 9 8) - (h.1 9 7)))] ab_SH (ab_dD h) _
    refine ab_Ex.ifc (c := ((h.1 9 8) - (h.1 9 7)) = r2) (SA := (26, [(0, .ref 9), (1, .ref 1000010)], [], ab_dD h)) (SB := (24, [(0, .ref 9), (1, .ref 1000010)], [], ab_dD h)) (fun n => rfl) (fun c3 => ?_) (fun c3 => ?_)
    · replace hf := (if_pos c3).symm.trans hf
      refine ab_Ex.blk (k := 2) (pc' := 28) (lv' := [(0, .ref 9), (1, .ref 1000010), (2, .int 0)]) (st' := []) (sh' := ab_SH) (D' := ab_dD h) (fun n => rfl) ?_
      exact sX6_is_L28_1000010 d X h ab_N 0 _ hf
    · replace hf := (if_neg c3).symm.trans hf
      refine ab_Ex.blk (k := 1) (pc' := 25) (lv' := []) (st' := [.int 0]) (sh' := ab_SH) (D' := ab_dD h) (fun n => rfl) ?_
      obtain rfl := Option.some.inj hf
      exact ab_Ex.ret (fun n => rfl) rfl
  · replace hf := (if_neg c1).symm.trans hf
    refine ab_Ex.blk (k := 1) (pc' := 25) (lv' := []) (st' := [.int 0]) (sh' := ab_SH) (D' := ab_dD h) (fun n => rfl) ?_
    obtain rfl := Option.some.inj hf
    exact ab_Ex.ret (fun n => rfl) rfl
set_option maxRecDepth 20000 in
theorem sX6_is_L28_1000011 (d : Nat) (X : abX) (h : abJ)   : ∀ (n : Nat), ∀ (y2 : Int32) (z : Int32), fX6_is_L28 1000011 h n y2 = some z → ab_Ex X (d + 4) 93 28 [(0, .ref 9), (1, .ref 1000011), (2, .int y2)] [] ab_SH (ab_dD h) (fun r => r = (some (.int z), ab_SH, ab_dD h)) := by
  intro n
  induction n with
  | zero => intro y2 z hf; cases hf
  | succ n ih =>
    intro y2 z hf
    rw [fX6_is_L28] at hf
    try simp only [Nat.reduceAdd] at hf
    refine ab_Ex.blk (k := 2) (pc' := 30) (lv' := [(0, .ref 9), (1, .ref 1000011), (2, .int y2)]) (st' := [.ref 1000011, .int y2]) (sh' := ab_SH) (D' := ab_dD h) (fun n => rfl) ?_
    obtain ⟨r4, hr4, hf⟩ := ab_bind_s hf
    refine ab_Ex.call (d := d + 3) (M2 := 304) (as := [.ref 1000011]) (rest := [.int y2]) (fun n => rfl) rfl (Nat.not_lt.mpr (Nat.le_of_ble_eq_true rfl)) (sJ0_length_8abf5_1000011 (d + 2) X  h _ hr4) (fun r hr => ?_)
    subst hr
    show ab_Ex X (d + 4) 93 33 [(0, .ref 9), (1, .ref 1000011), (2, .int y2)] [.int r4, .int y2] ab_SH (ab_dD h) _
    refine ab_Ex.ifc (c := r4 ≤ y2) (SA := (75, [(0, .ref 9), (1, .ref 1000011), (2, .int y2)], [], ab_dD h)) (SB := (36, [(0, .ref 9), (1, .ref 1000011), (2, .int y2)], [], ab_dD h)) (fun n => rfl) (fun c5 => ?_) (fun c5 => ?_)
    · replace hf := (if_pos c5).symm.trans hf
      refine ab_Ex.blk (k := 1) (pc' := 76) (lv' := []) (st' := [.int 1]) (sh' := ab_SH) (D' := ab_dD h) (fun n => rfl) ?_
      obtain rfl := Option.some.inj hf
      exact ab_Ex.ret (fun n => rfl) rfl
    · replace hf := (if_neg c5).symm.trans hf
      refine ab_Ex.blk (k := 5) (pc' := 45) (lv' := [(0, .ref 9), (1, .ref 1000011), (2, .int y2)]) (st' := [.int 900, .int (((h.1 9 7) + y2))]) (sh' := ab_SH) (D' := ab_dD h) (fun n => rfl) ?_
      refine ab_Ex.ifc (c := 900 ≤ ((h.1 9 7) + y2)) (SA := (75, [(0, .ref 9), (1, .ref 1000011), (2, .int y2)], [], ab_dD h)) (SB := (48, [(0, .ref 9), (1, .ref 1000011), (2, .int y2)], [], ab_dD h)) (fun n => rfl) (fun c6 => ?_) (fun c6 => ?_)
      · replace hf := (if_pos c6).symm.trans hf
        refine ab_Ex.blk (k := 1) (pc' := 76) (lv' := []) (st' := [.int 1]) (sh' := ab_SH) (D' := ab_dD h) (fun n => rfl) ?_
        obtain rfl := Option.some.inj hf
        exact ab_Ex.ret (fun n => rfl) rfl
      · replace hf := (if_neg c6).symm.trans hf
        refine ab_Ex.blk (k := 6) (pc' := 58) (lv' := [(0, .ref 9), (1, .ref 1000011), (2, .int y2)]) (st' := [.int (((h.1 9 7) + y2)), .ref 11]) (sh' := ab_SH) (D' := ab_dD h) (fun n => rfl) ?_
        obtain ⟨c8, hf⟩ := ab_ask_s hf
        refine ab_Ex.grd (c := ((h.1 9 7) + y2) < 0 ∨ 900 ≤ (((h.1 9 7) + y2) : Int32).toNatClampNeg) (S := (59, [(0, .ref 9), (1, .ref 1000011), (2, .int y2)], [.int ((h.1 11 (((h.1 9 7) + y2) : Int32).toNatClampNeg))], ab_dD h)) (fun n => rfl) c8 ?_
        refine ab_Ex.blk (k := 2) (pc' := 61) (lv' := [(0, .ref 9), (1, .ref 1000011), (2, .int y2)]) (st' := [.int y2, .ref 1000011, .int ((h.1 11 (((h.1 9 7) + y2) : Int32).toNatClampNeg))]) (sh' := ab_SH) (D' := ab_dD h) (fun n => rfl) ?_
        obtain ⟨r9, hr9, hf⟩ := ab_bind_s hf
        refine ab_Ex.call (d := d + 3) (M2 := 305) (as := [.ref 1000011, .int y2]) (rest := [.int ((h.1 11 (((h.1 9 7) + y2) : Int32).toNatClampNeg))]) (fun n => rfl) rfl (Nat.not_lt.mpr (Nat.le_of_ble_eq_true rfl)) (sJ0_charAt_5068e_1000011 (d) X y2 h _ hr9) (fun r hr => ?_)
        subst hr
        show ab_Ex X (d + 4) 93 64 [(0, .ref 9), (1, .ref 1000011), (2, .int y2)] [.int r9, .int ((h.1 11 (((h.1 9 7) + y2) : Int32).toNatClampNeg))] ab_SH (ab_dD h) _
        refine ab_Ex.ifc (c := (h.1 11 (((h.1 9 7) + y2) : Int32).toNatClampNeg) = r9) (SA := (69, [(0, .ref 9), (1, .ref 1000011), (2, .int y2)], [], ab_dD h)) (SB := (67, [(0, .ref 9), (1, .ref 1000011), (2, .int y2)], [], ab_dD h)) (fun n => rfl) (fun c10 => ?_) (fun c10 => ?_)
        · replace hf := (if_pos c10).symm.trans hf
          refine ab_Ex.blk (k := 2) (pc' := 28) (lv' := [(0, .ref 9), (1, .ref 1000011), (2, .int ((y2 + 1)))]) (st' := []) (sh' := ab_SH) (D' := ab_dD h) (fun n => rfl) ?_
          exact ih ((y2 + 1)) _ hf
        · replace hf := (if_neg c10).symm.trans hf
          refine ab_Ex.blk (k := 1) (pc' := 68) (lv' := [(0, .ref 9), (1, .ref 1000011), (2, .int y2)]) (st' := [.int 0]) (sh' := ab_SH) (D' := ab_dD h) (fun n => rfl) ?_
          obtain rfl := Option.some.inj hf
          exact ab_Ex.ret (fun n => rfl) rfl
set_option maxRecDepth 20000 in
theorem sX6_is_1000011 (d : Nat) (X : abX)  (h : abJ) (z : Int32) (hf : fX6_is 1000011 h = some z) : ab_Ex X (d + 4) 93 0 [(0, .ref 9), (1, .ref 1000011)] [] ab_SH (ab_dD h) (fun r => r = (some (.int z), ab_SH, ab_dD h)) := by
  unfold fX6_is at hf
  try simp only [Nat.reduceAdd] at hf
  refine ab_Ex.blk (k := 3) (pc' := 5) (lv' := [(0, .ref 9), (1, .ref 1000011)]) (st' := [.int 3, .int ((h.1 9 6))]) (sh' := ab_SH) (D' := ab_dD h) (fun n => rfl) ?_
  refine ab_Ex.ifc (c := (h.1 9 6) = 3) (SA := (8, [(0, .ref 9), (1, .ref 1000011)], [], ab_dD h)) (SB := (24, [(0, .ref 9), (1, .ref 1000011)], [], ab_dD h)) (fun n => rfl) (fun c1 => ?_) (fun c1 => ?_)
  · replace hf := (if_pos c1).symm.trans hf
    refine ab_Ex.blk (k := 6) (pc' := 18) (lv' := [(0, .ref 9), (1, .ref 1000011)]) (st' := [.ref 1000011, .int (((h.1 9 8) - (h.1 9 7)))]) (sh' := ab_SH) (D' := ab_dD h) (fun n => rfl) ?_
    obtain ⟨r2, hr2, hf⟩ := ab_bind_s hf
    refine ab_Ex.call (d := d + 3) (M2 := 304) (as := [.ref 1000011]) (rest := [.int (((h.1 9 8) - (h.1 9 7)))]) (fun n => rfl) rfl (Nat.not_lt.mpr (Nat.le_of_ble_eq_true rfl)) (sJ0_length_8abf5_1000011 (d + 2) X  h _ hr2) (fun r hr => ?_)
    subst hr
    show ab_Ex X (d + 4) 93 21 [(0, .ref 9), (1, .ref 1000011)] [.int r2, .int (((h.1 9 8) - (h.1 9 7)))] ab_SH (ab_dD h) _
    refine ab_Ex.ifc (c := ((h.1 9 8) - (h.1 9 7)) = r2) (SA := (26, [(0, .ref 9), (1, .ref 1000011)], [], ab_dD h)) (SB := (24, [(0, .ref 9), (1, .ref 1000011)], [], ab_dD h)) (fun n => rfl) (fun c3 => ?_) (fun c3 => ?_)
    · replace hf := (if_pos c3).symm.trans hf
      refine ab_Ex.blk (k := 2) (pc' := 28) (lv' := [(0, .ref 9), (1, .ref 1000011), (2, .int 0)]) (st' := []) (sh' := ab_SH) (D' := ab_dD h) (fun n => rfl) ?_
      exact sX6_is_L28_1000011 d X h ab_N 0 _ hf
    · replace hf := (if_neg c3).symm.trans hf
      refine ab_Ex.blk (k := 1) (pc' := 25) (lv' := []) (st' := [.int 0]) (sh' := ab_SH) (D' := ab_dD h) (fun n => rfl) ?_
      obtain rfl := Option.some.inj hf
      exact ab_Ex.ret (fun n => rfl) rfl
  · replace hf := (if_neg c1).symm.trans hf
    refine ab_Ex.blk (k := 1) (pc' := 25) (lv' := []) (st' := [.int 0]) (sh' := ab_SH) (D' := ab_dD h) (fun n => rfl) ?_
    obtain rfl := Option.some.inj hf
    exact ab_Ex.ret (fun n => rfl) rfl
set_option maxRecDepth 20000 in
theorem sX6_is_L28_1000012 (d : Nat) (X : abX) (h : abJ)   : ∀ (n : Nat), ∀ (y2 : Int32) (z : Int32), fX6_is_L28 1000012 h n y2 = some z → ab_Ex X (d + 4) 93 28 [(0, .ref 9), (1, .ref 1000012), (2, .int y2)] [] ab_SH (ab_dD h) (fun r => r = (some (.int z), ab_SH, ab_dD h)) := by
  intro n
  induction n with
  | zero => intro y2 z hf; cases hf
  | succ n ih =>
    intro y2 z hf
    rw [fX6_is_L28] at hf
    try simp only [Nat.reduceAdd] at hf
    refine ab_Ex.blk (k := 2) (pc' := 30) (lv' := [(0, .ref 9), (1, .ref 1000012), (2, .int y2)]) (st' := [.ref 1000012, .int y2]) (sh' := ab_SH) (D' := ab_dD h) (fun n => rfl) ?_
    obtain ⟨r4, hr4, hf⟩ := ab_bind_s hf
    refine ab_Ex.call (d := d + 3) (M2 := 304) (as := [.ref 1000012]) (rest := [.int y2]) (fun n => rfl) rfl (Nat.not_lt.mpr (Nat.le_of_ble_eq_true rfl)) (sJ0_length_8abf5_1000012 (d + 2) X  h _ hr4) (fun r hr => ?_)
    subst hr
    show ab_Ex X (d + 4) 93 33 [(0, .ref 9), (1, .ref 1000012), (2, .int y2)] [.int r4, .int y2] ab_SH (ab_dD h) _
    refine ab_Ex.ifc (c := r4 ≤ y2) (SA := (75, [(0, .ref 9), (1, .ref 1000012), (2, .int y2)], [], ab_dD h)) (SB := (36, [(0, .ref 9), (1, .ref 1000012), (2, .int y2)], [], ab_dD h)) (fun n => rfl) (fun c5 => ?_) (fun c5 => ?_)
    · replace hf := (if_pos c5).symm.trans hf
      refine ab_Ex.blk (k := 1) (pc' := 76) (lv' := []) (st' := [.int 1]) (sh' := ab_SH) (D' := ab_dD h) (fun n => rfl) ?_
      obtain rfl := Option.some.inj hf
      exact ab_Ex.ret (fun n => rfl) rfl
    · replace hf := (if_neg c5).symm.trans hf
      refine ab_Ex.blk (k := 5) (pc' := 45) (lv' := [(0, .ref 9), (1, .ref 1000012), (2, .int y2)]) (st' := [.int 900, .int (((h.1 9 7) + y2))]) (sh' := ab_SH) (D' := ab_dD h) (fun n => rfl) ?_
      refine ab_Ex.ifc (c := 900 ≤ ((h.1 9 7) + y2)) (SA := (75, [(0, .ref 9), (1, .ref 1000012), (2, .int y2)], [], ab_dD h)) (SB := (48, [(0, .ref 9), (1, .ref 1000012), (2, .int y2)], [], ab_dD h)) (fun n => rfl) (fun c6 => ?_) (fun c6 => ?_)
      · replace hf := (if_pos c6).symm.trans hf
        refine ab_Ex.blk (k := 1) (pc' := 76) (lv' := []) (st' := [.int 1]) (sh' := ab_SH) (D' := ab_dD h) (fun n => rfl) ?_
        obtain rfl := Option.some.inj hf
        exact ab_Ex.ret (fun n => rfl) rfl
      · replace hf := (if_neg c6).symm.trans hf
        refine ab_Ex.blk (k := 6) (pc' := 58) (lv' := [(0, .ref 9), (1, .ref 1000012), (2, .int y2)]) (st' := [.int (((h.1 9 7) + y2)), .ref 11]) (sh' := ab_SH) (D' := ab_dD h) (fun n => rfl) ?_
        obtain ⟨c8, hf⟩ := ab_ask_s hf
        refine ab_Ex.grd (c := ((h.1 9 7) + y2) < 0 ∨ 900 ≤ (((h.1 9 7) + y2) : Int32).toNatClampNeg) (S := (59, [(0, .ref 9), (1, .ref 1000012), (2, .int y2)], [.int ((h.1 11 (((h.1 9 7) + y2) : Int32).toNatClampNeg))], ab_dD h)) (fun n => rfl) c8 ?_
        refine ab_Ex.blk (k := 2) (pc' := 61) (lv' := [(0, .ref 9), (1, .ref 1000012), (2, .int y2)]) (st' := [.int y2, .ref 1000012, .int ((h.1 11 (((h.1 9 7) + y2) : Int32).toNatClampNeg))]) (sh' := ab_SH) (D' := ab_dD h) (fun n => rfl) ?_
        obtain ⟨r9, hr9, hf⟩ := ab_bind_s hf
        refine ab_Ex.call (d := d + 3) (M2 := 305) (as := [.ref 1000012, .int y2]) (rest := [.int ((h.1 11 (((h.1 9 7) + y2) : Int32).toNatClampNeg))]) (fun n => rfl) rfl (Nat.not_lt.mpr (Nat.le_of_ble_eq_true rfl)) (sJ0_charAt_5068e_1000012 (d) X y2 h _ hr9) (fun r hr => ?_)
        subst hr
        show ab_Ex X (d + 4) 93 64 [(0, .ref 9), (1, .ref 1000012), (2, .int y2)] [.int r9, .int ((h.1 11 (((h.1 9 7) + y2) : Int32).toNatClampNeg))] ab_SH (ab_dD h) _
        refine ab_Ex.ifc (c := (h.1 11 (((h.1 9 7) + y2) : Int32).toNatClampNeg) = r9) (SA := (69, [(0, .ref 9), (1, .ref 1000012), (2, .int y2)], [], ab_dD h)) (SB := (67, [(0, .ref 9), (1, .ref 1000012), (2, .int y2)], [], ab_dD h)) (fun n => rfl) (fun c10 => ?_) (fun c10 => ?_)
        · replace hf := (if_pos c10).symm.trans hf
          refine ab_Ex.blk (k := 2) (pc' := 28) (lv' := [(0, .ref 9), (1, .ref 1000012), (2, .int ((y2 + 1)))]) (st' := []) (sh' := ab_SH) (D' := ab_dD h) (fun n => rfl) ?_
          exact ih ((y2 + 1)) _ hf
        · replace hf := (if_neg c10).symm.trans hf
          refine ab_Ex.blk (k := 1) (pc' := 68) (lv' := [(0, .ref 9), (1, .ref 1000012), (2, .int y2)]) (st' := [.int 0]) (sh' := ab_SH) (D' := ab_dD h) (fun n => rfl) ?_
          obtain rfl := Option.some.inj hf
          exact ab_Ex.ret (fun n => rfl) rfl
set_option maxRecDepth 20000 in
theorem sX6_is_1000012 (d : Nat) (X : abX)  (h : abJ) (z : Int32) (hf : fX6_is 1000012 h = some z) : ab_Ex X (d + 4) 93 0 [(0, .ref 9), (1, .ref 1000012)] [] ab_SH (ab_dD h) (fun r => r = (some (.int z), ab_SH, ab_dD h)) := by
  unfold fX6_is at hf
  try simp only [Nat.reduceAdd] at hf
  refine ab_Ex.blk (k := 3) (pc' := 5) (lv' := [(0, .ref 9), (1, .ref 1000012)]) (st' := [.int 3, .int ((h.1 9 6))]) (sh' := ab_SH) (D' := ab_dD h) (fun n => rfl) ?_
  refine ab_Ex.ifc (c := (h.1 9 6) = 3) (SA := (8, [(0, .ref 9), (1, .ref 1000012)], [], ab_dD h)) (SB := (24, [(0, .ref 9), (1, .ref 1000012)], [], ab_dD h)) (fun n => rfl) (fun c1 => ?_) (fun c1 => ?_)
  · replace hf := (if_pos c1).symm.trans hf
    refine ab_Ex.blk (k := 6) (pc' := 18) (lv' := [(0, .ref 9), (1, .ref 1000012)]) (st' := [.ref 1000012, .int (((h.1 9 8) - (h.1 9 7)))]) (sh' := ab_SH) (D' := ab_dD h) (fun n => rfl) ?_
    obtain ⟨r2, hr2, hf⟩ := ab_bind_s hf
    refine ab_Ex.call (d := d + 3) (M2 := 304) (as := [.ref 1000012]) (rest := [.int (((h.1 9 8) - (h.1 9 7)))]) (fun n => rfl) rfl (Nat.not_lt.mpr (Nat.le_of_ble_eq_true rfl)) (sJ0_length_8abf5_1000012 (d + 2) X  h _ hr2) (fun r hr => ?_)
    subst hr
    show ab_Ex X (d + 4) 93 21 [(0, .ref 9), (1, .ref 1000012)] [.int r2, .int (((h.1 9 8) - (h.1 9 7)))] ab_SH (ab_dD h) _
    refine ab_Ex.ifc (c := ((h.1 9 8) - (h.1 9 7)) = r2) (SA := (26, [(0, .ref 9), (1, .ref 1000012)], [], ab_dD h)) (SB := (24, [(0, .ref 9), (1, .ref 1000012)], [], ab_dD h)) (fun n => rfl) (fun c3 => ?_) (fun c3 => ?_)
    · replace hf := (if_pos c3).symm.trans hf
      refine ab_Ex.blk (k := 2) (pc' := 28) (lv' := [(0, .ref 9), (1, .ref 1000012), (2, .int 0)]) (st' := []) (sh' := ab_SH) (D' := ab_dD h) (fun n => rfl) ?_
      exact sX6_is_L28_1000012 d X h ab_N 0 _ hf
    · replace hf := (if_neg c3).symm.trans hf
      refine ab_Ex.blk (k := 1) (pc' := 25) (lv' := []) (st' := [.int 0]) (sh' := ab_SH) (D' := ab_dD h) (fun n => rfl) ?_
      obtain rfl := Option.some.inj hf
      exact ab_Ex.ret (fun n => rfl) rfl
  · replace hf := (if_neg c1).symm.trans hf
    refine ab_Ex.blk (k := 1) (pc' := 25) (lv' := []) (st' := [.int 0]) (sh' := ab_SH) (D' := ab_dD h) (fun n => rfl) ?_
    obtain rfl := Option.some.inj hf
    exact ab_Ex.ret (fun n => rfl) rfl
set_option maxRecDepth 20000 in
theorem sX6_is_L28_1000013 (d : Nat) (X : abX) (h : abJ)   : ∀ (n : Nat), ∀ (y2 : Int32) (z : Int32), fX6_is_L28 1000013 h n y2 = some z → ab_Ex X (d + 4) 93 28 [(0, .ref 9), (1, .ref 1000013), (2, .int y2)] [] ab_SH (ab_dD h) (fun r => r = (some (.int z), ab_SH, ab_dD h)) := by
  intro n
  induction n with
  | zero => intro y2 z hf; cases hf
  | succ n ih =>
    intro y2 z hf
    rw [fX6_is_L28] at hf
    try simp only [Nat.reduceAdd] at hf
    refine ab_Ex.blk (k := 2) (pc' := 30) (lv' := [(0, .ref 9), (1, .ref 1000013), (2, .int y2)]) (st' := [.ref 1000013, .int y2]) (sh' := ab_SH) (D' := ab_dD h) (fun n => rfl) ?_
    obtain ⟨r4, hr4, hf⟩ := ab_bind_s hf
    refine ab_Ex.call (d := d + 3) (M2 := 304) (as := [.ref 1000013]) (rest := [.int y2]) (fun n => rfl) rfl (Nat.not_lt.mpr (Nat.le_of_ble_eq_true rfl)) (sJ0_length_8abf5_1000013 (d + 2) X  h _ hr4) (fun r hr => ?_)
    subst hr
    show ab_Ex X (d + 4) 93 33 [(0, .ref 9), (1, .ref 1000013), (2, .int y2)] [.int r4, .int y2] ab_SH (ab_dD h) _
    refine ab_Ex.ifc (c := r4 ≤ y2) (SA := (75, [(0, .ref 9), (1, .ref 1000013), (2, .int y2)], [], ab_dD h)) (SB := (36, [(0, .ref 9), (1, .ref 1000013), (2, .int y2)], [], ab_dD h)) (fun n => rfl) (fun c5 => ?_) (fun c5 => ?_)
    · replace hf := (if_pos c5).symm.trans hf
      refine ab_Ex.blk (k := 1) (pc' := 76) (lv' := []) (st' := [.int 1]) (sh' := ab_SH) (D' := ab_dD h) (fun n => rfl) ?_
      obtain rfl := Option.some.inj hf
      exact ab_Ex.ret (fun n => rfl) rfl
    · replace hf := (if_neg c5).symm.trans hf
      refine ab_Ex.blk (k := 5) (pc' := 45) (lv' := [(0, .ref 9), (1, .ref 1000013), (2, .int y2)]) (st' := [.int 900, .int (((h.1 9 7) + y2))]) (sh' := ab_SH) (D' := ab_dD h) (fun n => rfl) ?_
      refine ab_Ex.ifc (c := 900 ≤ ((h.1 9 7) + y2)) (SA := (75, [(0, .ref 9), (1, .ref 1000013), (2, .int y2)], [], ab_dD h)) (SB := (48, [(0, .ref 9), (1, .ref 1000013), (2, .int y2)], [], ab_dD h)) (fun n => rfl) (fun c6 => ?_) (fun c6 => ?_)
      · replace hf := (if_pos c6).symm.trans hf
        refine ab_Ex.blk (k := 1) (pc' := 76) (lv' := []) (st' := [.int 1]) (sh' := ab_SH) (D' := ab_dD h) (fun n => rfl) ?_
        obtain rfl := Option.some.inj hf
        exact ab_Ex.ret (fun n => rfl) rfl
      · replace hf := (if_neg c6).symm.trans hf
        refine ab_Ex.blk (k := 6) (pc' := 58) (lv' := [(0, .ref 9), (1, .ref 1000013), (2, .int y2)]) (st' := [.int (((h.1 9 7) + y2)), .ref 11]) (sh' := ab_SH) (D' := ab_dD h) (fun n => rfl) ?_
        obtain ⟨c8, hf⟩ := ab_ask_s hf
        refine ab_Ex.grd (c := ((h.1 9 7) + y2) < 0 ∨ 900 ≤ (((h.1 9 7) + y2) : Int32).toNatClampNeg) (S := (59, [(0, .ref 9), (1, .ref 1000013), (2, .int y2)], [.int ((h.1 11 (((h.1 9 7) + y2) : Int32).toNatClampNeg))], ab_dD h)) (fun n => rfl) c8 ?_
        refine ab_Ex.blk (k := 2) (pc' := 61) (lv' := [(0, .ref 9), (1, .ref 1000013), (2, .int y2)]) (st' := [.int y2, .ref 1000013, .int ((h.1 11 (((h.1 9 7) + y2) : Int32).toNatClampNeg))]) (sh' := ab_SH) (D' := ab_dD h) (fun n => rfl) ?_
        obtain ⟨r9, hr9, hf⟩ := ab_bind_s hf
        refine ab_Ex.call (d := d + 3) (M2 := 305) (as := [.ref 1000013, .int y2]) (rest := [.int ((h.1 11 (((h.1 9 7) + y2) : Int32).toNatClampNeg))]) (fun n => rfl) rfl (Nat.not_lt.mpr (Nat.le_of_ble_eq_true rfl)) (sJ0_charAt_5068e_1000013 (d) X y2 h _ hr9) (fun r hr => ?_)
        subst hr
        show ab_Ex X (d + 4) 93 64 [(0, .ref 9), (1, .ref 1000013), (2, .int y2)] [.int r9, .int ((h.1 11 (((h.1 9 7) + y2) : Int32).toNatClampNeg))] ab_SH (ab_dD h) _
        refine ab_Ex.ifc (c := (h.1 11 (((h.1 9 7) + y2) : Int32).toNatClampNeg) = r9) (SA := (69, [(0, .ref 9), (1, .ref 1000013), (2, .int y2)], [], ab_dD h)) (SB := (67, [(0, .ref 9), (1, .ref 1000013), (2, .int y2)], [], ab_dD h)) (fun n => rfl) (fun c10 => ?_) (fun c10 => ?_)
        · replace hf := (if_pos c10).symm.trans hf
          refine ab_Ex.blk (k := 2) (pc' := 28) (lv' := [(0, .ref 9), (1, .ref 1000013), (2, .int ((y2 + 1)))]) (st' := []) (sh' := ab_SH) (D' := ab_dD h) (fun n => rfl) ?_
          exact ih ((y2 + 1)) _ hf
        · replace hf := (if_neg c10).symm.trans hf
          refine ab_Ex.blk (k := 1) (pc' := 68) (lv' := [(0, .ref 9), (1, .ref 1000013), (2, .int y2)]) (st' := [.int 0]) (sh' := ab_SH) (D' := ab_dD h) (fun n => rfl) ?_
          obtain rfl := Option.some.inj hf
          exact ab_Ex.ret (fun n => rfl) rfl
set_option maxRecDepth 20000 in
theorem sX6_is_1000013 (d : Nat) (X : abX)  (h : abJ) (z : Int32) (hf : fX6_is 1000013 h = some z) : ab_Ex X (d + 4) 93 0 [(0, .ref 9), (1, .ref 1000013)] [] ab_SH (ab_dD h) (fun r => r = (some (.int z), ab_SH, ab_dD h)) := by
  unfold fX6_is at hf
  try simp only [Nat.reduceAdd] at hf
  refine ab_Ex.blk (k := 3) (pc' := 5) (lv' := [(0, .ref 9), (1, .ref 1000013)]) (st' := [.int 3, .int ((h.1 9 6))]) (sh' := ab_SH) (D' := ab_dD h) (fun n => rfl) ?_
  refine ab_Ex.ifc (c := (h.1 9 6) = 3) (SA := (8, [(0, .ref 9), (1, .ref 1000013)], [], ab_dD h)) (SB := (24, [(0, .ref 9), (1, .ref 1000013)], [], ab_dD h)) (fun n => rfl) (fun c1 => ?_) (fun c1 => ?_)
  · replace hf := (if_pos c1).symm.trans hf
    refine ab_Ex.blk (k := 6) (pc' := 18) (lv' := [(0, .ref 9), (1, .ref 1000013)]) (st' := [.ref 1000013, .int (((h.1 9 8) - (h.1 9 7)))]) (sh' := ab_SH) (D' := ab_dD h) (fun n => rfl) ?_
    obtain ⟨r2, hr2, hf⟩ := ab_bind_s hf
    refine ab_Ex.call (d := d + 3) (M2 := 304) (as := [.ref 1000013]) (rest := [.int (((h.1 9 8) - (h.1 9 7)))]) (fun n => rfl) rfl (Nat.not_lt.mpr (Nat.le_of_ble_eq_true rfl)) (sJ0_length_8abf5_1000013 (d + 2) X  h _ hr2) (fun r hr => ?_)
    subst hr
    show ab_Ex X (d + 4) 93 21 [(0, .ref 9), (1, .ref 1000013)] [.int r2, .int (((h.1 9 8) - (h.1 9 7)))] ab_SH (ab_dD h) _
    refine ab_Ex.ifc (c := ((h.1 9 8) - (h.1 9 7)) = r2) (SA := (26, [(0, .ref 9), (1, .ref 1000013)], [], ab_dD h)) (SB := (24, [(0, .ref 9), (1, .ref 1000013)], [], ab_dD h)) (fun n => rfl) (fun c3 => ?_) (fun c3 => ?_)
    · replace hf := (if_pos c3).symm.trans hf
      refine ab_Ex.blk (k := 2) (pc' := 28) (lv' := [(0, .ref 9), (1, .ref 1000013), (2, .int 0)]) (st' := []) (sh' := ab_SH) (D' := ab_dD h) (fun n => rfl) ?_
      exact sX6_is_L28_1000013 d X h ab_N 0 _ hf
    · replace hf := (if_neg c3).symm.trans hf
      refine ab_Ex.blk (k := 1) (pc' := 25) (lv' := []) (st' := [.int 0]) (sh' := ab_SH) (D' := ab_dD h) (fun n => rfl) ?_
      obtain rfl := Option.some.inj hf
      exact ab_Ex.ret (fun n => rfl) rfl
  · replace hf := (if_neg c1).symm.trans hf
    refine ab_Ex.blk (k := 1) (pc' := 25) (lv' := []) (st' := [.int 0]) (sh' := ab_SH) (D' := ab_dD h) (fun n => rfl) ?_
    obtain rfl := Option.some.inj hf
    exact ab_Ex.ret (fun n => rfl) rfl
set_option maxRecDepth 20000 in
theorem sX6_is_L28_1000014 (d : Nat) (X : abX) (h : abJ)   : ∀ (n : Nat), ∀ (y2 : Int32) (z : Int32), fX6_is_L28 1000014 h n y2 = some z → ab_Ex X (d + 4) 93 28 [(0, .ref 9), (1, .ref 1000014), (2, .int y2)] [] ab_SH (ab_dD h) (fun r => r = (some (.int z), ab_SH, ab_dD h)) := by
  intro n
  induction n with
  | zero => intro y2 z hf; cases hf
  | succ n ih =>
    intro y2 z hf
    rw [fX6_is_L28] at hf
    try simp only [Nat.reduceAdd] at hf
    refine ab_Ex.blk (k := 2) (pc' := 30) (lv' := [(0, .ref 9), (1, .ref 1000014), (2, .int y2)]) (st' := [.ref 1000014, .int y2]) (sh' := ab_SH) (D' := ab_dD h) (fun n => rfl) ?_
    obtain ⟨r4, hr4, hf⟩ := ab_bind_s hf
    refine ab_Ex.call (d := d + 3) (M2 := 304) (as := [.ref 1000014]) (rest := [.int y2]) (fun n => rfl) rfl (Nat.not_lt.mpr (Nat.le_of_ble_eq_true rfl)) (sJ0_length_8abf5_1000014 (d + 2) X  h _ hr4) (fun r hr => ?_)
    subst hr
    show ab_Ex X (d + 4) 93 33 [(0, .ref 9), (1, .ref 1000014), (2, .int y2)] [.int r4, .int y2] ab_SH (ab_dD h) _
    refine ab_Ex.ifc (c := r4 ≤ y2) (SA := (75, [(0, .ref 9), (1, .ref 1000014), (2, .int y2)], [], ab_dD h)) (SB := (36, [(0, .ref 9), (1, .ref 1000014), (2, .int y2)], [], ab_dD h)) (fun n => rfl) (fun c5 => ?_) (fun c5 => ?_)
    · replace hf := (if_pos c5).symm.trans hf
      refine ab_Ex.blk (k := 1) (pc' := 76) (lv' := []) (st' := [.int 1]) (sh' := ab_SH) (D' := ab_dD h) (fun n => rfl) ?_
      obtain rfl := Option.some.inj hf
      exact ab_Ex.ret (fun n => rfl) rfl
    · replace hf := (if_neg c5).symm.trans hf
      refine ab_Ex.blk (k := 5) (pc' := 45) (lv' := [(0, .ref 9), (1, .ref 1000014), (2, .int y2)]) (st' := [.int 900, .int (((h.1 9 7) + y2))]) (sh' := ab_SH) (D' := ab_dD h) (fun n => rfl) ?_
      refine ab_Ex.ifc (c := 900 ≤ ((h.1 9 7) + y2)) (SA := (75, [(0, .ref 9), (1, .ref 1000014), (2, .int y2)], [], ab_dD h)) (SB := (48, [(0, .ref 9), (1, .ref 1000014), (2, .int y2)], [], ab_dD h)) (fun n => rfl) (fun c6 => ?_) (fun c6 => ?_)
      · replace hf := (if_pos c6).symm.trans hf
        refine ab_Ex.blk (k := 1) (pc' := 76) (lv' := []) (st' := [.int 1]) (sh' := ab_SH) (D' := ab_dD h) (fun n => rfl) ?_
        obtain rfl := Option.some.inj hf
        exact ab_Ex.ret (fun n => rfl) rfl
      · replace hf := (if_neg c6).symm.trans hf
        refine ab_Ex.blk (k := 6) (pc' := 58) (lv' := [(0, .ref 9), (1, .ref 1000014), (2, .int y2)]) (st' := [.int (((h.1 9 7) + y2)), .ref 11]) (sh' := ab_SH) (D' := ab_dD h) (fun n => rfl) ?_
        obtain ⟨c8, hf⟩ := ab_ask_s hf
        refine ab_Ex.grd (c := ((h.1 9 7) + y2) < 0 ∨ 900 ≤ (((h.1 9 7) + y2) : Int32).toNatClampNeg) (S := (59, [(0, .ref 9), (1, .ref 1000014), (2, .int y2)], [.int ((h.1 11 (((h.1 9 7) + y2) : Int32).toNatClampNeg))], ab_dD h)) (fun n => rfl) c8 ?_
        refine ab_Ex.blk (k := 2) (pc' := 61) (lv' := [(0, .ref 9), (1, .ref 1000014), (2, .int y2)]) (st' := [.int y2, .ref 1000014, .int ((h.1 11 (((h.1 9 7) + y2) : Int32).toNatClampNeg))]) (sh' := ab_SH) (D' := ab_dD h) (fun n => rfl) ?_
        obtain ⟨r9, hr9, hf⟩ := ab_bind_s hf
        refine ab_Ex.call (d := d + 3) (M2 := 305) (as := [.ref 1000014, .int y2]) (rest := [.int ((h.1 11 (((h.1 9 7) + y2) : Int32).toNatClampNeg))]) (fun n => rfl) rfl (Nat.not_lt.mpr (Nat.le_of_ble_eq_true rfl)) (sJ0_charAt_5068e_1000014 (d) X y2 h _ hr9) (fun r hr => ?_)
        subst hr
        show ab_Ex X (d + 4) 93 64 [(0, .ref 9), (1, .ref 1000014), (2, .int y2)] [.int r9, .int ((h.1 11 (((h.1 9 7) + y2) : Int32).toNatClampNeg))] ab_SH (ab_dD h) _
        refine ab_Ex.ifc (c := (h.1 11 (((h.1 9 7) + y2) : Int32).toNatClampNeg) = r9) (SA := (69, [(0, .ref 9), (1, .ref 1000014), (2, .int y2)], [], ab_dD h)) (SB := (67, [(0, .ref 9), (1, .ref 1000014), (2, .int y2)], [], ab_dD h)) (fun n => rfl) (fun c10 => ?_) (fun c10 => ?_)
        · replace hf := (if_pos c10).symm.trans hf
          refine ab_Ex.blk (k := 2) (pc' := 28) (lv' := [(0, .ref 9), (1, .ref 1000014), (2, .int ((y2 + 1)))]) (st' := []) (sh' := ab_SH) (D' := ab_dD h) (fun n => rfl) ?_
          exact ih ((y2 + 1)) _ hf
        · replace hf := (if_neg c10).symm.trans hf
          refine ab_Ex.blk (k := 1) (pc' := 68) (lv' := [(0, .ref 9), (1, .ref 1000014), (2, .int y2)]) (st' := [.int 0]) (sh' := ab_SH) (D' := ab_dD h) (fun n => rfl) ?_
          obtain rfl := Option.some.inj hf
          exact ab_Ex.ret (fun n => rfl) rfl
set_option maxRecDepth 20000 in
theorem sX6_is_1000014 (d : Nat) (X : abX)  (h : abJ) (z : Int32) (hf : fX6_is 1000014 h = some z) : ab_Ex X (d + 4) 93 0 [(0, .ref 9), (1, .ref 1000014)] [] ab_SH (ab_dD h) (fun r => r = (some (.int z), ab_SH, ab_dD h)) := by
  unfold fX6_is at hf
  try simp only [Nat.reduceAdd] at hf
  refine ab_Ex.blk (k := 3) (pc' := 5) (lv' := [(0, .ref 9), (1, .ref 1000014)]) (st' := [.int 3, .int ((h.1 9 6))]) (sh' := ab_SH) (D' := ab_dD h) (fun n => rfl) ?_
  refine ab_Ex.ifc (c := (h.1 9 6) = 3) (SA := (8, [(0, .ref 9), (1, .ref 1000014)], [], ab_dD h)) (SB := (24, [(0, .ref 9), (1, .ref 1000014)], [], ab_dD h)) (fun n => rfl) (fun c1 => ?_) (fun c1 => ?_)
  · replace hf := (if_pos c1).symm.trans hf
    refine ab_Ex.blk (k := 6) (pc' := 18) (lv' := [(0, .ref 9), (1, .ref 1000014)]) (st' := [.ref 1000014, .int (((h.1 9 8) - (h.1 9 7)))]) (sh' := ab_SH) (D' := ab_dD h) (fun n => rfl) ?_
    obtain ⟨r2, hr2, hf⟩ := ab_bind_s hf
    refine ab_Ex.call (d := d + 3) (M2 := 304) (as := [.ref 1000014]) (rest := [.int (((h.1 9 8) - (h.1 9 7)))]) (fun n => rfl) rfl (Nat.not_lt.mpr (Nat.le_of_ble_eq_true rfl)) (sJ0_length_8abf5_1000014 (d + 2) X  h _ hr2) (fun r hr => ?_)
    subst hr
    show ab_Ex X (d + 4) 93 21 [(0, .ref 9), (1, .ref 1000014)] [.int r2, .int (((h.1 9 8) - (h.1 9 7)))] ab_SH (ab_dD h) _
    refine ab_Ex.ifc (c := ((h.1 9 8) - (h.1 9 7)) = r2) (SA := (26, [(0, .ref 9), (1, .ref 1000014)], [], ab_dD h)) (SB := (24, [(0, .ref 9), (1, .ref 1000014)], [], ab_dD h)) (fun n => rfl) (fun c3 => ?_) (fun c3 => ?_)
    · replace hf := (if_pos c3).symm.trans hf
      refine ab_Ex.blk (k := 2) (pc' := 28) (lv' := [(0, .ref 9), (1, .ref 1000014), (2, .int 0)]) (st' := []) (sh' := ab_SH) (D' := ab_dD h) (fun n => rfl) ?_
      exact sX6_is_L28_1000014 d X h ab_N 0 _ hf
    · replace hf := (if_neg c3).symm.trans hf
      refine ab_Ex.blk (k := 1) (pc' := 25) (lv' := []) (st' := [.int 0]) (sh' := ab_SH) (D' := ab_dD h) (fun n => rfl) ?_
      obtain rfl := Option.some.inj hf
      exact ab_Ex.ret (fun n => rfl) rfl
  · replace hf := (if_neg c1).symm.trans hf
    refine ab_Ex.blk (k := 1) (pc' := 25) (lv' := []) (st' := [.int 0]) (sh' := ab_SH) (D' := ab_dD h) (fun n => rfl) ?_
    obtain rfl := Option.some.inj hf
    exact ab_Ex.ret (fun n => rfl) rfl
set_option maxRecDepth 20000 in
theorem sX6_is_L28_1000015 (d : Nat) (X : abX) (h : abJ)   : ∀ (n : Nat), ∀ (y2 : Int32) (z : Int32), fX6_is_L28 1000015 h n y2 = some z → ab_Ex X (d + 4) 93 28 [(0, .ref 9), (1, .ref 1000015), (2, .int y2)] [] ab_SH (ab_dD h) (fun r => r = (some (.int z), ab_SH, ab_dD h)) := by
  intro n
  induction n with
  | zero => intro y2 z hf; cases hf
  | succ n ih =>
    intro y2 z hf
    rw [fX6_is_L28] at hf
    try simp only [Nat.reduceAdd] at hf
    refine ab_Ex.blk (k := 2) (pc' := 30) (lv' := [(0, .ref 9), (1, .ref 1000015), (2, .int y2)]) (st' := [.ref 1000015, .int y2]) (sh' := ab_SH) (D' := ab_dD h) (fun n => rfl) ?_
    obtain ⟨r4, hr4, hf⟩ := ab_bind_s hf
    refine ab_Ex.call (d := d + 3) (M2 := 304) (as := [.ref 1000015]) (rest := [.int y2]) (fun n => rfl) rfl (Nat.not_lt.mpr (Nat.le_of_ble_eq_true rfl)) (sJ0_length_8abf5_1000015 (d + 2) X  h _ hr4) (fun r hr => ?_)
    subst hr
    show ab_Ex X (d + 4) 93 33 [(0, .ref 9), (1, .ref 1000015), (2, .int y2)] [.int r4, .int y2] ab_SH (ab_dD h) _
    refine ab_Ex.ifc (c := r4 ≤ y2) (SA := (75, [(0, .ref 9), (1, .ref 1000015), (2, .int y2)], [], ab_dD h)) (SB := (36, [(0, .ref 9), (1, .ref 1000015), (2, .int y2)], [], ab_dD h)) (fun n => rfl) (fun c5 => ?_) (fun c5 => ?_)
    · replace hf := (if_pos c5).symm.trans hf
      refine ab_Ex.blk (k := 1) (pc' := 76) (lv' := []) (st' := [.int 1]) (sh' := ab_SH) (D' := ab_dD h) (fun n => rfl) ?_
      obtain rfl := Option.some.inj hf
      exact ab_Ex.ret (fun n => rfl) rfl
    · replace hf := (if_neg c5).symm.trans hf
      refine ab_Ex.blk (k := 5) (pc' := 45) (lv' := [(0, .ref 9), (1, .ref 1000015), (2, .int y2)]) (st' := [.int 900, .int (((h.1 9 7) + y2))]) (sh' := ab_SH) (D' := ab_dD h) (fun n => rfl) ?_
      refine ab_Ex.ifc (c := 900 ≤ ((h.1 9 7) + y2)) (SA := (75, [(0, .ref 9), (1, .ref 1000015), (2, .int y2)], [], ab_dD h)) (SB := (48, [(0, .ref 9), (1, .ref 1000015), (2, .int y2)], [], ab_dD h)) (fun n => rfl) (fun c6 => ?_) (fun c6 => ?_)
      · replace hf := (if_pos c6).symm.trans hf
        refine ab_Ex.blk (k := 1) (pc' := 76) (lv' := []) (st' := [.int 1]) (sh' := ab_SH) (D' := ab_dD h) (fun n => rfl) ?_
        obtain rfl := Option.some.inj hf
        exact ab_Ex.ret (fun n => rfl) rfl
      · replace hf := (if_neg c6).symm.trans hf
        refine ab_Ex.blk (k := 6) (pc' := 58) (lv' := [(0, .ref 9), (1, .ref 1000015), (2, .int y2)]) (st' := [.int (((h.1 9 7) + y2)), .ref 11]) (sh' := ab_SH) (D' := ab_dD h) (fun n => rfl) ?_
        obtain ⟨c8, hf⟩ := ab_ask_s hf
        refine ab_Ex.grd (c := ((h.1 9 7) + y2) < 0 ∨ 900 ≤ (((h.1 9 7) + y2) : Int32).toNatClampNeg) (S := (59, [(0, .ref 9), (1, .ref 1000015), (2, .int y2)], [.int ((h.1 11 (((h.1 9 7) + y2) : Int32).toNatClampNeg))], ab_dD h)) (fun n => rfl) c8 ?_
        refine ab_Ex.blk (k := 2) (pc' := 61) (lv' := [(0, .ref 9), (1, .ref 1000015), (2, .int y2)]) (st' := [.int y2, .ref 1000015, .int ((h.1 11 (((h.1 9 7) + y2) : Int32).toNatClampNeg))]) (sh' := ab_SH) (D' := ab_dD h) (fun n => rfl) ?_
        obtain ⟨r9, hr9, hf⟩ := ab_bind_s hf
        refine ab_Ex.call (d := d + 3) (M2 := 305) (as := [.ref 1000015, .int y2]) (rest := [.int ((h.1 11 (((h.1 9 7) + y2) : Int32).toNatClampNeg))]) (fun n => rfl) rfl (Nat.not_lt.mpr (Nat.le_of_ble_eq_true rfl)) (sJ0_charAt_5068e_1000015 (d) X y2 h _ hr9) (fun r hr => ?_)
        subst hr
        show ab_Ex X (d + 4) 93 64 [(0, .ref 9), (1, .ref 1000015), (2, .int y2)] [.int r9, .int ((h.1 11 (((h.1 9 7) + y2) : Int32).toNatClampNeg))] ab_SH (ab_dD h) _
        refine ab_Ex.ifc (c := (h.1 11 (((h.1 9 7) + y2) : Int32).toNatClampNeg) = r9) (SA := (69, [(0, .ref 9), (1, .ref 1000015), (2, .int y2)], [], ab_dD h)) (SB := (67, [(0, .ref 9), (1, .ref 1000015), (2, .int y2)], [], ab_dD h)) (fun n => rfl) (fun c10 => ?_) (fun c10 => ?_)
        · replace hf := (if_pos c10).symm.trans hf
          refine ab_Ex.blk (k := 2) (pc' := 28) (lv' := [(0, .ref 9), (1, .ref 1000015), (2, .int ((y2 + 1)))]) (st' := []) (sh' := ab_SH) (D' := ab_dD h) (fun n => rfl) ?_
          exact ih ((y2 + 1)) _ hf
        · replace hf := (if_neg c10).symm.trans hf
          refine ab_Ex.blk (k := 1) (pc' := 68) (lv' := [(0, .ref 9), (1, .ref 1000015), (2, .int y2)]) (st' := [.int 0]) (sh' := ab_SH) (D' := ab_dD h) (fun n => rfl) ?_
          obtain rfl := Option.some.inj hf
          exact ab_Ex.ret (fun n => rfl) rfl
set_option maxRecDepth 20000 in
theorem sX6_is_1000015 (d : Nat) (X : abX)  (h : abJ) (z : Int32) (hf : fX6_is 1000015 h = some z) : ab_Ex X (d + 4) 93 0 [(0, .ref 9), (1, .ref 1000015)] [] ab_SH (ab_dD h) (fun r => r = (some (.int z), ab_SH, ab_dD h)) := by
  unfold fX6_is at hf
  try simp only [Nat.reduceAdd] at hf
  refine ab_Ex.blk (k := 3) (pc' := 5) (lv' := [(0, .ref 9), (1, .ref 1000015)]) (st' := [.int 3, .int ((h.1 9 6))]) (sh' := ab_SH) (D' := ab_dD h) (fun n => rfl) ?_
  refine ab_Ex.ifc (c := (h.1 9 6) = 3) (SA := (8, [(0, .ref 9), (1, .ref 1000015)], [], ab_dD h)) (SB := (24, [(0, .ref 9), (1, .ref 1000015)], [], ab_dD h)) (fun n => rfl) (fun c1 => ?_) (fun c1 => ?_)
  · replace hf := (if_pos c1).symm.trans hf
    refine ab_Ex.blk (k := 6) (pc' := 18) (lv' := [(0, .ref 9), (1, .ref 1000015)]) (st' := [.ref 1000015, .int (((h.1 9 8) - (h.1 9 7)))]) (sh' := ab_SH) (D' := ab_dD h) (fun n => rfl) ?_
    obtain ⟨r2, hr2, hf⟩ := ab_bind_s hf
    refine ab_Ex.call (d := d + 3) (M2 := 304) (as := [.ref 1000015]) (rest := [.int (((h.1 9 8) - (h.1 9 7)))]) (fun n => rfl) rfl (Nat.not_lt.mpr (Nat.le_of_ble_eq_true rfl)) (sJ0_length_8abf5_1000015 (d + 2) X  h _ hr2) (fun r hr => ?_)
    subst hr
    show ab_Ex X (d + 4) 93 21 [(0, .ref 9), (1, .ref 1000015)] [.int r2, .int (((h.1 9 8) - (h.1 9 7)))] ab_SH (ab_dD h) _
    refine ab_Ex.ifc (c := ((h.1 9 8) - (h.1 9 7)) = r2) (SA := (26, [(0, .ref 9), (1, .ref 1000015)], [], ab_dD h)) (SB := (24, [(0, .ref 9), (1, .ref 1000015)], [], ab_dD h)) (fun n => rfl) (fun c3 => ?_) (fun c3 => ?_)
    · replace hf := (if_pos c3).symm.trans hf
      refine ab_Ex.blk (k := 2) (pc' := 28) (lv' := [(0, .ref 9), (1, .ref 1000015), (2, .int 0)]) (st' := []) (sh' := ab_SH) (D' := ab_dD h) (fun n => rfl) ?_
      exact sX6_is_L28_1000015 d X h ab_N 0 _ hf
    · replace hf := (if_neg c3).symm.trans hf
      refine ab_Ex.blk (k := 1) (pc' := 25) (lv' := []) (st' := [.int 0]) (sh' := ab_SH) (D' := ab_dD h) (fun n => rfl) ?_
      obtain rfl := Option.some.inj hf
      exact ab_Ex.ret (fun n => rfl) rfl
  · replace hf := (if_neg c1).symm.trans hf
    refine ab_Ex.blk (k := 1) (pc' := 25) (lv' := []) (st' := [.int 0]) (sh' := ab_SH) (D' := ab_dD h) (fun n => rfl) ?_
    obtain rfl := Option.some.inj hf
    exact ab_Ex.ret (fun n => rfl) rfl
set_option maxRecDepth 20000 in
theorem sX6_is_L28_1000016 (d : Nat) (X : abX) (h : abJ)   : ∀ (n : Nat), ∀ (y2 : Int32) (z : Int32), fX6_is_L28 1000016 h n y2 = some z → ab_Ex X (d + 4) 93 28 [(0, .ref 9), (1, .ref 1000016), (2, .int y2)] [] ab_SH (ab_dD h) (fun r => r = (some (.int z), ab_SH, ab_dD h)) := by
  intro n
  induction n with
  | zero => intro y2 z hf; cases hf
  | succ n ih =>
    intro y2 z hf
    rw [fX6_is_L28] at hf
    try simp only [Nat.reduceAdd] at hf
    refine ab_Ex.blk (k := 2) (pc' := 30) (lv' := [(0, .ref 9), (1, .ref 1000016), (2, .int y2)]) (st' := [.ref 1000016, .int y2]) (sh' := ab_SH) (D' := ab_dD h) (fun n => rfl) ?_
    obtain ⟨r4, hr4, hf⟩ := ab_bind_s hf
    refine ab_Ex.call (d := d + 3) (M2 := 304) (as := [.ref 1000016]) (rest := [.int y2]) (fun n => rfl) rfl (Nat.not_lt.mpr (Nat.le_of_ble_eq_true rfl)) (sJ0_length_8abf5_1000016 (d + 2) X  h _ hr4) (fun r hr => ?_)
    subst hr
    show ab_Ex X (d + 4) 93 33 [(0, .ref 9), (1, .ref 1000016), (2, .int y2)] [.int r4, .int y2] ab_SH (ab_dD h) _
    refine ab_Ex.ifc (c := r4 ≤ y2) (SA := (75, [(0, .ref 9), (1, .ref 1000016), (2, .int y2)], [], ab_dD h)) (SB := (36, [(0, .ref 9), (1, .ref 1000016), (2, .int y2)], [], ab_dD h)) (fun n => rfl) (fun c5 => ?_) (fun c5 => ?_)
    · replace hf := (if_pos c5).symm.trans hf
      refine ab_Ex.blk (k := 1) (pc' := 76) (lv' := []) (st' := [.int 1]) (sh' := ab_SH) (D' := ab_dD h) (fun n => rfl) ?_
      obtain rfl := Option.some.inj hf
      exact ab_Ex.ret (fun n => rfl) rfl
    · replace hf := (if_neg c5).symm.trans hf
      refine ab_Ex.blk (k := 5) (pc' := 45) (lv' := [(0, .ref 9), (1, .ref 1000016), (2, .int y2)]) (st' := [.int 900, .int (((h.1 9 7) + y2))]) (sh' := ab_SH) (D' := ab_dD h) (fun n => rfl) ?_
      refine ab_Ex.ifc (c := 900 ≤ ((h.1 9 7) + y2)) (SA := (75, [(0, .ref 9), (1, .ref 1000016), (2, .int y2)], [], ab_dD h)) (SB := (48, [(0, .ref 9), (1, .ref 1000016), (2, .int y2)], [], ab_dD h)) (fun n => rfl) (fun c6 => ?_) (fun c6 => ?_)
      · replace hf := (if_pos c6).symm.trans hf
        refine ab_Ex.blk (k := 1) (pc' := 76) (lv' := []) (st' := [.int 1]) (sh' := ab_SH) (D' := ab_dD h) (fun n => rfl) ?_
        obtain rfl := Option.some.inj hf
        exact ab_Ex.ret (fun n => rfl) rfl
      · replace hf := (if_neg c6).symm.trans hf
        refine ab_Ex.blk (k := 6) (pc' := 58) (lv' := [(0, .ref 9), (1, .ref 1000016), (2, .int y2)]) (st' := [.int (((h.1 9 7) + y2)), .ref 11]) (sh' := ab_SH) (D' := ab_dD h) (fun n => rfl) ?_
        obtain ⟨c8, hf⟩ := ab_ask_s hf
        refine ab_Ex.grd (c := ((h.1 9 7) + y2) < 0 ∨ 900 ≤ (((h.1 9 7) + y2) : Int32).toNatClampNeg) (S := (59, [(0, .ref 9), (1, .ref 1000016), (2, .int y2)], [.int ((h.1 11 (((h.1 9 7) + y2) : Int32).toNatClampNeg))], ab_dD h)) (fun n => rfl) c8 ?_
        refine ab_Ex.blk (k := 2) (pc' := 61) (lv' := [(0, .ref 9), (1, .ref 1000016), (2, .int y2)]) (st' := [.int y2, .ref 1000016, .int ((h.1 11 (((h.1 9 7) + y2) : Int32).toNatClampNeg))]) (sh' := ab_SH) (D' := ab_dD h) (fun n => rfl) ?_
        obtain ⟨r9, hr9, hf⟩ := ab_bind_s hf
        refine ab_Ex.call (d := d + 3) (M2 := 305) (as := [.ref 1000016, .int y2]) (rest := [.int ((h.1 11 (((h.1 9 7) + y2) : Int32).toNatClampNeg))]) (fun n => rfl) rfl (Nat.not_lt.mpr (Nat.le_of_ble_eq_true rfl)) (sJ0_charAt_5068e_1000016 (d) X y2 h _ hr9) (fun r hr => ?_)
        subst hr
        show ab_Ex X (d + 4) 93 64 [(0, .ref 9), (1, .ref 1000016), (2, .int y2)] [.int r9, .int ((h.1 11 (((h.1 9 7) + y2) : Int32).toNatClampNeg))] ab_SH (ab_dD h) _
        refine ab_Ex.ifc (c := (h.1 11 (((h.1 9 7) + y2) : Int32).toNatClampNeg) = r9) (SA := (69, [(0, .ref 9), (1, .ref 1000016), (2, .int y2)], [], ab_dD h)) (SB := (67, [(0, .ref 9), (1, .ref 1000016), (2, .int y2)], [], ab_dD h)) (fun n => rfl) (fun c10 => ?_) (fun c10 => ?_)
        · replace hf := (if_pos c10).symm.trans hf
          refine ab_Ex.blk (k := 2) (pc' := 28) (lv' := [(0, .ref 9), (1, .ref 1000016), (2, .int ((y2 + 1)))]) (st' := []) (sh' := ab_SH) (D' := ab_dD h) (fun n => rfl) ?_
          exact ih ((y2 + 1)) _ hf
        · replace hf := (if_neg c10).symm.trans hf
          refine ab_Ex.blk (k := 1) (pc' := 68) (lv' := [(0, .ref 9), (1, .ref 1000016), (2, .int y2)]) (st' := [.int 0]) (sh' := ab_SH) (D' := ab_dD h) (fun n => rfl) ?_
          obtain rfl := Option.some.inj hf
          exact ab_Ex.ret (fun n => rfl) rfl
set_option maxRecDepth 20000 in
theorem sX6_is_1000016 (d : Nat) (X : abX)  (h : abJ) (z : Int32) (hf : fX6_is 1000016 h = some z) : ab_Ex X (d + 4) 93 0 [(0, .ref 9), (1, .ref 1000016)] [] ab_SH (ab_dD h) (fun r => r = (some (.int z), ab_SH, ab_dD h)) := by
  unfold fX6_is at hf
  try simp only [Nat.reduceAdd] at hf
  refine ab_Ex.blk (k := 3) (pc' := 5) (lv' := [(0, .ref 9), (1, .ref 1000016)]) (st' := [.int 3, .int ((h.1 9 6))]) (sh' := ab_SH) (D' := ab_dD h) (fun n => rfl) ?_
  refine ab_Ex.ifc (c := (h.1 9 6) = 3) (SA := (8, [(0, .ref 9), (1, .ref 1000016)], [], ab_dD h)) (SB := (24, [(0, .ref 9), (1, .ref 1000016)], [], ab_dD h)) (fun n => rfl) (fun c1 => ?_) (fun c1 => ?_)
  · replace hf := (if_pos c1).symm.trans hf
    refine ab_Ex.blk (k := 6) (pc' := 18) (lv' := [(0, .ref 9), (1, .ref 1000016)]) (st' := [.ref 1000016, .int (((h.1 9 8) - (h.1 9 7)))]) (sh' := ab_SH) (D' := ab_dD h) (fun n => rfl) ?_
    obtain ⟨r2, hr2, hf⟩ := ab_bind_s hf
    refine ab_Ex.call (d := d + 3) (M2 := 304) (as := [.ref 1000016]) (rest := [.int (((h.1 9 8) - (h.1 9 7)))]) (fun n => rfl) rfl (Nat.not_lt.mpr (Nat.le_of_ble_eq_true rfl)) (sJ0_length_8abf5_1000016 (d + 2) X  h _ hr2) (fun r hr => ?_)
    subst hr
    show ab_Ex X (d + 4) 93 21 [(0, .ref 9), (1, .ref 1000016)] [.int r2, .int (((h.1 9 8) - (h.1 9 7)))] ab_SH (ab_dD h) _
    refine ab_Ex.ifc (c := ((h.1 9 8) - (h.1 9 7)) = r2) (SA := (26, [(0, .ref 9), (1, .ref 1000016)], [], ab_dD h)) (SB := (24, [(0, .ref 9), (1, .ref 1000016)], [], ab_dD h)) (fun n => rfl) (fun c3 => ?_) (fun c3 => ?_)
    · replace hf := (if_pos c3).symm.trans hf
      refine ab_Ex.blk (k := 2) (pc' := 28) (lv' := [(0, .ref 9), (1, .ref 1000016), (2, .int 0)]) (st' := []) (sh' := ab_SH) (D' := ab_dD h) (fun n => rfl) ?_
      exact sX6_is_L28_1000016 d X h ab_N 0 _ hf
    · replace hf := (if_neg c3).symm.trans hf
      refine ab_Ex.blk (k := 1) (pc' := 25) (lv' := []) (st' := [.int 0]) (sh' := ab_SH) (D' := ab_dD h) (fun n => rfl) ?_
      obtain rfl := Option.some.inj hf
      exact ab_Ex.ret (fun n => rfl) rfl
  · replace hf := (if_neg c1).symm.trans hf
    refine ab_Ex.blk (k := 1) (pc' := 25) (lv' := []) (st' := [.int 0]) (sh' := ab_SH) (D' := ab_dD h) (fun n => rfl) ?_
    obtain rfl := Option.some.inj hf
    exact ab_Ex.ret (fun n => rfl) rfl
set_option maxRecDepth 20000 in
theorem sX6_is_L28_1000017 (d : Nat) (X : abX) (h : abJ)   : ∀ (n : Nat), ∀ (y2 : Int32) (z : Int32), fX6_is_L28 1000017 h n y2 = some z → ab_Ex X (d + 4) 93 28 [(0, .ref 9), (1, .ref 1000017), (2, .int y2)] [] ab_SH (ab_dD h) (fun r => r = (some (.int z), ab_SH, ab_dD h)) := by
  intro n
  induction n with
  | zero => intro y2 z hf; cases hf
  | succ n ih =>
    intro y2 z hf
    rw [fX6_is_L28] at hf
    try simp only [Nat.reduceAdd] at hf
    refine ab_Ex.blk (k := 2) (pc' := 30) (lv' := [(0, .ref 9), (1, .ref 1000017), (2, .int y2)]) (st' := [.ref 1000017, .int y2]) (sh' := ab_SH) (D' := ab_dD h) (fun n => rfl) ?_
    obtain ⟨r4, hr4, hf⟩ := ab_bind_s hf
    refine ab_Ex.call (d := d + 3) (M2 := 304) (as := [.ref 1000017]) (rest := [.int y2]) (fun n => rfl) rfl (Nat.not_lt.mpr (Nat.le_of_ble_eq_true rfl)) (sJ0_length_8abf5_1000017 (d + 2) X  h _ hr4) (fun r hr => ?_)
    subst hr
    show ab_Ex X (d + 4) 93 33 [(0, .ref 9), (1, .ref 1000017), (2, .int y2)] [.int r4, .int y2] ab_SH (ab_dD h) _
    refine ab_Ex.ifc (c := r4 ≤ y2) (SA := (75, [(0, .ref 9), (1, .ref 1000017), (2, .int y2)], [], ab_dD h)) (SB := (36, [(0, .ref 9), (1, .ref 1000017), (2, .int y2)], [], ab_dD h)) (fun n => rfl) (fun c5 => ?_) (fun c5 => ?_)
    · replace hf := (if_pos c5).symm.trans hf
      refine ab_Ex.blk (k := 1) (pc' := 76) (lv' := []) (st' := [.int 1]) (sh' := ab_SH) (D' := ab_dD h) (fun n => rfl) ?_
      obtain rfl := Option.some.inj hf
      exact ab_Ex.ret (fun n => rfl) rfl
    · replace hf := (if_neg c5).symm.trans hf
      refine ab_Ex.blk (k := 5) (pc' := 45) (lv' := [(0, .ref 9), (1, .ref 1000017), (2, .int y2)]) (st' := [.int 900, .int (((h.1 9 7) + y2))]) (sh' := ab_SH) (D' := ab_dD h) (fun n => rfl) ?_
      refine ab_Ex.ifc (c := 900 ≤ ((h.1 9 7) + y2)) (SA := (75, [(0, .ref 9), (1, .ref 1000017), (2, .int y2)], [], ab_dD h)) (SB := (48, [(0, .ref 9), (1, .ref 1000017), (2, .int y2)], [], ab_dD h)) (fun n => rfl) (fun c6 => ?_) (fun c6 => ?_)
      · replace hf := (if_pos c6).symm.trans hf
        refine ab_Ex.blk (k := 1) (pc' := 76) (lv' := []) (st' := [.int 1]) (sh' := ab_SH) (D' := ab_dD h) (fun n => rfl) ?_
        obtain rfl := Option.some.inj hf
        exact ab_Ex.ret (fun n => rfl) rfl
      · replace hf := (if_neg c6).symm.trans hf
        refine ab_Ex.blk (k := 6) (pc' := 58) (lv' := [(0, .ref 9), (1, .ref 1000017), (2, .int y2)]) (st' := [.int (((h.1 9 7) + y2)), .ref 11]) (sh' := ab_SH) (D' := ab_dD h) (fun n => rfl) ?_
        obtain ⟨c8, hf⟩ := ab_ask_s hf
        refine ab_Ex.grd (c := ((h.1 9 7) + y2) < 0 ∨ 900 ≤ (((h.1 9 7) + y2) : Int32).toNatClampNeg) (S := (59, [(0, .ref 9), (1, .ref 1000017), (2, .int y2)], [.int ((h.1 11 (((h.1 9 7) + y2) : Int32).toNatClampNeg))], ab_dD h)) (fun n => rfl) c8 ?_
        refine ab_Ex.blk (k := 2) (pc' := 61) (lv' := [(0, .ref 9), (1, .ref 1000017), (2, .int y2)]) (st' := [.int y2, .ref 1000017, .int ((h.1 11 (((h.1 9 7) + y2) : Int32).toNatClampNeg))]) (sh' := ab_SH) (D' := ab_dD h) (fun n => rfl) ?_
        obtain ⟨r9, hr9, hf⟩ := ab_bind_s hf
        refine ab_Ex.call (d := d + 3) (M2 := 305) (as := [.ref 1000017, .int y2]) (rest := [.int ((h.1 11 (((h.1 9 7) + y2) : Int32).toNatClampNeg))]) (fun n => rfl) rfl (Nat.not_lt.mpr (Nat.le_of_ble_eq_true rfl)) (sJ0_charAt_5068e_1000017 (d) X y2 h _ hr9) (fun r hr => ?_)
        subst hr
        show ab_Ex X (d + 4) 93 64 [(0, .ref 9), (1, .ref 1000017), (2, .int y2)] [.int r9, .int ((h.1 11 (((h.1 9 7) + y2) : Int32).toNatClampNeg))] ab_SH (ab_dD h) _
        refine ab_Ex.ifc (c := (h.1 11 (((h.1 9 7) + y2) : Int32).toNatClampNeg) = r9) (SA := (69, [(0, .ref 9), (1, .ref 1000017), (2, .int y2)], [], ab_dD h)) (SB := (67, [(0, .ref 9), (1, .ref 1000017), (2, .int y2)], [], ab_dD h)) (fun n => rfl) (fun c10 => ?_) (fun c10 => ?_)
        · replace hf := (if_pos c10).symm.trans hf
          refine ab_Ex.blk (k := 2) (pc' := 28) (lv' := [(0, .ref 9), (1, .ref 1000017), (2, .int ((y2 + 1)))]) (st' := []) (sh' := ab_SH) (D' := ab_dD h) (fun n => rfl) ?_
          exact ih ((y2 + 1)) _ hf
        · replace hf := (if_neg c10).symm.trans hf
          refine ab_Ex.blk (k := 1) (pc' := 68) (lv' := [(0, .ref 9), (1, .ref 1000017), (2, .int y2)]) (st' := [.int 0]) (sh' := ab_SH) (D' := ab_dD h) (fun n => rfl) ?_
          obtain rfl := Option.some.inj hf
          exact ab_Ex.ret (fun n => rfl) rfl
set_option maxRecDepth 20000 in
theorem sX6_is_1000017 (d : Nat) (X : abX)  (h : abJ) (z : Int32) (hf : fX6_is 1000017 h = some z) : ab_Ex X (d + 4) 93 0 [(0, .ref 9), (1, .ref 1000017)] [] ab_SH (ab_dD h) (fun r => r = (some (.int z), ab_SH, ab_dD h)) := by
  unfold fX6_is at hf
  try simp only [Nat.reduceAdd] at hf
  refine ab_Ex.blk (k := 3) (pc' := 5) (lv' := [(0, .ref 9), (1, .ref 1000017)]) (st' := [.int 3, .int ((h.1 9 6))]) (sh' := ab_SH) (D' := ab_dD h) (fun n => rfl) ?_
  refine ab_Ex.ifc (c := (h.1 9 6) = 3) (SA := (8, [(0, .ref 9), (1, .ref 1000017)], [], ab_dD h)) (SB := (24, [(0, .ref 9), (1, .ref 1000017)], [], ab_dD h)) (fun n => rfl) (fun c1 => ?_) (fun c1 => ?_)
  · replace hf := (if_pos c1).symm.trans hf
    refine ab_Ex.blk (k := 6) (pc' := 18) (lv' := [(0, .ref 9), (1, .ref 1000017)]) (st' := [.ref 1000017, .int (((h.1 9 8) - (h.1 9 7)))]) (sh' := ab_SH) (D' := ab_dD h) (fun n => rfl) ?_
    obtain ⟨r2, hr2, hf⟩ := ab_bind_s hf
    refine ab_Ex.call (d := d + 3) (M2 := 304) (as := [.ref 1000017]) (rest := [.int (((h.1 9 8) - (h.1 9 7)))]) (fun n => rfl) rfl (Nat.not_lt.mpr (Nat.le_of_ble_eq_true rfl)) (sJ0_length_8abf5_1000017 (d + 2) X  h _ hr2) (fun r hr => ?_)
    subst hr
    show ab_Ex X (d + 4) 93 21 [(0, .ref 9), (1, .ref 1000017)] [.int r2, .int (((h.1 9 8) - (h.1 9 7)))] ab_SH (ab_dD h) _
    refine ab_Ex.ifc (c := ((h.1 9 8) - (h.1 9 7)) = r2) (SA := (26, [(0, .ref 9), (1, .ref 1000017)], [], ab_dD h)) (SB := (24, [(0, .ref 9), (1, .ref 1000017)], [], ab_dD h)) (fun n => rfl) (fun c3 => ?_) (fun c3 => ?_)
    · replace hf := (if_pos c3).symm.trans hf
      refine ab_Ex.blk (k := 2) (pc' := 28) (lv' := [(0, .ref 9), (1, .ref 1000017), (2, .int 0)]) (st' := []) (sh' := ab_SH) (D' := ab_dD h) (fun n => rfl) ?_
      exact sX6_is_L28_1000017 d X h ab_N 0 _ hf
    · replace hf := (if_neg c3).symm.trans hf
      refine ab_Ex.blk (k := 1) (pc' := 25) (lv' := []) (st' := [.int 0]) (sh' := ab_SH) (D' := ab_dD h) (fun n => rfl) ?_
      obtain rfl := Option.some.inj hf
      exact ab_Ex.ret (fun n => rfl) rfl
  · replace hf := (if_neg c1).symm.trans hf
    refine ab_Ex.blk (k := 1) (pc' := 25) (lv' := []) (st' := [.int 0]) (sh' := ab_SH) (D' := ab_dD h) (fun n => rfl) ?_
    obtain rfl := Option.some.inj hf
    exact ab_Ex.ret (fun n => rfl) rfl
set_option maxRecDepth 20000 in
theorem sX6_is_L28_1000018 (d : Nat) (X : abX) (h : abJ)   : ∀ (n : Nat), ∀ (y2 : Int32) (z : Int32), fX6_is_L28 1000018 h n y2 = some z → ab_Ex X (d + 4) 93 28 [(0, .ref 9), (1, .ref 1000018), (2, .int y2)] [] ab_SH (ab_dD h) (fun r => r = (some (.int z), ab_SH, ab_dD h)) := by
  intro n
  induction n with
  | zero => intro y2 z hf; cases hf
  | succ n ih =>
    intro y2 z hf
    rw [fX6_is_L28] at hf
    try simp only [Nat.reduceAdd] at hf
    refine ab_Ex.blk (k := 2) (pc' := 30) (lv' := [(0, .ref 9), (1, .ref 1000018), (2, .int y2)]) (st' := [.ref 1000018, .int y2]) (sh' := ab_SH) (D' := ab_dD h) (fun n => rfl) ?_
    obtain ⟨r4, hr4, hf⟩ := ab_bind_s hf
    refine ab_Ex.call (d := d + 3) (M2 := 304) (as := [.ref 1000018]) (rest := [.int y2]) (fun n => rfl) rfl (Nat.not_lt.mpr (Nat.le_of_ble_eq_true rfl)) (sJ0_length_8abf5_1000018 (d + 2) X  h _ hr4) (fun r hr => ?_)
    subst hr
    show ab_Ex X (d + 4) 93 33 [(0, .ref 9), (1, .ref 1000018), (2, .int y2)] [.int r4, .int y2] ab_SH (ab_dD h) _
    refine ab_Ex.ifc (c := r4 ≤ y2) (SA := (75, [(0, .ref 9), (1, .ref 1000018), (2, .int y2)], [], ab_dD h)) (SB := (36, [(0, .ref 9), (1, .ref 1000018), (2, .int y2)], [], ab_dD h)) (fun n => rfl) (fun c5 => ?_) (fun c5 => ?_)
    · replace hf := (if_pos c5).symm.trans hf
      refine ab_Ex.blk (k := 1) (pc' := 76) (lv' := []) (st' := [.int 1]) (sh' := ab_SH) (D' := ab_dD h) (fun n => rfl) ?_
      obtain rfl := Option.some.inj hf
      exact ab_Ex.ret (fun n => rfl) rfl
    · replace hf := (if_neg c5).symm.trans hf
      refine ab_Ex.blk (k := 5) (pc' := 45) (lv' := [(0, .ref 9), (1, .ref 1000018), (2, .int y2)]) (st' := [.int 900, .int (((h.1 9 7) + y2))]) (sh' := ab_SH) (D' := ab_dD h) (fun n => rfl) ?_
      refine ab_Ex.ifc (c := 900 ≤ ((h.1 9 7) + y2)) (SA := (75, [(0, .ref 9), (1, .ref 1000018), (2, .int y2)], [], ab_dD h)) (SB := (48, [(0, .ref 9), (1, .ref 1000018), (2, .int y2)], [], ab_dD h)) (fun n => rfl) (fun c6 => ?_) (fun c6 => ?_)
      · replace hf := (if_pos c6).symm.trans hf
        refine ab_Ex.blk (k := 1) (pc' := 76) (lv' := []) (st' := [.int 1]) (sh' := ab_SH) (D' := ab_dD h) (fun n => rfl) ?_
        obtain rfl := Option.some.inj hf
        exact ab_Ex.ret (fun n => rfl) rfl
      · replace hf := (if_neg c6).symm.trans hf
        refine ab_Ex.blk (k := 6) (pc' := 58) (lv' := [(0, .ref 9), (1, .ref 1000018), (2, .int y2)]) (st' := [.int (((h.1 9 7) + y2)), .ref 11]) (sh' := ab_SH) (D' := ab_dD h) (fun n => rfl) ?_
        obtain ⟨c8, hf⟩ := ab_ask_s hf
        refine ab_Ex.grd (c := ((h.1 9 7) + y2) < 0 ∨ 900 ≤ (((h.1 9 7) + y2) : Int32).toNatClampNeg) (S := (59, [(0, .ref 9), (1, .ref 1000018), (2, .int y2)], [.int ((h.1 11 (((h.1 9 7) + y2) : Int32).toNatClampNeg))], ab_dD h)) (fun n => rfl) c8 ?_
        refine ab_Ex.blk (k := 2) (pc' := 61) (lv' := [(0, .ref 9), (1, .ref 1000018), (2, .int y2)]) (st' := [.int y2, .ref 1000018, .int ((h.1 11 (((h.1 9 7) + y2) : Int32).toNatClampNeg))]) (sh' := ab_SH) (D' := ab_dD h) (fun n => rfl) ?_
        obtain ⟨r9, hr9, hf⟩ := ab_bind_s hf
        refine ab_Ex.call (d := d + 3) (M2 := 305) (as := [.ref 1000018, .int y2]) (rest := [.int ((h.1 11 (((h.1 9 7) + y2) : Int32).toNatClampNeg))]) (fun n => rfl) rfl (Nat.not_lt.mpr (Nat.le_of_ble_eq_true rfl)) (sJ0_charAt_5068e_1000018 (d) X y2 h _ hr9) (fun r hr => ?_)
        subst hr
        show ab_Ex X (d + 4) 93 64 [(0, .ref 9), (1, .ref 1000018), (2, .int y2)] [.int r9, .int ((h.1 11 (((h.1 9 7) + y2) : Int32).toNatClampNeg))] ab_SH (ab_dD h) _
        refine ab_Ex.ifc (c := (h.1 11 (((h.1 9 7) + y2) : Int32).toNatClampNeg) = r9) (SA := (69, [(0, .ref 9), (1, .ref 1000018), (2, .int y2)], [], ab_dD h)) (SB := (67, [(0, .ref 9), (1, .ref 1000018), (2, .int y2)], [], ab_dD h)) (fun n => rfl) (fun c10 => ?_) (fun c10 => ?_)
        · replace hf := (if_pos c10).symm.trans hf
          refine ab_Ex.blk (k := 2) (pc' := 28) (lv' := [(0, .ref 9), (1, .ref 1000018), (2, .int ((y2 + 1)))]) (st' := []) (sh' := ab_SH) (D' := ab_dD h) (fun n => rfl) ?_
          exact ih ((y2 + 1)) _ hf
        · replace hf := (if_neg c10).symm.trans hf
          refine ab_Ex.blk (k := 1) (pc' := 68) (lv' := [(0, .ref 9), (1, .ref 1000018), (2, .int y2)]) (st' := [.int 0]) (sh' := ab_SH) (D' := ab_dD h) (fun n => rfl) ?_
          obtain rfl := Option.some.inj hf
          exact ab_Ex.ret (fun n => rfl) rfl
set_option maxRecDepth 20000 in
theorem sX6_is_1000018 (d : Nat) (X : abX)  (h : abJ) (z : Int32) (hf : fX6_is 1000018 h = some z) : ab_Ex X (d + 4) 93 0 [(0, .ref 9), (1, .ref 1000018)] [] ab_SH (ab_dD h) (fun r => r = (some (.int z), ab_SH, ab_dD h)) := by
  unfold fX6_is at hf
  try simp only [Nat.reduceAdd] at hf
  refine ab_Ex.blk (k := 3) (pc' := 5) (lv' := [(0, .ref 9), (1, .ref 1000018)]) (st' := [.int 3, .int ((h.1 9 6))]) (sh' := ab_SH) (D' := ab_dD h) (fun n => rfl) ?_
  refine ab_Ex.ifc (c := (h.1 9 6) = 3) (SA := (8, [(0, .ref 9), (1, .ref 1000018)], [], ab_dD h)) (SB := (24, [(0, .ref 9), (1, .ref 1000018)], [], ab_dD h)) (fun n => rfl) (fun c1 => ?_) (fun c1 => ?_)
  · replace hf := (if_pos c1).symm.trans hf
    refine ab_Ex.blk (k := 6) (pc' := 18) (lv' := [(0, .ref 9), (1, .ref 1000018)]) (st' := [.ref 1000018, .int (((h.1 9 8) - (h.1 9 7)))]) (sh' := ab_SH) (D' := ab_dD h) (fun n => rfl) ?_
    obtain ⟨r2, hr2, hf⟩ := ab_bind_s hf
    refine ab_Ex.call (d := d + 3) (M2 := 304) (as := [.ref 1000018]) (rest := [.int (((h.1 9 8) - (h.1 9 7)))]) (fun n => rfl) rfl (Nat.not_lt.mpr (Nat.le_of_ble_eq_true rfl)) (sJ0_length_8abf5_1000018 (d + 2) X  h _ hr2) (fun r hr => ?_)
    subst hr
    show ab_Ex X (d + 4) 93 21 [(0, .ref 9), (1, .ref 1000018)] [.int r2, .int (((h.1 9 8) - (h.1 9 7)))] ab_SH (ab_dD h) _
    refine ab_Ex.ifc (c := ((h.1 9 8) - (h.1 9 7)) = r2) (SA := (26, [(0, .ref 9), (1, .ref 1000018)], [], ab_dD h)) (SB := (24, [(0, .ref 9), (1, .ref 1000018)], [], ab_dD h)) (fun n => rfl) (fun c3 => ?_) (fun c3 => ?_)
    · replace hf := (if_pos c3).symm.trans hf
      refine ab_Ex.blk (k := 2) (pc' := 28) (lv' := [(0, .ref 9), (1, .ref 1000018), (2, .int 0)]) (st' := []) (sh' := ab_SH) (D' := ab_dD h) (fun n => rfl) ?_
      exact sX6_is_L28_1000018 d X h ab_N 0 _ hf
    · replace hf := (if_neg c3).symm.trans hf
      refine ab_Ex.blk (k := 1) (pc' := 25) (lv' := []) (st' := [.int 0]) (sh' := ab_SH) (D' := ab_dD h) (fun n => rfl) ?_
      obtain rfl := Option.some.inj hf
      exact ab_Ex.ret (fun n => rfl) rfl
  · replace hf := (if_neg c1).symm.trans hf
    refine ab_Ex.blk (k := 1) (pc' := 25) (lv' := []) (st' := [.int 0]) (sh' := ab_SH) (D' := ab_dD h) (fun n => rfl) ?_
    obtain rfl := Option.some.inj hf
    exact ab_Ex.ret (fun n => rfl) rfl
set_option maxRecDepth 20000 in
theorem sX6_is_L28_1000019 (d : Nat) (X : abX) (h : abJ)   : ∀ (n : Nat), ∀ (y2 : Int32) (z : Int32), fX6_is_L28 1000019 h n y2 = some z → ab_Ex X (d + 4) 93 28 [(0, .ref 9), (1, .ref 1000019), (2, .int y2)] [] ab_SH (ab_dD h) (fun r => r = (some (.int z), ab_SH, ab_dD h)) := by
  intro n
  induction n with
  | zero => intro y2 z hf; cases hf
  | succ n ih =>
    intro y2 z hf
    rw [fX6_is_L28] at hf
    try simp only [Nat.reduceAdd] at hf
    refine ab_Ex.blk (k := 2) (pc' := 30) (lv' := [(0, .ref 9), (1, .ref 1000019), (2, .int y2)]) (st' := [.ref 1000019, .int y2]) (sh' := ab_SH) (D' := ab_dD h) (fun n => rfl) ?_
    obtain ⟨r4, hr4, hf⟩ := ab_bind_s hf
    refine ab_Ex.call (d := d + 3) (M2 := 304) (as := [.ref 1000019]) (rest := [.int y2]) (fun n => rfl) rfl (Nat.not_lt.mpr (Nat.le_of_ble_eq_true rfl)) (sJ0_length_8abf5_1000019 (d + 2) X  h _ hr4) (fun r hr => ?_)
    subst hr
    show ab_Ex X (d + 4) 93 33 [(0, .ref 9), (1, .ref 1000019), (2, .int y2)] [.int r4, .int y2] ab_SH (ab_dD h) _
    refine ab_Ex.ifc (c := r4 ≤ y2) (SA := (75, [(0, .ref 9), (1, .ref 1000019), (2, .int y2)], [], ab_dD h)) (SB := (36, [(0, .ref 9), (1, .ref 1000019), (2, .int y2)], [], ab_dD h)) (fun n => rfl) (fun c5 => ?_) (fun c5 => ?_)
    · replace hf := (if_pos c5).symm.trans hf
      refine ab_Ex.blk (k := 1) (pc' := 76) (lv' := []) (st' := [.int 1]) (sh' := ab_SH) (D' := ab_dD h) (fun n => rfl) ?_
      obtain rfl := Option.some.inj hf
      exact ab_Ex.ret (fun n => rfl) rfl
    · replace hf := (if_neg c5).symm.trans hf
      refine ab_Ex.blk (k := 5) (pc' := 45) (lv' := [(0, .ref 9), (1, .ref 1000019), (2, .int y2)]) (st' := [.int 900, .int (((h.1 9 7) + y2))]) (sh' := ab_SH) (D' := ab_dD h) (fun n => rfl) ?_
      refine ab_Ex.ifc (c := 900 ≤ ((h.1 9 7) + y2)) (SA := (75, [(0, .ref 9), (1, .ref 1000019), (2, .int y2)], [], ab_dD h)) (SB := (48, [(0, .ref 9), (1, .ref 1000019), (2, .int y2)], [], ab_dD h)) (fun n => rfl) (fun c6 => ?_) (fun c6 => ?_)
      · replace hf := (if_pos c6).symm.trans hf
        refine ab_Ex.blk (k := 1) (pc' := 76) (lv' := []) (st' := [.int 1]) (sh' := ab_SH) (D' := ab_dD h) (fun n => rfl) ?_
        obtain rfl := Option.some.inj hf
        exact ab_Ex.ret (fun n => rfl) rfl
      · replace hf := (if_neg c6).symm.trans hf
        refine ab_Ex.blk (k := 6) (pc' := 58) (lv' := [(0, .ref 9), (1, .ref 1000019), (2, .int y2)]) (st' := [.int (((h.1 9 7) + y2)), .ref 11]) (sh' := ab_SH) (D' := ab_dD h) (fun n => rfl) ?_
        obtain ⟨c8, hf⟩ := ab_ask_s hf
        refine ab_Ex.grd (c := ((h.1 9 7) + y2) < 0 ∨ 900 ≤ (((h.1 9 7) + y2) : Int32).toNatClampNeg) (S := (59, [(0, .ref 9), (1, .ref 1000019), (2, .int y2)], [.int ((h.1 11 (((h.1 9 7) + y2) : Int32).toNatClampNeg))], ab_dD h)) (fun n => rfl) c8 ?_
        refine ab_Ex.blk (k := 2) (pc' := 61) (lv' := [(0, .ref 9), (1, .ref 1000019), (2, .int y2)]) (st' := [.int y2, .ref 1000019, .int ((h.1 11 (((h.1 9 7) + y2) : Int32).toNatClampNeg))]) (sh' := ab_SH) (D' := ab_dD h) (fun n => rfl) ?_
        obtain ⟨r9, hr9, hf⟩ := ab_bind_s hf
        refine ab_Ex.call (d := d + 3) (M2 := 305) (as := [.ref 1000019, .int y2]) (rest := [.int ((h.1 11 (((h.1 9 7) + y2) : Int32).toNatClampNeg))]) (fun n => rfl) rfl (Nat.not_lt.mpr (Nat.le_of_ble_eq_true rfl)) (sJ0_charAt_5068e_1000019 (d) X y2 h _ hr9) (fun r hr => ?_)
        subst hr
        show ab_Ex X (d + 4) 93 64 [(0, .ref 9), (1, .ref 1000019), (2, .int y2)] [.int r9, .int ((h.1 11 (((h.1 9 7) + y2) : Int32).toNatClampNeg))] ab_SH (ab_dD h) _
        refine ab_Ex.ifc (c := (h.1 11 (((h.1 9 7) + y2) : Int32).toNatClampNeg) = r9) (SA := (69, [(0, .ref 9), (1, .ref 1000019), (2, .int y2)], [], ab_dD h)) (SB := (67, [(0, .ref 9), (1, .ref 1000019), (2, .int y2)], [], ab_dD h)) (fun n => rfl) (fun c10 => ?_) (fun c10 => ?_)
        · replace hf := (if_pos c10).symm.trans hf
          refine ab_Ex.blk (k := 2) (pc' := 28) (lv' := [(0, .ref 9), (1, .ref 1000019), (2, .int ((y2 + 1)))]) (st' := []) (sh' := ab_SH) (D' := ab_dD h) (fun n => rfl) ?_
          exact ih ((y2 + 1)) _ hf
        · replace hf := (if_neg c10).symm.trans hf
          refine ab_Ex.blk (k := 1) (pc' := 68) (lv' := [(0, .ref 9), (1, .ref 1000019), (2, .int y2)]) (st' := [.int 0]) (sh' := ab_SH) (D' := ab_dD h) (fun n => rfl) ?_
          obtain rfl := Option.some.inj hf
          exact ab_Ex.ret (fun n => rfl) rfl
set_option maxRecDepth 20000 in
theorem sX6_is_1000019 (d : Nat) (X : abX)  (h : abJ) (z : Int32) (hf : fX6_is 1000019 h = some z) : ab_Ex X (d + 4) 93 0 [(0, .ref 9), (1, .ref 1000019)] [] ab_SH (ab_dD h) (fun r => r = (some (.int z), ab_SH, ab_dD h)) := by
  unfold fX6_is at hf
  try simp only [Nat.reduceAdd] at hf
  refine ab_Ex.blk (k := 3) (pc' := 5) (lv' := [(0, .ref 9), (1, .ref 1000019)]) (st' := [.int 3, .int ((h.1 9 6))]) (sh' := ab_SH) (D' := ab_dD h) (fun n => rfl) ?_
  refine ab_Ex.ifc (c := (h.1 9 6) = 3) (SA := (8, [(0, .ref 9), (1, .ref 1000019)], [], ab_dD h)) (SB := (24, [(0, .ref 9), (1, .ref 1000019)], [], ab_dD h)) (fun n => rfl) (fun c1 => ?_) (fun c1 => ?_)
  · replace hf := (if_pos c1).symm.trans hf
    refine ab_Ex.blk (k := 6) (pc' := 18) (lv' := [(0, .ref 9), (1, .ref 1000019)]) (st' := [.ref 1000019, .int (((h.1 9 8) - (h.1 9 7)))]) (sh' := ab_SH) (D' := ab_dD h) (fun n => rfl) ?_
    obtain ⟨r2, hr2, hf⟩ := ab_bind_s hf
    refine ab_Ex.call (d := d + 3) (M2 := 304) (as := [.ref 1000019]) (rest := [.int (((h.1 9 8) - (h.1 9 7)))]) (fun n => rfl) rfl (Nat.not_lt.mpr (Nat.le_of_ble_eq_true rfl)) (sJ0_length_8abf5_1000019 (d + 2) X  h _ hr2) (fun r hr => ?_)
    subst hr
    show ab_Ex X (d + 4) 93 21 [(0, .ref 9), (1, .ref 1000019)] [.int r2, .int (((h.1 9 8) - (h.1 9 7)))] ab_SH (ab_dD h) _
    refine ab_Ex.ifc (c := ((h.1 9 8) - (h.1 9 7)) = r2) (SA := (26, [(0, .ref 9), (1, .ref 1000019)], [], ab_dD h)) (SB := (24, [(0, .ref 9), (1, .ref 1000019)], [], ab_dD h)) (fun n => rfl) (fun c3 => ?_) (fun c3 => ?_)
    · replace hf := (if_pos c3).symm.trans hf
      refine ab_Ex.blk (k := 2) (pc' := 28) (lv' := [(0, .ref 9), (1, .ref 1000019), (2, .int 0)]) (st' := []) (sh' := ab_SH) (D' := ab_dD h) (fun n => rfl) ?_
      exact sX6_is_L28_1000019 d X h ab_N 0 _ hf
    · replace hf := (if_neg c3).symm.trans hf
      refine ab_Ex.blk (k := 1) (pc' := 25) (lv' := []) (st' := [.int 0]) (sh' := ab_SH) (D' := ab_dD h) (fun n => rfl) ?_
      obtain rfl := Option.some.inj hf
      exact ab_Ex.ret (fun n => rfl) rfl
  · replace hf := (if_neg c1).symm.trans hf
    refine ab_Ex.blk (k := 1) (pc' := 25) (lv' := []) (st' := [.int 0]) (sh' := ab_SH) (D' := ab_dD h) (fun n => rfl) ?_
    obtain rfl := Option.some.inj hf
    exact ab_Ex.ret (fun n => rfl) rfl
set_option maxRecDepth 20000 in
theorem sX6_is_L28_1000020 (d : Nat) (X : abX) (h : abJ)   : ∀ (n : Nat), ∀ (y2 : Int32) (z : Int32), fX6_is_L28 1000020 h n y2 = some z → ab_Ex X (d + 4) 93 28 [(0, .ref 9), (1, .ref 1000020), (2, .int y2)] [] ab_SH (ab_dD h) (fun r => r = (some (.int z), ab_SH, ab_dD h)) := by
  intro n
  induction n with
  | zero => intro y2 z hf; cases hf
  | succ n ih =>
    intro y2 z hf
    rw [fX6_is_L28] at hf
    try simp only [Nat.reduceAdd] at hf
    refine ab_Ex.blk (k := 2) (pc' := 30) (lv' := [(0, .ref 9), (1, .ref 1000020), (2, .int y2)]) (st' := [.ref 1000020, .int y2]) (sh' := ab_SH) (D' := ab_dD h) (fun n => rfl) ?_
    obtain ⟨r4, hr4, hf⟩ := ab_bind_s hf
    refine ab_Ex.call (d := d + 3) (M2 := 304) (as := [.ref 1000020]) (rest := [.int y2]) (fun n => rfl) rfl (Nat.not_lt.mpr (Nat.le_of_ble_eq_true rfl)) (sJ0_length_8abf5_1000020 (d + 2) X  h _ hr4) (fun r hr => ?_)
    subst hr
    show ab_Ex X (d + 4) 93 33 [(0, .ref 9), (1, .ref 1000020), (2, .int y2)] [.int r4, .int y2] ab_SH (ab_dD h) _
    refine ab_Ex.ifc (c := r4 ≤ y2) (SA := (75, [(0, .ref 9), (1, .ref 1000020), (2, .int y2)], [], ab_dD h)) (SB := (36, [(0, .ref 9), (1, .ref 1000020), (2, .int y2)], [], ab_dD h)) (fun n => rfl) (fun c5 => ?_) (fun c5 => ?_)
    · replace hf := (if_pos c5).symm.trans hf
      refine ab_Ex.blk (k := 1) (pc' := 76) (lv' := []) (st' := [.int 1]) (sh' := ab_SH) (D' := ab_dD h) (fun n => rfl) ?_
      obtain rfl := Option.some.inj hf
      exact ab_Ex.ret (fun n => rfl) rfl
    · replace hf := (if_neg c5).symm.trans hf
      refine ab_Ex.blk (k := 5) (pc' := 45) (lv' := [(0, .ref 9), (1, .ref 1000020), (2, .int y2)]) (st' := [.int 900, .int (((h.1 9 7) + y2))]) (sh' := ab_SH) (D' := ab_dD h) (fun n => rfl) ?_
      refine ab_Ex.ifc (c := 900 ≤ ((h.1 9 7) + y2)) (SA := (75, [(0, .ref 9), (1, .ref 1000020), (2, .int y2)], [], ab_dD h)) (SB := (48, [(0, .ref 9), (1, .ref 1000020), (2, .int y2)], [], ab_dD h)) (fun n => rfl) (fun c6 => ?_) (fun c6 => ?_)
      · replace hf := (if_pos c6).symm.trans hf
        refine ab_Ex.blk (k := 1) (pc' := 76) (lv' := []) (st' := [.int 1]) (sh' := ab_SH) (D' := ab_dD h) (fun n => rfl) ?_
        obtain rfl := Option.some.inj hf
        exact ab_Ex.ret (fun n => rfl) rfl
      · replace hf := (if_neg c6).symm.trans hf
        refine ab_Ex.blk (k := 6) (pc' := 58) (lv' := [(0, .ref 9), (1, .ref 1000020), (2, .int y2)]) (st' := [.int (((h.1 9 7) + y2)), .ref 11]) (sh' := ab_SH) (D' := ab_dD h) (fun n => rfl) ?_
        obtain ⟨c8, hf⟩ := ab_ask_s hf
        refine ab_Ex.grd (c := ((h.1 9 7) + y2) < 0 ∨ 900 ≤ (((h.1 9 7) + y2) : Int32).toNatClampNeg) (S := (59, [(0, .ref 9), (1, .ref 1000020), (2, .int y2)], [.int ((h.1 11 (((h.1 9 7) + y2) : Int32).toNatClampNeg))], ab_dD h)) (fun n => rfl) c8 ?_
        refine ab_Ex.blk (k := 2) (pc' := 61) (lv' := [(0, .ref 9), (1, .ref 1000020), (2, .int y2)]) (st' := [.int y2, .ref 1000020, .int ((h.1 11 (((h.1 9 7) + y2) : Int32).toNatClampNeg))]) (sh' := ab_SH) (D' := ab_dD h) (fun n => rfl) ?_
        obtain ⟨r9, hr9, hf⟩ := ab_bind_s hf
        refine ab_Ex.call (d := d + 3) (M2 := 305) (as := [.ref 1000020, .int y2]) (rest := [.int ((h.1 11 (((h.1 9 7) + y2) : Int32).toNatClampNeg))]) (fun n => rfl) rfl (Nat.not_lt.mpr (Nat.le_of_ble_eq_true rfl)) (sJ0_charAt_5068e_1000020 (d) X y2 h _ hr9) (fun r hr => ?_)
        subst hr
        show ab_Ex X (d + 4) 93 64 [(0, .ref 9), (1, .ref 1000020), (2, .int y2)] [.int r9, .int ((h.1 11 (((h.1 9 7) + y2) : Int32).toNatClampNeg))] ab_SH (ab_dD h) _
        refine ab_Ex.ifc (c := (h.1 11 (((h.1 9 7) + y2) : Int32).toNatClampNeg) = r9) (SA := (69, [(0, .ref 9), (1, .ref 1000020), (2, .int y2)], [], ab_dD h)) (SB := (67, [(0, .ref 9), (1, .ref 1000020), (2, .int y2)], [], ab_dD h)) (fun n => rfl) (fun c10 => ?_) (fun c10 => ?_)
        · replace hf := (if_pos c10).symm.trans hf
          refine ab_Ex.blk (k := 2) (pc' := 28) (lv' := [(0, .ref 9), (1, .ref 1000020), (2, .int ((y2 + 1)))]) (st' := []) (sh' := ab_SH) (D' := ab_dD h) (fun n => rfl) ?_
          exact ih ((y2 + 1)) _ hf
        · replace hf := (if_neg c10).symm.trans hf
          refine ab_Ex.blk (k := 1) (pc' := 68) (lv' := [(0, .ref 9), (1, .ref 1000020), (2, .int y2)]) (st' := [.int 0]) (sh' := ab_SH) (D' := ab_dD h) (fun n => rfl) ?_
          obtain rfl := Option.some.inj hf
          exact ab_Ex.ret (fun n => rfl) rfl
set_option maxRecDepth 20000 in
theorem sX6_is_1000020 (d : Nat) (X : abX)  (h : abJ) (z : Int32) (hf : fX6_is 1000020 h = some z) : ab_Ex X (d + 4) 93 0 [(0, .ref 9), (1, .ref 1000020)] [] ab_SH (ab_dD h) (fun r => r = (some (.int z), ab_SH, ab_dD h)) := by
  unfold fX6_is at hf
  try simp only [Nat.reduceAdd] at hf
  refine ab_Ex.blk (k := 3) (pc' := 5) (lv' := [(0, .ref 9), (1, .ref 1000020)]) (st' := [.int 3, .int ((h.1 9 6))]) (sh' := ab_SH) (D' := ab_dD h) (fun n => rfl) ?_
  refine ab_Ex.ifc (c := (h.1 9 6) = 3) (SA := (8, [(0, .ref 9), (1, .ref 1000020)], [], ab_dD h)) (SB := (24, [(0, .ref 9), (1, .ref 1000020)], [], ab_dD h)) (fun n => rfl) (fun c1 => ?_) (fun c1 => ?_)
  · replace hf := (if_pos c1).symm.trans hf
    refine ab_Ex.blk (k := 6) (pc' := 18) (lv' := [(0, .ref 9), (1, .ref 1000020)]) (st' := [.ref 1000020, .int (((h.1 9 8) - (h.1 9 7)))]) (sh' := ab_SH) (D' := ab_dD h) (fun n => rfl) ?_
    obtain ⟨r2, hr2, hf⟩ := ab_bind_s hf
    refine ab_Ex.call (d := d + 3) (M2 := 304) (as := [.ref 1000020]) (rest := [.int (((h.1 9 8) - (h.1 9 7)))]) (fun n => rfl) rfl (Nat.not_lt.mpr (Nat.le_of_ble_eq_true rfl)) (sJ0_length_8abf5_1000020 (d + 2) X  h _ hr2) (fun r hr => ?_)
    subst hr
    show ab_Ex X (d + 4) 93 21 [(0, .ref 9), (1, .ref 1000020)] [.int r2, .int (((h.1 9 8) - (h.1 9 7)))] ab_SH (ab_dD h) _
    refine ab_Ex.ifc (c := ((h.1 9 8) - (h.1 9 7)) = r2) (SA := (26, [(0, .ref 9), (1, .ref 1000020)], [], ab_dD h)) (SB := (24, [(0, .ref 9), (1, .ref 1000020)], [], ab_dD h)) (fun n => rfl) (fun c3 => ?_) (fun c3 => ?_)
    · replace hf := (if_pos c3).symm.trans hf
      refine ab_Ex.blk (k := 2) (pc' := 28) (lv' := [(0, .ref 9), (1, .ref 1000020), (2, .int 0)]) (st' := []) (sh' := ab_SH) (D' := ab_dD h) (fun n => rfl) ?_
      exact sX6_is_L28_1000020 d X h ab_N 0 _ hf
    · replace hf := (if_neg c3).symm.trans hf
      refine ab_Ex.blk (k := 1) (pc' := 25) (lv' := []) (st' := [.int 0]) (sh' := ab_SH) (D' := ab_dD h) (fun n => rfl) ?_
      obtain rfl := Option.some.inj hf
      exact ab_Ex.ret (fun n => rfl) rfl
  · replace hf := (if_neg c1).symm.trans hf
    refine ab_Ex.blk (k := 1) (pc' := 25) (lv' := []) (st' := [.int 0]) (sh' := ab_SH) (D' := ab_dD h) (fun n => rfl) ?_
    obtain rfl := Option.some.inj hf
    exact ab_Ex.ret (fun n => rfl) rfl
set_option maxRecDepth 20000 in
theorem sX6_is_L28_1000021 (d : Nat) (X : abX) (h : abJ)   : ∀ (n : Nat), ∀ (y2 : Int32) (z : Int32), fX6_is_L28 1000021 h n y2 = some z → ab_Ex X (d + 4) 93 28 [(0, .ref 9), (1, .ref 1000021), (2, .int y2)] [] ab_SH (ab_dD h) (fun r => r = (some (.int z), ab_SH, ab_dD h)) := by
  intro n
  induction n with
  | zero => intro y2 z hf; cases hf
  | succ n ih =>
    intro y2 z hf
    rw [fX6_is_L28] at hf
    try simp only [Nat.reduceAdd] at hf
    refine ab_Ex.blk (k := 2) (pc' := 30) (lv' := [(0, .ref 9), (1, .ref 1000021), (2, .int y2)]) (st' := [.ref 1000021, .int y2]) (sh' := ab_SH) (D' := ab_dD h) (fun n => rfl) ?_
    obtain ⟨r4, hr4, hf⟩ := ab_bind_s hf
    refine ab_Ex.call (d := d + 3) (M2 := 304) (as := [.ref 1000021]) (rest := [.int y2]) (fun n => rfl) rfl (Nat.not_lt.mpr (Nat.le_of_ble_eq_true rfl)) (sJ0_length_8abf5_1000021 (d + 2) X  h _ hr4) (fun r hr => ?_)
    subst hr
    show ab_Ex X (d + 4) 93 33 [(0, .ref 9), (1, .ref 1000021), (2, .int y2)] [.int r4, .int y2] ab_SH (ab_dD h) _
    refine ab_Ex.ifc (c := r4 ≤ y2) (SA := (75, [(0, .ref 9), (1, .ref 1000021), (2, .int y2)], [], ab_dD h)) (SB := (36, [(0, .ref 9), (1, .ref 1000021), (2, .int y2)], [], ab_dD h)) (fun n => rfl) (fun c5 => ?_) (fun c5 => ?_)
    · replace hf := (if_pos c5).symm.trans hf
      refine ab_Ex.blk (k := 1) (pc' := 76) (lv' := []) (st' := [.int 1]) (sh' := ab_SH) (D' := ab_dD h) (fun n => rfl) ?_
      obtain rfl := Option.some.inj hf
      exact ab_Ex.ret (fun n => rfl) rfl
    · replace hf := (if_neg c5).symm.trans hf
      refine ab_Ex.blk (k := 5) (pc' := 45) (lv' := [(0, .ref 9), (1, .ref 1000021), (2, .int y2)]) (st' := [.int 900, .int (((h.1 9 7) + y2))]) (sh' := ab_SH) (D' := ab_dD h) (fun n => rfl) ?_
      refine ab_Ex.ifc (c := 900 ≤ ((h.1 9 7) + y2)) (SA := (75, [(0, .ref 9), (1, .ref 1000021), (2, .int y2)], [], ab_dD h)) (SB := (48, [(0, .ref 9), (1, .ref 1000021), (2, .int y2)], [], ab_dD h)) (fun n => rfl) (fun c6 => ?_) (fun c6 => ?_)
      · replace hf := (if_pos c6).symm.trans hf
        refine ab_Ex.blk (k := 1) (pc' := 76) (lv' := []) (st' := [.int 1]) (sh' := ab_SH) (D' := ab_dD h) (fun n => rfl) ?_
        obtain rfl := Option.some.inj hf
        exact ab_Ex.ret (fun n => rfl) rfl
      · replace hf := (if_neg c6).symm.trans hf
        refine ab_Ex.blk (k := 6) (pc' := 58) (lv' := [(0, .ref 9), (1, .ref 1000021), (2, .int y2)]) (st' := [.int (((h.1 9 7) + y2)), .ref 11]) (sh' := ab_SH) (D' := ab_dD h) (fun n => rfl) ?_
        obtain ⟨c8, hf⟩ := ab_ask_s hf
        refine ab_Ex.grd (c := ((h.1 9 7) + y2) < 0 ∨ 900 ≤ (((h.1 9 7) + y2) : Int32).toNatClampNeg) (S := (59, [(0, .ref 9), (1, .ref 1000021), (2, .int y2)], [.int ((h.1 11 (((h.1 9 7) + y2) : Int32).toNatClampNeg))], ab_dD h)) (fun n => rfl) c8 ?_
        refine ab_Ex.blk (k := 2) (pc' := 61) (lv' := [(0, .ref 9), (1, .ref 1000021), (2, .int y2)]) (st' := [.int y2, .ref 1000021, .int ((h.1 11 (((h.1 9 7) + y2) : Int32).toNatClampNeg))]) (sh' := ab_SH) (D' := ab_dD h) (fun n => rfl) ?_
        obtain ⟨r9, hr9, hf⟩ := ab_bind_s hf
        refine ab_Ex.call (d := d + 3) (M2 := 305) (as := [.ref 1000021, .int y2]) (rest := [.int ((h.1 11 (((h.1 9 7) + y2) : Int32).toNatClampNeg))]) (fun n => rfl) rfl (Nat.not_lt.mpr (Nat.le_of_ble_eq_true rfl)) (sJ0_charAt_5068e_1000021 (d) X y2 h _ hr9) (fun r hr => ?_)
        subst hr
        show ab_Ex X (d + 4) 93 64 [(0, .ref 9), (1, .ref 1000021), (2, .int y2)] [.int r9, .int ((h.1 11 (((h.1 9 7) + y2) : Int32).toNatClampNeg))] ab_SH (ab_dD h) _
        refine ab_Ex.ifc (c := (h.1 11 (((h.1 9 7) + y2) : Int32).toNatClampNeg) = r9) (SA := (69, [(0, .ref 9), (1, .ref 1000021), (2, .int y2)], [], ab_dD h)) (SB := (67, [(0, .ref 9), (1, .ref 1000021), (2, .int y2)], [], ab_dD h)) (fun n => rfl) (fun c10 => ?_) (fun c10 => ?_)
        · replace hf := (if_pos c10).symm.trans hf
          refine ab_Ex.blk (k := 2) (pc' := 28) (lv' := [(0, .ref 9), (1, .ref 1000021), (2, .int ((y2 + 1)))]) (st' := []) (sh' := ab_SH) (D' := ab_dD h) (fun n => rfl) ?_
          exact ih ((y2 + 1)) _ hf
        · replace hf := (if_neg c10).symm.trans hf
          refine ab_Ex.blk (k := 1) (pc' := 68) (lv' := [(0, .ref 9), (1, .ref 1000021), (2, .int y2)]) (st' := [.int 0]) (sh' := ab_SH) (D' := ab_dD h) (fun n => rfl) ?_
          obtain rfl := Option.some.inj hf
          exact ab_Ex.ret (fun n => rfl) rfl
set_option maxRecDepth 20000 in
theorem sX6_is_1000021 (d : Nat) (X : abX)  (h : abJ) (z : Int32) (hf : fX6_is 1000021 h = some z) : ab_Ex X (d + 4) 93 0 [(0, .ref 9), (1, .ref 1000021)] [] ab_SH (ab_dD h) (fun r => r = (some (.int z), ab_SH, ab_dD h)) := by
  unfold fX6_is at hf
  try simp only [Nat.reduceAdd] at hf
  refine ab_Ex.blk (k := 3) (pc' := 5) (lv' := [(0, .ref 9), (1, .ref 1000021)]) (st' := [.int 3, .int ((h.1 9 6))]) (sh' := ab_SH) (D' := ab_dD h) (fun n => rfl) ?_
  refine ab_Ex.ifc (c := (h.1 9 6) = 3) (SA := (8, [(0, .ref 9), (1, .ref 1000021)], [], ab_dD h)) (SB := (24, [(0, .ref 9), (1, .ref 1000021)], [], ab_dD h)) (fun n => rfl) (fun c1 => ?_) (fun c1 => ?_)
  · replace hf := (if_pos c1).symm.trans hf
    refine ab_Ex.blk (k := 6) (pc' := 18) (lv' := [(0, .ref 9), (1, .ref 1000021)]) (st' := [.ref 1000021, .int (((h.1 9 8) - (h.1 9 7)))]) (sh' := ab_SH) (D' := ab_dD h) (fun n => rfl) ?_
    obtain ⟨r2, hr2, hf⟩ := ab_bind_s hf
    refine ab_Ex.call (d := d + 3) (M2 := 304) (as := [.ref 1000021]) (rest := [.int (((h.1 9 8) - (h.1 9 7)))]) (fun n => rfl) rfl (Nat.not_lt.mpr (Nat.le_of_ble_eq_true rfl)) (sJ0_length_8abf5_1000021 (d + 2) X  h _ hr2) (fun r hr => ?_)
    subst hr
    show ab_Ex X (d + 4) 93 21 [(0, .ref 9), (1, .ref 1000021)] [.int r2, .int (((h.1 9 8) - (h.1 9 7)))] ab_SH (ab_dD h) _
    refine ab_Ex.ifc (c := ((h.1 9 8) - (h.1 9 7)) = r2) (SA := (26, [(0, .ref 9), (1, .ref 1000021)], [], ab_dD h)) (SB := (24, [(0, .ref 9), (1, .ref 1000021)], [], ab_dD h)) (fun n => rfl) (fun c3 => ?_) (fun c3 => ?_)
    · replace hf := (if_pos c3).symm.trans hf
      refine ab_Ex.blk (k := 2) (pc' := 28) (lv' := [(0, .ref 9), (1, .ref 1000021), (2, .int 0)]) (st' := []) (sh' := ab_SH) (D' := ab_dD h) (fun n => rfl) ?_
      exact sX6_is_L28_1000021 d X h ab_N 0 _ hf
    · replace hf := (if_neg c3).symm.trans hf
      refine ab_Ex.blk (k := 1) (pc' := 25) (lv' := []) (st' := [.int 0]) (sh' := ab_SH) (D' := ab_dD h) (fun n => rfl) ?_
      obtain rfl := Option.some.inj hf
      exact ab_Ex.ret (fun n => rfl) rfl
  · replace hf := (if_neg c1).symm.trans hf
    refine ab_Ex.blk (k := 1) (pc' := 25) (lv' := []) (st' := [.int 0]) (sh' := ab_SH) (D' := ab_dD h) (fun n => rfl) ?_
    obtain rfl := Option.some.inj hf
    exact ab_Ex.ret (fun n => rfl) rfl
set_option maxRecDepth 20000 in
theorem sX6_is_L28_1000022 (d : Nat) (X : abX) (h : abJ)   : ∀ (n : Nat), ∀ (y2 : Int32) (z : Int32), fX6_is_L28 1000022 h n y2 = some z → ab_Ex X (d + 4) 93 28 [(0, .ref 9), (1, .ref 1000022), (2, .int y2)] [] ab_SH (ab_dD h) (fun r => r = (some (.int z), ab_SH, ab_dD h)) := by
  intro n
  induction n with
  | zero => intro y2 z hf; cases hf
  | succ n ih =>
    intro y2 z hf
    rw [fX6_is_L28] at hf
    try simp only [Nat.reduceAdd] at hf
    refine ab_Ex.blk (k := 2) (pc' := 30) (lv' := [(0, .ref 9), (1, .ref 1000022), (2, .int y2)]) (st' := [.ref 1000022, .int y2]) (sh' := ab_SH) (D' := ab_dD h) (fun n => rfl) ?_
    obtain ⟨r4, hr4, hf⟩ := ab_bind_s hf
    refine ab_Ex.call (d := d + 3) (M2 := 304) (as := [.ref 1000022]) (rest := [.int y2]) (fun n => rfl) rfl (Nat.not_lt.mpr (Nat.le_of_ble_eq_true rfl)) (sJ0_length_8abf5_1000022 (d + 2) X  h _ hr4) (fun r hr => ?_)
    subst hr
    show ab_Ex X (d + 4) 93 33 [(0, .ref 9), (1, .ref 1000022), (2, .int y2)] [.int r4, .int y2] ab_SH (ab_dD h) _
    refine ab_Ex.ifc (c := r4 ≤ y2) (SA := (75, [(0, .ref 9), (1, .ref 1000022), (2, .int y2)], [], ab_dD h)) (SB := (36, [(0, .ref 9), (1, .ref 1000022), (2, .int y2)], [], ab_dD h)) (fun n => rfl) (fun c5 => ?_) (fun c5 => ?_)
    · replace hf := (if_pos c5).symm.trans hf
      refine ab_Ex.blk (k := 1) (pc' := 76) (lv' := []) (st' := [.int 1]) (sh' := ab_SH) (D' := ab_dD h) (fun n => rfl) ?_
      obtain rfl := Option.some.inj hf
      exact ab_Ex.ret (fun n => rfl) rfl
    · replace hf := (if_neg c5).symm.trans hf
      refine ab_Ex.blk (k := 5) (pc' := 45) (lv' := [(0, .ref 9), (1, .ref 1000022), (2, .int y2)]) (st' := [.int 900, .int (((h.1 9 7) + y2))]) (sh' := ab_SH) (D' := ab_dD h) (fun n => rfl) ?_
      refine ab_Ex.ifc (c := 900 ≤ ((h.1 9 7) + y2)) (SA := (75, [(0, .ref 9), (1, .ref 1000022), (2, .int y2)], [], ab_dD h)) (SB := (48, [(0, .ref 9), (1, .ref 1000022), (2, .int y2)], [], ab_dD h)) (fun n => rfl) (fun c6 => ?_) (fun c6 => ?_)
      · replace hf := (if_pos c6).symm.trans hf
        refine ab_Ex.blk (k := 1) (pc' := 76) (lv' := []) (st' := [.int 1]) (sh' := ab_SH) (D' := ab_dD h) (fun n => rfl) ?_
        obtain rfl := Option.some.inj hf
        exact ab_Ex.ret (fun n => rfl) rfl
      · replace hf := (if_neg c6).symm.trans hf
        refine ab_Ex.blk (k := 6) (pc' := 58) (lv' := [(0, .ref 9), (1, .ref 1000022), (2, .int y2)]) (st' := [.int (((h.1 9 7) + y2)), .ref 11]) (sh' := ab_SH) (D' := ab_dD h) (fun n => rfl) ?_
        obtain ⟨c8, hf⟩ := ab_ask_s hf
        refine ab_Ex.grd (c := ((h.1 9 7) + y2) < 0 ∨ 900 ≤ (((h.1 9 7) + y2) : Int32).toNatClampNeg) (S := (59, [(0, .ref 9), (1, .ref 1000022), (2, .int y2)], [.int ((h.1 11 (((h.1 9 7) + y2) : Int32).toNatClampNeg))], ab_dD h)) (fun n => rfl) c8 ?_
        refine ab_Ex.blk (k := 2) (pc' := 61) (lv' := [(0, .ref 9), (1, .ref 1000022), (2, .int y2)]) (st' := [.int y2, .ref 1000022, .int ((h.1 11 (((h.1 9 7) + y2) : Int32).toNatClampNeg))]) (sh' := ab_SH) (D' := ab_dD h) (fun n => rfl) ?_
        obtain ⟨r9, hr9, hf⟩ := ab_bind_s hf
        refine ab_Ex.call (d := d + 3) (M2 := 305) (as := [.ref 1000022, .int y2]) (rest := [.int ((h.1 11 (((h.1 9 7) + y2) : Int32).toNatClampNeg))]) (fun n => rfl) rfl (Nat.not_lt.mpr (Nat.le_of_ble_eq_true rfl)) (sJ0_charAt_5068e_1000022 (d) X y2 h _ hr9) (fun r hr => ?_)
        subst hr
        show ab_Ex X (d + 4) 93 64 [(0, .ref 9), (1, .ref 1000022), (2, .int y2)] [.int r9, .int ((h.1 11 (((h.1 9 7) + y2) : Int32).toNatClampNeg))] ab_SH (ab_dD h) _
        refine ab_Ex.ifc (c := (h.1 11 (((h.1 9 7) + y2) : Int32).toNatClampNeg) = r9) (SA := (69, [(0, .ref 9), (1, .ref 1000022), (2, .int y2)], [], ab_dD h)) (SB := (67, [(0, .ref 9), (1, .ref 1000022), (2, .int y2)], [], ab_dD h)) (fun n => rfl) (fun c10 => ?_) (fun c10 => ?_)
        · replace hf := (if_pos c10).symm.trans hf
          refine ab_Ex.blk (k := 2) (pc' := 28) (lv' := [(0, .ref 9), (1, .ref 1000022), (2, .int ((y2 + 1)))]) (st' := []) (sh' := ab_SH) (D' := ab_dD h) (fun n => rfl) ?_
          exact ih ((y2 + 1)) _ hf
        · replace hf := (if_neg c10).symm.trans hf
          refine ab_Ex.blk (k := 1) (pc' := 68) (lv' := [(0, .ref 9), (1, .ref 1000022), (2, .int y2)]) (st' := [.int 0]) (sh' := ab_SH) (D' := ab_dD h) (fun n => rfl) ?_
          obtain rfl := Option.some.inj hf
          exact ab_Ex.ret (fun n => rfl) rfl
set_option maxRecDepth 20000 in
theorem sX6_is_1000022 (d : Nat) (X : abX)  (h : abJ) (z : Int32) (hf : fX6_is 1000022 h = some z) : ab_Ex X (d + 4) 93 0 [(0, .ref 9), (1, .ref 1000022)] [] ab_SH (ab_dD h) (fun r => r = (some (.int z), ab_SH, ab_dD h)) := by
  unfold fX6_is at hf
  try simp only [Nat.reduceAdd] at hf
  refine ab_Ex.blk (k := 3) (pc' := 5) (lv' := [(0, .ref 9), (1, .ref 1000022)]) (st' := [.int 3, .int ((h.1 9 6))]) (sh' := ab_SH) (D' := ab_dD h) (fun n => rfl) ?_
  refine ab_Ex.ifc (c := (h.1 9 6) = 3) (SA := (8, [(0, .ref 9), (1, .ref 1000022)], [], ab_dD h)) (SB := (24, [(0, .ref 9), (1, .ref 1000022)], [], ab_dD h)) (fun n => rfl) (fun c1 => ?_) (fun c1 => ?_)
  · replace hf := (if_pos c1).symm.trans hf
    refine ab_Ex.blk (k := 6) (pc' := 18) (lv' := [(0, .ref 9), (1, .ref 1000022)]) (st' := [.ref 1000022, .int (((h.1 9 8) - (h.1 9 7)))]) (sh' := ab_SH) (D' := ab_dD h) (fun n => rfl) ?_
    obtain ⟨r2, hr2, hf⟩ := ab_bind_s hf
    refine ab_Ex.call (d := d + 3) (M2 := 304) (as := [.ref 1000022]) (rest := [.int (((h.1 9 8) - (h.1 9 7)))]) (fun n => rfl) rfl (Nat.not_lt.mpr (Nat.le_of_ble_eq_true rfl)) (sJ0_length_8abf5_1000022 (d + 2) X  h _ hr2) (fun r hr => ?_)
    subst hr
    show ab_Ex X (d + 4) 93 21 [(0, .ref 9), (1, .ref 1000022)] [.int r2, .int (((h.1 9 8) - (h.1 9 7)))] ab_SH (ab_dD h) _
    refine ab_Ex.ifc (c := ((h.1 9 8) - (h.1 9 7)) = r2) (SA := (26, [(0, .ref 9), (1, .ref 1000022)], [], ab_dD h)) (SB := (24, [(0, .ref 9), (1, .ref 1000022)], [], ab_dD h)) (fun n => rfl) (fun c3 => ?_) (fun c3 => ?_)
    · replace hf := (if_pos c3).symm.trans hf
      refine ab_Ex.blk (k := 2) (pc' := 28) (lv' := [(0, .ref 9), (1, .ref 1000022), (2, .int 0)]) (st' := []) (sh' := ab_SH) (D' := ab_dD h) (fun n => rfl) ?_
      exact sX6_is_L28_1000022 d X h ab_N 0 _ hf
    · replace hf := (if_neg c3).symm.trans hf
      refine ab_Ex.blk (k := 1) (pc' := 25) (lv' := []) (st' := [.int 0]) (sh' := ab_SH) (D' := ab_dD h) (fun n => rfl) ?_
      obtain rfl := Option.some.inj hf
      exact ab_Ex.ret (fun n => rfl) rfl
  · replace hf := (if_neg c1).symm.trans hf
    refine ab_Ex.blk (k := 1) (pc' := 25) (lv' := []) (st' := [.int 0]) (sh' := ab_SH) (D' := ab_dD h) (fun n => rfl) ?_
    obtain rfl := Option.some.inj hf
    exact ab_Ex.ret (fun n => rfl) rfl
set_option maxRecDepth 20000 in
theorem sX6_is_L28_1000023 (d : Nat) (X : abX) (h : abJ)   : ∀ (n : Nat), ∀ (y2 : Int32) (z : Int32), fX6_is_L28 1000023 h n y2 = some z → ab_Ex X (d + 4) 93 28 [(0, .ref 9), (1, .ref 1000023), (2, .int y2)] [] ab_SH (ab_dD h) (fun r => r = (some (.int z), ab_SH, ab_dD h)) := by
  intro n
  induction n with
  | zero => intro y2 z hf; cases hf
  | succ n ih =>
    intro y2 z hf
    rw [fX6_is_L28] at hf
    try simp only [Nat.reduceAdd] at hf
    refine ab_Ex.blk (k := 2) (pc' := 30) (lv' := [(0, .ref 9), (1, .ref 1000023), (2, .int y2)]) (st' := [.ref 1000023, .int y2]) (sh' := ab_SH) (D' := ab_dD h) (fun n => rfl) ?_
    obtain ⟨r4, hr4, hf⟩ := ab_bind_s hf
    refine ab_Ex.call (d := d + 3) (M2 := 304) (as := [.ref 1000023]) (rest := [.int y2]) (fun n => rfl) rfl (Nat.not_lt.mpr (Nat.le_of_ble_eq_true rfl)) (sJ0_length_8abf5_1000023 (d + 2) X  h _ hr4) (fun r hr => ?_)
    subst hr
    show ab_Ex X (d + 4) 93 33 [(0, .ref 9), (1, .ref 1000023), (2, .int y2)] [.int r4, .int y2] ab_SH (ab_dD h) _
    refine ab_Ex.ifc (c := r4 ≤ y2) (SA := (75, [(0, .ref 9), (1, .ref 1000023), (2, .int y2)], [], ab_dD h)) (SB := (36, [(0, .ref 9), (1, .ref 1000023), (2, .int y2)], [], ab_dD h)) (fun n => rfl) (fun c5 => ?_) (fun c5 => ?_)
    · replace hf := (if_pos c5).symm.trans hf
      refine ab_Ex.blk (k := 1) (pc' := 76) (lv' := []) (st' := [.int 1]) (sh' := ab_SH) (D' := ab_dD h) (fun n => rfl) ?_
      obtain rfl := Option.some.inj hf
      exact ab_Ex.ret (fun n => rfl) rfl
    · replace hf := (if_neg c5).symm.trans hf
      refine ab_Ex.blk (k := 5) (pc' := 45) (lv' := [(0, .ref 9), (1, .ref 1000023), (2, .int y2)]) (st' := [.int 900, .int (((h.1 9 7) + y2))]) (sh' := ab_SH) (D' := ab_dD h) (fun n => rfl) ?_
      refine ab_Ex.ifc (c := 900 ≤ ((h.1 9 7) + y2)) (SA := (75, [(0, .ref 9), (1, .ref 1000023), (2, .int y2)], [], ab_dD h)) (SB := (48, [(0, .ref 9), (1, .ref 1000023), (2, .int y2)], [], ab_dD h)) (fun n => rfl) (fun c6 => ?_) (fun c6 => ?_)
      · replace hf := (if_pos c6).symm.trans hf
        refine ab_Ex.blk (k := 1) (pc' := 76) (lv' := []) (st' := [.int 1]) (sh' := ab_SH) (D' := ab_dD h) (fun n => rfl) ?_
        obtain rfl := Option.some.inj hf
        exact ab_Ex.ret (fun n => rfl) rfl
      · replace hf := (if_neg c6).symm.trans hf
        refine ab_Ex.blk (k := 6) (pc' := 58) (lv' := [(0, .ref 9), (1, .ref 1000023), (2, .int y2)]) (st' := [.int (((h.1 9 7) + y2)), .ref 11]) (sh' := ab_SH) (D' := ab_dD h) (fun n => rfl) ?_
        obtain ⟨c8, hf⟩ := ab_ask_s hf
        refine ab_Ex.grd (c := ((h.1 9 7) + y2) < 0 ∨ 900 ≤ (((h.1 9 7) + y2) : Int32).toNatClampNeg) (S := (59, [(0, .ref 9), (1, .ref 1000023), (2, .int y2)], [.int ((h.1 11 (((h.1 9 7) + y2) : Int32).toNatClampNeg))], ab_dD h)) (fun n => rfl) c8 ?_
        refine ab_Ex.blk (k := 2) (pc' := 61) (lv' := [(0, .ref 9), (1, .ref 1000023), (2, .int y2)]) (st' := [.int y2, .ref 1000023, .int ((h.1 11 (((h.1 9 7) + y2) : Int32).toNatClampNeg))]) (sh' := ab_SH) (D' := ab_dD h) (fun n => rfl) ?_
        obtain ⟨r9, hr9, hf⟩ := ab_bind_s hf
        refine ab_Ex.call (d := d + 3) (M2 := 305) (as := [.ref 1000023, .int y2]) (rest := [.int ((h.1 11 (((h.1 9 7) + y2) : Int32).toNatClampNeg))]) (fun n => rfl) rfl (Nat.not_lt.mpr (Nat.le_of_ble_eq_true rfl)) (sJ0_charAt_5068e_1000023 (d) X y2 h _ hr9) (fun r hr => ?_)
        subst hr
        show ab_Ex X (d + 4) 93 64 [(0, .ref 9), (1, .ref 1000023), (2, .int y2)] [.int r9, .int ((h.1 11 (((h.1 9 7) + y2) : Int32).toNatClampNeg))] ab_SH (ab_dD h) _
        refine ab_Ex.ifc (c := (h.1 11 (((h.1 9 7) + y2) : Int32).toNatClampNeg) = r9) (SA := (69, [(0, .ref 9), (1, .ref 1000023), (2, .int y2)], [], ab_dD h)) (SB := (67, [(0, .ref 9), (1, .ref 1000023), (2, .int y2)], [], ab_dD h)) (fun n => rfl) (fun c10 => ?_) (fun c10 => ?_)
        · replace hf := (if_pos c10).symm.trans hf
          refine ab_Ex.blk (k := 2) (pc' := 28) (lv' := [(0, .ref 9), (1, .ref 1000023), (2, .int ((y2 + 1)))]) (st' := []) (sh' := ab_SH) (D' := ab_dD h) (fun n => rfl) ?_
          exact ih ((y2 + 1)) _ hf
        · replace hf := (if_neg c10).symm.trans hf
          refine ab_Ex.blk (k := 1) (pc' := 68) (lv' := [(0, .ref 9), (1, .ref 1000023), (2, .int y2)]) (st' := [.int 0]) (sh' := ab_SH) (D' := ab_dD h) (fun n => rfl) ?_
          obtain rfl := Option.some.inj hf
          exact ab_Ex.ret (fun n => rfl) rfl
set_option maxRecDepth 20000 in
theorem sX6_is_1000023 (d : Nat) (X : abX)  (h : abJ) (z : Int32) (hf : fX6_is 1000023 h = some z) : ab_Ex X (d + 4) 93 0 [(0, .ref 9), (1, .ref 1000023)] [] ab_SH (ab_dD h) (fun r => r = (some (.int z), ab_SH, ab_dD h)) := by
  unfold fX6_is at hf
  try simp only [Nat.reduceAdd] at hf
  refine ab_Ex.blk (k := 3) (pc' := 5) (lv' := [(0, .ref 9), (1, .ref 1000023)]) (st' := [.int 3, .int ((h.1 9 6))]) (sh' := ab_SH) (D' := ab_dD h) (fun n => rfl) ?_
  refine ab_Ex.ifc (c := (h.1 9 6) = 3) (SA := (8, [(0, .ref 9), (1, .ref 1000023)], [], ab_dD h)) (SB := (24, [(0, .ref 9), (1, .ref 1000023)], [], ab_dD h)) (fun n => rfl) (fun c1 => ?_) (fun c1 => ?_)
  · replace hf := (if_pos c1).symm.trans hf
    refine ab_Ex.blk (k := 6) (pc' := 18) (lv' := [(0, .ref 9), (1, .ref 1000023)]) (st' := [.ref 1000023, .int (((h.1 9 8) - (h.1 9 7)))]) (sh' := ab_SH) (D' := ab_dD h) (fun n => rfl) ?_
    obtain ⟨r2, hr2, hf⟩ := ab_bind_s hf
    refine ab_Ex.call (d := d + 3) (M2 := 304) (as := [.ref 1000023]) (rest := [.int (((h.1 9 8) - (h.1 9 7)))]) (fun n => rfl) rfl (Nat.not_lt.mpr (Nat.le_of_ble_eq_true rfl)) (sJ0_length_8abf5_1000023 (d + 2) X  h _ hr2) (fun r hr => ?_)
    subst hr
    show ab_Ex X (d + 4) 93 21 [(0, .ref 9), (1, .ref 1000023)] [.int r2, .int (((h.1 9 8) - (h.1 9 7)))] ab_SH (ab_dD h) _
    refine ab_Ex.ifc (c := ((h.1 9 8) - (h.1 9 7)) = r2) (SA := (26, [(0, .ref 9), (1, .ref 1000023)], [], ab_dD h)) (SB := (24, [(0, .ref 9), (1, .ref 1000023)], [], ab_dD h)) (fun n => rfl) (fun c3 => ?_) (fun c3 => ?_)
    · replace hf := (if_pos c3).symm.trans hf
      refine ab_Ex.blk (k := 2) (pc' := 28) (lv' := [(0, .ref 9), (1, .ref 1000023), (2, .int 0)]) (st' := []) (sh' := ab_SH) (D' := ab_dD h) (fun n => rfl) ?_
      exact sX6_is_L28_1000023 d X h ab_N 0 _ hf
    · replace hf := (if_neg c3).symm.trans hf
      refine ab_Ex.blk (k := 1) (pc' := 25) (lv' := []) (st' := [.int 0]) (sh' := ab_SH) (D' := ab_dD h) (fun n => rfl) ?_
      obtain rfl := Option.some.inj hf
      exact ab_Ex.ret (fun n => rfl) rfl
  · replace hf := (if_neg c1).symm.trans hf
    refine ab_Ex.blk (k := 1) (pc' := 25) (lv' := []) (st' := [.int 0]) (sh' := ab_SH) (D' := ab_dD h) (fun n => rfl) ?_
    obtain rfl := Option.some.inj hf
    exact ab_Ex.ret (fun n => rfl) rfl
set_option maxRecDepth 20000 in
theorem sX6_is_L28_1000024 (d : Nat) (X : abX) (h : abJ)   : ∀ (n : Nat), ∀ (y2 : Int32) (z : Int32), fX6_is_L28 1000024 h n y2 = some z → ab_Ex X (d + 4) 93 28 [(0, .ref 9), (1, .ref 1000024), (2, .int y2)] [] ab_SH (ab_dD h) (fun r => r = (some (.int z), ab_SH, ab_dD h)) := by
  intro n
  induction n with
  | zero => intro y2 z hf; cases hf
  | succ n ih =>
    intro y2 z hf
    rw [fX6_is_L28] at hf
    try simp only [Nat.reduceAdd] at hf
    refine ab_Ex.blk (k := 2) (pc' := 30) (lv' := [(0, .ref 9), (1, .ref 1000024), (2, .int y2)]) (st' := [.ref 1000024, .int y2]) (sh' := ab_SH) (D' := ab_dD h) (fun n => rfl) ?_
    obtain ⟨r4, hr4, hf⟩ := ab_bind_s hf
    refine ab_Ex.call (d := d + 3) (M2 := 304) (as := [.ref 1000024]) (rest := [.int y2]) (fun n => rfl) rfl (Nat.not_lt.mpr (Nat.le_of_ble_eq_true rfl)) (sJ0_length_8abf5_1000024 (d + 2) X  h _ hr4) (fun r hr => ?_)
    subst hr
    show ab_Ex X (d + 4) 93 33 [(0, .ref 9), (1, .ref 1000024), (2, .int y2)] [.int r4, .int y2] ab_SH (ab_dD h) _
    refine ab_Ex.ifc (c := r4 ≤ y2) (SA := (75, [(0, .ref 9), (1, .ref 1000024), (2, .int y2)], [], ab_dD h)) (SB := (36, [(0, .ref 9), (1, .ref 1000024), (2, .int y2)], [], ab_dD h)) (fun n => rfl) (fun c5 => ?_) (fun c5 => ?_)
    · replace hf := (if_pos c5).symm.trans hf
      refine ab_Ex.blk (k := 1) (pc' := 76) (lv' := []) (st' := [.int 1]) (sh' := ab_SH) (D' := ab_dD h) (fun n => rfl) ?_
      obtain rfl := Option.some.inj hf
      exact ab_Ex.ret (fun n => rfl) rfl
    · replace hf := (if_neg c5).symm.trans hf
      refine ab_Ex.blk (k := 5) (pc' := 45) (lv' := [(0, .ref 9), (1, .ref 1000024), (2, .int y2)]) (st' := [.int 900, .int (((h.1 9 7) + y2))]) (sh' := ab_SH) (D' := ab_dD h) (fun n => rfl) ?_
      refine ab_Ex.ifc (c := 900 ≤ ((h.1 9 7) + y2)) (SA := (75, [(0, .ref 9), (1, .ref 1000024), (2, .int y2)], [], ab_dD h)) (SB := (48, [(0, .ref 9), (1, .ref 1000024), (2, .int y2)], [], ab_dD h)) (fun n => rfl) (fun c6 => ?_) (fun c6 => ?_)
      · replace hf := (if_pos c6).symm.trans hf
        refine ab_Ex.blk (k := 1) (pc' := 76) (lv' := []) (st' := [.int 1]) (sh' := ab_SH) (D' := ab_dD h) (fun n => rfl) ?_
        obtain rfl := Option.some.inj hf
        exact ab_Ex.ret (fun n => rfl) rfl
      · replace hf := (if_neg c6).symm.trans hf
        refine ab_Ex.blk (k := 6) (pc' := 58) (lv' := [(0, .ref 9), (1, .ref 1000024), (2, .int y2)]) (st' := [.int (((h.1 9 7) + y2)), .ref 11]) (sh' := ab_SH) (D' := ab_dD h) (fun n => rfl) ?_
        obtain ⟨c8, hf⟩ := ab_ask_s hf
        refine ab_Ex.grd (c := ((h.1 9 7) + y2) < 0 ∨ 900 ≤ (((h.1 9 7) + y2) : Int32).toNatClampNeg) (S := (59, [(0, .ref 9), (1, .ref 1000024), (2, .int y2)], [.int ((h.1 11 (((h.1 9 7) + y2) : Int32).toNatClampNeg))], ab_dD h)) (fun n => rfl) c8 ?_
        refine ab_Ex.blk (k := 2) (pc' := 61) (lv' := [(0, .ref 9), (1, .ref 1000024), (2, .int y2)]) (st' := [.int y2, .ref 1000024, .int ((h.1 11 (((h.1 9 7) + y2) : Int32).toNatClampNeg))]) (sh' := ab_SH) (D' := ab_dD h) (fun n => rfl) ?_
        obtain ⟨r9, hr9, hf⟩ := ab_bind_s hf
        refine ab_Ex.call (d := d + 3) (M2 := 305) (as := [.ref 1000024, .int y2]) (rest := [.int ((h.1 11 (((h.1 9 7) + y2) : Int32).toNatClampNeg))]) (fun n => rfl) rfl (Nat.not_lt.mpr (Nat.le_of_ble_eq_true rfl)) (sJ0_charAt_5068e_1000024 (d) X y2 h _ hr9) (fun r hr => ?_)
        subst hr
        show ab_Ex X (d + 4) 93 64 [(0, .ref 9), (1, .ref 1000024), (2, .int y2)] [.int r9, .int ((h.1 11 (((h.1 9 7) + y2) : Int32).toNatClampNeg))] ab_SH (ab_dD h) _
        refine ab_Ex.ifc (c := (h.1 11 (((h.1 9 7) + y2) : Int32).toNatClampNeg) = r9) (SA := (69, [(0, .ref 9), (1, .ref 1000024), (2, .int y2)], [], ab_dD h)) (SB := (67, [(0, .ref 9), (1, .ref 1000024), (2, .int y2)], [], ab_dD h)) (fun n => rfl) (fun c10 => ?_) (fun c10 => ?_)
        · replace hf := (if_pos c10).symm.trans hf
          refine ab_Ex.blk (k := 2) (pc' := 28) (lv' := [(0, .ref 9), (1, .ref 1000024), (2, .int ((y2 + 1)))]) (st' := []) (sh' := ab_SH) (D' := ab_dD h) (fun n => rfl) ?_
          exact ih ((y2 + 1)) _ hf
        · replace hf := (if_neg c10).symm.trans hf
          refine ab_Ex.blk (k := 1) (pc' := 68) (lv' := [(0, .ref 9), (1, .ref 1000024), (2, .int y2)]) (st' := [.int 0]) (sh' := ab_SH) (D' := ab_dD h) (fun n => rfl) ?_
          obtain rfl := Option.some.inj hf
          exact ab_Ex.ret (fun n => rfl) rfl
set_option maxRecDepth 20000 in
theorem sX6_is_1000024 (d : Nat) (X : abX)  (h : abJ) (z : Int32) (hf : fX6_is 1000024 h = some z) : ab_Ex X (d + 4) 93 0 [(0, .ref 9), (1, .ref 1000024)] [] ab_SH (ab_dD h) (fun r => r = (some (.int z), ab_SH, ab_dD h)) := by
  unfold fX6_is at hf
  try simp only [Nat.reduceAdd] at hf
  refine ab_Ex.blk (k := 3) (pc' := 5) (lv' := [(0, .ref 9), (1, .ref 1000024)]) (st' := [.int 3, .int ((h.1 9 6))]) (sh' := ab_SH) (D' := ab_dD h) (fun n => rfl) ?_
  refine ab_Ex.ifc (c := (h.1 9 6) = 3) (SA := (8, [(0, .ref 9), (1, .ref 1000024)], [], ab_dD h)) (SB := (24, [(0, .ref 9), (1, .ref 1000024)], [], ab_dD h)) (fun n => rfl) (fun c1 => ?_) (fun c1 => ?_)
  · replace hf := (if_pos c1).symm.trans hf
    refine ab_Ex.blk (k := 6) (pc' := 18) (lv' := [(0, .ref 9), (1, .ref 1000024)]) (st' := [.ref 1000024, .int (((h.1 9 8) - (h.1 9 7)))]) (sh' := ab_SH) (D' := ab_dD h) (fun n => rfl) ?_
    obtain ⟨r2, hr2, hf⟩ := ab_bind_s hf
    refine ab_Ex.call (d := d + 3) (M2 := 304) (as := [.ref 1000024]) (rest := [.int (((h.1 9 8) - (h.1 9 7)))]) (fun n => rfl) rfl (Nat.not_lt.mpr (Nat.le_of_ble_eq_true rfl)) (sJ0_length_8abf5_1000024 (d + 2) X  h _ hr2) (fun r hr => ?_)
    subst hr
    show ab_Ex X (d + 4) 93 21 [(0, .ref 9), (1, .ref 1000024)] [.int r2, .int (((h.1 9 8) - (h.1 9 7)))] ab_SH (ab_dD h) _
    refine ab_Ex.ifc (c := ((h.1 9 8) - (h.1 9 7)) = r2) (SA := (26, [(0, .ref 9), (1, .ref 1000024)], [], ab_dD h)) (SB := (24, [(0, .ref 9), (1, .ref 1000024)], [], ab_dD h)) (fun n => rfl) (fun c3 => ?_) (fun c3 => ?_)
    · replace hf := (if_pos c3).symm.trans hf
      refine ab_Ex.blk (k := 2) (pc' := 28) (lv' := [(0, .ref 9), (1, .ref 1000024), (2, .int 0)]) (st' := []) (sh' := ab_SH) (D' := ab_dD h) (fun n => rfl) ?_
      exact sX6_is_L28_1000024 d X h ab_N 0 _ hf
    · replace hf := (if_neg c3).symm.trans hf
      refine ab_Ex.blk (k := 1) (pc' := 25) (lv' := []) (st' := [.int 0]) (sh' := ab_SH) (D' := ab_dD h) (fun n => rfl) ?_
      obtain rfl := Option.some.inj hf
      exact ab_Ex.ret (fun n => rfl) rfl
  · replace hf := (if_neg c1).symm.trans hf
    refine ab_Ex.blk (k := 1) (pc' := 25) (lv' := []) (st' := [.int 0]) (sh' := ab_SH) (D' := ab_dD h) (fun n => rfl) ?_
    obtain rfl := Option.some.inj hf
    exact ab_Ex.ret (fun n => rfl) rfl
set_option maxRecDepth 20000 in
theorem sX6_is_L28_1000025 (d : Nat) (X : abX) (h : abJ)   : ∀ (n : Nat), ∀ (y2 : Int32) (z : Int32), fX6_is_L28 1000025 h n y2 = some z → ab_Ex X (d + 4) 93 28 [(0, .ref 9), (1, .ref 1000025), (2, .int y2)] [] ab_SH (ab_dD h) (fun r => r = (some (.int z), ab_SH, ab_dD h)) := by
  intro n
  induction n with
  | zero => intro y2 z hf; cases hf
  | succ n ih =>
    intro y2 z hf
    rw [fX6_is_L28] at hf
    try simp only [Nat.reduceAdd] at hf
    refine ab_Ex.blk (k := 2) (pc' := 30) (lv' := [(0, .ref 9), (1, .ref 1000025), (2, .int y2)]) (st' := [.ref 1000025, .int y2]) (sh' := ab_SH) (D' := ab_dD h) (fun n => rfl) ?_
    obtain ⟨r4, hr4, hf⟩ := ab_bind_s hf
    refine ab_Ex.call (d := d + 3) (M2 := 304) (as := [.ref 1000025]) (rest := [.int y2]) (fun n => rfl) rfl (Nat.not_lt.mpr (Nat.le_of_ble_eq_true rfl)) (sJ0_length_8abf5_1000025 (d + 2) X  h _ hr4) (fun r hr => ?_)
    subst hr
    show ab_Ex X (d + 4) 93 33 [(0, .ref 9), (1, .ref 1000025), (2, .int y2)] [.int r4, .int y2] ab_SH (ab_dD h) _
    refine ab_Ex.ifc (c := r4 ≤ y2) (SA := (75, [(0, .ref 9), (1, .ref 1000025), (2, .int y2)], [], ab_dD h)) (SB := (36, [(0, .ref 9), (1, .ref 1000025), (2, .int y2)], [], ab_dD h)) (fun n => rfl) (fun c5 => ?_) (fun c5 => ?_)
    · replace hf := (if_pos c5).symm.trans hf
      refine ab_Ex.blk (k := 1) (pc' := 76) (lv' := []) (st' := [.int 1]) (sh' := ab_SH) (D' := ab_dD h) (fun n => rfl) ?_
      obtain rfl := Option.some.inj hf
      exact ab_Ex.ret (fun n => rfl) rfl
    · replace hf := (if_neg c5).symm.trans hf
      refine ab_Ex.blk (k := 5) (pc' := 45) (lv' := [(0, .ref 9), (1, .ref 1000025), (2, .int y2)]) (st' := [.int 900, .int (((h.1 9 7) + y2))]) (sh' := ab_SH) (D' := ab_dD h) (fun n => rfl) ?_
      refine ab_Ex.ifc (c := 900 ≤ ((h.1 9 7) + y2)) (SA := (75, [(0, .ref 9), (1, .ref 1000025), (2, .int y2)], [], ab_dD h)) (SB := (48, [(0, .ref 9), (1, .ref 1000025), (2, .int y2)], [], ab_dD h)) (fun n => rfl) (fun c6 => ?_) (fun c6 => ?_)
      · replace hf := (if_pos c6).symm.trans hf
        refine ab_Ex.blk (k := 1) (pc' := 76) (lv' := []) (st' := [.int 1]) (sh' := ab_SH) (D' := ab_dD h) (fun n => rfl) ?_
        obtain rfl := Option.some.inj hf
        exact ab_Ex.ret (fun n => rfl) rfl
      · replace hf := (if_neg c6).symm.trans hf
        refine ab_Ex.blk (k := 6) (pc' := 58) (lv' := [(0, .ref 9), (1, .ref 1000025), (2, .int y2)]) (st' := [.int (((h.1 9 7) + y2)), .ref 11]) (sh' := ab_SH) (D' := ab_dD h) (fun n => rfl) ?_
        obtain ⟨c8, hf⟩ := ab_ask_s hf
        refine ab_Ex.grd (c := ((h.1 9 7) + y2) < 0 ∨ 900 ≤ (((h.1 9 7) + y2) : Int32).toNatClampNeg) (S := (59, [(0, .ref 9), (1, .ref 1000025), (2, .int y2)], [.int ((h.1 11 (((h.1 9 7) + y2) : Int32).toNatClampNeg))], ab_dD h)) (fun n => rfl) c8 ?_
        refine ab_Ex.blk (k := 2) (pc' := 61) (lv' := [(0, .ref 9), (1, .ref 1000025), (2, .int y2)]) (st' := [.int y2, .ref 1000025, .int ((h.1 11 (((h.1 9 7) + y2) : Int32).toNatClampNeg))]) (sh' := ab_SH) (D' := ab_dD h) (fun n => rfl) ?_
        obtain ⟨r9, hr9, hf⟩ := ab_bind_s hf
        refine ab_Ex.call (d := d + 3) (M2 := 305) (as := [.ref 1000025, .int y2]) (rest := [.int ((h.1 11 (((h.1 9 7) + y2) : Int32).toNatClampNeg))]) (fun n => rfl) rfl (Nat.not_lt.mpr (Nat.le_of_ble_eq_true rfl)) (sJ0_charAt_5068e_1000025 (d) X y2 h _ hr9) (fun r hr => ?_)
        subst hr
        show ab_Ex X (d + 4) 93 64 [(0, .ref 9), (1, .ref 1000025), (2, .int y2)] [.int r9, .int ((h.1 11 (((h.1 9 7) + y2) : Int32).toNatClampNeg))] ab_SH (ab_dD h) _
        refine ab_Ex.ifc (c := (h.1 11 (((h.1 9 7) + y2) : Int32).toNatClampNeg) = r9) (SA := (69, [(0, .ref 9), (1, .ref 1000025), (2, .int y2)], [], ab_dD h)) (SB := (67, [(0, .ref 9), (1, .ref 1000025), (2, .int y2)], [], ab_dD h)) (fun n => rfl) (fun c10 => ?_) (fun c10 => ?_)
        · replace hf := (if_pos c10).symm.trans hf
          refine ab_Ex.blk (k := 2) (pc' := 28) (lv' := [(0, .ref 9), (1, .ref 1000025), (2, .int ((y2 + 1)))]) (st' := []) (sh' := ab_SH) (D' := ab_dD h) (fun n => rfl) ?_
          exact ih ((y2 + 1)) _ hf
        · replace hf := (if_neg c10).symm.trans hf
          refine ab_Ex.blk (k := 1) (pc' := 68) (lv' := [(0, .ref 9), (1, .ref 1000025), (2, .int y2)]) (st' := [.int 0]) (sh' := ab_SH) (D' := ab_dD h) (fun n => rfl) ?_
          obtain rfl := Option.some.inj hf
          exact ab_Ex.ret (fun n => rfl) rfl
set_option maxRecDepth 20000 in
theorem sX6_is_1000025 (d : Nat) (X : abX)  (h : abJ) (z : Int32) (hf : fX6_is 1000025 h = some z) : ab_Ex X (d + 4) 93 0 [(0, .ref 9), (1, .ref 1000025)] [] ab_SH (ab_dD h) (fun r => r = (some (.int z), ab_SH, ab_dD h)) := by
  unfold fX6_is at hf
  try simp only [Nat.reduceAdd] at hf
  refine ab_Ex.blk (k := 3) (pc' := 5) (lv' := [(0, .ref 9), (1, .ref 1000025)]) (st' := [.int 3, .int ((h.1 9 6))]) (sh' := ab_SH) (D' := ab_dD h) (fun n => rfl) ?_
  refine ab_Ex.ifc (c := (h.1 9 6) = 3) (SA := (8, [(0, .ref 9), (1, .ref 1000025)], [], ab_dD h)) (SB := (24, [(0, .ref 9), (1, .ref 1000025)], [], ab_dD h)) (fun n => rfl) (fun c1 => ?_) (fun c1 => ?_)
  · replace hf := (if_pos c1).symm.trans hf
    refine ab_Ex.blk (k := 6) (pc' := 18) (lv' := [(0, .ref 9), (1, .ref 1000025)]) (st' := [.ref 1000025, .int (((h.1 9 8) - (h.1 9 7)))]) (sh' := ab_SH) (D' := ab_dD h) (fun n => rfl) ?_
    obtain ⟨r2, hr2, hf⟩ := ab_bind_s hf
    refine ab_Ex.call (d := d + 3) (M2 := 304) (as := [.ref 1000025]) (rest := [.int (((h.1 9 8) - (h.1 9 7)))]) (fun n => rfl) rfl (Nat.not_lt.mpr (Nat.le_of_ble_eq_true rfl)) (sJ0_length_8abf5_1000025 (d + 2) X  h _ hr2) (fun r hr => ?_)
    subst hr
    show ab_Ex X (d + 4) 93 21 [(0, .ref 9), (1, .ref 1000025)] [.int r2, .int (((h.1 9 8) - (h.1 9 7)))] ab_SH (ab_dD h) _
    refine ab_Ex.ifc (c := ((h.1 9 8) - (h.1 9 7)) = r2) (SA := (26, [(0, .ref 9), (1, .ref 1000025)], [], ab_dD h)) (SB := (24, [(0, .ref 9), (1, .ref 1000025)], [], ab_dD h)) (fun n => rfl) (fun c3 => ?_) (fun c3 => ?_)
    · replace hf := (if_pos c3).symm.trans hf
      refine ab_Ex.blk (k := 2) (pc' := 28) (lv' := [(0, .ref 9), (1, .ref 1000025), (2, .int 0)]) (st' := []) (sh' := ab_SH) (D' := ab_dD h) (fun n => rfl) ?_
      exact sX6_is_L28_1000025 d X h ab_N 0 _ hf
    · replace hf := (if_neg c3).symm.trans hf
      refine ab_Ex.blk (k := 1) (pc' := 25) (lv' := []) (st' := [.int 0]) (sh' := ab_SH) (D' := ab_dD h) (fun n => rfl) ?_
      obtain rfl := Option.some.inj hf
      exact ab_Ex.ret (fun n => rfl) rfl
  · replace hf := (if_neg c1).symm.trans hf
    refine ab_Ex.blk (k := 1) (pc' := 25) (lv' := []) (st' := [.int 0]) (sh' := ab_SH) (D' := ab_dD h) (fun n => rfl) ?_
    obtain rfl := Option.some.inj hf
    exact ab_Ex.ret (fun n => rfl) rfl
set_option maxRecDepth 20000 in
theorem sX6_is_L28_1000026 (d : Nat) (X : abX) (h : abJ)   : ∀ (n : Nat), ∀ (y2 : Int32) (z : Int32), fX6_is_L28 1000026 h n y2 = some z → ab_Ex X (d + 4) 93 28 [(0, .ref 9), (1, .ref 1000026), (2, .int y2)] [] ab_SH (ab_dD h) (fun r => r = (some (.int z), ab_SH, ab_dD h)) := by
  intro n
  induction n with
  | zero => intro y2 z hf; cases hf
  | succ n ih =>
    intro y2 z hf
    rw [fX6_is_L28] at hf
    try simp only [Nat.reduceAdd] at hf
    refine ab_Ex.blk (k := 2) (pc' := 30) (lv' := [(0, .ref 9), (1, .ref 1000026), (2, .int y2)]) (st' := [.ref 1000026, .int y2]) (sh' := ab_SH) (D' := ab_dD h) (fun n => rfl) ?_
    obtain ⟨r4, hr4, hf⟩ := ab_bind_s hf
    refine ab_Ex.call (d := d + 3) (M2 := 304) (as := [.ref 1000026]) (rest := [.int y2]) (fun n => rfl) rfl (Nat.not_lt.mpr (Nat.le_of_ble_eq_true rfl)) (sJ0_length_8abf5_1000026 (d + 2) X  h _ hr4) (fun r hr => ?_)
    subst hr
    show ab_Ex X (d + 4) 93 33 [(0, .ref 9), (1, .ref 1000026), (2, .int y2)] [.int r4, .int y2] ab_SH (ab_dD h) _
    refine ab_Ex.ifc (c := r4 ≤ y2) (SA := (75, [(0, .ref 9), (1, .ref 1000026), (2, .int y2)], [], ab_dD h)) (SB := (36, [(0, .ref 9), (1, .ref 1000026), (2, .int y2)], [], ab_dD h)) (fun n => rfl) (fun c5 => ?_) (fun c5 => ?_)
    · replace hf := (if_pos c5).symm.trans hf
      refine ab_Ex.blk (k := 1) (pc' := 76) (lv' := []) (st' := [.int 1]) (sh' := ab_SH) (D' := ab_dD h) (fun n => rfl) ?_
      obtain rfl := Option.some.inj hf
      exact ab_Ex.ret (fun n => rfl) rfl
    · replace hf := (if_neg c5).symm.trans hf
      refine ab_Ex.blk (k := 5) (pc' := 45) (lv' := [(0, .ref 9), (1, .ref 1000026), (2, .int y2)]) (st' := [.int 900, .int (((h.1 9 7) + y2))]) (sh' := ab_SH) (D' := ab_dD h) (fun n => rfl) ?_
      refine ab_Ex.ifc (c := 900 ≤ ((h.1 9 7) + y2)) (SA := (75, [(0, .ref 9), (1, .ref 1000026), (2, .int y2)], [], ab_dD h)) (SB := (48, [(0, .ref 9), (1, .ref 1000026), (2, .int y2)], [], ab_dD h)) (fun n => rfl) (fun c6 => ?_) (fun c6 => ?_)
      · replace hf := (if_pos c6).symm.trans hf
        refine ab_Ex.blk (k := 1) (pc' := 76) (lv' := []) (st' := [.int 1]) (sh' := ab_SH) (D' := ab_dD h) (fun n => rfl) ?_
        obtain rfl := Option.some.inj hf
        exact ab_Ex.ret (fun n => rfl) rfl
      · replace hf := (if_neg c6).symm.trans hf
        refine ab_Ex.blk (k := 6) (pc' := 58) (lv' := [(0, .ref 9), (1, .ref 1000026), (2, .int y2)]) (st' := [.int (((h.1 9 7) + y2)), .ref 11]) (sh' := ab_SH) (D' := ab_dD h) (fun n => rfl) ?_
        obtain ⟨c8, hf⟩ := ab_ask_s hf
        refine ab_Ex.grd (c := ((h.1 9 7) + y2) < 0 ∨ 900 ≤ (((h.1 9 7) + y2) : Int32).toNatClampNeg) (S := (59, [(0, .ref 9), (1, .ref 1000026), (2, .int y2)], [.int ((h.1 11 (((h.1 9 7) + y2) : Int32).toNatClampNeg))], ab_dD h)) (fun n => rfl) c8 ?_
        refine ab_Ex.blk (k := 2) (pc' := 61) (lv' := [(0, .ref 9), (1, .ref 1000026), (2, .int y2)]) (st' := [.int y2, .ref 1000026, .int ((h.1 11 (((h.1 9 7) + y2) : Int32).toNatClampNeg))]) (sh' := ab_SH) (D' := ab_dD h) (fun n => rfl) ?_
        obtain ⟨r9, hr9, hf⟩ := ab_bind_s hf
        refine ab_Ex.call (d := d + 3) (M2 := 305) (as := [.ref 1000026, .int y2]) (rest := [.int ((h.1 11 (((h.1 9 7) + y2) : Int32).toNatClampNeg))]) (fun n => rfl) rfl (Nat.not_lt.mpr (Nat.le_of_ble_eq_true rfl)) (sJ0_charAt_5068e_1000026 (d) X y2 h _ hr9) (fun r hr => ?_)
        subst hr
        show ab_Ex X (d + 4) 93 64 [(0, .ref 9), (1, .ref 1000026), (2, .int y2)] [.int r9, .int ((h.1 11 (((h.1 9 7) + y2) : Int32).toNatClampNeg))] ab_SH (ab_dD h) _
        refine ab_Ex.ifc (c := (h.1 11 (((h.1 9 7) + y2) : Int32).toNatClampNeg) = r9) (SA := (69, [(0, .ref 9), (1, .ref 1000026), (2, .int y2)], [], ab_dD h)) (SB := (67, [(0, .ref 9), (1, .ref 1000026), (2, .int y2)], [], ab_dD h)) (fun n => rfl) (fun c10 => ?_) (fun c10 => ?_)
        · replace hf := (if_pos c10).symm.trans hf
          refine ab_Ex.blk (k := 2) (pc' := 28) (lv' := [(0, .ref 9), (1, .ref 1000026), (2, .int ((y2 + 1)))]) (st' := []) (sh' := ab_SH) (D' := ab_dD h) (fun n => rfl) ?_
          exact ih ((y2 + 1)) _ hf
        · replace hf := (if_neg c10).symm.trans hf
          refine ab_Ex.blk (k := 1) (pc' := 68) (lv' := [(0, .ref 9), (1, .ref 1000026), (2, .int y2)]) (st' := [.int 0]) (sh' := ab_SH) (D' := ab_dD h) (fun n => rfl) ?_
          obtain rfl := Option.some.inj hf
          exact ab_Ex.ret (fun n => rfl) rfl
set_option maxRecDepth 20000 in
theorem sX6_is_1000026 (d : Nat) (X : abX)  (h : abJ) (z : Int32) (hf : fX6_is 1000026 h = some z) : ab_Ex X (d + 4) 93 0 [(0, .ref 9), (1, .ref 1000026)] [] ab_SH (ab_dD h) (fun r => r = (some (.int z), ab_SH, ab_dD h)) := by
  unfold fX6_is at hf
  try simp only [Nat.reduceAdd] at hf
  refine ab_Ex.blk (k := 3) (pc' := 5) (lv' := [(0, .ref 9), (1, .ref 1000026)]) (st' := [.int 3, .int ((h.1 9 6))]) (sh' := ab_SH) (D' := ab_dD h) (fun n => rfl) ?_
  refine ab_Ex.ifc (c := (h.1 9 6) = 3) (SA := (8, [(0, .ref 9), (1, .ref 1000026)], [], ab_dD h)) (SB := (24, [(0, .ref 9), (1, .ref 1000026)], [], ab_dD h)) (fun n => rfl) (fun c1 => ?_) (fun c1 => ?_)
  · replace hf := (if_pos c1).symm.trans hf
    refine ab_Ex.blk (k := 6) (pc' := 18) (lv' := [(0, .ref 9), (1, .ref 1000026)]) (st' := [.ref 1000026, .int (((h.1 9 8) - (h.1 9 7)))]) (sh' := ab_SH) (D' := ab_dD h) (fun n => rfl) ?_
    obtain ⟨r2, hr2, hf⟩ := ab_bind_s hf
    refine ab_Ex.call (d := d + 3) (M2 := 304) (as := [.ref 1000026]) (rest := [.int (((h.1 9 8) - (h.1 9 7)))]) (fun n => rfl) rfl (Nat.not_lt.mpr (Nat.le_of_ble_eq_true rfl)) (sJ0_length_8abf5_1000026 (d + 2) X  h _ hr2) (fun r hr => ?_)
    subst hr
    show ab_Ex X (d + 4) 93 21 [(0, .ref 9), (1, .ref 1000026)] [.int r2, .int (((h.1 9 8) - (h.1 9 7)))] ab_SH (ab_dD h) _
    refine ab_Ex.ifc (c := ((h.1 9 8) - (h.1 9 7)) = r2) (SA := (26, [(0, .ref 9), (1, .ref 1000026)], [], ab_dD h)) (SB := (24, [(0, .ref 9), (1, .ref 1000026)], [], ab_dD h)) (fun n => rfl) (fun c3 => ?_) (fun c3 => ?_)
    · replace hf := (if_pos c3).symm.trans hf
      refine ab_Ex.blk (k := 2) (pc' := 28) (lv' := [(0, .ref 9), (1, .ref 1000026), (2, .int 0)]) (st' := []) (sh' := ab_SH) (D' := ab_dD h) (fun n => rfl) ?_
      exact sX6_is_L28_1000026 d X h ab_N 0 _ hf
    · replace hf := (if_neg c3).symm.trans hf
      refine ab_Ex.blk (k := 1) (pc' := 25) (lv' := []) (st' := [.int 0]) (sh' := ab_SH) (D' := ab_dD h) (fun n => rfl) ?_
      obtain rfl := Option.some.inj hf
      exact ab_Ex.ret (fun n => rfl) rfl
  · replace hf := (if_neg c1).symm.trans hf
    refine ab_Ex.blk (k := 1) (pc' := 25) (lv' := []) (st' := [.int 0]) (sh' := ab_SH) (D' := ab_dD h) (fun n => rfl) ?_
    obtain rfl := Option.some.inj hf
    exact ab_Ex.ret (fun n => rfl) rfl
set_option maxRecDepth 20000 in
theorem sX6_is_L28_1000027 (d : Nat) (X : abX) (h : abJ)   : ∀ (n : Nat), ∀ (y2 : Int32) (z : Int32), fX6_is_L28 1000027 h n y2 = some z → ab_Ex X (d + 4) 93 28 [(0, .ref 9), (1, .ref 1000027), (2, .int y2)] [] ab_SH (ab_dD h) (fun r => r = (some (.int z), ab_SH, ab_dD h)) := by
  intro n
  induction n with
  | zero => intro y2 z hf; cases hf
  | succ n ih =>
    intro y2 z hf
    rw [fX6_is_L28] at hf
    try simp only [Nat.reduceAdd] at hf
    refine ab_Ex.blk (k := 2) (pc' := 30) (lv' := [(0, .ref 9), (1, .ref 1000027), (2, .int y2)]) (st' := [.ref 1000027, .int y2]) (sh' := ab_SH) (D' := ab_dD h) (fun n => rfl) ?_
    obtain ⟨r4, hr4, hf⟩ := ab_bind_s hf
    refine ab_Ex.call (d := d + 3) (M2 := 304) (as := [.ref 1000027]) (rest := [.int y2]) (fun n => rfl) rfl (Nat.not_lt.mpr (Nat.le_of_ble_eq_true rfl)) (sJ0_length_8abf5_1000027 (d + 2) X  h _ hr4) (fun r hr => ?_)
    subst hr
    show ab_Ex X (d + 4) 93 33 [(0, .ref 9), (1, .ref 1000027), (2, .int y2)] [.int r4, .int y2] ab_SH (ab_dD h) _
    refine ab_Ex.ifc (c := r4 ≤ y2) (SA := (75, [(0, .ref 9), (1, .ref 1000027), (2, .int y2)], [], ab_dD h)) (SB := (36, [(0, .ref 9), (1, .ref 1000027), (2, .int y2)], [], ab_dD h)) (fun n => rfl) (fun c5 => ?_) (fun c5 => ?_)
    · replace hf := (if_pos c5).symm.trans hf
      refine ab_Ex.blk (k := 1) (pc' := 76) (lv' := []) (st' := [.int 1]) (sh' := ab_SH) (D' := ab_dD h) (fun n => rfl) ?_
      obtain rfl := Option.some.inj hf
      exact ab_Ex.ret (fun n => rfl) rfl
    · replace hf := (if_neg c5).symm.trans hf
      refine ab_Ex.blk (k := 5) (pc' := 45) (lv' := [(0, .ref 9), (1, .ref 1000027), (2, .int y2)]) (st' := [.int 900, .int (((h.1 9 7) + y2))]) (sh' := ab_SH) (D' := ab_dD h) (fun n => rfl) ?_
      refine ab_Ex.ifc (c := 900 ≤ ((h.1 9 7) + y2)) (SA := (75, [(0, .ref 9), (1, .ref 1000027), (2, .int y2)], [], ab_dD h)) (SB := (48, [(0, .ref 9), (1, .ref 1000027), (2, .int y2)], [], ab_dD h)) (fun n => rfl) (fun c6 => ?_) (fun c6 => ?_)
      · replace hf := (if_pos c6).symm.trans hf
        refine ab_Ex.blk (k := 1) (pc' := 76) (lv' := []) (st' := [.int 1]) (sh' := ab_SH) (D' := ab_dD h) (fun n => rfl) ?_
        obtain rfl := Option.some.inj hf
        exact ab_Ex.ret (fun n => rfl) rfl
      · replace hf := (if_neg c6).symm.trans hf
        refine ab_Ex.blk (k := 6) (pc' := 58) (lv' := [(0, .ref 9), (1, .ref 1000027), (2, .int y2)]) (st' := [.int (((h.1 9 7) + y2)), .ref 11]) (sh' := ab_SH) (D' := ab_dD h) (fun n => rfl) ?_
        obtain ⟨c8, hf⟩ := ab_ask_s hf
        refine ab_Ex.grd (c := ((h.1 9 7) + y2) < 0 ∨ 900 ≤ (((h.1 9 7) + y2) : Int32).toNatClampNeg) (S := (59, [(0, .ref 9), (1, .ref 1000027), (2, .int y2)], [.int ((h.1 11 (((h.1 9 7) + y2) : Int32).toNatClampNeg))], ab_dD h)) (fun n => rfl) c8 ?_
        refine ab_Ex.blk (k := 2) (pc' := 61) (lv' := [(0, .ref 9), (1, .ref 1000027), (2, .int y2)]) (st' := [.int y2, .ref 1000027, .int ((h.1 11 (((h.1 9 7) + y2) : Int32).toNatClampNeg))]) (sh' := ab_SH) (D' := ab_dD h) (fun n => rfl) ?_
        obtain ⟨r9, hr9, hf⟩ := ab_bind_s hf
        refine ab_Ex.call (d := d + 3) (M2 := 305) (as := [.ref 1000027, .int y2]) (rest := [.int ((h.1 11 (((h.1 9 7) + y2) : Int32).toNatClampNeg))]) (fun n => rfl) rfl (Nat.not_lt.mpr (Nat.le_of_ble_eq_true rfl)) (sJ0_charAt_5068e_1000027 (d) X y2 h _ hr9) (fun r hr => ?_)
        subst hr
        show ab_Ex X (d + 4) 93 64 [(0, .ref 9), (1, .ref 1000027), (2, .int y2)] [.int r9, .int ((h.1 11 (((h.1 9 7) + y2) : Int32).toNatClampNeg))] ab_SH (ab_dD h) _
        refine ab_Ex.ifc (c := (h.1 11 (((h.1 9 7) + y2) : Int32).toNatClampNeg) = r9) (SA := (69, [(0, .ref 9), (1, .ref 1000027), (2, .int y2)], [], ab_dD h)) (SB := (67, [(0, .ref 9), (1, .ref 1000027), (2, .int y2)], [], ab_dD h)) (fun n => rfl) (fun c10 => ?_) (fun c10 => ?_)
        · replace hf := (if_pos c10).symm.trans hf
          refine ab_Ex.blk (k := 2) (pc' := 28) (lv' := [(0, .ref 9), (1, .ref 1000027), (2, .int ((y2 + 1)))]) (st' := []) (sh' := ab_SH) (D' := ab_dD h) (fun n => rfl) ?_
          exact ih ((y2 + 1)) _ hf
        · replace hf := (if_neg c10).symm.trans hf
          refine ab_Ex.blk (k := 1) (pc' := 68) (lv' := [(0, .ref 9), (1, .ref 1000027), (2, .int y2)]) (st' := [.int 0]) (sh' := ab_SH) (D' := ab_dD h) (fun n => rfl) ?_
          obtain rfl := Option.some.inj hf
          exact ab_Ex.ret (fun n => rfl) rfl
set_option maxRecDepth 20000 in
theorem sX6_is_1000027 (d : Nat) (X : abX)  (h : abJ) (z : Int32) (hf : fX6_is 1000027 h = some z) : ab_Ex X (d + 4) 93 0 [(0, .ref 9), (1, .ref 1000027)] [] ab_SH (ab_dD h) (fun r => r = (some (.int z), ab_SH, ab_dD h)) := by
  unfold fX6_is at hf
  try simp only [Nat.reduceAdd] at hf
  refine ab_Ex.blk (k := 3) (pc' := 5) (lv' := [(0, .ref 9), (1, .ref 1000027)]) (st' := [.int 3, .int ((h.1 9 6))]) (sh' := ab_SH) (D' := ab_dD h) (fun n => rfl) ?_
  refine ab_Ex.ifc (c := (h.1 9 6) = 3) (SA := (8, [(0, .ref 9), (1, .ref 1000027)], [], ab_dD h)) (SB := (24, [(0, .ref 9), (1, .ref 1000027)], [], ab_dD h)) (fun n => rfl) (fun c1 => ?_) (fun c1 => ?_)
  · replace hf := (if_pos c1).symm.trans hf
    refine ab_Ex.blk (k := 6) (pc' := 18) (lv' := [(0, .ref 9), (1, .ref 1000027)]) (st' := [.ref 1000027, .int (((h.1 9 8) - (h.1 9 7)))]) (sh' := ab_SH) (D' := ab_dD h) (fun n => rfl) ?_
    obtain ⟨r2, hr2, hf⟩ := ab_bind_s hf
    refine ab_Ex.call (d := d + 3) (M2 := 304) (as := [.ref 1000027]) (rest := [.int (((h.1 9 8) - (h.1 9 7)))]) (fun n => rfl) rfl (Nat.not_lt.mpr (Nat.le_of_ble_eq_true rfl)) (sJ0_length_8abf5_1000027 (d + 2) X  h _ hr2) (fun r hr => ?_)
    subst hr
    show ab_Ex X (d + 4) 93 21 [(0, .ref 9), (1, .ref 1000027)] [.int r2, .int (((h.1 9 8) - (h.1 9 7)))] ab_SH (ab_dD h) _
    refine ab_Ex.ifc (c := ((h.1 9 8) - (h.1 9 7)) = r2) (SA := (26, [(0, .ref 9), (1, .ref 1000027)], [], ab_dD h)) (SB := (24, [(0, .ref 9), (1, .ref 1000027)], [], ab_dD h)) (fun n => rfl) (fun c3 => ?_) (fun c3 => ?_)
    · replace hf := (if_pos c3).symm.trans hf
      refine ab_Ex.blk (k := 2) (pc' := 28) (lv' := [(0, .ref 9), (1, .ref 1000027), (2, .int 0)]) (st' := []) (sh' := ab_SH) (D' := ab_dD h) (fun n => rfl) ?_
      exact sX6_is_L28_1000027 d X h ab_N 0 _ hf
    · replace hf := (if_neg c3).symm.trans hf
      refine ab_Ex.blk (k := 1) (pc' := 25) (lv' := []) (st' := [.int 0]) (sh' := ab_SH) (D' := ab_dD h) (fun n => rfl) ?_
      obtain rfl := Option.some.inj hf
      exact ab_Ex.ret (fun n => rfl) rfl
  · replace hf := (if_neg c1).symm.trans hf
    refine ab_Ex.blk (k := 1) (pc' := 25) (lv' := []) (st' := [.int 0]) (sh' := ab_SH) (D' := ab_dD h) (fun n => rfl) ?_
    obtain rfl := Option.some.inj hf
    exact ab_Ex.ret (fun n => rfl) rfl
set_option maxRecDepth 20000 in
theorem sX6_is_L28_1000028 (d : Nat) (X : abX) (h : abJ)   : ∀ (n : Nat), ∀ (y2 : Int32) (z : Int32), fX6_is_L28 1000028 h n y2 = some z → ab_Ex X (d + 4) 93 28 [(0, .ref 9), (1, .ref 1000028), (2, .int y2)] [] ab_SH (ab_dD h) (fun r => r = (some (.int z), ab_SH, ab_dD h)) := by
  intro n
  induction n with
  | zero => intro y2 z hf; cases hf
  | succ n ih =>
    intro y2 z hf
    rw [fX6_is_L28] at hf
    try simp only [Nat.reduceAdd] at hf
    refine ab_Ex.blk (k := 2) (pc' := 30) (lv' := [(0, .ref 9), (1, .ref 1000028), (2, .int y2)]) (st' := [.ref 1000028, .int y2]) (sh' := ab_SH) (D' := ab_dD h) (fun n => rfl) ?_
    obtain ⟨r4, hr4, hf⟩ := ab_bind_s hf
    refine ab_Ex.call (d := d + 3) (M2 := 304) (as := [.ref 1000028]) (rest := [.int y2]) (fun n => rfl) rfl (Nat.not_lt.mpr (Nat.le_of_ble_eq_true rfl)) (sJ0_length_8abf5_1000028 (d + 2) X  h _ hr4) (fun r hr => ?_)
    subst hr
    show ab_Ex X (d + 4) 93 33 [(0, .ref 9), (1, .ref 1000028), (2, .int y2)] [.int r4, .int y2] ab_SH (ab_dD h) _
    refine ab_Ex.ifc (c := r4 ≤ y2) (SA := (75, [(0, .ref 9), (1, .ref 1000028), (2, .int y2)], [], ab_dD h)) (SB := (36, [(0, .ref 9), (1, .ref 1000028), (2, .int y2)], [], ab_dD h)) (fun n => rfl) (fun c5 => ?_) (fun c5 => ?_)
    · replace hf := (if_pos c5).symm.trans hf
      refine ab_Ex.blk (k := 1) (pc' := 76) (lv' := []) (st' := [.int 1]) (sh' := ab_SH) (D' := ab_dD h) (fun n => rfl) ?_
      obtain rfl := Option.some.inj hf
      exact ab_Ex.ret (fun n => rfl) rfl
    · replace hf := (if_neg c5).symm.trans hf
      refine ab_Ex.blk (k := 5) (pc' := 45) (lv' := [(0, .ref 9), (1, .ref 1000028), (2, .int y2)]) (st' := [.int 900, .int (((h.1 9 7) + y2))]) (sh' := ab_SH) (D' := ab_dD h) (fun n => rfl) ?_
      refine ab_Ex.ifc (c := 900 ≤ ((h.1 9 7) + y2)) (SA := (75, [(0, .ref 9), (1, .ref 1000028), (2, .int y2)], [], ab_dD h)) (SB := (48, [(0, .ref 9), (1, .ref 1000028), (2, .int y2)], [], ab_dD h)) (fun n => rfl) (fun c6 => ?_) (fun c6 => ?_)
      · replace hf := (if_pos c6).symm.trans hf
        refine ab_Ex.blk (k := 1) (pc' := 76) (lv' := []) (st' := [.int 1]) (sh' := ab_SH) (D' := ab_dD h) (fun n => rfl) ?_
        obtain rfl := Option.some.inj hf
        exact ab_Ex.ret (fun n => rfl) rfl
      · replace hf := (if_neg c6).symm.trans hf
        refine ab_Ex.blk (k := 6) (pc' := 58) (lv' := [(0, .ref 9), (1, .ref 1000028), (2, .int y2)]) (st' := [.int (((h.1 9 7) + y2)), .ref 11]) (sh' := ab_SH) (D' := ab_dD h) (fun n => rfl) ?_
        obtain ⟨c8, hf⟩ := ab_ask_s hf
        refine ab_Ex.grd (c := ((h.1 9 7) + y2) < 0 ∨ 900 ≤ (((h.1 9 7) + y2) : Int32).toNatClampNeg) (S := (59, [(0, .ref 9), (1, .ref 1000028), (2, .int y2)], [.int ((h.1 11 (((h.1 9 7) + y2) : Int32).toNatClampNeg))], ab_dD h)) (fun n => rfl) c8 ?_
        refine ab_Ex.blk (k := 2) (pc' := 61) (lv' := [(0, .ref 9), (1, .ref 1000028), (2, .int y2)]) (st' := [.int y2, .ref 1000028, .int ((h.1 11 (((h.1 9 7) + y2) : Int32).toNatClampNeg))]) (sh' := ab_SH) (D' := ab_dD h) (fun n => rfl) ?_
        obtain ⟨r9, hr9, hf⟩ := ab_bind_s hf
        refine ab_Ex.call (d := d + 3) (M2 := 305) (as := [.ref 1000028, .int y2]) (rest := [.int ((h.1 11 (((h.1 9 7) + y2) : Int32).toNatClampNeg))]) (fun n => rfl) rfl (Nat.not_lt.mpr (Nat.le_of_ble_eq_true rfl)) (sJ0_charAt_5068e_1000028 (d) X y2 h _ hr9) (fun r hr => ?_)
        subst hr
        show ab_Ex X (d + 4) 93 64 [(0, .ref 9), (1, .ref 1000028), (2, .int y2)] [.int r9, .int ((h.1 11 (((h.1 9 7) + y2) : Int32).toNatClampNeg))] ab_SH (ab_dD h) _
        refine ab_Ex.ifc (c := (h.1 11 (((h.1 9 7) + y2) : Int32).toNatClampNeg) = r9) (SA := (69, [(0, .ref 9), (1, .ref 1000028), (2, .int y2)], [], ab_dD h)) (SB := (67, [(0, .ref 9), (1, .ref 1000028), (2, .int y2)], [], ab_dD h)) (fun n => rfl) (fun c10 => ?_) (fun c10 => ?_)
        · replace hf := (if_pos c10).symm.trans hf
          refine ab_Ex.blk (k := 2) (pc' := 28) (lv' := [(0, .ref 9), (1, .ref 1000028), (2, .int ((y2 + 1)))]) (st' := []) (sh' := ab_SH) (D' := ab_dD h) (fun n => rfl) ?_
          exact ih ((y2 + 1)) _ hf
        · replace hf := (if_neg c10).symm.trans hf
          refine ab_Ex.blk (k := 1) (pc' := 68) (lv' := [(0, .ref 9), (1, .ref 1000028), (2, .int y2)]) (st' := [.int 0]) (sh' := ab_SH) (D' := ab_dD h) (fun n => rfl) ?_
          obtain rfl := Option.some.inj hf
          exact ab_Ex.ret (fun n => rfl) rfl
set_option maxRecDepth 20000 in
theorem sX6_is_1000028 (d : Nat) (X : abX)  (h : abJ) (z : Int32) (hf : fX6_is 1000028 h = some z) : ab_Ex X (d + 4) 93 0 [(0, .ref 9), (1, .ref 1000028)] [] ab_SH (ab_dD h) (fun r => r = (some (.int z), ab_SH, ab_dD h)) := by
  unfold fX6_is at hf
  try simp only [Nat.reduceAdd] at hf
  refine ab_Ex.blk (k := 3) (pc' := 5) (lv' := [(0, .ref 9), (1, .ref 1000028)]) (st' := [.int 3, .int ((h.1 9 6))]) (sh' := ab_SH) (D' := ab_dD h) (fun n => rfl) ?_
  refine ab_Ex.ifc (c := (h.1 9 6) = 3) (SA := (8, [(0, .ref 9), (1, .ref 1000028)], [], ab_dD h)) (SB := (24, [(0, .ref 9), (1, .ref 1000028)], [], ab_dD h)) (fun n => rfl) (fun c1 => ?_) (fun c1 => ?_)
  · replace hf := (if_pos c1).symm.trans hf
    refine ab_Ex.blk (k := 6) (pc' := 18) (lv' := [(0, .ref 9), (1, .ref 1000028)]) (st' := [.ref 1000028, .int (((h.1 9 8) - (h.1 9 7)))]) (sh' := ab_SH) (D' := ab_dD h) (fun n => rfl) ?_
    obtain ⟨r2, hr2, hf⟩ := ab_bind_s hf
    refine ab_Ex.call (d := d + 3) (M2 := 304) (as := [.ref 1000028]) (rest := [.int (((h.1 9 8) - (h.1 9 7)))]) (fun n => rfl) rfl (Nat.not_lt.mpr (Nat.le_of_ble_eq_true rfl)) (sJ0_length_8abf5_1000028 (d + 2) X  h _ hr2) (fun r hr => ?_)
    subst hr
    show ab_Ex X (d + 4) 93 21 [(0, .ref 9), (1, .ref 1000028)] [.int r2, .int (((h.1 9 8) - (h.1 9 7)))] ab_SH (ab_dD h) _
    refine ab_Ex.ifc (c := ((h.1 9 8) - (h.1 9 7)) = r2) (SA := (26, [(0, .ref 9), (1, .ref 1000028)], [], ab_dD h)) (SB := (24, [(0, .ref 9), (1, .ref 1000028)], [], ab_dD h)) (fun n => rfl) (fun c3 => ?_) (fun c3 => ?_)
    · replace hf := (if_pos c3).symm.trans hf
      refine ab_Ex.blk (k := 2) (pc' := 28) (lv' := [(0, .ref 9), (1, .ref 1000028), (2, .int 0)]) (st' := []) (sh' := ab_SH) (D' := ab_dD h) (fun n => rfl) ?_
      exact sX6_is_L28_1000028 d X h ab_N 0 _ hf
    · replace hf := (if_neg c3).symm.trans hf
      refine ab_Ex.blk (k := 1) (pc' := 25) (lv' := []) (st' := [.int 0]) (sh' := ab_SH) (D' := ab_dD h) (fun n => rfl) ?_
      obtain rfl := Option.some.inj hf
      exact ab_Ex.ret (fun n => rfl) rfl
  · replace hf := (if_neg c1).symm.trans hf
    refine ab_Ex.blk (k := 1) (pc' := 25) (lv' := []) (st' := [.int 0]) (sh' := ab_SH) (D' := ab_dD h) (fun n => rfl) ?_
    obtain rfl := Option.some.inj hf
    exact ab_Ex.ret (fun n => rfl) rfl
set_option maxRecDepth 20000 in
theorem sX6_is_L28_1000029 (d : Nat) (X : abX) (h : abJ)   : ∀ (n : Nat), ∀ (y2 : Int32) (z : Int32), fX6_is_L28 1000029 h n y2 = some z → ab_Ex X (d + 4) 93 28 [(0, .ref 9), (1, .ref 1000029), (2, .int y2)] [] ab_SH (ab_dD h) (fun r => r = (some (.int z), ab_SH, ab_dD h)) := by
  intro n
  induction n with
  | zero => intro y2 z hf; cases hf
  | succ n ih =>
    intro y2 z hf
    rw [fX6_is_L28] at hf
    try simp only [Nat.reduceAdd] at hf
    refine ab_Ex.blk (k := 2) (pc' := 30) (lv' := [(0, .ref 9), (1, .ref 1000029), (2, .int y2)]) (st' := [.ref 1000029, .int y2]) (sh' := ab_SH) (D' := ab_dD h) (fun n => rfl) ?_
    obtain ⟨r4, hr4, hf⟩ := ab_bind_s hf
    refine ab_Ex.call (d := d + 3) (M2 := 304) (as := [.ref 1000029]) (rest := [.int y2]) (fun n => rfl) rfl (Nat.not_lt.mpr (Nat.le_of_ble_eq_true rfl)) (sJ0_length_8abf5_1000029 (d + 2) X  h _ hr4) (fun r hr => ?_)
    subst hr
    show ab_Ex X (d + 4) 93 33 [(0, .ref 9), (1, .ref 1000029), (2, .int y2)] [.int r4, .int y2] ab_SH (ab_dD h) _
    refine ab_Ex.ifc (c := r4 ≤ y2) (SA := (75, [(0, .ref 9), (1, .ref 1000029), (2, .int y2)], [], ab_dD h)) (SB := (36, [(0, .ref 9), (1, .ref 1000029), (2, .int y2)], [], ab_dD h)) (fun n => rfl) (fun c5 => ?_) (fun c5 => ?_)
    · replace hf := (if_pos c5).symm.trans hf
      refine ab_Ex.blk (k := 1) (pc' := 76) (lv' := []) (st' := [.int 1]) (sh' := ab_SH) (D' := ab_dD h) (fun n => rfl) ?_
      obtain rfl := Option.some.inj hf
      exact ab_Ex.ret (fun n => rfl) rfl
    · replace hf := (if_neg c5).symm.trans hf
      refine ab_Ex.blk (k := 5) (pc' := 45) (lv' := [(0, .ref 9), (1, .ref 1000029), (2, .int y2)]) (st' := [.int 900, .int (((h.1 9 7) + y2))]) (sh' := ab_SH) (D' := ab_dD h) (fun n => rfl) ?_
      refine ab_Ex.ifc (c := 900 ≤ ((h.1 9 7) + y2)) (SA := (75, [(0, .ref 9), (1, .ref 1000029), (2, .int y2)], [], ab_dD h)) (SB := (48, [(0, .ref 9), (1, .ref 1000029), (2, .int y2)], [], ab_dD h)) (fun n => rfl) (fun c6 => ?_) (fun c6 => ?_)
      · replace hf := (if_pos c6).symm.trans hf
        refine ab_Ex.blk (k := 1) (pc' := 76) (lv' := []) (st' := [.int 1]) (sh' := ab_SH) (D' := ab_dD h) (fun n => rfl) ?_
        obtain rfl := Option.some.inj hf
        exact ab_Ex.ret (fun n => rfl) rfl
      · replace hf := (if_neg c6).symm.trans hf
        refine ab_Ex.blk (k := 6) (pc' := 58) (lv' := [(0, .ref 9), (1, .ref 1000029), (2, .int y2)]) (st' := [.int (((h.1 9 7) + y2)), .ref 11]) (sh' := ab_SH) (D' := ab_dD h) (fun n => rfl) ?_
        obtain ⟨c8, hf⟩ := ab_ask_s hf
        refine ab_Ex.grd (c := ((h.1 9 7) + y2) < 0 ∨ 900 ≤ (((h.1 9 7) + y2) : Int32).toNatClampNeg) (S := (59, [(0, .ref 9), (1, .ref 1000029), (2, .int y2)], [.int ((h.1 11 (((h.1 9 7) + y2) : Int32).toNatClampNeg))], ab_dD h)) (fun n => rfl) c8 ?_
        refine ab_Ex.blk (k := 2) (pc' := 61) (lv' := [(0, .ref 9), (1, .ref 1000029), (2, .int y2)]) (st' := [.int y2, .ref 1000029, .int ((h.1 11 (((h.1 9 7) + y2) : Int32).toNatClampNeg))]) (sh' := ab_SH) (D' := ab_dD h) (fun n => rfl) ?_
        obtain ⟨r9, hr9, hf⟩ := ab_bind_s hf
        refine ab_Ex.call (d := d + 3) (M2 := 305) (as := [.ref 1000029, .int y2]) (rest := [.int ((h.1 11 (((h.1 9 7) + y2) : Int32).toNatClampNeg))]) (fun n => rfl) rfl (Nat.not_lt.mpr (Nat.le_of_ble_eq_true rfl)) (sJ0_charAt_5068e_1000029 (d) X y2 h _ hr9) (fun r hr => ?_)
        subst hr
        show ab_Ex X (d + 4) 93 64 [(0, .ref 9), (1, .ref 1000029), (2, .int y2)] [.int r9, .int ((h.1 11 (((h.1 9 7) + y2) : Int32).toNatClampNeg))] ab_SH (ab_dD h) _
        refine ab_Ex.ifc (c := (h.1 11 (((h.1 9 7) + y2) : Int32).toNatClampNeg) = r9) (SA := (69, [(0, .ref 9), (1, .ref 1000029), (2, .int y2)], [], ab_dD h)) (SB := (67, [(0, .ref 9), (1, .ref 1000029), (2, .int y2)], [], ab_dD h)) (fun n => rfl) (fun c10 => ?_) (fun c10 => ?_)
        · replace hf := (if_pos c10).symm.trans hf
          refine ab_Ex.blk (k := 2) (pc' := 28) (lv' := [(0, .ref 9), (1, .ref 1000029), (2, .int ((y2 + 1)))]) (st' := []) (sh' := ab_SH) (D' := ab_dD h) (fun n => rfl) ?_
          exact ih ((y2 + 1)) _ hf
        · replace hf := (if_neg c10).symm.trans hf
          refine ab_Ex.blk (k := 1) (pc' := 68) (lv' := [(0, .ref 9), (1, .ref 1000029), (2, .int y2)]) (st' := [.int 0]) (sh' := ab_SH) (D' := ab_dD h) (fun n => rfl) ?_
          obtain rfl := Option.some.inj hf
          exact ab_Ex.ret (fun n => rfl) rfl
set_option maxRecDepth 20000 in
theorem sX6_is_1000029 (d : Nat) (X : abX)  (h : abJ) (z : Int32) (hf : fX6_is 1000029 h = some z) : ab_Ex X (d + 4) 93 0 [(0, .ref 9), (1, .ref 1000029)] [] ab_SH (ab_dD h) (fun r => r = (some (.int z), ab_SH, ab_dD h)) := by
  unfold fX6_is at hf
  try simp only [Nat.reduceAdd] at hf
  refine ab_Ex.blk (k := 3) (pc' := 5) (lv' := [(0, .ref 9), (1, .ref 1000029)]) (st' := [.int 3, .int ((h.1 9 6))]) (sh' := ab_SH) (D' := ab_dD h) (fun n => rfl) ?_
  refine ab_Ex.ifc (c := (h.1 9 6) = 3) (SA := (8, [(0, .ref 9), (1, .ref 1000029)], [], ab_dD h)) (SB := (24, [(0, .ref 9), (1, .ref 1000029)], [], ab_dD h)) (fun n => rfl) (fun c1 => ?_) (fun c1 => ?_)
  · replace hf := (if_pos c1).symm.trans hf
    refine ab_Ex.blk (k := 6) (pc' := 18) (lv' := [(0, .ref 9), (1, .ref 1000029)]) (st' := [.ref 1000029, .int (((h.1 9 8) - (h.1 9 7)))]) (sh' := ab_SH) (D' := ab_dD h) (fun n => rfl) ?_
    obtain ⟨r2, hr2, hf⟩ := ab_bind_s hf
    refine ab_Ex.call (d := d + 3) (M2 := 304) (as := [.ref 1000029]) (rest := [.int (((h.1 9 8) - (h.1 9 7)))]) (fun n => rfl) rfl (Nat.not_lt.mpr (Nat.le_of_ble_eq_true rfl)) (sJ0_length_8abf5_1000029 (d + 2) X  h _ hr2) (fun r hr => ?_)
    subst hr
    show ab_Ex X (d + 4) 93 21 [(0, .ref 9), (1, .ref 1000029)] [.int r2, .int (((h.1 9 8) - (h.1 9 7)))] ab_SH (ab_dD h) _
    refine ab_Ex.ifc (c := ((h.1 9 8) - (h.1 9 7)) = r2) (SA := (26, [(0, .ref 9), (1, .ref 1000029)], [], ab_dD h)) (SB := (24, [(0, .ref 9), (1, .ref 1000029)], [], ab_dD h)) (fun n => rfl) (fun c3 => ?_) (fun c3 => ?_)
    · replace hf := (if_pos c3).symm.trans hf
      refine ab_Ex.blk (k := 2) (pc' := 28) (lv' := [(0, .ref 9), (1, .ref 1000029), (2, .int 0)]) (st' := []) (sh' := ab_SH) (D' := ab_dD h) (fun n => rfl) ?_
      exact sX6_is_L28_1000029 d X h ab_N 0 _ hf
    · replace hf := (if_neg c3).symm.trans hf
      refine ab_Ex.blk (k := 1) (pc' := 25) (lv' := []) (st' := [.int 0]) (sh' := ab_SH) (D' := ab_dD h) (fun n => rfl) ?_
      obtain rfl := Option.some.inj hf
      exact ab_Ex.ret (fun n => rfl) rfl
  · replace hf := (if_neg c1).symm.trans hf
    refine ab_Ex.blk (k := 1) (pc' := 25) (lv' := []) (st' := [.int 0]) (sh' := ab_SH) (D' := ab_dD h) (fun n => rfl) ?_
    obtain rfl := Option.some.inj hf
    exact ab_Ex.ret (fun n => rfl) rfl
set_option maxRecDepth 20000 in
theorem sX6_is_L28_1000030 (d : Nat) (X : abX) (h : abJ)   : ∀ (n : Nat), ∀ (y2 : Int32) (z : Int32), fX6_is_L28 1000030 h n y2 = some z → ab_Ex X (d + 4) 93 28 [(0, .ref 9), (1, .ref 1000030), (2, .int y2)] [] ab_SH (ab_dD h) (fun r => r = (some (.int z), ab_SH, ab_dD h)) := by
  intro n
  induction n with
  | zero => intro y2 z hf; cases hf
  | succ n ih =>
    intro y2 z hf
    rw [fX6_is_L28] at hf
    try simp only [Nat.reduceAdd] at hf
    refine ab_Ex.blk (k := 2) (pc' := 30) (lv' := [(0, .ref 9), (1, .ref 1000030), (2, .int y2)]) (st' := [.ref 1000030, .int y2]) (sh' := ab_SH) (D' := ab_dD h) (fun n => rfl) ?_
    obtain ⟨r4, hr4, hf⟩ := ab_bind_s hf
    refine ab_Ex.call (d := d + 3) (M2 := 304) (as := [.ref 1000030]) (rest := [.int y2]) (fun n => rfl) rfl (Nat.not_lt.mpr (Nat.le_of_ble_eq_true rfl)) (sJ0_length_8abf5_1000030 (d + 2) X  h _ hr4) (fun r hr => ?_)
    subst hr
    show ab_Ex X (d + 4) 93 33 [(0, .ref 9), (1, .ref 1000030), (2, .int y2)] [.int r4, .int y2] ab_SH (ab_dD h) _
    refine ab_Ex.ifc (c := r4 ≤ y2) (SA := (75, [(0, .ref 9), (1, .ref 1000030), (2, .int y2)], [], ab_dD h)) (SB := (36, [(0, .ref 9), (1, .ref 1000030), (2, .int y2)], [], ab_dD h)) (fun n => rfl) (fun c5 => ?_) (fun c5 => ?_)
    · replace hf := (if_pos c5).symm.trans hf
      refine ab_Ex.blk (k := 1) (pc' := 76) (lv' := []) (st' := [.int 1]) (sh' := ab_SH) (D' := ab_dD h) (fun n => rfl) ?_
      obtain rfl := Option.some.inj hf
      exact ab_Ex.ret (fun n => rfl) rfl
    · replace hf := (if_neg c5).symm.trans hf
      refine ab_Ex.blk (k := 5) (pc' := 45) (lv' := [(0, .ref 9), (1, .ref 1000030), (2, .int y2)]) (st' := [.int 900, .int (((h.1 9 7) + y2))]) (sh' := ab_SH) (D' := ab_dD h) (fun n => rfl) ?_
      refine ab_Ex.ifc (c := 900 ≤ ((h.1 9 7) + y2)) (SA := (75, [(0, .ref 9), (1, .ref 1000030), (2, .int y2)], [], ab_dD h)) (SB := (48, [(0, .ref 9), (1, .ref 1000030), (2, .int y2)], [], ab_dD h)) (fun n => rfl) (fun c6 => ?_) (fun c6 => ?_)
      · replace hf := (if_pos c6).symm.trans hf
        refine ab_Ex.blk (k := 1) (pc' := 76) (lv' := []) (st' := [.int 1]) (sh' := ab_SH) (D' := ab_dD h) (fun n => rfl) ?_
        obtain rfl := Option.some.inj hf
        exact ab_Ex.ret (fun n => rfl) rfl
      · replace hf := (if_neg c6).symm.trans hf
        refine ab_Ex.blk (k := 6) (pc' := 58) (lv' := [(0, .ref 9), (1, .ref 1000030), (2, .int y2)]) (st' := [.int (((h.1 9 7) + y2)), .ref 11]) (sh' := ab_SH) (D' := ab_dD h) (fun n => rfl) ?_
        obtain ⟨c8, hf⟩ := ab_ask_s hf
        refine ab_Ex.grd (c := ((h.1 9 7) + y2) < 0 ∨ 900 ≤ (((h.1 9 7) + y2) : Int32).toNatClampNeg) (S := (59, [(0, .ref 9), (1, .ref 1000030), (2, .int y2)], [.int ((h.1 11 (((h.1 9 7) + y2) : Int32).toNatClampNeg))], ab_dD h)) (fun n => rfl) c8 ?_
        refine ab_Ex.blk (k := 2) (pc' := 61) (lv' := [(0, .ref 9), (1, .ref 1000030), (2, .int y2)]) (st' := [.int y2, .ref 1000030, .int ((h.1 11 (((h.1 9 7) + y2) : Int32).toNatClampNeg))]) (sh' := ab_SH) (D' := ab_dD h) (fun n => rfl) ?_
        obtain ⟨r9, hr9, hf⟩ := ab_bind_s hf
        refine ab_Ex.call (d := d + 3) (M2 := 305) (as := [.ref 1000030, .int y2]) (rest := [.int ((h.1 11 (((h.1 9 7) + y2) : Int32).toNatClampNeg))]) (fun n => rfl) rfl (Nat.not_lt.mpr (Nat.le_of_ble_eq_true rfl)) (sJ0_charAt_5068e_1000030 (d) X y2 h _ hr9) (fun r hr => ?_)
        subst hr
        show ab_Ex X (d + 4) 93 64 [(0, .ref 9), (1, .ref 1000030), (2, .int y2)] [.int r9, .int ((h.1 11 (((h.1 9 7) + y2) : Int32).toNatClampNeg))] ab_SH (ab_dD h) _
        refine ab_Ex.ifc (c := (h.1 11 (((h.1 9 7) + y2) : Int32).toNatClampNeg) = r9) (SA := (69, [(0, .ref 9), (1, .ref 1000030), (2, .int y2)], [], ab_dD h)) (SB := (67, [(0, .ref 9), (1, .ref 1000030), (2, .int y2)], [], ab_dD h)) (fun n => rfl) (fun c10 => ?_) (fun c10 => ?_)
        · replace hf := (if_pos c10).symm.trans hf
          refine ab_Ex.blk (k := 2) (pc' := 28) (lv' := [(0, .ref 9), (1, .ref 1000030), (2, .int ((y2 + 1)))]) (st' := []) (sh' := ab_SH) (D' := ab_dD h) (fun n => rfl) ?_
          exact ih ((y2 + 1)) _ hf
        · replace hf := (if_neg c10).symm.trans hf
          refine ab_Ex.blk (k := 1) (pc' := 68) (lv' := [(0, .ref 9), (1, .ref 1000030), (2, .int y2)]) (st' := [.int 0]) (sh' := ab_SH) (D' := ab_dD h) (fun n => rfl) ?_
          obtain rfl := Option.some.inj hf
          exact ab_Ex.ret (fun n => rfl) rfl
set_option maxRecDepth 20000 in
theorem sX6_is_1000030 (d : Nat) (X : abX)  (h : abJ) (z : Int32) (hf : fX6_is 1000030 h = some z) : ab_Ex X (d + 4) 93 0 [(0, .ref 9), (1, .ref 1000030)] [] ab_SH (ab_dD h) (fun r => r = (some (.int z), ab_SH, ab_dD h)) := by
  unfold fX6_is at hf
  try simp only [Nat.reduceAdd] at hf
  refine ab_Ex.blk (k := 3) (pc' := 5) (lv' := [(0, .ref 9), (1, .ref 1000030)]) (st' := [.int 3, .int ((h.1 9 6))]) (sh' := ab_SH) (D' := ab_dD h) (fun n => rfl) ?_
  refine ab_Ex.ifc (c := (h.1 9 6) = 3) (SA := (8, [(0, .ref 9), (1, .ref 1000030)], [], ab_dD h)) (SB := (24, [(0, .ref 9), (1, .ref 1000030)], [], ab_dD h)) (fun n => rfl) (fun c1 => ?_) (fun c1 => ?_)
  · replace hf := (if_pos c1).symm.trans hf
    refine ab_Ex.blk (k := 6) (pc' := 18) (lv' := [(0, .ref 9), (1, .ref 1000030)]) (st' := [.ref 1000030, .int (((h.1 9 8) - (h.1 9 7)))]) (sh' := ab_SH) (D' := ab_dD h) (fun n => rfl) ?_
    obtain ⟨r2, hr2, hf⟩ := ab_bind_s hf
    refine ab_Ex.call (d := d + 3) (M2 := 304) (as := [.ref 1000030]) (rest := [.int (((h.1 9 8) - (h.1 9 7)))]) (fun n => rfl) rfl (Nat.not_lt.mpr (Nat.le_of_ble_eq_true rfl)) (sJ0_length_8abf5_1000030 (d + 2) X  h _ hr2) (fun r hr => ?_)
    subst hr
    show ab_Ex X (d + 4) 93 21 [(0, .ref 9), (1, .ref 1000030)] [.int r2, .int (((h.1 9 8) - (h.1 9 7)))] ab_SH (ab_dD h) _
    refine ab_Ex.ifc (c := ((h.1 9 8) - (h.1 9 7)) = r2) (SA := (26, [(0, .ref 9), (1, .ref 1000030)], [], ab_dD h)) (SB := (24, [(0, .ref 9), (1, .ref 1000030)], [], ab_dD h)) (fun n => rfl) (fun c3 => ?_) (fun c3 => ?_)
    · replace hf := (if_pos c3).symm.trans hf
      refine ab_Ex.blk (k := 2) (pc' := 28) (lv' := [(0, .ref 9), (1, .ref 1000030), (2, .int 0)]) (st' := []) (sh' := ab_SH) (D' := ab_dD h) (fun n => rfl) ?_
      exact sX6_is_L28_1000030 d X h ab_N 0 _ hf
    · replace hf := (if_neg c3).symm.trans hf
      refine ab_Ex.blk (k := 1) (pc' := 25) (lv' := []) (st' := [.int 0]) (sh' := ab_SH) (D' := ab_dD h) (fun n => rfl) ?_
      obtain rfl := Option.some.inj hf
      exact ab_Ex.ret (fun n => rfl) rfl
  · replace hf := (if_neg c1).symm.trans hf
    refine ab_Ex.blk (k := 1) (pc' := 25) (lv' := []) (st' := [.int 0]) (sh' := ab_SH) (D' := ab_dD h) (fun n => rfl) ?_
    obtain rfl := Option.some.inj hf
    exact ab_Ex.ret (fun n => rfl) rfl
