def fX5_fits_L6 (x2 : Nat) (h : abJ)  : Nat → Int32 → Int32 → Int32 → Option Int32
  | 0, _, _, _ => none
  | n + 1, y1, y4, y5 => if (h.1 x2 2) ≤ y5 then some 1 else (fX7_nextStand y1 y4 h).bind (fun r2 => if r2 = (-1) then some 0 else (fX10_value x2 y5 h).bind (fun r4 => if (lg_cmp ((r2 - r2 / 6 * 6) : Int32).toInt64 r4) = 0 then fX5_fits_L6 x2 h n y1 r2 ((y5 + 1)) else some 0))
def fX5_fits (x0 : Int32) (x1 : Int32) (x2 : Nat) (h : abJ) : Option Int32 := fX5_fits_L6 x2 h ab_N x0 x1 0
set_option maxRecDepth 20000 in
theorem sX5_fits_L6_44 (d : Nat) (X : abX) (h : abJ)   : ∀ (n : Nat), ∀ (y1 : Int32) (y4 : Int32) (y5 : Int32) (z : Int32), fX5_fits_L6 44 h n y1 y4 y5 = some z → ab_Ex X (d + 3) 61 6 [(0, .ref 37), (1, .int y1), (3, .ref 44), (4, .int y4), (5, .int y5)] [] ab_SH (ab_dD h) (fun r => r = (some (.int z), ab_SH, ab_dD h)) := by
  intro n
  induction n with
  | zero => intro y1 y4 y5 z hf; cases hf
  | succ n ih =>
    intro y1 y4 y5 z hf
    rw [fX5_fits_L6] at hf
    try simp only [Nat.reduceAdd] at hf
    refine ab_Ex.blk (k := 3) (pc' := 12) (lv' := [(0, .ref 37), (1, .int y1), (3, .ref 44), (4, .int y4), (5, .int y5)]) (st' := [.int ((h.1 44 2)), .int y5]) (sh' := ab_SH) (D' := ab_dD h) (fun n => rfl) ?_
    refine ab_Ex.ifc (c := (h.1 44 2) ≤ y5) (SA := (57, [(0, .ref 37), (1, .int y1), (3, .ref 44), (4, .int y4), (5, .int y5)], [], ab_dD h)) (SB := (15, [(0, .ref 37), (1, .int y1), (3, .ref 44), (4, .int y4), (5, .int y5)], [], ab_dD h)) (fun n => rfl) (fun c1 => ?_) (fun c1 => ?_)
    · replace hf := (if_pos c1).symm.trans hf
      refine ab_Ex.blk (k := 1) (pc' := 58) (lv' := [(0, .ref 37), (1, .int y1), (3, .ref 44), (4, .int y4), (5, .int y5)]) (st' := [.int 1]) (sh' := ab_SH) (D' := ab_dD h) (fun n => rfl) ?_
      obtain rfl := Option.some.inj hf
      exact ab_Ex.ret (fun n => rfl) rfl
    · replace hf := (if_neg c1).symm.trans hf
      refine ab_Ex.blk (k := 4) (pc' := 22) (lv' := [(0, .ref 37), (1, .int y1), (3, .ref 44), (4, .int y4), (5, .int y5)]) (st' := [.int y4, .int y1, .ref 13]) (sh' := ab_SH) (D' := ab_dD h) (fun n => rfl) ?_
      obtain ⟨r2, hr2, hf⟩ := ab_bind_s hf
      refine ab_Ex.call (d := d + 2) (M2 := 99) (as := [.ref 13, .int y1, .int y4]) (rest := []) (fun n => rfl) rfl (Nat.not_lt.mpr (Nat.le_of_ble_eq_true rfl)) (sX7_nextStand (d) X y1 y4 h _ hr2) (fun r hr => ?_)
      subst hr
      show ab_Ex X (d + 3) 61 25 [(0, .ref 37), (1, .int y1), (3, .ref 44), (4, .int y4), (5, .int y5)] [.int r2] ab_SH (ab_dD h) _
      refine ab_Ex.blk (k := 3) (pc' := 30) (lv' := [(4, .int r2), (0, .ref 37), (1, .int y1), (3, .ref 44), (5, .int y5)]) (st' := [.int ((-1)), .int r2]) (sh' := ab_SH) (D' := ab_dD h) (fun n => rfl) ?_
      refine ab_Ex.ifc (c := r2 = (-1)) (SA := (49, [(4, .int r2), (0, .ref 37), (1, .int y1), (3, .ref 44), (5, .int y5)], [], ab_dD h)) (SB := (33, [(4, .int r2), (0, .ref 37), (1, .int y1), (3, .ref 44), (5, .int y5)], [], ab_dD h)) (fun n => rfl) (fun c3 => ?_) (fun c3 => ?_)
      · replace hf := (if_pos c3).symm.trans hf
        refine ab_Ex.blk (k := 1) (pc' := 50) (lv' := []) (st' := [.int 0]) (sh' := ab_SH) (D' := ab_dD h) (fun n => rfl) ?_
        obtain rfl := Option.some.inj hf
        exact ab_Ex.ret (fun n => rfl) rfl
      · replace hf := (if_neg c3).symm.trans hf
        refine ab_Ex.blk (k := 2) (pc' := 37) (lv' := [(4, .int r2), (0, .ref 37), (1, .int y1), (3, .ref 44), (5, .int y5)]) (st' := [.int 6, .int r2]) (sh' := ab_SH) (D' := ab_dD h) (fun n => rfl) ?_
        refine ab_Ex.blk (k := 1) (pc' := 38) (lv' := [(4, .int r2), (0, .ref 37), (1, .int y1), (3, .ref 44), (5, .int y5)]) (st' := [.int ((r2 - r2 / 6 * 6))]) (sh' := ab_SH) (D' := ab_dD h) (fun n => rfl) ?_
        refine ab_Ex.blk (k := 3) (pc' := 42) (lv' := [(4, .int r2), (0, .ref 37), (1, .int y1), (3, .ref 44), (5, .int y5)]) (st' := [.int y5, .ref 44, .long (((r2 - r2 / 6 * 6) : Int32).toInt64)]) (sh' := ab_SH) (D' := ab_dD h) (fun n => rfl) ?_
        obtain ⟨r4, hr4, hf⟩ := ab_bind_s hf
        refine ab_Ex.call (d := d + 2) (M2 := 122) (as := [.ref 44, .int y5]) (rest := [.long (((r2 - r2 / 6 * 6) : Int32).toInt64)]) (fun n => rfl) rfl (Nat.not_lt.mpr (Nat.le_of_ble_eq_true rfl)) (sX10_value_44 (d + 2) X y5 h _ hr4) (fun r hr => ?_)
        subst hr
        show ab_Ex X (d + 3) 61 45 [(4, .int r2), (0, .ref 37), (1, .int y1), (3, .ref 44), (5, .int y5)] [.long r4, .long (((r2 - r2 / 6 * 6) : Int32).toInt64)] ab_SH (ab_dD h) _
        refine ab_Ex.blk (k := 1) (pc' := 46) (lv' := [(4, .int r2), (0, .ref 37), (1, .int y1), (3, .ref 44), (5, .int y5)]) (st' := [.int ((lg_cmp ((r2 - r2 / 6 * 6) : Int32).toInt64 r4))]) (sh' := ab_SH) (D' := ab_dD h) (fun n => rfl) ?_
        refine ab_Ex.ifc (c := (lg_cmp ((r2 - r2 / 6 * 6) : Int32).toInt64 r4) = 0) (SA := (51, [(4, .int r2), (0, .ref 37), (1, .int y1), (3, .ref 44), (5, .int y5)], [], ab_dD h)) (SB := (49, [(4, .int r2), (0, .ref 37), (1, .int y1), (3, .ref 44), (5, .int y5)], [], ab_dD h)) (fun n => rfl) (fun c5 => ?_) (fun c5 => ?_)
        · replace hf := (if_pos c5).symm.trans hf
          refine ab_Ex.blk (k := 2) (pc' := 6) (lv' := [(0, .ref 37), (1, .int y1), (3, .ref 44), (4, .int r2), (5, .int ((y5 + 1)))]) (st' := []) (sh' := ab_SH) (D' := ab_dD h) (fun n => rfl) ?_
          exact ih y1 r2 ((y5 + 1)) _ hf
        · replace hf := (if_neg c5).symm.trans hf
          refine ab_Ex.blk (k := 1) (pc' := 50) (lv' := []) (st' := [.int 0]) (sh' := ab_SH) (D' := ab_dD h) (fun n => rfl) ?_
          obtain rfl := Option.some.inj hf
          exact ab_Ex.ret (fun n => rfl) rfl
set_option maxRecDepth 20000 in
theorem sX5_fits_44 (d : Nat) (X : abX) (x0 : Int32) (x1 : Int32) (h : abJ) (z : Int32) (hf : fX5_fits x0 x1 44 h = some z) : ab_Ex X (d + 3) 61 0 [(0, .ref 37), (1, .int x0), (2, .int x1), (3, .ref 44)] [] ab_SH (ab_dD h) (fun r => r = (some (.int z), ab_SH, ab_dD h)) := by
  unfold fX5_fits at hf
  try simp only [Nat.reduceAdd] at hf
  refine ab_Ex.blk (k := 4) (pc' := 6) (lv' := [(0, .ref 37), (1, .int x0), (3, .ref 44), (4, .int x1), (5, .int 0)]) (st' := []) (sh' := ab_SH) (D' := ab_dD h) (fun n => rfl) ?_
  exact sX5_fits_L6_44 d X h ab_N x0 x1 0 _ hf
set_option maxRecDepth 20000 in
theorem sX5_fits_L6_46 (d : Nat) (X : abX) (h : abJ)   : ∀ (n : Nat), ∀ (y1 : Int32) (y4 : Int32) (y5 : Int32) (z : Int32), fX5_fits_L6 46 h n y1 y4 y5 = some z → ab_Ex X (d + 3) 61 6 [(0, .ref 37), (1, .int y1), (3, .ref 46), (4, .int y4), (5, .int y5)] [] ab_SH (ab_dD h) (fun r => r = (some (.int z), ab_SH, ab_dD h)) := by
  intro n
  induction n with
  | zero => intro y1 y4 y5 z hf; cases hf
  | succ n ih =>
    intro y1 y4 y5 z hf
    rw [fX5_fits_L6] at hf
    try simp only [Nat.reduceAdd] at hf
    refine ab_Ex.blk (k := 3) (pc' := 12) (lv' := [(0, .ref 37), (1, .int y1), (3, .ref 46), (4, .int y4), (5, .int y5)]) (st' := [.int ((h.1 46 2)), .int y5]) (sh' := ab_SH) (D' := ab_dD h) (fun n => rfl) ?_
    refine ab_Ex.ifc (c := (h.1 46 2) ≤ y5) (SA := (57, [(0, .ref 37), (1, .int y1), (3, .ref 46), (4, .int y4), (5, .int y5)], [], ab_dD h)) (SB := (15, [(0, .ref 37), (1, .int y1), (3, .ref 46), (4, .int y4), (5, .int y5)], [], ab_dD h)) (fun n => rfl) (fun c1 => ?_) (fun c1 => ?_)
    · replace hf := (if_pos c1).symm.trans hf
      refine ab_Ex.blk (k := 1) (pc' := 58) (lv' := [(0, .ref 37), (1, .int y1), (3, .ref 46), (4, .int y4), (5, .int y5)]) (st' := [.int 1]) (sh' := ab_SH) (D' := ab_dD h) (fun n => rfl) ?_
      obtain rfl := Option.some.inj hf
      exact ab_Ex.ret (fun n => rfl) rfl
    · replace hf := (if_neg c1).symm.trans hf
      refine ab_Ex.blk (k := 4) (pc' := 22) (lv' := [(0, .ref 37), (1, .int y1), (3, .ref 46), (4, .int y4), (5, .int y5)]) (st' := [.int y4, .int y1, .ref 13]) (sh' := ab_SH) (D' := ab_dD h) (fun n => rfl) ?_
      obtain ⟨r2, hr2, hf⟩ := ab_bind_s hf
      refine ab_Ex.call (d := d + 2) (M2 := 99) (as := [.ref 13, .int y1, .int y4]) (rest := []) (fun n => rfl) rfl (Nat.not_lt.mpr (Nat.le_of_ble_eq_true rfl)) (sX7_nextStand (d) X y1 y4 h _ hr2) (fun r hr => ?_)
      subst hr
      show ab_Ex X (d + 3) 61 25 [(0, .ref 37), (1, .int y1), (3, .ref 46), (4, .int y4), (5, .int y5)] [.int r2] ab_SH (ab_dD h) _
      refine ab_Ex.blk (k := 3) (pc' := 30) (lv' := [(4, .int r2), (0, .ref 37), (1, .int y1), (3, .ref 46), (5, .int y5)]) (st' := [.int ((-1)), .int r2]) (sh' := ab_SH) (D' := ab_dD h) (fun n => rfl) ?_
      refine ab_Ex.ifc (c := r2 = (-1)) (SA := (49, [(4, .int r2), (0, .ref 37), (1, .int y1), (3, .ref 46), (5, .int y5)], [], ab_dD h)) (SB := (33, [(4, .int r2), (0, .ref 37), (1, .int y1), (3, .ref 46), (5, .int y5)], [], ab_dD h)) (fun n => rfl) (fun c3 => ?_) (fun c3 => ?_)
      · replace hf := (if_pos c3).symm.trans hf
        refine ab_Ex.blk (k := 1) (pc' := 50) (lv' := []) (st' := [.int 0]) (sh' := ab_SH) (D' := ab_dD h) (fun n => rfl) ?_
        obtain rfl := Option.some.inj hf
        exact ab_Ex.ret (fun n => rfl) rfl
      · replace hf := (if_neg c3).symm.trans hf
        refine ab_Ex.blk (k := 2) (pc' := 37) (lv' := [(4, .int r2), (0, .ref 37), (1, .int y1), (3, .ref 46), (5, .int y5)]) (st' := [.int 6, .int r2]) (sh' := ab_SH) (D' := ab_dD h) (fun n => rfl) ?_
        refine ab_Ex.blk (k := 1) (pc' := 38) (lv' := [(4, .int r2), (0, .ref 37), (1, .int y1), (3, .ref 46), (5, .int y5)]) (st' := [.int ((r2 - r2 / 6 * 6))]) (sh' := ab_SH) (D' := ab_dD h) (fun n => rfl) ?_
        refine ab_Ex.blk (k := 3) (pc' := 42) (lv' := [(4, .int r2), (0, .ref 37), (1, .int y1), (3, .ref 46), (5, .int y5)]) (st' := [.int y5, .ref 46, .long (((r2 - r2 / 6 * 6) : Int32).toInt64)]) (sh' := ab_SH) (D' := ab_dD h) (fun n => rfl) ?_
        obtain ⟨r4, hr4, hf⟩ := ab_bind_s hf
        refine ab_Ex.call (d := d + 2) (M2 := 122) (as := [.ref 46, .int y5]) (rest := [.long (((r2 - r2 / 6 * 6) : Int32).toInt64)]) (fun n => rfl) rfl (Nat.not_lt.mpr (Nat.le_of_ble_eq_true rfl)) (sX10_value_46 (d + 2) X y5 h _ hr4) (fun r hr => ?_)
        subst hr
        show ab_Ex X (d + 3) 61 45 [(4, .int r2), (0, .ref 37), (1, .int y1), (3, .ref 46), (5, .int y5)] [.long r4, .long (((r2 - r2 / 6 * 6) : Int32).toInt64)] ab_SH (ab_dD h) _
        refine ab_Ex.blk (k := 1) (pc' := 46) (lv' := [(4, .int r2), (0, .ref 37), (1, .int y1), (3, .ref 46), (5, .int y5)]) (st' := [.int ((lg_cmp ((r2 - r2 / 6 * 6) : Int32).toInt64 r4))]) (sh' := ab_SH) (D' := ab_dD h) (fun n => rfl) ?_
        refine ab_Ex.ifc (c := (lg_cmp ((r2 - r2 / 6 * 6) : Int32).toInt64 r4) = 0) (SA := (51, [(4, .int r2), (0, .ref 37), (1, .int y1), (3, .ref 46), (5, .int y5)], [], ab_dD h)) (SB := (49, [(4, .int r2), (0, .ref 37), (1, .int y1), (3, .ref 46), (5, .int y5)], [], ab_dD h)) (fun n => rfl) (fun c5 => ?_) (fun c5 => ?_)
        · replace hf := (if_pos c5).symm.trans hf
          refine ab_Ex.blk (k := 2) (pc' := 6) (lv' := [(0, .ref 37), (1, .int y1), (3, .ref 46), (4, .int r2), (5, .int ((y5 + 1)))]) (st' := []) (sh' := ab_SH) (D' := ab_dD h) (fun n => rfl) ?_
          exact ih y1 r2 ((y5 + 1)) _ hf
        · replace hf := (if_neg c5).symm.trans hf
          refine ab_Ex.blk (k := 1) (pc' := 50) (lv' := []) (st' := [.int 0]) (sh' := ab_SH) (D' := ab_dD h) (fun n => rfl) ?_
          obtain rfl := Option.some.inj hf
          exact ab_Ex.ret (fun n => rfl) rfl
set_option maxRecDepth 20000 in
theorem sX5_fits_46 (d : Nat) (X : abX) (x0 : Int32) (x1 : Int32) (h : abJ) (z : Int32) (hf : fX5_fits x0 x1 46 h = some z) : ab_Ex X (d + 3) 61 0 [(0, .ref 37), (1, .int x0), (2, .int x1), (3, .ref 46)] [] ab_SH (ab_dD h) (fun r => r = (some (.int z), ab_SH, ab_dD h)) := by
  unfold fX5_fits at hf
  try simp only [Nat.reduceAdd] at hf
  refine ab_Ex.blk (k := 4) (pc' := 6) (lv' := [(0, .ref 37), (1, .int x0), (3, .ref 46), (4, .int x1), (5, .int 0)]) (st' := []) (sh' := ab_SH) (D' := ab_dD h) (fun n => rfl) ?_
  exact sX5_fits_L6_46 d X h ab_N x0 x1 0 _ hf
set_option maxRecDepth 20000 in
theorem sX5_fits_L6_48 (d : Nat) (X : abX) (h : abJ)   : ∀ (n : Nat), ∀ (y1 : Int32) (y4 : Int32) (y5 : Int32) (z : Int32), fX5_fits_L6 48 h n y1 y4 y5 = some z → ab_Ex X (d + 3) 61 6 [(0, .ref 37), (1, .int y1), (3, .ref 48), (4, .int y4), (5, .int y5)] [] ab_SH (ab_dD h) (fun r => r = (some (.int z), ab_SH, ab_dD h)) := by
  intro n
  induction n with
  | zero => intro y1 y4 y5 z hf; cases hf
  | succ n ih =>
    intro y1 y4 y5 z hf
    rw [fX5_fits_L6] at hf
    try simp only [Nat.reduceAdd] at hf
    refine ab_Ex.blk (k := 3) (pc' := 12) (lv' := [(0, .ref 37), (1, .int y1), (3, .ref 48), (4, .int y4), (5, .int y5)]) (st' := [.int ((h.1 48 2)), .int y5]) (sh' := ab_SH) (D' := ab_dD h) (fun n => rfl) ?_
    refine ab_Ex.ifc (c := (h.1 48 2) ≤ y5) (SA := (57, [(0, .ref 37), (1, .int y1), (3, .ref 48), (4, .int y4), (5, .int y5)], [], ab_dD h)) (SB := (15, [(0, .ref 37), (1, .int y1), (3, .ref 48), (4, .int y4), (5, .int y5)], [], ab_dD h)) (fun n => rfl) (fun c1 => ?_) (fun c1 => ?_)
    · replace hf := (if_pos c1).symm.trans hf
      refine ab_Ex.blk (k := 1) (pc' := 58) (lv' := [(0, .ref 37), (1, .int y1), (3, .ref 48), (4, .int y4), (5, .int y5)]) (st' := [.int 1]) (sh' := ab_SH) (D' := ab_dD h) (fun n => rfl) ?_
      obtain rfl := Option.some.inj hf
      exact ab_Ex.ret (fun n => rfl) rfl
    · replace hf := (if_neg c1).symm.trans hf
      refine ab_Ex.blk (k := 4) (pc' := 22) (lv' := [(0, .ref 37), (1, .int y1), (3, .ref 48), (4, .int y4), (5, .int y5)]) (st' := [.int y4, .int y1, .ref 13]) (sh' := ab_SH) (D' := ab_dD h) (fun n => rfl) ?_
      obtain ⟨r2, hr2, hf⟩ := ab_bind_s hf
      refine ab_Ex.call (d := d + 2) (M2 := 99) (as := [.ref 13, .int y1, .int y4]) (rest := []) (fun n => rfl) rfl (Nat.not_lt.mpr (Nat.le_of_ble_eq_true rfl)) (sX7_nextStand (d) X y1 y4 h _ hr2) (fun r hr => ?_)
      subst hr
      show ab_Ex X (d + 3) 61 25 [(0, .ref 37), (1, .int y1), (3, .ref 48), (4, .int y4), (5, .int y5)] [.int r2] ab_SH (ab_dD h) _
      refine ab_Ex.blk (k := 3) (pc' := 30) (lv' := [(4, .int r2), (0, .ref 37), (1, .int y1), (3, .ref 48), (5, .int y5)]) (st' := [.int ((-1)), .int r2]) (sh' := ab_SH) (D' := ab_dD h) (fun n => rfl) ?_
      refine ab_Ex.ifc (c := r2 = (-1)) (SA := (49, [(4, .int r2), (0, .ref 37), (1, .int y1), (3, .ref 48), (5, .int y5)], [], ab_dD h)) (SB := (33, [(4, .int r2), (0, .ref 37), (1, .int y1), (3, .ref 48), (5, .int y5)], [], ab_dD h)) (fun n => rfl) (fun c3 => ?_) (fun c3 => ?_)
      · replace hf := (if_pos c3).symm.trans hf
        refine ab_Ex.blk (k := 1) (pc' := 50) (lv' := []) (st' := [.int 0]) (sh' := ab_SH) (D' := ab_dD h) (fun n => rfl) ?_
        obtain rfl := Option.some.inj hf
        exact ab_Ex.ret (fun n => rfl) rfl
      · replace hf := (if_neg c3).symm.trans hf
        refine ab_Ex.blk (k := 2) (pc' := 37) (lv' := [(4, .int r2), (0, .ref 37), (1, .int y1), (3, .ref 48), (5, .int y5)]) (st' := [.int 6, .int r2]) (sh' := ab_SH) (D' := ab_dD h) (fun n => rfl) ?_
        refine ab_Ex.blk (k := 1) (pc' := 38) (lv' := [(4, .int r2), (0, .ref 37), (1, .int y1), (3, .ref 48), (5, .int y5)]) (st' := [.int ((r2 - r2 / 6 * 6))]) (sh' := ab_SH) (D' := ab_dD h) (fun n => rfl) ?_
        refine ab_Ex.blk (k := 3) (pc' := 42) (lv' := [(4, .int r2), (0, .ref 37), (1, .int y1), (3, .ref 48), (5, .int y5)]) (st' := [.int y5, .ref 48, .long (((r2 - r2 / 6 * 6) : Int32).toInt64)]) (sh' := ab_SH) (D' := ab_dD h) (fun n => rfl) ?_
        obtain ⟨r4, hr4, hf⟩ := ab_bind_s hf
        refine ab_Ex.call (d := d + 2) (M2 := 122) (as := [.ref 48, .int y5]) (rest := [.long (((r2 - r2 / 6 * 6) : Int32).toInt64)]) (fun n => rfl) rfl (Nat.not_lt.mpr (Nat.le_of_ble_eq_true rfl)) (sX10_value_48 (d + 2) X y5 h _ hr4) (fun r hr => ?_)
        subst hr
        show ab_Ex X (d + 3) 61 45 [(4, .int r2), (0, .ref 37), (1, .int y1), (3, .ref 48), (5, .int y5)] [.long r4, .long (((r2 - r2 / 6 * 6) : Int32).toInt64)] ab_SH (ab_dD h) _
        refine ab_Ex.blk (k := 1) (pc' := 46) (lv' := [(4, .int r2), (0, .ref 37), (1, .int y1), (3, .ref 48), (5, .int y5)]) (st' := [.int ((lg_cmp ((r2 - r2 / 6 * 6) : Int32).toInt64 r4))]) (sh' := ab_SH) (D' := ab_dD h) (fun n => rfl) ?_
        refine ab_Ex.ifc (c := (lg_cmp ((r2 - r2 / 6 * 6) : Int32).toInt64 r4) = 0) (SA := (51, [(4, .int r2), (0, .ref 37), (1, .int y1), (3, .ref 48), (5, .int y5)], [], ab_dD h)) (SB := (49, [(4, .int r2), (0, .ref 37), (1, .int y1), (3, .ref 48), (5, .int y5)], [], ab_dD h)) (fun n => rfl) (fun c5 => ?_) (fun c5 => ?_)
        · replace hf := (if_pos c5).symm.trans hf
          refine ab_Ex.blk (k := 2) (pc' := 6) (lv' := [(0, .ref 37), (1, .int y1), (3, .ref 48), (4, .int r2), (5, .int ((y5 + 1)))]) (st' := []) (sh' := ab_SH) (D' := ab_dD h) (fun n => rfl) ?_
          exact ih y1 r2 ((y5 + 1)) _ hf
        · replace hf := (if_neg c5).symm.trans hf
          refine ab_Ex.blk (k := 1) (pc' := 50) (lv' := []) (st' := [.int 0]) (sh' := ab_SH) (D' := ab_dD h) (fun n => rfl) ?_
          obtain rfl := Option.some.inj hf
          exact ab_Ex.ret (fun n => rfl) rfl
set_option maxRecDepth 20000 in
theorem sX5_fits_48 (d : Nat) (X : abX) (x0 : Int32) (x1 : Int32) (h : abJ) (z : Int32) (hf : fX5_fits x0 x1 48 h = some z) : ab_Ex X (d + 3) 61 0 [(0, .ref 37), (1, .int x0), (2, .int x1), (3, .ref 48)] [] ab_SH (ab_dD h) (fun r => r = (some (.int z), ab_SH, ab_dD h)) := by
  unfold fX5_fits at hf
  try simp only [Nat.reduceAdd] at hf
  refine ab_Ex.blk (k := 4) (pc' := 6) (lv' := [(0, .ref 37), (1, .int x0), (3, .ref 48), (4, .int x1), (5, .int 0)]) (st' := []) (sh' := ab_SH) (D' := ab_dD h) (fun n => rfl) ?_
  exact sX5_fits_L6_48 d X h ab_N x0 x1 0 _ hf
set_option maxRecDepth 20000 in
theorem sX5_fits_L6_50 (d : Nat) (X : abX) (h : abJ)   : ∀ (n : Nat), ∀ (y1 : Int32) (y4 : Int32) (y5 : Int32) (z : Int32), fX5_fits_L6 50 h n y1 y4 y5 = some z → ab_Ex X (d + 3) 61 6 [(0, .ref 37), (1, .int y1), (3, .ref 50), (4, .int y4), (5, .int y5)] [] ab_SH (ab_dD h) (fun r => r = (some (.int z), ab_SH, ab_dD h)) := by
  intro n
  induction n with
  | zero => intro y1 y4 y5 z hf; cases hf
  | succ n ih =>
    intro y1 y4 y5 z hf
    rw [fX5_fits_L6] at hf
    try simp only [Nat.reduceAdd] at hf
    refine ab_Ex.blk (k := 3) (pc' := 12) (lv' := [(0, .ref 37), (1, .int y1), (3, .ref 50), (4, .int y4), (5, .int y5)]) (st' := [.int ((h.1 50 2)), .int y5]) (sh' := ab_SH) (D' := ab_dD h) (fun n => rfl) ?_
    refine ab_Ex.ifc (c := (h.1 50 2) ≤ y5) (SA := (57, [(0, .ref 37), (1, .int y1), (3, .ref 50), (4, .int y4), (5, .int y5)], [], ab_dD h)) (SB := (15, [(0, .ref 37), (1, .int y1), (3, .ref 50), (4, .int y4), (5, .int y5)], [], ab_dD h)) (fun n => rfl) (fun c1 => ?_) (fun c1 => ?_)
    · replace hf := (if_pos c1).symm.trans hf
      refine ab_Ex.blk (k := 1) (pc' := 58) (lv' := [(0, .ref 37), (1, .int y1), (3, .ref 50), (4, .int y4), (5, .int y5)]) (st' := [.int 1]) (sh' := ab_SH) (D' := ab_dD h) (fun n => rfl) ?_
      obtain rfl := Option.some.inj hf
      exact ab_Ex.ret (fun n => rfl) rfl
    · replace hf := (if_neg c1).symm.trans hf
      refine ab_Ex.blk (k := 4) (pc' := 22) (lv' := [(0, .ref 37), (1, .int y1), (3, .ref 50), (4, .int y4), (5, .int y5)]) (st' := [.int y4, .int y1, .ref 13]) (sh' := ab_SH) (D' := ab_dD h) (fun n => rfl) ?_
      obtain ⟨r2, hr2, hf⟩ := ab_bind_s hf
      refine ab_Ex.call (d := d + 2) (M2 := 99) (as := [.ref 13, .int y1, .int y4]) (rest := []) (fun n => rfl) rfl (Nat.not_lt.mpr (Nat.le_of_ble_eq_true rfl)) (sX7_nextStand (d) X y1 y4 h _ hr2) (fun r hr => ?_)
      subst hr
      show ab_Ex X (d + 3) 61 25 [(0, .ref 37), (1, .int y1), (3, .ref 50), (4, .int y4), (5, .int y5)] [.int r2] ab_SH (ab_dD h) _
      refine ab_Ex.blk (k := 3) (pc' := 30) (lv' := [(4, .int r2), (0, .ref 37), (1, .int y1), (3, .ref 50), (5, .int y5)]) (st' := [.int ((-1)), .int r2]) (sh' := ab_SH) (D' := ab_dD h) (fun n => rfl) ?_
      refine ab_Ex.ifc (c := r2 = (-1)) (SA := (49, [(4, .int r2), (0, .ref 37), (1, .int y1), (3, .ref 50), (5, .int y5)], [], ab_dD h)) (SB := (33, [(4, .int r2), (0, .ref 37), (1, .int y1), (3, .ref 50), (5, .int y5)], [], ab_dD h)) (fun n => rfl) (fun c3 => ?_) (fun c3 => ?_)
      · replace hf := (if_pos c3).symm.trans hf
        refine ab_Ex.blk (k := 1) (pc' := 50) (lv' := []) (st' := [.int 0]) (sh' := ab_SH) (D' := ab_dD h) (fun n => rfl) ?_
        obtain rfl := Option.some.inj hf
        exact ab_Ex.ret (fun n => rfl) rfl
      · replace hf := (if_neg c3).symm.trans hf
        refine ab_Ex.blk (k := 2) (pc' := 37) (lv' := [(4, .int r2), (0, .ref 37), (1, .int y1), (3, .ref 50), (5, .int y5)]) (st' := [.int 6, .int r2]) (sh' := ab_SH) (D' := ab_dD h) (fun n => rfl) ?_
        refine ab_Ex.blk (k := 1) (pc' := 38) (lv' := [(4, .int r2), (0, .ref 37), (1, .int y1), (3, .ref 50), (5, .int y5)]) (st' := [.int ((r2 - r2 / 6 * 6))]) (sh' := ab_SH) (D' := ab_dD h) (fun n => rfl) ?_
        refine ab_Ex.blk (k := 3) (pc' := 42) (lv' := [(4, .int r2), (0, .ref 37), (1, .int y1), (3, .ref 50), (5, .int y5)]) (st' := [.int y5, .ref 50, .long (((r2 - r2 / 6 * 6) : Int32).toInt64)]) (sh' := ab_SH) (D' := ab_dD h) (fun n => rfl) ?_
        obtain ⟨r4, hr4, hf⟩ := ab_bind_s hf
        refine ab_Ex.call (d := d + 2) (M2 := 122) (as := [.ref 50, .int y5]) (rest := [.long (((r2 - r2 / 6 * 6) : Int32).toInt64)]) (fun n => rfl) rfl (Nat.not_lt.mpr (Nat.le_of_ble_eq_true rfl)) (sX10_value_50 (d + 2) X y5 h _ hr4) (fun r hr => ?_)
        subst hr
        show ab_Ex X (d + 3) 61 45 [(4, .int r2), (0, .ref 37), (1, .int y1), (3, .ref 50), (5, .int y5)] [.long r4, .long (((r2 - r2 / 6 * 6) : Int32).toInt64)] ab_SH (ab_dD h) _
        refine ab_Ex.blk (k := 1) (pc' := 46) (lv' := [(4, .int r2), (0, .ref 37), (1, .int y1), (3, .ref 50), (5, .int y5)]) (st' := [.int ((lg_cmp ((r2 - r2 / 6 * 6) : Int32).toInt64 r4))]) (sh' := ab_SH) (D' := ab_dD h) (fun n => rfl) ?_
        refine ab_Ex.ifc (c := (lg_cmp ((r2 - r2 / 6 * 6) : Int32).toInt64 r4) = 0) (SA := (51, [(4, .int r2), (0, .ref 37), (1, .int y1), (3, .ref 50), (5, .int y5)], [], ab_dD h)) (SB := (49, [(4, .int r2), (0, .ref 37), (1, .int y1), (3, .ref 50), (5, .int y5)], [], ab_dD h)) (fun n => rfl) (fun c5 => ?_) (fun c5 => ?_)
        · replace hf := (if_pos c5).symm.trans hf
          refine ab_Ex.blk (k := 2) (pc' := 6) (lv' := [(0, .ref 37), (1, .int y1), (3, .ref 50), (4, .int r2), (5, .int ((y5 + 1)))]) (st' := []) (sh' := ab_SH) (D' := ab_dD h) (fun n => rfl) ?_
          exact ih y1 r2 ((y5 + 1)) _ hf
        · replace hf := (if_neg c5).symm.trans hf
          refine ab_Ex.blk (k := 1) (pc' := 50) (lv' := []) (st' := [.int 0]) (sh' := ab_SH) (D' := ab_dD h) (fun n => rfl) ?_
          obtain rfl := Option.some.inj hf
          exact ab_Ex.ret (fun n => rfl) rfl
set_option maxRecDepth 20000 in
theorem sX5_fits_50 (d : Nat) (X : abX) (x0 : Int32) (x1 : Int32) (h : abJ) (z : Int32) (hf : fX5_fits x0 x1 50 h = some z) : ab_Ex X (d + 3) 61 0 [(0, .ref 37), (1, .int x0), (2, .int x1), (3, .ref 50)] [] ab_SH (ab_dD h) (fun r => r = (some (.int z), ab_SH, ab_dD h)) := by
  unfold fX5_fits at hf
  try simp only [Nat.reduceAdd] at hf
  refine ab_Ex.blk (k := 4) (pc' := 6) (lv' := [(0, .ref 37), (1, .int x0), (3, .ref 50), (4, .int x1), (5, .int 0)]) (st' := []) (sh' := ab_SH) (D' := ab_dD h) (fun n => rfl) ?_
  exact sX5_fits_L6_50 d X h ab_N x0 x1 0 _ hf
def fX5_tally_J111 (x1 : Nat) (k24 : Int32 → Int32 → abJ → Option abJ) (y3 : Int32) (y4 : Int32) (h : abJ) : Option abJ := k24 y3 ((y4 + 1)) h
def fX5_tally_L77 (x1 : Nat) (k24 : Int32 → Int32 → abJ → Option abJ) : Nat → Int32 → Int32 → Int32 → abJ → Option abJ
  | 0, _, _, _, _ => none
  | n + 1, y3, y4, y5, h => if 6 ≤ y5 then fX5_tally_J111 x1 k24 y3 y4 h else (fX11_armOf y4 y5 h).bind (fun r9 => ab_ask (((y5 * 3) + r9) < 0 ∨ 18 ≤ (((y5 * 3) + r9) : Int32).toNatClampNeg) (ab_ask (((y5 * 3) + r9) < 0 ∨ 18 ≤ (((y5 * 3) + r9) : Int32).toNatClampNeg) (fX5_tally_L77 x1 k24 n y3 y4 ((y5 + 1)) (ab_wI h 38 (((y5 * 3) + r9) : Int32).toNatClampNeg ((h.1 38 (((y5 * 3) + r9) : Int32).toNatClampNeg) + 1)))))
def fX5_tally_L24 (x1 : Nat)  : Nat → Int32 → Int32 → abJ → Option abJ
  | 0, _, _, _ => none
  | n + 1, y3, y4, h => if y3 ≤ y4 then some h else (fX3_canShow y4 h).bind (fun r4 => if r4 = 0 then fX5_tally_J111 x1 (fun y3 y4 h => fX5_tally_L24 x1 n y3 y4 h) y3 y4 h else (fX5_fits ((h.1 12 2)) (((y4 * 6) + (h.1 12 0))) x1 h).bind (fun r6 => if r6 = 0 then fX5_tally_J111 x1 (fun y3 y4 h => fX5_tally_L24 x1 n y3 y4 h) y3 y4 h else fX5_tally_L77 x1 (fun y3 y4 h => fX5_tally_L24 x1 n y3 y4 h) ab_N y3 y4 0 (ab_wI h 37 3 ((h.1 37 3) + 1))))
def fX5_tally (x1 : Nat) (h : abJ) : Option abJ := (fJ7_fill_53178 38 0 h).bind (fun r1 => (fX3_armLimit (ab_wI r1 37 3 0)).bind (fun r2 => fX5_tally_L24 x1 ab_N r2 0 (ab_wI r1 37 3 0)))
set_option maxRecDepth 20000 in
theorem sX5_tally_J111_44 (d : Nat) (X : abX) (k24 : Int32 → Int32 → abJ → Option abJ) (hk24 : ∀ (y3 : Int32) (y4 : Int32) (h : abJ) (z : abJ), k24 y3 y4 h = some z → ab_Ex X (d + 4) 62 24 [(0, .ref 37), (1, .ref 12), (2, .ref 44), (3, .int y3), (4, .int y4)] [] ab_SH (ab_dD h) (fun r => r = (none, ab_SH, ab_dD z))) : ∀ (y3 : Int32) (y4 : Int32) (h : abJ) (z : abJ), fX5_tally_J111 44 k24 y3 y4 h = some z → ab_Ex X (d + 4) 62 111 [(0, .ref 37), (1, .ref 12), (2, .ref 44), (3, .int y3), (4, .int y4)] [] ab_SH (ab_dD h) (fun r => r = (none, ab_SH, ab_dD z)) := by
  intro y3 y4 h z hf
  unfold fX5_tally_J111 at hf
  try simp only [Nat.reduceAdd] at hf
  refine ab_Ex.blk (k := 2) (pc' := 24) (lv' := [(0, .ref 37), (1, .ref 12), (2, .ref 44), (3, .int y3), (4, .int ((y4 + 1)))]) (st' := []) (sh' := ab_SH) (D' := ab_dD h) (fun n => rfl) ?_
  exact hk24 y3 ((y4 + 1)) h _ hf
set_option maxRecDepth 20000 in
theorem sX5_tally_L77_44 (d : Nat) (X : abX) (k24 : Int32 → Int32 → abJ → Option abJ) (hk24 : ∀ (y3 : Int32) (y4 : Int32) (h : abJ) (z : abJ), k24 y3 y4 h = some z → ab_Ex X (d + 4) 62 24 [(0, .ref 37), (1, .ref 12), (2, .ref 44), (3, .int y3), (4, .int y4)] [] ab_SH (ab_dD h) (fun r => r = (none, ab_SH, ab_dD z))) : ∀ (n : Nat), ∀ (y3 : Int32) (y4 : Int32) (y5 : Int32) (h : abJ) (z : abJ), fX5_tally_L77 44 k24 n y3 y4 y5 h = some z → ab_Ex X (d + 4) 62 77 [(0, .ref 37), (1, .ref 12), (2, .ref 44), (3, .int y3), (4, .int y4), (5, .int y5)] [] ab_SH (ab_dD h) (fun r => r = (none, ab_SH, ab_dD z)) := by
  intro n
  induction n with
  | zero => intro y3 y4 y5 h z hf; cases hf
  | succ n ih =>
    intro y3 y4 y5 h z hf
    rw [fX5_tally_L77] at hf
    try simp only [Nat.reduceAdd] at hf
    refine ab_Ex.blk (k := 2) (pc' := 81) (lv' := [(0, .ref 37), (1, .ref 12), (2, .ref 44), (3, .int y3), (4, .int y4), (5, .int y5)]) (st' := [.int 6, .int y5]) (sh' := ab_SH) (D' := ab_dD h) (fun n => rfl) ?_
    refine ab_Ex.ifc (c := 6 ≤ y5) (SA := (111, [(0, .ref 37), (1, .ref 12), (2, .ref 44), (3, .int y3), (4, .int y4), (5, .int y5)], [], ab_dD h)) (SB := (84, [(0, .ref 37), (1, .ref 12), (2, .ref 44), (3, .int y3), (4, .int y4), (5, .int y5)], [], ab_dD h)) (fun n => rfl) (fun c8 => ?_) (fun c8 => ?_)
    · replace hf := (if_pos c8).symm.trans hf
      exact sX5_tally_J111_44 d X k24 hk24 y3 y4 h _ hf
    · replace hf := (if_neg c8).symm.trans hf
      refine ab_Ex.blk (k := 7) (pc' := 96) (lv' := [(0, .ref 37), (1, .ref 12), (2, .ref 44), (3, .int y3), (4, .int y4), (5, .int y5)]) (st' := [.int y5, .int y4, .int ((y5 * 3)), .ref 38]) (sh' := ab_SH) (D' := ab_dD h) (fun n => rfl) ?_
      obtain ⟨r9, hr9, hf⟩ := ab_bind_s hf
      refine ab_Ex.call (d := d + 3) (M2 := 172) (as := [.int y4, .int y5]) (rest := [.int ((y5 * 3)), .ref 38]) (fun n => rfl) rfl (Nat.not_lt.mpr (Nat.le_of_ble_eq_true rfl)) (sX11_armOf (d + 3) X y4 y5 h _ hr9) (fun r hr => ?_)
      subst hr
      show ab_Ex X (d + 4) 62 99 [(0, .ref 37), (1, .ref 12), (2, .ref 44), (3, .int y3), (4, .int y4), (5, .int y5)] [.int r9, .int ((y5 * 3)), .ref 38] ab_SH (ab_dD h) _
      refine ab_Ex.blk (k := 2) (pc' := 101) (lv' := [(0, .ref 37), (1, .ref 12), (2, .ref 44), (3, .int y3), (4, .int y4), (5, .int y5)]) (st' := [.int (((y5 * 3) + r9)), .ref 38, .int (((y5 * 3) + r9)), .ref 38]) (sh' := ab_SH) (D' := ab_dD h) (fun n => rfl) ?_
      obtain ⟨c11, hf⟩ := ab_ask_s hf
      refine ab_Ex.grd (c := ((y5 * 3) + r9) < 0 ∨ 18 ≤ (((y5 * 3) + r9) : Int32).toNatClampNeg) (S := (102, [(0, .ref 37), (1, .ref 12), (2, .ref 44), (3, .int y3), (4, .int y4), (5, .int y5)], [.int ((h.1 38 (((y5 * 3) + r9) : Int32).toNatClampNeg)), .int (((y5 * 3) + r9)), .ref 38], ab_dD h)) (fun n => rfl) c11 ?_
      refine ab_Ex.blk (k := 2) (pc' := 104) (lv' := [(0, .ref 37), (1, .ref 12), (2, .ref 44), (3, .int y3), (4, .int y4), (5, .int y5)]) (st' := [.int (((h.1 38 (((y5 * 3) + r9) : Int32).toNatClampNeg) + 1)), .int (((y5 * 3) + r9)), .ref 38]) (sh' := ab_SH) (D' := ab_dD h) (fun n => rfl) ?_
      obtain ⟨c12, hf⟩ := ab_ask_s hf
      refine ab_Ex.grd (c := ((y5 * 3) + r9) < 0 ∨ 18 ≤ (((y5 * 3) + r9) : Int32).toNatClampNeg) (S := (105, [(0, .ref 37), (1, .ref 12), (2, .ref 44), (3, .int y3), (4, .int y4), (5, .int y5)], [], ab_dD (ab_wI h 38 (((y5 * 3) + r9) : Int32).toNatClampNeg ((h.1 38 (((y5 * 3) + r9) : Int32).toNatClampNeg) + 1)))) (fun n => rfl) c12 ?_
      refine ab_Ex.blk (k := 2) (pc' := 77) (lv' := [(0, .ref 37), (1, .ref 12), (2, .ref 44), (3, .int y3), (4, .int y4), (5, .int ((y5 + 1)))]) (st' := []) (sh' := ab_SH) (D' := ab_dD (ab_wI h 38 (((y5 * 3) + r9) : Int32).toNatClampNeg ((h.1 38 (((y5 * 3) + r9) : Int32).toNatClampNeg) + 1))) (fun n => rfl) ?_
      exact ih y3 y4 ((y5 + 1)) (ab_wI h 38 (((y5 * 3) + r9) : Int32).toNatClampNeg ((h.1 38 (((y5 * 3) + r9) : Int32).toNatClampNeg) + 1)) _ hf
set_option maxRecDepth 20000 in
theorem sX5_tally_L24_44 (d : Nat) (X : abX)   : ∀ (n : Nat), ∀ (y3 : Int32) (y4 : Int32) (h : abJ) (z : abJ), fX5_tally_L24 44 n y3 y4 h = some z → ab_Ex X (d + 4) 62 24 [(0, .ref 37), (1, .ref 12), (2, .ref 44), (3, .int y3), (4, .int y4)] [] ab_SH (ab_dD h) (fun r => r = (none, ab_SH, ab_dD z)) := by
  intro n
  induction n with
  | zero => intro y3 y4 h z hf; cases hf
  | succ n ih =>
    intro y3 y4 h z hf
    rw [fX5_tally_L24] at hf
    try simp only [Nat.reduceAdd] at hf
    refine ab_Ex.blk (k := 2) (pc' := 27) (lv' := [(0, .ref 37), (1, .ref 12), (2, .ref 44), (3, .int y3), (4, .int y4)]) (st' := [.int y3, .int y4]) (sh' := ab_SH) (D' := ab_dD h) (fun n => rfl) ?_
    refine ab_Ex.ifc (c := y3 ≤ y4) (SA := (117, [(0, .ref 37), (1, .ref 12), (2, .ref 44), (3, .int y3), (4, .int y4)], [], ab_dD h)) (SB := (30, [(0, .ref 37), (1, .ref 12), (2, .ref 44), (3, .int y3), (4, .int y4)], [], ab_dD h)) (fun n => rfl) (fun c3 => ?_) (fun c3 => ?_)
    · replace hf := (if_pos c3).symm.trans hf
      obtain rfl := Option.some.inj hf
      exact ab_Ex.ret (fun n => rfl) rfl
    · replace hf := (if_neg c3).symm.trans hf
      refine ab_Ex.blk (k := 3) (pc' := 36) (lv' := [(0, .ref 37), (1, .ref 12), (2, .ref 44), (3, .int y3), (4, .int y4)]) (st' := [.int y4, .ref 1]) (sh' := ab_SH) (D' := ab_dD h) (fun n => rfl) ?_
      obtain ⟨r4, hr4, hf⟩ := ab_bind_s hf
      refine ab_Ex.call (d := d + 3) (M2 := 42) (as := [.ref 1, .int y4]) (rest := []) (fun n => rfl) rfl (Nat.not_lt.mpr (Nat.le_of_ble_eq_true rfl)) (sX3_canShow (d + 2) X y4 h _ hr4) (fun r hr => ?_)
      subst hr
      show ab_Ex X (d + 4) 62 39 [(0, .ref 37), (1, .ref 12), (2, .ref 44), (3, .int y3), (4, .int y4)] [.int r4] ab_SH (ab_dD h) _
      refine ab_Ex.ifc (c := r4 = 0) (SA := (111, [(0, .ref 37), (1, .ref 12), (2, .ref 44), (3, .int y3), (4, .int y4)], [], ab_dD h)) (SB := (42, [(0, .ref 37), (1, .ref 12), (2, .ref 44), (3, .int y3), (4, .int y4)], [], ab_dD h)) (fun n => rfl) (fun c5 => ?_) (fun c5 => ?_)
      · replace hf := (if_pos c5).symm.trans hf
        exact sX5_tally_J111_44 d X (fun y3 y4 h => fX5_tally_L24 44 n y3 y4 h) (fun y3 y4 h z hz => ih y3 y4 h z hz) y3 y4 h _ hf
      · replace hf := (if_neg c5).symm.trans hf
        refine ab_Ex.blk (k := 10) (pc' := 58) (lv' := [(0, .ref 37), (1, .ref 12), (2, .ref 44), (3, .int y3), (4, .int y4)]) (st' := [.ref 44, .int (((y4 * 6) + (h.1 12 0))), .int ((h.1 12 2)), .ref 37]) (sh' := ab_SH) (D' := ab_dD h) (fun n => rfl) ?_
        obtain ⟨r6, hr6, hf⟩ := ab_bind_s hf
        refine ab_Ex.call (d := d + 3) (M2 := 61) (as := [.ref 37, .int ((h.1 12 2)), .int (((y4 * 6) + (h.1 12 0))), .ref 44]) (rest := []) (fun n => rfl) rfl (Nat.not_lt.mpr (Nat.le_of_ble_eq_true rfl)) (sX5_fits_44 (d) X ((h.1 12 2)) (((y4 * 6) + (h.1 12 0))) h _ hr6) (fun r hr => ?_)
        subst hr
        show ab_Ex X (d + 4) 62 61 [(0, .ref 37), (1, .ref 12), (2, .ref 44), (3, .int y3), (4, .int y4)] [.int r6] ab_SH (ab_dD h) _
        refine ab_Ex.ifc (c := r6 = 0) (SA := (111, [(0, .ref 37), (1, .ref 12), (2, .ref 44), (3, .int y3), (4, .int y4)], [], ab_dD h)) (SB := (64, [(0, .ref 37), (1, .ref 12), (2, .ref 44), (3, .int y3), (4, .int y4)], [], ab_dD h)) (fun n => rfl) (fun c7 => ?_) (fun c7 => ?_)
        · replace hf := (if_pos c7).symm.trans hf
          exact sX5_tally_J111_44 d X (fun y3 y4 h => fX5_tally_L24 44 n y3 y4 h) (fun y3 y4 h z hz => ih y3 y4 h z hz) y3 y4 h _ hf
        · replace hf := (if_neg c7).symm.trans hf
          refine ab_Ex.blk (k := 8) (pc' := 77) (lv' := [(0, .ref 37), (1, .ref 12), (2, .ref 44), (3, .int y3), (4, .int y4), (5, .int 0)]) (st' := []) (sh' := ab_SH) (D' := ab_dD (ab_wI h 37 3 ((h.1 37 3) + 1))) (fun n => rfl) ?_
          exact sX5_tally_L77_44 d X (fun y3 y4 h => fX5_tally_L24 44 n y3 y4 h) (fun y3 y4 h z hz => ih y3 y4 h z hz) ab_N y3 y4 0 (ab_wI h 37 3 ((h.1 37 3) + 1)) _ hf
set_option maxRecDepth 20000 in
theorem sX5_tally_44 (d : Nat) (X : abX)  (h : abJ) (z : abJ) (hf : fX5_tally 44 h = some z) : ab_Ex X (d + 4) 62 0 [(0, .ref 37), (1, .ref 12), (2, .ref 44)] [] ab_SH (ab_dD h) (fun r => r = (none, ab_SH, ab_dD z)) := by
  unfold fX5_tally at hf
  try simp only [Nat.reduceAdd] at hf
  refine ab_Ex.blk (k := 3) (pc' := 5) (lv' := [(0, .ref 37), (1, .ref 12), (2, .ref 44)]) (st' := [.int 0, .ref 38]) (sh' := ab_SH) (D' := ab_dD h) (fun n => rfl) ?_
  obtain ⟨r1, hr1, hf⟩ := ab_bind_s hf
  refine ab_Ex.call (d := d + 3) (M2 := 317) (as := [.ref 38, .int 0]) (rest := []) (fun n => rfl) rfl (Nat.not_lt.mpr (Nat.le_of_ble_eq_true rfl)) (sJ7_fill_53178_38 (d + 3) X 0 h _ hr1) (fun r hr => ?_)
  subst hr
  show ab_Ex X (d + 4) 62 8 [(0, .ref 37), (1, .ref 12), (2, .ref 44)] [] ab_SH (ab_dD r1) _
  refine ab_Ex.blk (k := 5) (pc' := 17) (lv' := [(0, .ref 37), (1, .ref 12), (2, .ref 44)]) (st' := [.ref 1]) (sh' := ab_SH) (D' := ab_dD (ab_wI r1 37 3 0)) (fun n => rfl) ?_
  obtain ⟨r2, hr2, hf⟩ := ab_bind_s hf
  refine ab_Ex.call (d := d + 3) (M2 := 41) (as := [.ref 1]) (rest := []) (fun n => rfl) rfl (Nat.not_lt.mpr (Nat.le_of_ble_eq_true rfl)) (sX3_armLimit (d + 3) X  (ab_wI r1 37 3 0) _ hr2) (fun r hr => ?_)
  subst hr
  show ab_Ex X (d + 4) 62 20 [(0, .ref 37), (1, .ref 12), (2, .ref 44)] [.int r2] ab_SH (ab_dD (ab_wI r1 37 3 0)) _
  refine ab_Ex.blk (k := 3) (pc' := 24) (lv' := [(0, .ref 37), (1, .ref 12), (2, .ref 44), (3, .int r2), (4, .int 0)]) (st' := []) (sh' := ab_SH) (D' := ab_dD (ab_wI r1 37 3 0)) (fun n => rfl) ?_
  exact sX5_tally_L24_44 d X  ab_N r2 0 (ab_wI r1 37 3 0) _ hf
set_option maxRecDepth 20000 in
theorem sX5_tally_J111_46 (d : Nat) (X : abX) (k24 : Int32 → Int32 → abJ → Option abJ) (hk24 : ∀ (y3 : Int32) (y4 : Int32) (h : abJ) (z : abJ), k24 y3 y4 h = some z → ab_Ex X (d + 4) 62 24 [(0, .ref 37), (1, .ref 12), (2, .ref 46), (3, .int y3), (4, .int y4)] [] ab_SH (ab_dD h) (fun r => r = (none, ab_SH, ab_dD z))) : ∀ (y3 : Int32) (y4 : Int32) (h : abJ) (z : abJ), fX5_tally_J111 46 k24 y3 y4 h = some z → ab_Ex X (d + 4) 62 111 [(0, .ref 37), (1, .ref 12), (2, .ref 46), (3, .int y3), (4, .int y4)] [] ab_SH (ab_dD h) (fun r => r = (none, ab_SH, ab_dD z)) := by
  intro y3 y4 h z hf
  unfold fX5_tally_J111 at hf
  try simp only [Nat.reduceAdd] at hf
  refine ab_Ex.blk (k := 2) (pc' := 24) (lv' := [(0, .ref 37), (1, .ref 12), (2, .ref 46), (3, .int y3), (4, .int ((y4 + 1)))]) (st' := []) (sh' := ab_SH) (D' := ab_dD h) (fun n => rfl) ?_
  exact hk24 y3 ((y4 + 1)) h _ hf
set_option maxRecDepth 20000 in
theorem sX5_tally_L77_46 (d : Nat) (X : abX) (k24 : Int32 → Int32 → abJ → Option abJ) (hk24 : ∀ (y3 : Int32) (y4 : Int32) (h : abJ) (z : abJ), k24 y3 y4 h = some z → ab_Ex X (d + 4) 62 24 [(0, .ref 37), (1, .ref 12), (2, .ref 46), (3, .int y3), (4, .int y4)] [] ab_SH (ab_dD h) (fun r => r = (none, ab_SH, ab_dD z))) : ∀ (n : Nat), ∀ (y3 : Int32) (y4 : Int32) (y5 : Int32) (h : abJ) (z : abJ), fX5_tally_L77 46 k24 n y3 y4 y5 h = some z → ab_Ex X (d + 4) 62 77 [(0, .ref 37), (1, .ref 12), (2, .ref 46), (3, .int y3), (4, .int y4), (5, .int y5)] [] ab_SH (ab_dD h) (fun r => r = (none, ab_SH, ab_dD z)) := by
  intro n
  induction n with
  | zero => intro y3 y4 y5 h z hf; cases hf
  | succ n ih =>
    intro y3 y4 y5 h z hf
    rw [fX5_tally_L77] at hf
    try simp only [Nat.reduceAdd] at hf
    refine ab_Ex.blk (k := 2) (pc' := 81) (lv' := [(0, .ref 37), (1, .ref 12), (2, .ref 46), (3, .int y3), (4, .int y4), (5, .int y5)]) (st' := [.int 6, .int y5]) (sh' := ab_SH) (D' := ab_dD h) (fun n => rfl) ?_
    refine ab_Ex.ifc (c := 6 ≤ y5) (SA := (111, [(0, .ref 37), (1, .ref 12), (2, .ref 46), (3, .int y3), (4, .int y4), (5, .int y5)], [], ab_dD h)) (SB := (84, [(0, .ref 37), (1, .ref 12), (2, .ref 46), (3, .int y3), (4, .int y4), (5, .int y5)], [], ab_dD h)) (fun n => rfl) (fun c8 => ?_) (fun c8 => ?_)
    · replace hf := (if_pos c8).symm.trans hf
      exact sX5_tally_J111_46 d X k24 hk24 y3 y4 h _ hf
    · replace hf := (if_neg c8).symm.trans hf
      refine ab_Ex.blk (k := 7) (pc' := 96) (lv' := [(0, .ref 37), (1, .ref 12), (2, .ref 46), (3, .int y3), (4, .int y4), (5, .int y5)]) (st' := [.int y5, .int y4, .int ((y5 * 3)), .ref 38]) (sh' := ab_SH) (D' := ab_dD h) (fun n => rfl) ?_
      obtain ⟨r9, hr9, hf⟩ := ab_bind_s hf
      refine ab_Ex.call (d := d + 3) (M2 := 172) (as := [.int y4, .int y5]) (rest := [.int ((y5 * 3)), .ref 38]) (fun n => rfl) rfl (Nat.not_lt.mpr (Nat.le_of_ble_eq_true rfl)) (sX11_armOf (d + 3) X y4 y5 h _ hr9) (fun r hr => ?_)
      subst hr
      show ab_Ex X (d + 4) 62 99 [(0, .ref 37), (1, .ref 12), (2, .ref 46), (3, .int y3), (4, .int y4), (5, .int y5)] [.int r9, .int ((y5 * 3)), .ref 38] ab_SH (ab_dD h) _
      refine ab_Ex.blk (k := 2) (pc' := 101) (lv' := [(0, .ref 37), (1, .ref 12), (2, .ref 46), (3, .int y3), (4, .int y4), (5, .int y5)]) (st' := [.int (((y5 * 3) + r9)), .ref 38, .int (((y5 * 3) + r9)), .ref 38]) (sh' := ab_SH) (D' := ab_dD h) (fun n => rfl) ?_
      obtain ⟨c11, hf⟩ := ab_ask_s hf
      refine ab_Ex.grd (c := ((y5 * 3) + r9) < 0 ∨ 18 ≤ (((y5 * 3) + r9) : Int32).toNatClampNeg) (S := (102, [(0, .ref 37), (1, .ref 12), (2, .ref 46), (3, .int y3), (4, .int y4), (5, .int y5)], [.int ((h.1 38 (((y5 * 3) + r9) : Int32).toNatClampNeg)), .int (((y5 * 3) + r9)), .ref 38], ab_dD h)) (fun n => rfl) c11 ?_
      refine ab_Ex.blk (k := 2) (pc' := 104) (lv' := [(0, .ref 37), (1, .ref 12), (2, .ref 46), (3, .int y3), (4, .int y4), (5, .int y5)]) (st' := [.int (((h.1 38 (((y5 * 3) + r9) : Int32).toNatClampNeg) + 1)), .int (((y5 * 3) + r9)), .ref 38]) (sh' := ab_SH) (D' := ab_dD h) (fun n => rfl) ?_
      obtain ⟨c12, hf⟩ := ab_ask_s hf
      refine ab_Ex.grd (c := ((y5 * 3) + r9) < 0 ∨ 18 ≤ (((y5 * 3) + r9) : Int32).toNatClampNeg) (S := (105, [(0, .ref 37), (1, .ref 12), (2, .ref 46), (3, .int y3), (4, .int y4), (5, .int y5)], [], ab_dD (ab_wI h 38 (((y5 * 3) + r9) : Int32).toNatClampNeg ((h.1 38 (((y5 * 3) + r9) : Int32).toNatClampNeg) + 1)))) (fun n => rfl) c12 ?_
      refine ab_Ex.blk (k := 2) (pc' := 77) (lv' := [(0, .ref 37), (1, .ref 12), (2, .ref 46), (3, .int y3), (4, .int y4), (5, .int ((y5 + 1)))]) (st' := []) (sh' := ab_SH) (D' := ab_dD (ab_wI h 38 (((y5 * 3) + r9) : Int32).toNatClampNeg ((h.1 38 (((y5 * 3) + r9) : Int32).toNatClampNeg) + 1))) (fun n => rfl) ?_
      exact ih y3 y4 ((y5 + 1)) (ab_wI h 38 (((y5 * 3) + r9) : Int32).toNatClampNeg ((h.1 38 (((y5 * 3) + r9) : Int32).toNatClampNeg) + 1)) _ hf
set_option maxRecDepth 20000 in
theorem sX5_tally_L24_46 (d : Nat) (X : abX)   : ∀ (n : Nat), ∀ (y3 : Int32) (y4 : Int32) (h : abJ) (z : abJ), fX5_tally_L24 46 n y3 y4 h = some z → ab_Ex X (d + 4) 62 24 [(0, .ref 37), (1, .ref 12), (2, .ref 46), (3, .int y3), (4, .int y4)] [] ab_SH (ab_dD h) (fun r => r = (none, ab_SH, ab_dD z)) := by
  intro n
  induction n with
  | zero => intro y3 y4 h z hf; cases hf
  | succ n ih =>
    intro y3 y4 h z hf
    rw [fX5_tally_L24] at hf
    try simp only [Nat.reduceAdd] at hf
    refine ab_Ex.blk (k := 2) (pc' := 27) (lv' := [(0, .ref 37), (1, .ref 12), (2, .ref 46), (3, .int y3), (4, .int y4)]) (st' := [.int y3, .int y4]) (sh' := ab_SH) (D' := ab_dD h) (fun n => rfl) ?_
    refine ab_Ex.ifc (c := y3 ≤ y4) (SA := (117, [(0, .ref 37), (1, .ref 12), (2, .ref 46), (3, .int y3), (4, .int y4)], [], ab_dD h)) (SB := (30, [(0, .ref 37), (1, .ref 12), (2, .ref 46), (3, .int y3), (4, .int y4)], [], ab_dD h)) (fun n => rfl) (fun c3 => ?_) (fun c3 => ?_)
    · replace hf := (if_pos c3).symm.trans hf
      obtain rfl := Option.some.inj hf
      exact ab_Ex.ret (fun n => rfl) rfl
    · replace hf := (if_neg c3).symm.trans hf
      refine ab_Ex.blk (k := 3) (pc' := 36) (lv' := [(0, .ref 37), (1, .ref 12), (2, .ref 46), (3, .int y3), (4, .int y4)]) (st' := [.int y4, .ref 1]) (sh' := ab_SH) (D' := ab_dD h) (fun n => rfl) ?_
      obtain ⟨r4, hr4, hf⟩ := ab_bind_s hf
      refine ab_Ex.call (d := d + 3) (M2 := 42) (as := [.ref 1, .int y4]) (rest := []) (fun n => rfl) rfl (Nat.not_lt.mpr (Nat.le_of_ble_eq_true rfl)) (sX3_canShow (d + 2) X y4 h _ hr4) (fun r hr => ?_)
      subst hr
      show ab_Ex X (d + 4) 62 39 [(0, .ref 37), (1, .ref 12), (2, .ref 46), (3, .int y3), (4, .int y4)] [.int r4] ab_SH (ab_dD h) _
      refine ab_Ex.ifc (c := r4 = 0) (SA := (111, [(0, .ref 37), (1, .ref 12), (2, .ref 46), (3, .int y3), (4, .int y4)], [], ab_dD h)) (SB := (42, [(0, .ref 37), (1, .ref 12), (2, .ref 46), (3, .int y3), (4, .int y4)], [], ab_dD h)) (fun n => rfl) (fun c5 => ?_) (fun c5 => ?_)
      · replace hf := (if_pos c5).symm.trans hf
        exact sX5_tally_J111_46 d X (fun y3 y4 h => fX5_tally_L24 46 n y3 y4 h) (fun y3 y4 h z hz => ih y3 y4 h z hz) y3 y4 h _ hf
      · replace hf := (if_neg c5).symm.trans hf
        refine ab_Ex.blk (k := 10) (pc' := 58) (lv' := [(0, .ref 37), (1, .ref 12), (2, .ref 46), (3, .int y3), (4, .int y4)]) (st' := [.ref 46, .int (((y4 * 6) + (h.1 12 0))), .int ((h.1 12 2)), .ref 37]) (sh' := ab_SH) (D' := ab_dD h) (fun n => rfl) ?_
        obtain ⟨r6, hr6, hf⟩ := ab_bind_s hf
        refine ab_Ex.call (d := d + 3) (M2 := 61) (as := [.ref 37, .int ((h.1 12 2)), .int (((y4 * 6) + (h.1 12 0))), .ref 46]) (rest := []) (fun n => rfl) rfl (Nat.not_lt.mpr (Nat.le_of_ble_eq_true rfl)) (sX5_fits_46 (d) X ((h.1 12 2)) (((y4 * 6) + (h.1 12 0))) h _ hr6) (fun r hr => ?_)
        subst hr
        show ab_Ex X (d + 4) 62 61 [(0, .ref 37), (1, .ref 12), (2, .ref 46), (3, .int y3), (4, .int y4)] [.int r6] ab_SH (ab_dD h) _
        refine ab_Ex.ifc (c := r6 = 0) (SA := (111, [(0, .ref 37), (1, .ref 12), (2, .ref 46), (3, .int y3), (4, .int y4)], [], ab_dD h)) (SB := (64, [(0, .ref 37), (1, .ref 12), (2, .ref 46), (3, .int y3), (4, .int y4)], [], ab_dD h)) (fun n => rfl) (fun c7 => ?_) (fun c7 => ?_)
        · replace hf := (if_pos c7).symm.trans hf
          exact sX5_tally_J111_46 d X (fun y3 y4 h => fX5_tally_L24 46 n y3 y4 h) (fun y3 y4 h z hz => ih y3 y4 h z hz) y3 y4 h _ hf
        · replace hf := (if_neg c7).symm.trans hf
          refine ab_Ex.blk (k := 8) (pc' := 77) (lv' := [(0, .ref 37), (1, .ref 12), (2, .ref 46), (3, .int y3), (4, .int y4), (5, .int 0)]) (st' := []) (sh' := ab_SH) (D' := ab_dD (ab_wI h 37 3 ((h.1 37 3) + 1))) (fun n => rfl) ?_
          exact sX5_tally_L77_46 d X (fun y3 y4 h => fX5_tally_L24 46 n y3 y4 h) (fun y3 y4 h z hz => ih y3 y4 h z hz) ab_N y3 y4 0 (ab_wI h 37 3 ((h.1 37 3) + 1)) _ hf
set_option maxRecDepth 20000 in
theorem sX5_tally_46 (d : Nat) (X : abX)  (h : abJ) (z : abJ) (hf : fX5_tally 46 h = some z) : ab_Ex X (d + 4) 62 0 [(0, .ref 37), (1, .ref 12), (2, .ref 46)] [] ab_SH (ab_dD h) (fun r => r = (none, ab_SH, ab_dD z)) := by
  unfold fX5_tally at hf
  try simp only [Nat.reduceAdd] at hf
  refine ab_Ex.blk (k := 3) (pc' := 5) (lv' := [(0, .ref 37), (1, .ref 12), (2, .ref 46)]) (st' := [.int 0, .ref 38]) (sh' := ab_SH) (D' := ab_dD h) (fun n => rfl) ?_
  obtain ⟨r1, hr1, hf⟩ := ab_bind_s hf
  refine ab_Ex.call (d := d + 3) (M2 := 317) (as := [.ref 38, .int 0]) (rest := []) (fun n => rfl) rfl (Nat.not_lt.mpr (Nat.le_of_ble_eq_true rfl)) (sJ7_fill_53178_38 (d + 3) X 0 h _ hr1) (fun r hr => ?_)
  subst hr
  show ab_Ex X (d + 4) 62 8 [(0, .ref 37), (1, .ref 12), (2, .ref 46)] [] ab_SH (ab_dD r1) _
  refine ab_Ex.blk (k := 5) (pc' := 17) (lv' := [(0, .ref 37), (1, .ref 12), (2, .ref 46)]) (st' := [.ref 1]) (sh' := ab_SH) (D' := ab_dD (ab_wI r1 37 3 0)) (fun n => rfl) ?_
  obtain ⟨r2, hr2, hf⟩ := ab_bind_s hf
  refine ab_Ex.call (d := d + 3) (M2 := 41) (as := [.ref 1]) (rest := []) (fun n => rfl) rfl (Nat.not_lt.mpr (Nat.le_of_ble_eq_true rfl)) (sX3_armLimit (d + 3) X  (ab_wI r1 37 3 0) _ hr2) (fun r hr => ?_)
  subst hr
  show ab_Ex X (d + 4) 62 20 [(0, .ref 37), (1, .ref 12), (2, .ref 46)] [.int r2] ab_SH (ab_dD (ab_wI r1 37 3 0)) _
  refine ab_Ex.blk (k := 3) (pc' := 24) (lv' := [(0, .ref 37), (1, .ref 12), (2, .ref 46), (3, .int r2), (4, .int 0)]) (st' := []) (sh' := ab_SH) (D' := ab_dD (ab_wI r1 37 3 0)) (fun n => rfl) ?_
  exact sX5_tally_L24_46 d X  ab_N r2 0 (ab_wI r1 37 3 0) _ hf
set_option maxRecDepth 20000 in
theorem sX5_tally_J111_48 (d : Nat) (X : abX) (k24 : Int32 → Int32 → abJ → Option abJ) (hk24 : ∀ (y3 : Int32) (y4 : Int32) (h : abJ) (z : abJ), k24 y3 y4 h = some z → ab_Ex X (d + 4) 62 24 [(0, .ref 37), (1, .ref 12), (2, .ref 48), (3, .int y3), (4, .int y4)] [] ab_SH (ab_dD h) (fun r => r = (none, ab_SH, ab_dD z))) : ∀ (y3 : Int32) (y4 : Int32) (h : abJ) (z : abJ), fX5_tally_J111 48 k24 y3 y4 h = some z → ab_Ex X (d + 4) 62 111 [(0, .ref 37), (1, .ref 12), (2, .ref 48), (3, .int y3), (4, .int y4)] [] ab_SH (ab_dD h) (fun r => r = (none, ab_SH, ab_dD z)) := by
  intro y3 y4 h z hf
  unfold fX5_tally_J111 at hf
  try simp only [Nat.reduceAdd] at hf
  refine ab_Ex.blk (k := 2) (pc' := 24) (lv' := [(0, .ref 37), (1, .ref 12), (2, .ref 48), (3, .int y3), (4, .int ((y4 + 1)))]) (st' := []) (sh' := ab_SH) (D' := ab_dD h) (fun n => rfl) ?_
  exact hk24 y3 ((y4 + 1)) h _ hf
set_option maxRecDepth 20000 in
theorem sX5_tally_L77_48 (d : Nat) (X : abX) (k24 : Int32 → Int32 → abJ → Option abJ) (hk24 : ∀ (y3 : Int32) (y4 : Int32) (h : abJ) (z : abJ), k24 y3 y4 h = some z → ab_Ex X (d + 4) 62 24 [(0, .ref 37), (1, .ref 12), (2, .ref 48), (3, .int y3), (4, .int y4)] [] ab_SH (ab_dD h) (fun r => r = (none, ab_SH, ab_dD z))) : ∀ (n : Nat), ∀ (y3 : Int32) (y4 : Int32) (y5 : Int32) (h : abJ) (z : abJ), fX5_tally_L77 48 k24 n y3 y4 y5 h = some z → ab_Ex X (d + 4) 62 77 [(0, .ref 37), (1, .ref 12), (2, .ref 48), (3, .int y3), (4, .int y4), (5, .int y5)] [] ab_SH (ab_dD h) (fun r => r = (none, ab_SH, ab_dD z)) := by
  intro n
  induction n with
  | zero => intro y3 y4 y5 h z hf; cases hf
  | succ n ih =>
    intro y3 y4 y5 h z hf
    rw [fX5_tally_L77] at hf
    try simp only [Nat.reduceAdd] at hf
    refine ab_Ex.blk (k := 2) (pc' := 81) (lv' := [(0, .ref 37), (1, .ref 12), (2, .ref 48), (3, .int y3), (4, .int y4), (5, .int y5)]) (st' := [.int 6, .int y5]) (sh' := ab_SH) (D' := ab_dD h) (fun n => rfl) ?_
    refine ab_Ex.ifc (c := 6 ≤ y5) (SA := (111, [(0, .ref 37), (1, .ref 12), (2, .ref 48), (3, .int y3), (4, .int y4), (5, .int y5)], [], ab_dD h)) (SB := (84, [(0, .ref 37), (1, .ref 12), (2, .ref 48), (3, .int y3), (4, .int y4), (5, .int y5)], [], ab_dD h)) (fun n => rfl) (fun c8 => ?_) (fun c8 => ?_)
    · replace hf := (if_pos c8).symm.trans hf
      exact sX5_tally_J111_48 d X k24 hk24 y3 y4 h _ hf
    · replace hf := (if_neg c8).symm.trans hf
      refine ab_Ex.blk (k := 7) (pc' := 96) (lv' := [(0, .ref 37), (1, .ref 12), (2, .ref 48), (3, .int y3), (4, .int y4), (5, .int y5)]) (st' := [.int y5, .int y4, .int ((y5 * 3)), .ref 38]) (sh' := ab_SH) (D' := ab_dD h) (fun n => rfl) ?_
      obtain ⟨r9, hr9, hf⟩ := ab_bind_s hf
      refine ab_Ex.call (d := d + 3) (M2 := 172) (as := [.int y4, .int y5]) (rest := [.int ((y5 * 3)), .ref 38]) (fun n => rfl) rfl (Nat.not_lt.mpr (Nat.le_of_ble_eq_true rfl)) (sX11_armOf (d + 3) X y4 y5 h _ hr9) (fun r hr => ?_)
      subst hr
      show ab_Ex X (d + 4) 62 99 [(0, .ref 37), (1, .ref 12), (2, .ref 48), (3, .int y3), (4, .int y4), (5, .int y5)] [.int r9, .int ((y5 * 3)), .ref 38] ab_SH (ab_dD h) _
      refine ab_Ex.blk (k := 2) (pc' := 101) (lv' := [(0, .ref 37), (1, .ref 12), (2, .ref 48), (3, .int y3), (4, .int y4), (5, .int y5)]) (st' := [.int (((y5 * 3) + r9)), .ref 38, .int (((y5 * 3) + r9)), .ref 38]) (sh' := ab_SH) (D' := ab_dD h) (fun n => rfl) ?_
      obtain ⟨c11, hf⟩ := ab_ask_s hf
      refine ab_Ex.grd (c := ((y5 * 3) + r9) < 0 ∨ 18 ≤ (((y5 * 3) + r9) : Int32).toNatClampNeg) (S := (102, [(0, .ref 37), (1, .ref 12), (2, .ref 48), (3, .int y3), (4, .int y4), (5, .int y5)], [.int ((h.1 38 (((y5 * 3) + r9) : Int32).toNatClampNeg)), .int (((y5 * 3) + r9)), .ref 38], ab_dD h)) (fun n => rfl) c11 ?_
      refine ab_Ex.blk (k := 2) (pc' := 104) (lv' := [(0, .ref 37), (1, .ref 12), (2, .ref 48), (3, .int y3), (4, .int y4), (5, .int y5)]) (st' := [.int (((h.1 38 (((y5 * 3) + r9) : Int32).toNatClampNeg) + 1)), .int (((y5 * 3) + r9)), .ref 38]) (sh' := ab_SH) (D' := ab_dD h) (fun n => rfl) ?_
      obtain ⟨c12, hf⟩ := ab_ask_s hf
      refine ab_Ex.grd (c := ((y5 * 3) + r9) < 0 ∨ 18 ≤ (((y5 * 3) + r9) : Int32).toNatClampNeg) (S := (105, [(0, .ref 37), (1, .ref 12), (2, .ref 48), (3, .int y3), (4, .int y4), (5, .int y5)], [], ab_dD (ab_wI h 38 (((y5 * 3) + r9) : Int32).toNatClampNeg ((h.1 38 (((y5 * 3) + r9) : Int32).toNatClampNeg) + 1)))) (fun n => rfl) c12 ?_
      refine ab_Ex.blk (k := 2) (pc' := 77) (lv' := [(0, .ref 37), (1, .ref 12), (2, .ref 48), (3, .int y3), (4, .int y4), (5, .int ((y5 + 1)))]) (st' := []) (sh' := ab_SH) (D' := ab_dD (ab_wI h 38 (((y5 * 3) + r9) : Int32).toNatClampNeg ((h.1 38 (((y5 * 3) + r9) : Int32).toNatClampNeg) + 1))) (fun n => rfl) ?_
      exact ih y3 y4 ((y5 + 1)) (ab_wI h 38 (((y5 * 3) + r9) : Int32).toNatClampNeg ((h.1 38 (((y5 * 3) + r9) : Int32).toNatClampNeg) + 1)) _ hf
set_option maxRecDepth 20000 in
theorem sX5_tally_L24_48 (d : Nat) (X : abX)   : ∀ (n : Nat), ∀ (y3 : Int32) (y4 : Int32) (h : abJ) (z : abJ), fX5_tally_L24 48 n y3 y4 h = some z → ab_Ex X (d + 4) 62 24 [(0, .ref 37), (1, .ref 12), (2, .ref 48), (3, .int y3), (4, .int y4)] [] ab_SH (ab_dD h) (fun r => r = (none, ab_SH, ab_dD z)) := by
  intro n
  induction n with
  | zero => intro y3 y4 h z hf; cases hf
  | succ n ih =>
    intro y3 y4 h z hf
    rw [fX5_tally_L24] at hf
    try simp only [Nat.reduceAdd] at hf
    refine ab_Ex.blk (k := 2) (pc' := 27) (lv' := [(0, .ref 37), (1, .ref 12), (2, .ref 48), (3, .int y3), (4, .int y4)]) (st' := [.int y3, .int y4]) (sh' := ab_SH) (D' := ab_dD h) (fun n => rfl) ?_
    refine ab_Ex.ifc (c := y3 ≤ y4) (SA := (117, [(0, .ref 37), (1, .ref 12), (2, .ref 48), (3, .int y3), (4, .int y4)], [], ab_dD h)) (SB := (30, [(0, .ref 37), (1, .ref 12), (2, .ref 48), (3, .int y3), (4, .int y4)], [], ab_dD h)) (fun n => rfl) (fun c3 => ?_) (fun c3 => ?_)
    · replace hf := (if_pos c3).symm.trans hf
      obtain rfl := Option.some.inj hf
      exact ab_Ex.ret (fun n => rfl) rfl
    · replace hf := (if_neg c3).symm.trans hf
      refine ab_Ex.blk (k := 3) (pc' := 36) (lv' := [(0, .ref 37), (1, .ref 12), (2, .ref 48), (3, .int y3), (4, .int y4)]) (st' := [.int y4, .ref 1]) (sh' := ab_SH) (D' := ab_dD h) (fun n => rfl) ?_
      obtain ⟨r4, hr4, hf⟩ := ab_bind_s hf
      refine ab_Ex.call (d := d + 3) (M2 := 42) (as := [.ref 1, .int y4]) (rest := []) (fun n => rfl) rfl (Nat.not_lt.mpr (Nat.le_of_ble_eq_true rfl)) (sX3_canShow (d + 2) X y4 h _ hr4) (fun r hr => ?_)
      subst hr
      show ab_Ex X (d + 4) 62 39 [(0, .ref 37), (1, .ref 12), (2, .ref 48), (3, .int y3), (4, .int y4)] [.int r4] ab_SH (ab_dD h) _
      refine ab_Ex.ifc (c := r4 = 0) (SA := (111, [(0, .ref 37), (1, .ref 12), (2, .ref 48), (3, .int y3), (4, .int y4)], [], ab_dD h)) (SB := (42, [(0, .ref 37), (1, .ref 12), (2, .ref 48), (3, .int y3), (4, .int y4)], [], ab_dD h)) (fun n => rfl) (fun c5 => ?_) (fun c5 => ?_)
      · replace hf := (if_pos c5).symm.trans hf
        exact sX5_tally_J111_48 d X (fun y3 y4 h => fX5_tally_L24 48 n y3 y4 h) (fun y3 y4 h z hz => ih y3 y4 h z hz) y3 y4 h _ hf
      · replace hf := (if_neg c5).symm.trans hf
        refine ab_Ex.blk (k := 10) (pc' := 58) (lv' := [(0, .ref 37), (1, .ref 12), (2, .ref 48), (3, .int y3), (4, .int y4)]) (st' := [.ref 48, .int (((y4 * 6) + (h.1 12 0))), .int ((h.1 12 2)), .ref 37]) (sh' := ab_SH) (D' := ab_dD h) (fun n => rfl) ?_
        obtain ⟨r6, hr6, hf⟩ := ab_bind_s hf
        refine ab_Ex.call (d := d + 3) (M2 := 61) (as := [.ref 37, .int ((h.1 12 2)), .int (((y4 * 6) + (h.1 12 0))), .ref 48]) (rest := []) (fun n => rfl) rfl (Nat.not_lt.mpr (Nat.le_of_ble_eq_true rfl)) (sX5_fits_48 (d) X ((h.1 12 2)) (((y4 * 6) + (h.1 12 0))) h _ hr6) (fun r hr => ?_)
        subst hr
        show ab_Ex X (d + 4) 62 61 [(0, .ref 37), (1, .ref 12), (2, .ref 48), (3, .int y3), (4, .int y4)] [.int r6] ab_SH (ab_dD h) _
        refine ab_Ex.ifc (c := r6 = 0) (SA := (111, [(0, .ref 37), (1, .ref 12), (2, .ref 48), (3, .int y3), (4, .int y4)], [], ab_dD h)) (SB := (64, [(0, .ref 37), (1, .ref 12), (2, .ref 48), (3, .int y3), (4, .int y4)], [], ab_dD h)) (fun n => rfl) (fun c7 => ?_) (fun c7 => ?_)
        · replace hf := (if_pos c7).symm.trans hf
          exact sX5_tally_J111_48 d X (fun y3 y4 h => fX5_tally_L24 48 n y3 y4 h) (fun y3 y4 h z hz => ih y3 y4 h z hz) y3 y4 h _ hf
        · replace hf := (if_neg c7).symm.trans hf
          refine ab_Ex.blk (k := 8) (pc' := 77) (lv' := [(0, .ref 37), (1, .ref 12), (2, .ref 48), (3, .int y3), (4, .int y4), (5, .int 0)]) (st' := []) (sh' := ab_SH) (D' := ab_dD (ab_wI h 37 3 ((h.1 37 3) + 1))) (fun n => rfl) ?_
          exact sX5_tally_L77_48 d X (fun y3 y4 h => fX5_tally_L24 48 n y3 y4 h) (fun y3 y4 h z hz => ih y3 y4 h z hz) ab_N y3 y4 0 (ab_wI h 37 3 ((h.1 37 3) + 1)) _ hf
set_option maxRecDepth 20000 in
theorem sX5_tally_48 (d : Nat) (X : abX)  (h : abJ) (z : abJ) (hf : fX5_tally 48 h = some z) : ab_Ex X (d + 4) 62 0 [(0, .ref 37), (1, .ref 12), (2, .ref 48)] [] ab_SH (ab_dD h) (fun r => r = (none, ab_SH, ab_dD z)) := by
  unfold fX5_tally at hf
  try simp only [Nat.reduceAdd] at hf
  refine ab_Ex.blk (k := 3) (pc' := 5) (lv' := [(0, .ref 37), (1, .ref 12), (2, .ref 48)]) (st' := [.int 0, .ref 38]) (sh' := ab_SH) (D' := ab_dD h) (fun n => rfl) ?_
  obtain ⟨r1, hr1, hf⟩ := ab_bind_s hf
  refine ab_Ex.call (d := d + 3) (M2 := 317) (as := [.ref 38, .int 0]) (rest := []) (fun n => rfl) rfl (Nat.not_lt.mpr (Nat.le_of_ble_eq_true rfl)) (sJ7_fill_53178_38 (d + 3) X 0 h _ hr1) (fun r hr => ?_)
  subst hr
  show ab_Ex X (d + 4) 62 8 [(0, .ref 37), (1, .ref 12), (2, .ref 48)] [] ab_SH (ab_dD r1) _
  refine ab_Ex.blk (k := 5) (pc' := 17) (lv' := [(0, .ref 37), (1, .ref 12), (2, .ref 48)]) (st' := [.ref 1]) (sh' := ab_SH) (D' := ab_dD (ab_wI r1 37 3 0)) (fun n => rfl) ?_
  obtain ⟨r2, hr2, hf⟩ := ab_bind_s hf
  refine ab_Ex.call (d := d + 3) (M2 := 41) (as := [.ref 1]) (rest := []) (fun n => rfl) rfl (Nat.not_lt.mpr (Nat.le_of_ble_eq_true rfl)) (sX3_armLimit (d + 3) X  (ab_wI r1 37 3 0) _ hr2) (fun r hr => ?_)
  subst hr
  show ab_Ex X (d + 4) 62 20 [(0, .ref 37), (1, .ref 12), (2, .ref 48)] [.int r2] ab_SH (ab_dD (ab_wI r1 37 3 0)) _
  refine ab_Ex.blk (k := 3) (pc' := 24) (lv' := [(0, .ref 37), (1, .ref 12), (2, .ref 48), (3, .int r2), (4, .int 0)]) (st' := []) (sh' := ab_SH) (D' := ab_dD (ab_wI r1 37 3 0)) (fun n => rfl) ?_
  exact sX5_tally_L24_48 d X  ab_N r2 0 (ab_wI r1 37 3 0) _ hf
set_option maxRecDepth 20000 in
theorem sX5_tally_J111_50 (d : Nat) (X : abX) (k24 : Int32 → Int32 → abJ → Option abJ) (hk24 : ∀ (y3 : Int32) (y4 : Int32) (h : abJ) (z : abJ), k24 y3 y4 h = some z → ab_Ex X (d + 4) 62 24 [(0, .ref 37), (1, .ref 12), (2, .ref 50), (3, .int y3), (4, .int y4)] [] ab_SH (ab_dD h) (fun r => r = (none, ab_SH, ab_dD z))) : ∀ (y3 : Int32) (y4 : Int32) (h : abJ) (z : abJ), fX5_tally_J111 50 k24 y3 y4 h = some z → ab_Ex X (d + 4) 62 111 [(0, .ref 37), (1, .ref 12), (2, .ref 50), (3, .int y3), (4, .int y4)] [] ab_SH (ab_dD h) (fun r => r = (none, ab_SH, ab_dD z)) := by
  intro y3 y4 h z hf
  unfold fX5_tally_J111 at hf
  try simp only [Nat.reduceAdd] at hf
  refine ab_Ex.blk (k := 2) (pc' := 24) (lv' := [(0, .ref 37), (1, .ref 12), (2, .ref 50), (3, .int y3), (4, .int ((y4 + 1)))]) (st' := []) (sh' := ab_SH) (D' := ab_dD h) (fun n => rfl) ?_
  exact hk24 y3 ((y4 + 1)) h _ hf
set_option maxRecDepth 20000 in
theorem sX5_tally_L77_50 (d : Nat) (X : abX) (k24 : Int32 → Int32 → abJ → Option abJ) (hk24 : ∀ (y3 : Int32) (y4 : Int32) (h : abJ) (z : abJ), k24 y3 y4 h = some z → ab_Ex X (d + 4) 62 24 [(0, .ref 37), (1, .ref 12), (2, .ref 50), (3, .int y3), (4, .int y4)] [] ab_SH (ab_dD h) (fun r => r = (none, ab_SH, ab_dD z))) : ∀ (n : Nat), ∀ (y3 : Int32) (y4 : Int32) (y5 : Int32) (h : abJ) (z : abJ), fX5_tally_L77 50 k24 n y3 y4 y5 h = some z → ab_Ex X (d + 4) 62 77 [(0, .ref 37), (1, .ref 12), (2, .ref 50), (3, .int y3), (4, .int y4), (5, .int y5)] [] ab_SH (ab_dD h) (fun r => r = (none, ab_SH, ab_dD z)) := by
  intro n
  induction n with
  | zero => intro y3 y4 y5 h z hf; cases hf
  | succ n ih =>
    intro y3 y4 y5 h z hf
    rw [fX5_tally_L77] at hf
    try simp only [Nat.reduceAdd] at hf
    refine ab_Ex.blk (k := 2) (pc' := 81) (lv' := [(0, .ref 37), (1, .ref 12), (2, .ref 50), (3, .int y3), (4, .int y4), (5, .int y5)]) (st' := [.int 6, .int y5]) (sh' := ab_SH) (D' := ab_dD h) (fun n => rfl) ?_
    refine ab_Ex.ifc (c := 6 ≤ y5) (SA := (111, [(0, .ref 37), (1, .ref 12), (2, .ref 50), (3, .int y3), (4, .int y4), (5, .int y5)], [], ab_dD h)) (SB := (84, [(0, .ref 37), (1, .ref 12), (2, .ref 50), (3, .int y3), (4, .int y4), (5, .int y5)], [], ab_dD h)) (fun n => rfl) (fun c8 => ?_) (fun c8 => ?_)
    · replace hf := (if_pos c8).symm.trans hf
      exact sX5_tally_J111_50 d X k24 hk24 y3 y4 h _ hf
    · replace hf := (if_neg c8).symm.trans hf
      refine ab_Ex.blk (k := 7) (pc' := 96) (lv' := [(0, .ref 37), (1, .ref 12), (2, .ref 50), (3, .int y3), (4, .int y4), (5, .int y5)]) (st' := [.int y5, .int y4, .int ((y5 * 3)), .ref 38]) (sh' := ab_SH) (D' := ab_dD h) (fun n => rfl) ?_
      obtain ⟨r9, hr9, hf⟩ := ab_bind_s hf
      refine ab_Ex.call (d := d + 3) (M2 := 172) (as := [.int y4, .int y5]) (rest := [.int ((y5 * 3)), .ref 38]) (fun n => rfl) rfl (Nat.not_lt.mpr (Nat.le_of_ble_eq_true rfl)) (sX11_armOf (d + 3) X y4 y5 h _ hr9) (fun r hr => ?_)
      subst hr
      show ab_Ex X (d + 4) 62 99 [(0, .ref 37), (1, .ref 12), (2, .ref 50), (3, .int y3), (4, .int y4), (5, .int y5)] [.int r9, .int ((y5 * 3)), .ref 38] ab_SH (ab_dD h) _
      refine ab_Ex.blk (k := 2) (pc' := 101) (lv' := [(0, .ref 37), (1, .ref 12), (2, .ref 50), (3, .int y3), (4, .int y4), (5, .int y5)]) (st' := [.int (((y5 * 3) + r9)), .ref 38, .int (((y5 * 3) + r9)), .ref 38]) (sh' := ab_SH) (D' := ab_dD h) (fun n => rfl) ?_
      obtain ⟨c11, hf⟩ := ab_ask_s hf
      refine ab_Ex.grd (c := ((y5 * 3) + r9) < 0 ∨ 18 ≤ (((y5 * 3) + r9) : Int32).toNatClampNeg) (S := (102, [(0, .ref 37), (1, .ref 12), (2, .ref 50), (3, .int y3), (4, .int y4), (5, .int y5)], [.int ((h.1 38 (((y5 * 3) + r9) : Int32).toNatClampNeg)), .int (((y5 * 3) + r9)), .ref 38], ab_dD h)) (fun n => rfl) c11 ?_
      refine ab_Ex.blk (k := 2) (pc' := 104) (lv' := [(0, .ref 37), (1, .ref 12), (2, .ref 50), (3, .int y3), (4, .int y4), (5, .int y5)]) (st' := [.int (((h.1 38 (((y5 * 3) + r9) : Int32).toNatClampNeg) + 1)), .int (((y5 * 3) + r9)), .ref 38]) (sh' := ab_SH) (D' := ab_dD h) (fun n => rfl) ?_
      obtain ⟨c12, hf⟩ := ab_ask_s hf
      refine ab_Ex.grd (c := ((y5 * 3) + r9) < 0 ∨ 18 ≤ (((y5 * 3) + r9) : Int32).toNatClampNeg) (S := (105, [(0, .ref 37), (1, .ref 12), (2, .ref 50), (3, .int y3), (4, .int y4), (5, .int y5)], [], ab_dD (ab_wI h 38 (((y5 * 3) + r9) : Int32).toNatClampNeg ((h.1 38 (((y5 * 3) + r9) : Int32).toNatClampNeg) + 1)))) (fun n => rfl) c12 ?_
      refine ab_Ex.blk (k := 2) (pc' := 77) (lv' := [(0, .ref 37), (1, .ref 12), (2, .ref 50), (3, .int y3), (4, .int y4), (5, .int ((y5 + 1)))]) (st' := []) (sh' := ab_SH) (D' := ab_dD (ab_wI h 38 (((y5 * 3) + r9) : Int32).toNatClampNeg ((h.1 38 (((y5 * 3) + r9) : Int32).toNatClampNeg) + 1))) (fun n => rfl) ?_
      exact ih y3 y4 ((y5 + 1)) (ab_wI h 38 (((y5 * 3) + r9) : Int32).toNatClampNeg ((h.1 38 (((y5 * 3) + r9) : Int32).toNatClampNeg) + 1)) _ hf
set_option maxRecDepth 20000 in
theorem sX5_tally_L24_50 (d : Nat) (X : abX)   : ∀ (n : Nat), ∀ (y3 : Int32) (y4 : Int32) (h : abJ) (z : abJ), fX5_tally_L24 50 n y3 y4 h = some z → ab_Ex X (d + 4) 62 24 [(0, .ref 37), (1, .ref 12), (2, .ref 50), (3, .int y3), (4, .int y4)] [] ab_SH (ab_dD h) (fun r => r = (none, ab_SH, ab_dD z)) := by
  intro n
  induction n with
  | zero => intro y3 y4 h z hf; cases hf
  | succ n ih =>
    intro y3 y4 h z hf
    rw [fX5_tally_L24] at hf
    try simp only [Nat.reduceAdd] at hf
    refine ab_Ex.blk (k := 2) (pc' := 27) (lv' := [(0, .ref 37), (1, .ref 12), (2, .ref 50), (3, .int y3), (4, .int y4)]) (st' := [.int y3, .int y4]) (sh' := ab_SH) (D' := ab_dD h) (fun n => rfl) ?_
    refine ab_Ex.ifc (c := y3 ≤ y4) (SA := (117, [(0, .ref 37), (1, .ref 12), (2, .ref 50), (3, .int y3), (4, .int y4)], [], ab_dD h)) (SB := (30, [(0, .ref 37), (1, .ref 12), (2, .ref 50), (3, .int y3), (4, .int y4)], [], ab_dD h)) (fun n => rfl) (fun c3 => ?_) (fun c3 => ?_)
    · replace hf := (if_pos c3).symm.trans hf
      obtain rfl := Option.some.inj hf
      exact ab_Ex.ret (fun n => rfl) rfl
    · replace hf := (if_neg c3).symm.trans hf
      refine ab_Ex.blk (k := 3) (pc' := 36) (lv' := [(0, .ref 37), (1, .ref 12), (2, .ref 50), (3, .int y3), (4, .int y4)]) (st' := [.int y4, .ref 1]) (sh' := ab_SH) (D' := ab_dD h) (fun n => rfl) ?_
      obtain ⟨r4, hr4, hf⟩ := ab_bind_s hf
      refine ab_Ex.call (d := d + 3) (M2 := 42) (as := [.ref 1, .int y4]) (rest := []) (fun n => rfl) rfl (Nat.not_lt.mpr (Nat.le_of_ble_eq_true rfl)) (sX3_canShow (d + 2) X y4 h _ hr4) (fun r hr => ?_)
      subst hr
      show ab_Ex X (d + 4) 62 39 [(0, .ref 37), (1, .ref 12), (2, .ref 50), (3, .int y3), (4, .int y4)] [.int r4] ab_SH (ab_dD h) _
      refine ab_Ex.ifc (c := r4 = 0) (SA := (111, [(0, .ref 37), (1, .ref 12), (2, .ref 50), (3, .int y3), (4, .int y4)], [], ab_dD h)) (SB := (42, [(0, .ref 37), (1, .ref 12), (2, .ref 50), (3, .int y3), (4, .int y4)], [], ab_dD h)) (fun n => rfl) (fun c5 => ?_) (fun c5 => ?_)
      · replace hf := (if_pos c5).symm.trans hf
        exact sX5_tally_J111_50 d X (fun y3 y4 h => fX5_tally_L24 50 n y3 y4 h) (fun y3 y4 h z hz => ih y3 y4 h z hz) y3 y4 h _ hf
      · replace hf := (if_neg c5).symm.trans hf
        refine ab_Ex.blk (k := 10) (pc' := 58) (lv' := [(0, .ref 37), (1, .ref 12), (2, .ref 50), (3, .int y3), (4, .int y4)]) (st' := [.ref 50, .int (((y4 * 6) + (h.1 12 0))), .int ((h.1 12 2)), .ref 37]) (sh' := ab_SH) (D' := ab_dD h) (fun n => rfl) ?_
        obtain ⟨r6, hr6, hf⟩ := ab_bind_s hf
        refine ab_Ex.call (d := d + 3) (M2 := 61) (as := [.ref 37, .int ((h.1 12 2)), .int (((y4 * 6) + (h.1 12 0))), .ref 50]) (rest := []) (fun n => rfl) rfl (Nat.not_lt.mpr (Nat.le_of_ble_eq_true rfl)) (sX5_fits_50 (d) X ((h.1 12 2)) (((y4 * 6) + (h.1 12 0))) h _ hr6) (fun r hr => ?_)
        subst hr
        show ab_Ex X (d + 4) 62 61 [(0, .ref 37), (1, .ref 12), (2, .ref 50), (3, .int y3), (4, .int y4)] [.int r6] ab_SH (ab_dD h) _
        refine ab_Ex.ifc (c := r6 = 0) (SA := (111, [(0, .ref 37), (1, .ref 12), (2, .ref 50), (3, .int y3), (4, .int y4)], [], ab_dD h)) (SB := (64, [(0, .ref 37), (1, .ref 12), (2, .ref 50), (3, .int y3), (4, .int y4)], [], ab_dD h)) (fun n => rfl) (fun c7 => ?_) (fun c7 => ?_)
        · replace hf := (if_pos c7).symm.trans hf
          exact sX5_tally_J111_50 d X (fun y3 y4 h => fX5_tally_L24 50 n y3 y4 h) (fun y3 y4 h z hz => ih y3 y4 h z hz) y3 y4 h _ hf
        · replace hf := (if_neg c7).symm.trans hf
          refine ab_Ex.blk (k := 8) (pc' := 77) (lv' := [(0, .ref 37), (1, .ref 12), (2, .ref 50), (3, .int y3), (4, .int y4), (5, .int 0)]) (st' := []) (sh' := ab_SH) (D' := ab_dD (ab_wI h 37 3 ((h.1 37 3) + 1))) (fun n => rfl) ?_
          exact sX5_tally_L77_50 d X (fun y3 y4 h => fX5_tally_L24 50 n y3 y4 h) (fun y3 y4 h z hz => ih y3 y4 h z hz) ab_N y3 y4 0 (ab_wI h 37 3 ((h.1 37 3) + 1)) _ hf
set_option maxRecDepth 20000 in
theorem sX5_tally_50 (d : Nat) (X : abX)  (h : abJ) (z : abJ) (hf : fX5_tally 50 h = some z) : ab_Ex X (d + 4) 62 0 [(0, .ref 37), (1, .ref 12), (2, .ref 50)] [] ab_SH (ab_dD h) (fun r => r = (none, ab_SH, ab_dD z)) := by
  unfold fX5_tally at hf
  try simp only [Nat.reduceAdd] at hf
  refine ab_Ex.blk (k := 3) (pc' := 5) (lv' := [(0, .ref 37), (1, .ref 12), (2, .ref 50)]) (st' := [.int 0, .ref 38]) (sh' := ab_SH) (D' := ab_dD h) (fun n => rfl) ?_
  obtain ⟨r1, hr1, hf⟩ := ab_bind_s hf
  refine ab_Ex.call (d := d + 3) (M2 := 317) (as := [.ref 38, .int 0]) (rest := []) (fun n => rfl) rfl (Nat.not_lt.mpr (Nat.le_of_ble_eq_true rfl)) (sJ7_fill_53178_38 (d + 3) X 0 h _ hr1) (fun r hr => ?_)
  subst hr
  show ab_Ex X (d + 4) 62 8 [(0, .ref 37), (1, .ref 12), (2, .ref 50)] [] ab_SH (ab_dD r1) _
  refine ab_Ex.blk (k := 5) (pc' := 17) (lv' := [(0, .ref 37), (1, .ref 12), (2, .ref 50)]) (st' := [.ref 1]) (sh' := ab_SH) (D' := ab_dD (ab_wI r1 37 3 0)) (fun n => rfl) ?_
  obtain ⟨r2, hr2, hf⟩ := ab_bind_s hf
  refine ab_Ex.call (d := d + 3) (M2 := 41) (as := [.ref 1]) (rest := []) (fun n => rfl) rfl (Nat.not_lt.mpr (Nat.le_of_ble_eq_true rfl)) (sX3_armLimit (d + 3) X  (ab_wI r1 37 3 0) _ hr2) (fun r hr => ?_)
  subst hr
  show ab_Ex X (d + 4) 62 20 [(0, .ref 37), (1, .ref 12), (2, .ref 50)] [.int r2] ab_SH (ab_dD (ab_wI r1 37 3 0)) _
  refine ab_Ex.blk (k := 3) (pc' := 24) (lv' := [(0, .ref 37), (1, .ref 12), (2, .ref 50), (3, .int r2), (4, .int 0)]) (st' := []) (sh' := ab_SH) (D' := ab_dD (ab_wI r1 37 3 0)) (fun n => rfl) ?_
  exact sX5_tally_L24_50 d X  ab_N r2 0 (ab_wI r1 37 3 0) _ hf
def fX5_timesShown (x0 : Int32) (x1 : Int32) (h : abJ) : Option Int32 := if x0 < 0 then some 0 else if 6 ≤ x0 then some 0 else if x1 < 0 then some 0 else if x1 < 3 then ab_ask (((x0 * 3) + x1) < 0 ∨ 18 ≤ (((x0 * 3) + x1) : Int32).toNatClampNeg) (some (h.1 38 (((x0 * 3) + x1) : Int32).toNatClampNeg)) else some 0
set_option maxRecDepth 20000 in
theorem sX5_timesShown (d : Nat) (X : abX) (x0 : Int32) (x1 : Int32) (h : abJ) (z : Int32) (hf : fX5_timesShown x0 x1 h = some z) : ab_Ex X (d + 0) 64 0 [(0, .ref 37), (1, .int x0), (2, .int x1)] [] ab_SH (ab_dD h) (fun r => r = (some (.int z), ab_SH, ab_dD h)) := by
  unfold fX5_timesShown at hf
  refine ab_Ex.blk (k := 1) (pc' := 1) (lv' := [(0, .ref 37), (1, .int x0), (2, .int x1)]) (st' := [.int x0]) (sh' := ab_SH) (D' := ab_dD h) (fun n => rfl) ?_
  refine ab_Ex.ifc (c := x0 < 0) (SA := (19, [(0, .ref 37), (1, .int x0), (2, .int x1)], [], ab_dD h)) (SB := (4, [(0, .ref 37), (1, .int x0), (2, .int x1)], [], ab_dD h)) (fun n => rfl) (fun c1 => ?_) (fun c1 => ?_)
  · replace hf := (if_pos c1).symm.trans hf
    refine ab_Ex.blk (k := 2) (pc' := 33) (lv' := []) (st' := [.int 0]) (sh' := ab_SH) (D' := ab_dD h) (fun n => rfl) ?_
    obtain rfl := Option.some.inj hf
    exact ab_Ex.ret (fun n => rfl) rfl
  · replace hf := (if_neg c1).symm.trans hf
    refine ab_Ex.blk (k := 2) (pc' := 7) (lv' := [(0, .ref 37), (1, .int x0), (2, .int x1)]) (st' := [.int 6, .int x0]) (sh' := ab_SH) (D' := ab_dD h) (fun n => rfl) ?_
    refine ab_Ex.ifc (c := 6 ≤ x0) (SA := (19, [(0, .ref 37), (1, .int x0), (2, .int x1)], [], ab_dD h)) (SB := (10, [(0, .ref 37), (1, .int x0), (2, .int x1)], [], ab_dD h)) (fun n => rfl) (fun c2 => ?_) (fun c2 => ?_)
    · replace hf := (if_pos c2).symm.trans hf
      refine ab_Ex.blk (k := 2) (pc' := 33) (lv' := []) (st' := [.int 0]) (sh' := ab_SH) (D' := ab_dD h) (fun n => rfl) ?_
      obtain rfl := Option.some.inj hf
      exact ab_Ex.ret (fun n => rfl) rfl
    · replace hf := (if_neg c2).symm.trans hf
      refine ab_Ex.blk (k := 1) (pc' := 11) (lv' := [(0, .ref 37), (1, .int x0), (2, .int x1)]) (st' := [.int x1]) (sh' := ab_SH) (D' := ab_dD h) (fun n => rfl) ?_
      refine ab_Ex.ifc (c := x1 < 0) (SA := (19, [(0, .ref 37), (1, .int x0), (2, .int x1)], [], ab_dD h)) (SB := (14, [(0, .ref 37), (1, .int x0), (2, .int x1)], [], ab_dD h)) (fun n => rfl) (fun c3 => ?_) (fun c3 => ?_)
      · replace hf := (if_pos c3).symm.trans hf
        refine ab_Ex.blk (k := 2) (pc' := 33) (lv' := []) (st' := [.int 0]) (sh' := ab_SH) (D' := ab_dD h) (fun n => rfl) ?_
        obtain rfl := Option.some.inj hf
        exact ab_Ex.ret (fun n => rfl) rfl
      · replace hf := (if_neg c3).symm.trans hf
        refine ab_Ex.blk (k := 2) (pc' := 16) (lv' := [(0, .ref 37), (1, .int x0), (2, .int x1)]) (st' := [.int 3, .int x1]) (sh' := ab_SH) (D' := ab_dD h) (fun n => rfl) ?_
        refine ab_Ex.ifc (c := x1 < 3) (SA := (23, [(0, .ref 37), (1, .int x0), (2, .int x1)], [], ab_dD h)) (SB := (19, [(0, .ref 37), (1, .int x0), (2, .int x1)], [], ab_dD h)) (fun n => rfl) (fun c4 => ?_) (fun c4 => ?_)
        · replace hf := (if_pos c4).symm.trans hf
          refine ab_Ex.blk (k := 7) (pc' := 32) (lv' := [(0, .ref 37), (1, .int x0), (2, .int x1)]) (st' := [.int (((x0 * 3) + x1)), .ref 38]) (sh' := ab_SH) (D' := ab_dD h) (fun n => rfl) ?_
          obtain ⟨c6, hf⟩ := ab_ask_s hf
          refine ab_Ex.grd (c := ((x0 * 3) + x1) < 0 ∨ 18 ≤ (((x0 * 3) + x1) : Int32).toNatClampNeg) (S := (33, [(0, .ref 37), (1, .int x0), (2, .int x1)], [.int ((h.1 38 (((x0 * 3) + x1) : Int32).toNatClampNeg))], ab_dD h)) (fun n => rfl) c6 ?_
          obtain rfl := Option.some.inj hf
          exact ab_Ex.ret (fun n => rfl) rfl
        · replace hf := (if_neg c4).symm.trans hf
          refine ab_Ex.blk (k := 2) (pc' := 33) (lv' := []) (st' := [.int 0]) (sh' := ab_SH) (D' := ab_dD h) (fun n => rfl) ?_
          obtain rfl := Option.some.inj hf
          exact ab_Ex.ret (fun n => rfl) rfl
def fX5_shownBy_J24  (h : abJ) (k4 : Int32 → Int32 → Int32 → Option Int32) (y1 : Int32) (y2 : Int32) (y3 : Int32) : Option Int32 := k4 y1 y2 ((y3 + 1))
def fX5_shownBy_L4  (h : abJ)  : Nat → Int32 → Int32 → Int32 → Option Int32
  | 0, _, _, _ => none
  | n + 1, y1, y2, y3 => if 3 ≤ y3 then some y2 else (fX5_timesShown y1 y3 h).bind (fun r2 => if r2 ≤ 0 then fX5_shownBy_J24 h (fun y1 y2 y3 => fX5_shownBy_L4 h n y1 y2 y3) y1 y2 y3 else fX5_shownBy_J24 h (fun y1 y2 y3 => fX5_shownBy_L4 h n y1 y2 y3) y1 ((y2 ||| ((1 : Int32) <<< (y3 &&& 31)))) y3)
def fX5_shownBy (x0 : Int32) (h : abJ) : Option Int32 := fX5_shownBy_L4 h ab_N x0 0 0
set_option maxRecDepth 20000 in
theorem sX5_shownBy_J24 (d : Nat) (X : abX) (h : abJ) (k4 : Int32 → Int32 → Int32 → Option Int32) (hk4 : ∀ (y1 : Int32) (y2 : Int32) (y3 : Int32) (z : Int32), k4 y1 y2 y3 = some z → ab_Ex X (d + 1) 63 4 [(0, .ref 37), (1, .int y1), (2, .int y2), (3, .int y3)] [] ab_SH (ab_dD h) (fun r => r = (some (.int z), ab_SH, ab_dD h))) : ∀ (y1 : Int32) (y2 : Int32) (y3 : Int32) (z : Int32), fX5_shownBy_J24 h k4 y1 y2 y3 = some z → ab_Ex X (d + 1) 63 24 [(0, .ref 37), (1, .int y1), (2, .int y2), (3, .int y3)] [] ab_SH (ab_dD h) (fun r => r = (some (.int z), ab_SH, ab_dD h)) := by
  intro y1 y2 y3 z hf
  unfold fX5_shownBy_J24 at hf
  refine ab_Ex.blk (k := 2) (pc' := 4) (lv' := [(0, .ref 37), (1, .int y1), (2, .int y2), (3, .int ((y3 + 1)))]) (st' := []) (sh' := ab_SH) (D' := ab_dD h) (fun n => rfl) ?_
  exact hk4 y1 y2 ((y3 + 1)) _ hf
set_option maxRecDepth 20000 in
theorem sX5_shownBy_L4 (d : Nat) (X : abX) (h : abJ)   : ∀ (n : Nat), ∀ (y1 : Int32) (y2 : Int32) (y3 : Int32) (z : Int32), fX5_shownBy_L4 h n y1 y2 y3 = some z → ab_Ex X (d + 1) 63 4 [(0, .ref 37), (1, .int y1), (2, .int y2), (3, .int y3)] [] ab_SH (ab_dD h) (fun r => r = (some (.int z), ab_SH, ab_dD h)) := by
  intro n
  induction n with
  | zero => intro y1 y2 y3 z hf; cases hf
  | succ n ih =>
    intro y1 y2 y3 z hf
    rw [fX5_shownBy_L4] at hf
    refine ab_Ex.blk (k := 2) (pc' := 6) (lv' := [(0, .ref 37), (1, .int y1), (2, .int y2), (3, .int y3)]) (st' := [.int 3, .int y3]) (sh' := ab_SH) (D' := ab_dD h) (fun n => rfl) ?_
    refine ab_Ex.ifc (c := 3 ≤ y3) (SA := (30, [(0, .ref 37), (1, .int y1), (2, .int y2), (3, .int y3)], [], ab_dD h)) (SB := (9, [(0, .ref 37), (1, .int y1), (2, .int y2), (3, .int y3)], [], ab_dD h)) (fun n => rfl) (fun c1 => ?_) (fun c1 => ?_)
    · replace hf := (if_pos c1).symm.trans hf
      refine ab_Ex.blk (k := 1) (pc' := 31) (lv' := [(0, .ref 37), (1, .int y1), (2, .int y2), (3, .int y3)]) (st' := [.int y2]) (sh' := ab_SH) (D' := ab_dD h) (fun n => rfl) ?_
      obtain rfl := Option.some.inj hf
      exact ab_Ex.ret (fun n => rfl) rfl
    · replace hf := (if_neg c1).symm.trans hf
      refine ab_Ex.blk (k := 3) (pc' := 12) (lv' := [(0, .ref 37), (1, .int y1), (2, .int y2), (3, .int y3)]) (st' := [.int y3, .int y1, .ref 37]) (sh' := ab_SH) (D' := ab_dD h) (fun n => rfl) ?_
      obtain ⟨r2, hr2, hf⟩ := ab_bind_s hf
      refine ab_Ex.call (d := d + 0) (M2 := 64) (as := [.ref 37, .int y1, .int y3]) (rest := []) (fun n => rfl) rfl (Nat.not_lt.mpr (Nat.le_of_ble_eq_true rfl)) (sX5_timesShown (d) X y1 y3 h _ hr2) (fun r hr => ?_)
      subst hr
      show ab_Ex X (d + 1) 63 15 [(0, .ref 37), (1, .int y1), (2, .int y2), (3, .int y3)] [.int r2] ab_SH (ab_dD h) _
      refine ab_Ex.ifc (c := r2 ≤ 0) (SA := (24, [(0, .ref 37), (1, .int y1), (2, .int y2), (3, .int y3)], [], ab_dD h)) (SB := (18, [(0, .ref 37), (1, .int y1), (2, .int y2), (3, .int y3)], [], ab_dD h)) (fun n => rfl) (fun c3 => ?_) (fun c3 => ?_)
      · replace hf := (if_pos c3).symm.trans hf
        exact sX5_shownBy_J24 d X h (fun y1 y2 y3 => fX5_shownBy_L4 h n y1 y2 y3) (fun y1 y2 y3 z hz => ih y1 y2 y3 z hz) y1 y2 y3 _ hf
      · replace hf := (if_neg c3).symm.trans hf
        refine ab_Ex.blk (k := 6) (pc' := 24) (lv' := [(0, .ref 37), (1, .int y1), (2, .int ((y2 ||| ((1 : Int32) <<< (y3 &&& 31))))), (3, .int y3)]) (st' := []) (sh' := ab_SH) (D' := ab_dD h) (fun n => rfl) ?_
        exact sX5_shownBy_J24 d X h (fun y1 y2 y3 => fX5_shownBy_L4 h n y1 y2 y3) (fun y1 y2 y3 z hz => ih y1 y2 y3 z hz) y1 ((y2 ||| ((1 : Int32) <<< (y3 &&& 31)))) y3 _ hf
set_option maxRecDepth 20000 in
theorem sX5_shownBy (d : Nat) (X : abX) (x0 : Int32) (h : abJ) (z : Int32) (hf : fX5_shownBy x0 h = some z) : ab_Ex X (d + 1) 63 0 [(0, .ref 37), (1, .int x0)] [] ab_SH (ab_dD h) (fun r => r = (some (.int z), ab_SH, ab_dD h)) := by
  unfold fX5_shownBy at hf
  refine ab_Ex.blk (k := 4) (pc' := 4) (lv' := [(0, .ref 37), (1, .int x0), (2, .int 0), (3, .int 0)]) (st' := []) (sh' := ab_SH) (D' := ab_dD h) (fun n => rfl) ?_
  exact sX5_shownBy_L4 d X h ab_N x0 0 0 _ hf
def fX5_mostTelling_J66  (h : abJ) (k11 : Int32 → Int32 → Int32 → Option Int32) (y1 : Int32) (y2 : Int32) (y3 : Int32) : Option Int32 := k11 y1 y2 ((y3 + 1))
def fX5_mostTelling_L11  (h : abJ)  : Nat → Int32 → Int32 → Int32 → Option Int32
  | 0, _, _, _ => none
  | n + 1, y1, y2, y3 => if (h.1 1 0) ≤ y3 then some y1 else if (h.1 37 3) ≤ 0 then some y1 else (fX5_timesShown y3 0 h).bind (fun r3 => (fX5_timesShown y3 1 h).bind (fun r4 => (fX5_timesShown y3 2 h).bind (fun r5 => (fJ9_max_7cf53 r4 r5 h).bind (fun r6 => (fJ9_max_7cf53 r3 r6 h).bind (fun r7 => if y2 ≤ r7 then fX5_mostTelling_J66 h (fun y1 y2 y3 => fX5_mostTelling_L11 h n y1 y2 y3) y1 y2 y3 else fX5_mostTelling_J66 h (fun y1 y2 y3 => fX5_mostTelling_L11 h n y1 y2 y3) y3 r7 y3)))))
def fX5_mostTelling  (h : abJ) : Option Int32 := fX5_mostTelling_L11 h ab_N ((-1)) (((h.1 37 3) + 1)) 0
set_option maxRecDepth 20000 in
theorem sX5_mostTelling_J66 (d : Nat) (X : abX) (h : abJ) (k11 : Int32 → Int32 → Int32 → Option Int32) (hk11 : ∀ (y1 : Int32) (y2 : Int32) (y3 : Int32) (z : Int32), k11 y1 y2 y3 = some z → ab_Ex X (d + 1) 65 11 [(0, .ref 37), (1, .int y1), (2, .int y2), (3, .int y3)] [] ab_SH (ab_dD h) (fun r => r = (some (.int z), ab_SH, ab_dD h))) : ∀ (y1 : Int32) (y2 : Int32) (y3 : Int32) (z : Int32), fX5_mostTelling_J66 h k11 y1 y2 y3 = some z → ab_Ex X (d + 1) 65 66 [(0, .ref 37), (1, .int y1), (2, .int y2), (3, .int y3)] [] ab_SH (ab_dD h) (fun r => r = (some (.int z), ab_SH, ab_dD h)) := by
  intro y1 y2 y3 z hf
  unfold fX5_mostTelling_J66 at hf
  refine ab_Ex.blk (k := 2) (pc' := 11) (lv' := [(0, .ref 37), (1, .int y1), (2, .int y2), (3, .int ((y3 + 1)))]) (st' := []) (sh' := ab_SH) (D' := ab_dD h) (fun n => rfl) ?_
  exact hk11 y1 y2 ((y3 + 1)) _ hf
set_option maxRecDepth 20000 in
theorem sX5_mostTelling_L11 (d : Nat) (X : abX) (h : abJ)   : ∀ (n : Nat), ∀ (y1 : Int32) (y2 : Int32) (y3 : Int32) (z : Int32), fX5_mostTelling_L11 h n y1 y2 y3 = some z → ab_Ex X (d + 1) 65 11 [(0, .ref 37), (1, .int y1), (2, .int y2), (3, .int y3)] [] ab_SH (ab_dD h) (fun r => r = (some (.int z), ab_SH, ab_dD h)) := by
  intro n
  induction n with
  | zero => intro y1 y2 y3 z hf; cases hf
  | succ n ih =>
    intro y1 y2 y3 z hf
    rw [fX5_mostTelling_L11] at hf
    refine ab_Ex.blk (k := 4) (pc' := 19) (lv' := [(0, .ref 37), (1, .int y1), (2, .int y2), (3, .int y3)]) (st' := [.int ((h.1 1 0)), .int y3]) (sh' := ab_SH) (D' := ab_dD h) (fun n => rfl) ?_
    refine ab_Ex.ifc (c := (h.1 1 0) ≤ y3) (SA := (72, [(0, .ref 37), (1, .int y1), (2, .int y2), (3, .int y3)], [], ab_dD h)) (SB := (22, [(0, .ref 37), (1, .int y1), (2, .int y2), (3, .int y3)], [], ab_dD h)) (fun n => rfl) (fun c1 => ?_) (fun c1 => ?_)
    · replace hf := (if_pos c1).symm.trans hf
      refine ab_Ex.blk (k := 1) (pc' := 73) (lv' := [(1, .int y1)]) (st' := [.int y1]) (sh' := ab_SH) (D' := ab_dD h) (fun n => rfl) ?_
      obtain rfl := Option.some.inj hf
      exact ab_Ex.ret (fun n => rfl) rfl
    · replace hf := (if_neg c1).symm.trans hf
      refine ab_Ex.blk (k := 2) (pc' := 26) (lv' := [(0, .ref 37), (1, .int y1), (2, .int y2), (3, .int y3)]) (st' := [.int ((h.1 37 3))]) (sh' := ab_SH) (D' := ab_dD h) (fun n => rfl) ?_
      refine ab_Ex.ifc (c := (h.1 37 3) ≤ 0) (SA := (72, [(0, .ref 37), (1, .int y1), (2, .int y2), (3, .int y3)], [], ab_dD h)) (SB := (29, [(0, .ref 37), (1, .int y1), (2, .int y2), (3, .int y3)], [], ab_dD h)) (fun n => rfl) (fun c2 => ?_) (fun c2 => ?_)
      · replace hf := (if_pos c2).symm.trans hf
        refine ab_Ex.blk (k := 1) (pc' := 73) (lv' := [(1, .int y1)]) (st' := [.int y1]) (sh' := ab_SH) (D' := ab_dD h) (fun n => rfl) ?_
        obtain rfl := Option.some.inj hf
        exact ab_Ex.ret (fun n => rfl) rfl
      · replace hf := (if_neg c2).symm.trans hf
        refine ab_Ex.blk (k := 3) (pc' := 32) (lv' := [(0, .ref 37), (1, .int y1), (2, .int y2), (3, .int y3)]) (st' := [.int 0, .int y3, .ref 37]) (sh' := ab_SH) (D' := ab_dD h) (fun n => rfl) ?_
        obtain ⟨r3, hr3, hf⟩ := ab_bind_s hf
        refine ab_Ex.call (d := d + 0) (M2 := 64) (as := [.ref 37, .int y3, .int 0]) (rest := []) (fun n => rfl) rfl (Nat.not_lt.mpr (Nat.le_of_ble_eq_true rfl)) (sX5_timesShown (d) X y3 0 h _ hr3) (fun r hr => ?_)
        subst hr
        show ab_Ex X (d + 1) 65 35 [(0, .ref 37), (1, .int y1), (2, .int y2), (3, .int y3)] [.int r3] ab_SH (ab_dD h) _
        refine ab_Ex.blk (k := 3) (pc' := 38) (lv' := [(0, .ref 37), (1, .int y1), (2, .int y2), (3, .int y3)]) (st' := [.int 1, .int y3, .ref 37, .int r3]) (sh' := ab_SH) (D' := ab_dD h) (fun n => rfl) ?_
        obtain ⟨r4, hr4, hf⟩ := ab_bind_s hf
        refine ab_Ex.call (d := d + 0) (M2 := 64) (as := [.ref 37, .int y3, .int 1]) (rest := [.int r3]) (fun n => rfl) rfl (Nat.not_lt.mpr (Nat.le_of_ble_eq_true rfl)) (sX5_timesShown (d) X y3 1 h _ hr4) (fun r hr => ?_)
        subst hr
        show ab_Ex X (d + 1) 65 41 [(0, .ref 37), (1, .int y1), (2, .int y2), (3, .int y3)] [.int r4, .int r3] ab_SH (ab_dD h) _
        refine ab_Ex.blk (k := 3) (pc' := 44) (lv' := [(0, .ref 37), (1, .int y1), (2, .int y2), (3, .int y3)]) (st' := [.int 2, .int y3, .ref 37, .int r4, .int r3]) (sh' := ab_SH) (D' := ab_dD h) (fun n => rfl) ?_
        obtain ⟨r5, hr5, hf⟩ := ab_bind_s hf
        refine ab_Ex.call (d := d + 0) (M2 := 64) (as := [.ref 37, .int y3, .int 2]) (rest := [.int r4, .int r3]) (fun n => rfl) rfl (Nat.not_lt.mpr (Nat.le_of_ble_eq_true rfl)) (sX5_timesShown (d) X y3 2 h _ hr5) (fun r hr => ?_)
        subst hr
        show ab_Ex X (d + 1) 65 47 [(0, .ref 37), (1, .int y1), (2, .int y2), (3, .int y3)] [.int r5, .int r4, .int r3] ab_SH (ab_dD h) _
        obtain ⟨r6, hr6, hf⟩ := ab_bind_s hf
        refine ab_Ex.call (d := d + 0) (M2 := 302) (as := [.int r4, .int r5]) (rest := [.int r3]) (fun n => rfl) rfl (Nat.not_lt.mpr (Nat.le_of_ble_eq_true rfl)) (sJ9_max_7cf53 (d) X r4 r5 h _ hr6) (fun r hr => ?_)
        subst hr
        show ab_Ex X (d + 1) 65 50 [(0, .ref 37), (1, .int y1), (2, .int y2), (3, .int y3)] [.int r6, .int r3] ab_SH (ab_dD h) _
        obtain ⟨r7, hr7, hf⟩ := ab_bind_s hf
        refine ab_Ex.call (d := d + 0) (M2 := 302) (as := [.int r3, .int r6]) (rest := []) (fun n => rfl) rfl (Nat.not_lt.mpr (Nat.le_of_ble_eq_true rfl)) (sJ9_max_7cf53 (d) X r3 r6 h _ hr7) (fun r hr => ?_)
        subst hr
        show ab_Ex X (d + 1) 65 53 [(0, .ref 37), (1, .int y1), (2, .int y2), (3, .int y3)] [.int r7] ab_SH (ab_dD h) _
        refine ab_Ex.blk (k := 3) (pc' := 58) (lv' := [(4, .int r7), (0, .ref 37), (1, .int y1), (2, .int y2), (3, .int y3)]) (st' := [.int y2, .int r7]) (sh' := ab_SH) (D' := ab_dD h) (fun n => rfl) ?_
        refine ab_Ex.ifc (c := y2 ≤ r7) (SA := (66, [(4, .int r7), (0, .ref 37), (1, .int y1), (2, .int y2), (3, .int y3)], [], ab_dD h)) (SB := (61, [(4, .int r7), (0, .ref 37), (1, .int y1), (2, .int y2), (3, .int y3)], [], ab_dD h)) (fun n => rfl) (fun c8 => ?_) (fun c8 => ?_)
        · replace hf := (if_pos c8).symm.trans hf
          exact sX5_mostTelling_J66 d X h (fun y1 y2 y3 => fX5_mostTelling_L11 h n y1 y2 y3) (fun y1 y2 y3 z hz => ih y1 y2 y3 z hz) y1 y2 y3 _ hf
        · replace hf := (if_neg c8).symm.trans hf
          refine ab_Ex.blk (k := 4) (pc' := 66) (lv' := [(0, .ref 37), (1, .int y3), (2, .int r7), (3, .int y3)]) (st' := []) (sh' := ab_SH) (D' := ab_dD h) (fun n => rfl) ?_
          exact sX5_mostTelling_J66 d X h (fun y1 y2 y3 => fX5_mostTelling_L11 h n y1 y2 y3) (fun y1 y2 y3 z hz => ih y1 y2 y3 z hz) y3 r7 y3 _ hf
set_option maxRecDepth 20000 in
theorem sX5_mostTelling (d : Nat) (X : abX)  (h : abJ) (z : Int32) (hf : fX5_mostTelling  h = some z) : ab_Ex X (d + 1) 65 0 [(0, .ref 37)] [] ab_SH (ab_dD h) (fun r => r = (some (.int z), ab_SH, ab_dD h)) := by
  unfold fX5_mostTelling at hf
  refine ab_Ex.blk (k := 9) (pc' := 11) (lv' := [(0, .ref 37), (1, .int ((-1))), (2, .int (((h.1 37 3) + 1))), (3, .int 0)]) (st' := []) (sh' := ab_SH) (D' := ab_dD h) (fun n => rfl) ?_
  exact sX5_mostTelling_L11 d X h ab_N ((-1)) (((h.1 37 3) + 1)) 0 _ hf
def fX6_append_L3   : Nat → Int32 → Int32 → abJ → Option abJ
  | 0, _, _, _ => none
  | n + 1, y1, y2, h => if y2 < 0 then some h else if 900 ≤ (h.1 9 4) then some h else ab_ask ((h.1 9 4) < 0 ∨ 900 ≤ ((h.1 9 4) : Int32).toNatClampNeg) (fX6_append_L3 n y1 ((y2 + Int32.ofInt (-8))) (ab_wI (ab_wI h 11 ((h.1 9 4) : Int32).toNatClampNeg (((y1 : Int32) >>> (y2 &&& 31)) &&& 255)) 9 4 ((((ab_wI h 11 ((h.1 9 4) : Int32).toNatClampNeg (((y1 : Int32) >>> (y2 &&& 31)) &&& 255))).1 9 4) + 1)))
def fX6_append (x0 : Int32) (h : abJ) : Option abJ := fX6_append_L3 ab_N x0 24 h
set_option maxRecDepth 20000 in
theorem sX6_append_L3 (d : Nat) (X : abX)   : ∀ (n : Nat), ∀ (y1 : Int32) (y2 : Int32) (h : abJ) (z : abJ), fX6_append_L3 n y1 y2 h = some z → ab_Ex X (d + 0) 67 3 [(0, .ref 9), (1, .int y1), (2, .int y2)] [] ab_SH (ab_dD h) (fun r => r = (none, ab_SH, ab_dD z)) := by
  intro n
  induction n with
  | zero => intro y1 y2 h z hf; cases hf
  | succ n ih =>
    intro y1 y2 h z hf
    rw [fX6_append_L3] at hf
    refine ab_Ex.blk (k := 1) (pc' := 4) (lv' := [(0, .ref 9), (1, .int y1), (2, .int y2)]) (st' := [.int y2]) (sh' := ab_SH) (D' := ab_dD h) (fun n => rfl) ?_
    refine ab_Ex.ifc (c := y2 < 0) (SA := (49, [(0, .ref 9), (1, .int y1), (2, .int y2)], [], ab_dD h)) (SB := (7, [(0, .ref 9), (1, .int y1), (2, .int y2)], [], ab_dD h)) (fun n => rfl) (fun c1 => ?_) (fun c1 => ?_)
    · replace hf := (if_pos c1).symm.trans hf
      obtain rfl := Option.some.inj hf
      exact ab_Ex.ret (fun n => rfl) rfl
    · replace hf := (if_neg c1).symm.trans hf
      refine ab_Ex.blk (k := 3) (pc' := 14) (lv' := [(0, .ref 9), (1, .int y1), (2, .int y2)]) (st' := [.int 900, .int ((h.1 9 4))]) (sh' := ab_SH) (D' := ab_dD h) (fun n => rfl) ?_
      refine ab_Ex.ifc (c := 900 ≤ (h.1 9 4)) (SA := (49, [(0, .ref 9), (1, .int y1), (2, .int y2)], [], ab_dD h)) (SB := (17, [(0, .ref 9), (1, .int y1), (2, .int y2)], [], ab_dD h)) (fun n => rfl) (fun c2 => ?_) (fun c2 => ?_)
      · replace hf := (if_pos c2).symm.trans hf
        obtain rfl := Option.some.inj hf
        exact ab_Ex.ret (fun n => rfl) rfl
      · replace hf := (if_neg c2).symm.trans hf
        refine ab_Ex.blk (k := 9) (pc' := 32) (lv' := [(0, .ref 9), (1, .int y1), (2, .int y2)]) (st' := [.int ((((y1 : Int32) >>> (y2 &&& 31)) &&& 255)), .int ((h.1 9 4)), .ref 11]) (sh' := ab_SH) (D' := ab_dD h) (fun n => rfl) ?_
        obtain ⟨c3, hf⟩ := ab_ask_s hf
        refine ab_Ex.grd (c := (h.1 9 4) < 0 ∨ 900 ≤ ((h.1 9 4) : Int32).toNatClampNeg) (S := (33, [(0, .ref 9), (1, .int y1), (2, .int y2)], [], ab_dD (ab_wI h 11 ((h.1 9 4) : Int32).toNatClampNeg (((y1 : Int32) >>> (y2 &&& 31)) &&& 255)))) (fun n => rfl) c3 ?_
        refine ab_Ex.blk (k := 8) (pc' := 3) (lv' := [(0, .ref 9), (1, .int y1), (2, .int ((y2 + Int32.ofInt (-8))))]) (st' := []) (sh' := ab_SH) (D' := ab_dD (ab_wI (ab_wI h 11 ((h.1 9 4) : Int32).toNatClampNeg (((y1 : Int32) >>> (y2 &&& 31)) &&& 255)) 9 4 ((((ab_wI h 11 ((h.1 9 4) : Int32).toNatClampNeg (((y1 : Int32) >>> (y2 &&& 31)) &&& 255))).1 9 4) + 1))) (fun n => rfl) ?_
        exact ih y1 ((y2 + Int32.ofInt (-8))) (ab_wI (ab_wI h 11 ((h.1 9 4) : Int32).toNatClampNeg (((y1 : Int32) >>> (y2 &&& 31)) &&& 255)) 9 4 ((((ab_wI h 11 ((h.1 9 4) : Int32).toNatClampNeg (((y1 : Int32) >>> (y2 &&& 31)) &&& 255))).1 9 4) + 1)) _ hf
set_option maxRecDepth 20000 in
theorem sX6_append (d : Nat) (X : abX) (x0 : Int32) (h : abJ) (z : abJ) (hf : fX6_append x0 h = some z) : ab_Ex X (d + 0) 67 0 [(0, .ref 9), (1, .int x0)] [] ab_SH (ab_dD h) (fun r => r = (none, ab_SH, ab_dD z)) := by
  unfold fX6_append at hf
  refine ab_Ex.blk (k := 2) (pc' := 3) (lv' := [(0, .ref 9), (1, .int x0), (2, .int 24)]) (st' := []) (sh' := ab_SH) (D' := ab_dD h) (fun n => rfl) ?_
  exact sX6_append_L3 d X  ab_N x0 24 h _ hf
def fJ9_min_7cf53 (x0 : Int32) (x1 : Int32) (h : abJ) : Option Int32 := if x1 < x0 then some x1 else some x0
set_option maxRecDepth 20000 in
theorem sJ9_min_7cf53 (d : Nat) (X : abX) (x0 : Int32) (x1 : Int32) (h : abJ) (z : Int32) (hf : fJ9_min_7cf53 x0 x1 h = some z) : ab_Ex X (d + 0) 303 0 [(0, .int x0), (1, .int x1)] [] ab_SH (ab_dD h) (fun r => r = (some (.int z), ab_SH, ab_dD h)) := by
  unfold fJ9_min_7cf53 at hf
  refine ab_Ex.blk (k := 2) (pc' := 2) (lv' := [(0, .int x0), (1, .int x1)]) (st' := [.int x1, .int x0]) (sh' := ab_SH) (D' := ab_dD h) (fun n => rfl) ?_
  refine ab_Ex.ifc (c := x1 < x0) (SA := (9, [(0, .int x0), (1, .int x1)], [], ab_dD h)) (SB := (5, [(0, .int x0), (1, .int x1)], [], ab_dD h)) (fun n => rfl) (fun c1 => ?_) (fun c1 => ?_)
  · replace hf := (if_pos c1).symm.trans hf
    refine ab_Ex.blk (k := 1) (pc' := 10) (lv' := []) (st' := [.int x1]) (sh' := ab_SH) (D' := ab_dD h) (fun n => rfl) ?_
    obtain rfl := Option.some.inj hf
    exact ab_Ex.ret (fun n => rfl) rfl
  · replace hf := (if_neg c1).symm.trans hf
    refine ab_Ex.blk (k := 2) (pc' := 10) (lv' := []) (st' := [.int x0]) (sh' := ab_SH) (D' := ab_dD h) (fun n => rfl) ?_
    obtain rfl := Option.some.inj hf
    exact ab_Ex.ret (fun n => rfl) rfl
def fX9_clear  (h : abJ) : Option abJ := some (ab_wI (ab_wI (ab_wI (ab_wI h 10 0 0) 10 1 0) 10 2 0) 10 3 0)
set_option maxRecDepth 20000 in
theorem sX9_clear (d : Nat) (X : abX)  (h : abJ) (z : abJ) (hf : fX9_clear  h = some z) : ab_Ex X (d + 0) 118 0 [(0, .ref 10)] [] ab_SH (ab_dD h) (fun r => r = (none, ab_SH, ab_dD z)) := by
  unfold fX9_clear at hf
  refine ab_Ex.blk (k := 12) (pc' := 20) (lv' := [(0, .ref 10)]) (st' := []) (sh' := ab_SH) (D' := ab_dD (ab_wI (ab_wI (ab_wI (ab_wI h 10 0 0) 10 1 0) 10 2 0) 10 3 0)) (fun n => rfl) ?_
  obtain rfl := Option.some.inj hf
  exact ab_Ex.ret (fun n => rfl) rfl
def fJ0_isLatin1_aae02 (o : Nat) (h : abJ) : Option Int32 := some 1
set_option maxRecDepth 20000 in
theorem sJ0_isLatin1_aae02_1000000 (d : Nat) (X : abX)  (h : abJ) (z : Int32) (hf : fJ0_isLatin1_aae02 1000000 h = some z) : ab_Ex X (d + 0) 309 0 [(0, .ref 1000000)] [] ab_SH (ab_dD h) (fun r => r = (some (.int z), ab_SH, ab_dD h)) := by
  unfold fJ0_isLatin1_aae02 at hf
  try simp only [Nat.reduceAdd] at hf
  refine ab_Ex.blk (k := 1) (pc' := 3) (lv' := [(0, .ref 1000000)]) (st' := [.int 1]) (sh' := ab_SH) (D' := ab_dD h) (fun n => rfl) ?_
  refine ab_Ex.blk (k := 1) (pc' := 6) (lv' := [(0, .ref 1000000)]) (st' := []) (sh' := ab_SH) (D' := ab_dD h) (fun n => rfl) ?_
  refine ab_Ex.blk (k := 2) (pc' := 10) (lv' := [(0, .ref 1000000)]) (st' := [.int 0]) (sh' := ab_SH) (D' := ab_dD h) (fun n => rfl) ?_
  refine ab_Ex.blk (k := 1) (pc' := 13) (lv' := [(0, .ref 1000000)]) (st' := []) (sh' := ab_SH) (D' := ab_dD h) (fun n => rfl) ?_
  refine ab_Ex.blk (k := 2) (pc' := 18) (lv' := []) (st' := [.int 1]) (sh' := ab_SH) (D' := ab_dD h) (fun n => rfl) ?_
  obtain rfl := Option.some.inj hf
  exact ab_Ex.ret (fun n => rfl) rfl
set_option maxRecDepth 20000 in
theorem sJ0_isLatin1_aae02_1000001 (d : Nat) (X : abX)  (h : abJ) (z : Int32) (hf : fJ0_isLatin1_aae02 1000001 h = some z) : ab_Ex X (d + 0) 309 0 [(0, .ref 1000001)] [] ab_SH (ab_dD h) (fun r => r = (some (.int z), ab_SH, ab_dD h)) := by
  unfold fJ0_isLatin1_aae02 at hf
  try simp only [Nat.reduceAdd] at hf
  refine ab_Ex.blk (k := 1) (pc' := 3) (lv' := [(0, .ref 1000001)]) (st' := [.int 1]) (sh' := ab_SH) (D' := ab_dD h) (fun n => rfl) ?_
  refine ab_Ex.blk (k := 1) (pc' := 6) (lv' := [(0, .ref 1000001)]) (st' := []) (sh' := ab_SH) (D' := ab_dD h) (fun n => rfl) ?_
  refine ab_Ex.blk (k := 2) (pc' := 10) (lv' := [(0, .ref 1000001)]) (st' := [.int 0]) (sh' := ab_SH) (D' := ab_dD h) (fun n => rfl) ?_
  refine ab_Ex.blk (k := 1) (pc' := 13) (lv' := [(0, .ref 1000001)]) (st' := []) (sh' := ab_SH) (D' := ab_dD h) (fun n => rfl) ?_
  refine ab_Ex.blk (k := 2) (pc' := 18) (lv' := []) (st' := [.int 1]) (sh' := ab_SH) (D' := ab_dD h) (fun n => rfl) ?_
  obtain rfl := Option.some.inj hf
  exact ab_Ex.ret (fun n => rfl) rfl
set_option maxRecDepth 20000 in
theorem sJ0_isLatin1_aae02_1000002 (d : Nat) (X : abX)  (h : abJ) (z : Int32) (hf : fJ0_isLatin1_aae02 1000002 h = some z) : ab_Ex X (d + 0) 309 0 [(0, .ref 1000002)] [] ab_SH (ab_dD h) (fun r => r = (some (.int z), ab_SH, ab_dD h)) := by
  unfold fJ0_isLatin1_aae02 at hf
  try simp only [Nat.reduceAdd] at hf
  refine ab_Ex.blk (k := 1) (pc' := 3) (lv' := [(0, .ref 1000002)]) (st' := [.int 1]) (sh' := ab_SH) (D' := ab_dD h) (fun n => rfl) ?_
  refine ab_Ex.blk (k := 1) (pc' := 6) (lv' := [(0, .ref 1000002)]) (st' := []) (sh' := ab_SH) (D' := ab_dD h) (fun n => rfl) ?_
  refine ab_Ex.blk (k := 2) (pc' := 10) (lv' := [(0, .ref 1000002)]) (st' := [.int 0]) (sh' := ab_SH) (D' := ab_dD h) (fun n => rfl) ?_
  refine ab_Ex.blk (k := 1) (pc' := 13) (lv' := [(0, .ref 1000002)]) (st' := []) (sh' := ab_SH) (D' := ab_dD h) (fun n => rfl) ?_
  refine ab_Ex.blk (k := 2) (pc' := 18) (lv' := []) (st' := [.int 1]) (sh' := ab_SH) (D' := ab_dD h) (fun n => rfl) ?_
  obtain rfl := Option.some.inj hf
  exact ab_Ex.ret (fun n => rfl) rfl
set_option maxRecDepth 20000 in
theorem sJ0_isLatin1_aae02_1000003 (d : Nat) (X : abX)  (h : abJ) (z : Int32) (hf : fJ0_isLatin1_aae02 1000003 h = some z) : ab_Ex X (d + 0) 309 0 [(0, .ref 1000003)] [] ab_SH (ab_dD h) (fun r => r = (some (.int z), ab_SH, ab_dD h)) := by
  unfold fJ0_isLatin1_aae02 at hf
  try simp only [Nat.reduceAdd] at hf
  refine ab_Ex.blk (k := 1) (pc' := 3) (lv' := [(0, .ref 1000003)]) (st' := [.int 1]) (sh' := ab_SH) (D' := ab_dD h) (fun n => rfl) ?_
  refine ab_Ex.blk (k := 1) (pc' := 6) (lv' := [(0, .ref 1000003)]) (st' := []) (sh' := ab_SH) (D' := ab_dD h) (fun n => rfl) ?_
  refine ab_Ex.blk (k := 2) (pc' := 10) (lv' := [(0, .ref 1000003)]) (st' := [.int 0]) (sh' := ab_SH) (D' := ab_dD h) (fun n => rfl) ?_
  refine ab_Ex.blk (k := 1) (pc' := 13) (lv' := [(0, .ref 1000003)]) (st' := []) (sh' := ab_SH) (D' := ab_dD h) (fun n => rfl) ?_
  refine ab_Ex.blk (k := 2) (pc' := 18) (lv' := []) (st' := [.int 1]) (sh' := ab_SH) (D' := ab_dD h) (fun n => rfl) ?_
  obtain rfl := Option.some.inj hf
  exact ab_Ex.ret (fun n => rfl) rfl
set_option maxRecDepth 20000 in
theorem sJ0_isLatin1_aae02_1000004 (d : Nat) (X : abX)  (h : abJ) (z : Int32) (hf : fJ0_isLatin1_aae02 1000004 h = some z) : ab_Ex X (d + 0) 309 0 [(0, .ref 1000004)] [] ab_SH (ab_dD h) (fun r => r = (some (.int z), ab_SH, ab_dD h)) := by
  unfold fJ0_isLatin1_aae02 at hf
  try simp only [Nat.reduceAdd] at hf
  refine ab_Ex.blk (k := 1) (pc' := 3) (lv' := [(0, .ref 1000004)]) (st' := [.int 1]) (sh' := ab_SH) (D' := ab_dD h) (fun n => rfl) ?_
  refine ab_Ex.blk (k := 1) (pc' := 6) (lv' := [(0, .ref 1000004)]) (st' := []) (sh' := ab_SH) (D' := ab_dD h) (fun n => rfl) ?_
  refine ab_Ex.blk (k := 2) (pc' := 10) (lv' := [(0, .ref 1000004)]) (st' := [.int 0]) (sh' := ab_SH) (D' := ab_dD h) (fun n => rfl) ?_
  refine ab_Ex.blk (k := 1) (pc' := 13) (lv' := [(0, .ref 1000004)]) (st' := []) (sh' := ab_SH) (D' := ab_dD h) (fun n => rfl) ?_
  refine ab_Ex.blk (k := 2) (pc' := 18) (lv' := []) (st' := [.int 1]) (sh' := ab_SH) (D' := ab_dD h) (fun n => rfl) ?_
  obtain rfl := Option.some.inj hf
  exact ab_Ex.ret (fun n => rfl) rfl
set_option maxRecDepth 20000 in
theorem sJ0_isLatin1_aae02_1000005 (d : Nat) (X : abX)  (h : abJ) (z : Int32) (hf : fJ0_isLatin1_aae02 1000005 h = some z) : ab_Ex X (d + 0) 309 0 [(0, .ref 1000005)] [] ab_SH (ab_dD h) (fun r => r = (some (.int z), ab_SH, ab_dD h)) := by
  unfold fJ0_isLatin1_aae02 at hf
  try simp only [Nat.reduceAdd] at hf
  refine ab_Ex.blk (k := 1) (pc' := 3) (lv' := [(0, .ref 1000005)]) (st' := [.int 1]) (sh' := ab_SH) (D' := ab_dD h) (fun n => rfl) ?_
  refine ab_Ex.blk (k := 1) (pc' := 6) (lv' := [(0, .ref 1000005)]) (st' := []) (sh' := ab_SH) (D' := ab_dD h) (fun n => rfl) ?_
  refine ab_Ex.blk (k := 2) (pc' := 10) (lv' := [(0, .ref 1000005)]) (st' := [.int 0]) (sh' := ab_SH) (D' := ab_dD h) (fun n => rfl) ?_
  refine ab_Ex.blk (k := 1) (pc' := 13) (lv' := [(0, .ref 1000005)]) (st' := []) (sh' := ab_SH) (D' := ab_dD h) (fun n => rfl) ?_
  refine ab_Ex.blk (k := 2) (pc' := 18) (lv' := []) (st' := [.int 1]) (sh' := ab_SH) (D' := ab_dD h) (fun n => rfl) ?_
  obtain rfl := Option.some.inj hf
  exact ab_Ex.ret (fun n => rfl) rfl
set_option maxRecDepth 20000 in
theorem sJ0_isLatin1_aae02_1000006 (d : Nat) (X : abX)  (h : abJ) (z : Int32) (hf : fJ0_isLatin1_aae02 1000006 h = some z) : ab_Ex X (d + 0) 309 0 [(0, .ref 1000006)] [] ab_SH (ab_dD h) (fun r => r = (some (.int z), ab_SH, ab_dD h)) := by
  unfold fJ0_isLatin1_aae02 at hf
  try simp only [Nat.reduceAdd] at hf
  refine ab_Ex.blk (k := 1) (pc' := 3) (lv' := [(0, .ref 1000006)]) (st' := [.int 1]) (sh' := ab_SH) (D' := ab_dD h) (fun n => rfl) ?_
  refine ab_Ex.blk (k := 1) (pc' := 6) (lv' := [(0, .ref 1000006)]) (st' := []) (sh' := ab_SH) (D' := ab_dD h) (fun n => rfl) ?_
  refine ab_Ex.blk (k := 2) (pc' := 10) (lv' := [(0, .ref 1000006)]) (st' := [.int 0]) (sh' := ab_SH) (D' := ab_dD h) (fun n => rfl) ?_
  refine ab_Ex.blk (k := 1) (pc' := 13) (lv' := [(0, .ref 1000006)]) (st' := []) (sh' := ab_SH) (D' := ab_dD h) (fun n => rfl) ?_
  refine ab_Ex.blk (k := 2) (pc' := 18) (lv' := []) (st' := [.int 1]) (sh' := ab_SH) (D' := ab_dD h) (fun n => rfl) ?_
  obtain rfl := Option.some.inj hf
  exact ab_Ex.ret (fun n => rfl) rfl
set_option maxRecDepth 20000 in
theorem sJ0_isLatin1_aae02_1000007 (d : Nat) (X : abX)  (h : abJ) (z : Int32) (hf : fJ0_isLatin1_aae02 1000007 h = some z) : ab_Ex X (d + 0) 309 0 [(0, .ref 1000007)] [] ab_SH (ab_dD h) (fun r => r = (some (.int z), ab_SH, ab_dD h)) := by
  unfold fJ0_isLatin1_aae02 at hf
  try simp only [Nat.reduceAdd] at hf
  refine ab_Ex.blk (k := 1) (pc' := 3) (lv' := [(0, .ref 1000007)]) (st' := [.int 1]) (sh' := ab_SH) (D' := ab_dD h) (fun n => rfl) ?_
  refine ab_Ex.blk (k := 1) (pc' := 6) (lv' := [(0, .ref 1000007)]) (st' := []) (sh' := ab_SH) (D' := ab_dD h) (fun n => rfl) ?_
  refine ab_Ex.blk (k := 2) (pc' := 10) (lv' := [(0, .ref 1000007)]) (st' := [.int 0]) (sh' := ab_SH) (D' := ab_dD h) (fun n => rfl) ?_
  refine ab_Ex.blk (k := 1) (pc' := 13) (lv' := [(0, .ref 1000007)]) (st' := []) (sh' := ab_SH) (D' := ab_dD h) (fun n => rfl) ?_
  refine ab_Ex.blk (k := 2) (pc' := 18) (lv' := []) (st' := [.int 1]) (sh' := ab_SH) (D' := ab_dD h) (fun n => rfl) ?_
  obtain rfl := Option.some.inj hf
  exact ab_Ex.ret (fun n => rfl) rfl
set_option maxRecDepth 20000 in
theorem sJ0_isLatin1_aae02_1000008 (d : Nat) (X : abX)  (h : abJ) (z : Int32) (hf : fJ0_isLatin1_aae02 1000008 h = some z) : ab_Ex X (d + 0) 309 0 [(0, .ref 1000008)] [] ab_SH (ab_dD h) (fun r => r = (some (.int z), ab_SH, ab_dD h)) := by
  unfold fJ0_isLatin1_aae02 at hf
  try simp only [Nat.reduceAdd] at hf
  refine ab_Ex.blk (k := 1) (pc' := 3) (lv' := [(0, .ref 1000008)]) (st' := [.int 1]) (sh' := ab_SH) (D' := ab_dD h) (fun n => rfl) ?_
  refine ab_Ex.blk (k := 1) (pc' := 6) (lv' := [(0, .ref 1000008)]) (st' := []) (sh' := ab_SH) (D' := ab_dD h) (fun n => rfl) ?_
  refine ab_Ex.blk (k := 2) (pc' := 10) (lv' := [(0, .ref 1000008)]) (st' := [.int 0]) (sh' := ab_SH) (D' := ab_dD h) (fun n => rfl) ?_
  refine ab_Ex.blk (k := 1) (pc' := 13) (lv' := [(0, .ref 1000008)]) (st' := []) (sh' := ab_SH) (D' := ab_dD h) (fun n => rfl) ?_
  refine ab_Ex.blk (k := 2) (pc' := 18) (lv' := []) (st' := [.int 1]) (sh' := ab_SH) (D' := ab_dD h) (fun n => rfl) ?_
  obtain rfl := Option.some.inj hf
  exact ab_Ex.ret (fun n => rfl) rfl
set_option maxRecDepth 20000 in
theorem sJ0_isLatin1_aae02_1000009 (d : Nat) (X : abX)  (h : abJ) (z : Int32) (hf : fJ0_isLatin1_aae02 1000009 h = some z) : ab_Ex X (d + 0) 309 0 [(0, .ref 1000009)] [] ab_SH (ab_dD h) (fun r => r = (some (.int z), ab_SH, ab_dD h)) := by
  unfold fJ0_isLatin1_aae02 at hf
  try simp only [Nat.reduceAdd] at hf
  refine ab_Ex.blk (k := 1) (pc' := 3) (lv' := [(0, .ref 1000009)]) (st' := [.int 1]) (sh' := ab_SH) (D' := ab_dD h) (fun n => rfl) ?_
  refine ab_Ex.blk (k := 1) (pc' := 6) (lv' := [(0, .ref 1000009)]) (st' := []) (sh' := ab_SH) (D' := ab_dD h) (fun n => rfl) ?_
  refine ab_Ex.blk (k := 2) (pc' := 10) (lv' := [(0, .ref 1000009)]) (st' := [.int 0]) (sh' := ab_SH) (D' := ab_dD h) (fun n => rfl) ?_
  refine ab_Ex.blk (k := 1) (pc' := 13) (lv' := [(0, .ref 1000009)]) (st' := []) (sh' := ab_SH) (D' := ab_dD h) (fun n => rfl) ?_
  refine ab_Ex.blk (k := 2) (pc' := 18) (lv' := []) (st' := [.int 1]) (sh' := ab_SH) (D' := ab_dD h) (fun n => rfl) ?_
  obtain rfl := Option.some.inj hf
  exact ab_Ex.ret (fun n => rfl) rfl
set_option maxRecDepth 20000 in
theorem sJ0_isLatin1_aae02_1000010 (d : Nat) (X : abX)  (h : abJ) (z : Int32) (hf : fJ0_isLatin1_aae02 1000010 h = some z) : ab_Ex X (d + 0) 309 0 [(0, .ref 1000010)] [] ab_SH (ab_dD h) (fun r => r = (some (.int z), ab_SH, ab_dD h)) := by
  unfold fJ0_isLatin1_aae02 at hf
  try simp only [Nat.reduceAdd] at hf
  refine ab_Ex.blk (k := 1) (pc' := 3) (lv' := [(0, .ref 1000010)]) (st' := [.int 1]) (sh' := ab_SH) (D' := ab_dD h) (fun n => rfl) ?_
  refine ab_Ex.blk (k := 1) (pc' := 6) (lv' := [(0, .ref 1000010)]) (st' := []) (sh' := ab_SH) (D' := ab_dD h) (fun n => rfl) ?_
  refine ab_Ex.blk (k := 2) (pc' := 10) (lv' := [(0, .ref 1000010)]) (st' := [.int 0]) (sh' := ab_SH) (D' := ab_dD h) (fun n => rfl) ?_
  refine ab_Ex.blk (k := 1) (pc' := 13) (lv' := [(0, .ref 1000010)]) (st' := []) (sh' := ab_SH) (D' := ab_dD h) (fun n => rfl) ?_
  refine ab_Ex.blk (k := 2) (pc' := 18) (lv' := []) (st' := [.int 1]) (sh' := ab_SH) (D' := ab_dD h) (fun n => rfl) ?_
  obtain rfl := Option.some.inj hf
  exact ab_Ex.ret (fun n => rfl) rfl
set_option maxRecDepth 20000 in
theorem sJ0_isLatin1_aae02_1000011 (d : Nat) (X : abX)  (h : abJ) (z : Int32) (hf : fJ0_isLatin1_aae02 1000011 h = some z) : ab_Ex X (d + 0) 309 0 [(0, .ref 1000011)] [] ab_SH (ab_dD h) (fun r => r = (some (.int z), ab_SH, ab_dD h)) := by
  unfold fJ0_isLatin1_aae02 at hf
  try simp only [Nat.reduceAdd] at hf
  refine ab_Ex.blk (k := 1) (pc' := 3) (lv' := [(0, .ref 1000011)]) (st' := [.int 1]) (sh' := ab_SH) (D' := ab_dD h) (fun n => rfl) ?_
  refine ab_Ex.blk (k := 1) (pc' := 6) (lv' := [(0, .ref 1000011)]) (st' := []) (sh' := ab_SH) (D' := ab_dD h) (fun n => rfl) ?_
  refine ab_Ex.blk (k := 2) (pc' := 10) (lv' := [(0, .ref 1000011)]) (st' := [.int 0]) (sh' := ab_SH) (D' := ab_dD h) (fun n => rfl) ?_
  refine ab_Ex.blk (k := 1) (pc' := 13) (lv' := [(0, .ref 1000011)]) (st' := []) (sh' := ab_SH) (D' := ab_dD h) (fun n => rfl) ?_
  refine ab_Ex.blk (k := 2) (pc' := 18) (lv' := []) (st' := [.int 1]) (sh' := ab_SH) (D' := ab_dD h) (fun n => rfl) ?_
  obtain rfl := Option.some.inj hf
  exact ab_Ex.ret (fun n => rfl) rfl
set_option maxRecDepth 20000 in
theorem sJ0_isLatin1_aae02_1000012 (d : Nat) (X : abX)  (h : abJ) (z : Int32) (hf : fJ0_isLatin1_aae02 1000012 h = some z) : ab_Ex X (d + 0) 309 0 [(0, .ref 1000012)] [] ab_SH (ab_dD h) (fun r => r = (some (.int z), ab_SH, ab_dD h)) := by
  unfold fJ0_isLatin1_aae02 at hf
  try simp only [Nat.reduceAdd] at hf
  refine ab_Ex.blk (k := 1) (pc' := 3) (lv' := [(0, .ref 1000012)]) (st' := [.int 1]) (sh' := ab_SH) (D' := ab_dD h) (fun n => rfl) ?_
  refine ab_Ex.blk (k := 1) (pc' := 6) (lv' := [(0, .ref 1000012)]) (st' := []) (sh' := ab_SH) (D' := ab_dD h) (fun n => rfl) ?_
  refine ab_Ex.blk (k := 2) (pc' := 10) (lv' := [(0, .ref 1000012)]) (st' := [.int 0]) (sh' := ab_SH) (D' := ab_dD h) (fun n => rfl) ?_
  refine ab_Ex.blk (k := 1) (pc' := 13) (lv' := [(0, .ref 1000012)]) (st' := []) (sh' := ab_SH) (D' := ab_dD h) (fun n => rfl) ?_
  refine ab_Ex.blk (k := 2) (pc' := 18) (lv' := []) (st' := [.int 1]) (sh' := ab_SH) (D' := ab_dD h) (fun n => rfl) ?_
  obtain rfl := Option.some.inj hf
  exact ab_Ex.ret (fun n => rfl) rfl
set_option maxRecDepth 20000 in
theorem sJ0_isLatin1_aae02_1000013 (d : Nat) (X : abX)  (h : abJ) (z : Int32) (hf : fJ0_isLatin1_aae02 1000013 h = some z) : ab_Ex X (d + 0) 309 0 [(0, .ref 1000013)] [] ab_SH (ab_dD h) (fun r => r = (some (.int z), ab_SH, ab_dD h)) := by
  unfold fJ0_isLatin1_aae02 at hf
  try simp only [Nat.reduceAdd] at hf
  refine ab_Ex.blk (k := 1) (pc' := 3) (lv' := [(0, .ref 1000013)]) (st' := [.int 1]) (sh' := ab_SH) (D' := ab_dD h) (fun n => rfl) ?_
  refine ab_Ex.blk (k := 1) (pc' := 6) (lv' := [(0, .ref 1000013)]) (st' := []) (sh' := ab_SH) (D' := ab_dD h) (fun n => rfl) ?_
  refine ab_Ex.blk (k := 2) (pc' := 10) (lv' := [(0, .ref 1000013)]) (st' := [.int 0]) (sh' := ab_SH) (D' := ab_dD h) (fun n => rfl) ?_
  refine ab_Ex.blk (k := 1) (pc' := 13) (lv' := [(0, .ref 1000013)]) (st' := []) (sh' := ab_SH) (D' := ab_dD h) (fun n => rfl) ?_
  refine ab_Ex.blk (k := 2) (pc' := 18) (lv' := []) (st' := [.int 1]) (sh' := ab_SH) (D' := ab_dD h) (fun n => rfl) ?_
  obtain rfl := Option.some.inj hf
  exact ab_Ex.ret (fun n => rfl) rfl
set_option maxRecDepth 20000 in
theorem sJ0_isLatin1_aae02_1000014 (d : Nat) (X : abX)  (h : abJ) (z : Int32) (hf : fJ0_isLatin1_aae02 1000014 h = some z) : ab_Ex X (d + 0) 309 0 [(0, .ref 1000014)] [] ab_SH (ab_dD h) (fun r => r = (some (.int z), ab_SH, ab_dD h)) := by
  unfold fJ0_isLatin1_aae02 at hf
  try simp only [Nat.reduceAdd] at hf
  refine ab_Ex.blk (k := 1) (pc' := 3) (lv' := [(0, .ref 1000014)]) (st' := [.int 1]) (sh' := ab_SH) (D' := ab_dD h) (fun n => rfl) ?_
  refine ab_Ex.blk (k := 1) (pc' := 6) (lv' := [(0, .ref 1000014)]) (st' := []) (sh' := ab_SH) (D' := ab_dD h) (fun n => rfl) ?_
  refine ab_Ex.blk (k := 2) (pc' := 10) (lv' := [(0, .ref 1000014)]) (st' := [.int 0]) (sh' := ab_SH) (D' := ab_dD h) (fun n => rfl) ?_
  refine ab_Ex.blk (k := 1) (pc' := 13) (lv' := [(0, .ref 1000014)]) (st' := []) (sh' := ab_SH) (D' := ab_dD h) (fun n => rfl) ?_
  refine ab_Ex.blk (k := 2) (pc' := 18) (lv' := []) (st' := [.int 1]) (sh' := ab_SH) (D' := ab_dD h) (fun n => rfl) ?_
  obtain rfl := Option.some.inj hf
  exact ab_Ex.ret (fun n => rfl) rfl
set_option maxRecDepth 20000 in
theorem sJ0_isLatin1_aae02_1000015 (d : Nat) (X : abX)  (h : abJ) (z : Int32) (hf : fJ0_isLatin1_aae02 1000015 h = some z) : ab_Ex X (d + 0) 309 0 [(0, .ref 1000015)] [] ab_SH (ab_dD h) (fun r => r = (some (.int z), ab_SH, ab_dD h)) := by
  unfold fJ0_isLatin1_aae02 at hf
  try simp only [Nat.reduceAdd] at hf
  refine ab_Ex.blk (k := 1) (pc' := 3) (lv' := [(0, .ref 1000015)]) (st' := [.int 1]) (sh' := ab_SH) (D' := ab_dD h) (fun n => rfl) ?_
  refine ab_Ex.blk (k := 1) (pc' := 6) (lv' := [(0, .ref 1000015)]) (st' := []) (sh' := ab_SH) (D' := ab_dD h) (fun n => rfl) ?_
  refine ab_Ex.blk (k := 2) (pc' := 10) (lv' := [(0, .ref 1000015)]) (st' := [.int 0]) (sh' := ab_SH) (D' := ab_dD h) (fun n => rfl) ?_
  refine ab_Ex.blk (k := 1) (pc' := 13) (lv' := [(0, .ref 1000015)]) (st' := []) (sh' := ab_SH) (D' := ab_dD h) (fun n => rfl) ?_
  refine ab_Ex.blk (k := 2) (pc' := 18) (lv' := []) (st' := [.int 1]) (sh' := ab_SH) (D' := ab_dD h) (fun n => rfl) ?_
  obtain rfl := Option.some.inj hf
  exact ab_Ex.ret (fun n => rfl) rfl
set_option maxRecDepth 20000 in
theorem sJ0_isLatin1_aae02_1000016 (d : Nat) (X : abX)  (h : abJ) (z : Int32) (hf : fJ0_isLatin1_aae02 1000016 h = some z) : ab_Ex X (d + 0) 309 0 [(0, .ref 1000016)] [] ab_SH (ab_dD h) (fun r => r = (some (.int z), ab_SH, ab_dD h)) := by
  unfold fJ0_isLatin1_aae02 at hf
  try simp only [Nat.reduceAdd] at hf
  refine ab_Ex.blk (k := 1) (pc' := 3) (lv' := [(0, .ref 1000016)]) (st' := [.int 1]) (sh' := ab_SH) (D' := ab_dD h) (fun n => rfl) ?_
  refine ab_Ex.blk (k := 1) (pc' := 6) (lv' := [(0, .ref 1000016)]) (st' := []) (sh' := ab_SH) (D' := ab_dD h) (fun n => rfl) ?_
  refine ab_Ex.blk (k := 2) (pc' := 10) (lv' := [(0, .ref 1000016)]) (st' := [.int 0]) (sh' := ab_SH) (D' := ab_dD h) (fun n => rfl) ?_
  refine ab_Ex.blk (k := 1) (pc' := 13) (lv' := [(0, .ref 1000016)]) (st' := []) (sh' := ab_SH) (D' := ab_dD h) (fun n => rfl) ?_
  refine ab_Ex.blk (k := 2) (pc' := 18) (lv' := []) (st' := [.int 1]) (sh' := ab_SH) (D' := ab_dD h) (fun n => rfl) ?_
  obtain rfl := Option.some.inj hf
  exact ab_Ex.ret (fun n => rfl) rfl
set_option maxRecDepth 20000 in
theorem sJ0_isLatin1_aae02_1000017 (d : Nat) (X : abX)  (h : abJ) (z : Int32) (hf : fJ0_isLatin1_aae02 1000017 h = some z) : ab_Ex X (d + 0) 309 0 [(0, .ref 1000017)] [] ab_SH (ab_dD h) (fun r => r = (some (.int z), ab_SH, ab_dD h)) := by
  unfold fJ0_isLatin1_aae02 at hf
  try simp only [Nat.reduceAdd] at hf
  refine ab_Ex.blk (k := 1) (pc' := 3) (lv' := [(0, .ref 1000017)]) (st' := [.int 1]) (sh' := ab_SH) (D' := ab_dD h) (fun n => rfl) ?_
  refine ab_Ex.blk (k := 1) (pc' := 6) (lv' := [(0, .ref 1000017)]) (st' := []) (sh' := ab_SH) (D' := ab_dD h) (fun n => rfl) ?_
  refine ab_Ex.blk (k := 2) (pc' := 10) (lv' := [(0, .ref 1000017)]) (st' := [.int 0]) (sh' := ab_SH) (D' := ab_dD h) (fun n => rfl) ?_
  refine ab_Ex.blk (k := 1) (pc' := 13) (lv' := [(0, .ref 1000017)]) (st' := []) (sh' := ab_SH) (D' := ab_dD h) (fun n => rfl) ?_
  refine ab_Ex.blk (k := 2) (pc' := 18) (lv' := []) (st' := [.int 1]) (sh' := ab_SH) (D' := ab_dD h) (fun n => rfl) ?_
  obtain rfl := Option.some.inj hf
  exact ab_Ex.ret (fun n => rfl) rfl
set_option maxRecDepth 20000 in
theorem sJ0_isLatin1_aae02_1000018 (d : Nat) (X : abX)  (h : abJ) (z : Int32) (hf : fJ0_isLatin1_aae02 1000018 h = some z) : ab_Ex X (d + 0) 309 0 [(0, .ref 1000018)] [] ab_SH (ab_dD h) (fun r => r = (some (.int z), ab_SH, ab_dD h)) := by
  unfold fJ0_isLatin1_aae02 at hf
  try simp only [Nat.reduceAdd] at hf
  refine ab_Ex.blk (k := 1) (pc' := 3) (lv' := [(0, .ref 1000018)]) (st' := [.int 1]) (sh' := ab_SH) (D' := ab_dD h) (fun n => rfl) ?_
  refine ab_Ex.blk (k := 1) (pc' := 6) (lv' := [(0, .ref 1000018)]) (st' := []) (sh' := ab_SH) (D' := ab_dD h) (fun n => rfl) ?_
  refine ab_Ex.blk (k := 2) (pc' := 10) (lv' := [(0, .ref 1000018)]) (st' := [.int 0]) (sh' := ab_SH) (D' := ab_dD h) (fun n => rfl) ?_
  refine ab_Ex.blk (k := 1) (pc' := 13) (lv' := [(0, .ref 1000018)]) (st' := []) (sh' := ab_SH) (D' := ab_dD h) (fun n => rfl) ?_
  refine ab_Ex.blk (k := 2) (pc' := 18) (lv' := []) (st' := [.int 1]) (sh' := ab_SH) (D' := ab_dD h) (fun n => rfl) ?_
  obtain rfl := Option.some.inj hf
  exact ab_Ex.ret (fun n => rfl) rfl
set_option maxRecDepth 20000 in
theorem sJ0_isLatin1_aae02_1000019 (d : Nat) (X : abX)  (h : abJ) (z : Int32) (hf : fJ0_isLatin1_aae02 1000019 h = some z) : ab_Ex X (d + 0) 309 0 [(0, .ref 1000019)] [] ab_SH (ab_dD h) (fun r => r = (some (.int z), ab_SH, ab_dD h)) := by
  unfold fJ0_isLatin1_aae02 at hf
  try simp only [Nat.reduceAdd] at hf
  refine ab_Ex.blk (k := 1) (pc' := 3) (lv' := [(0, .ref 1000019)]) (st' := [.int 1]) (sh' := ab_SH) (D' := ab_dD h) (fun n => rfl) ?_
  refine ab_Ex.blk (k := 1) (pc' := 6) (lv' := [(0, .ref 1000019)]) (st' := []) (sh' := ab_SH) (D' := ab_dD h) (fun n => rfl) ?_
  refine ab_Ex.blk (k := 2) (pc' := 10) (lv' := [(0, .ref 1000019)]) (st' := [.int 0]) (sh' := ab_SH) (D' := ab_dD h) (fun n => rfl) ?_
  refine ab_Ex.blk (k := 1) (pc' := 13) (lv' := [(0, .ref 1000019)]) (st' := []) (sh' := ab_SH) (D' := ab_dD h) (fun n => rfl) ?_
  refine ab_Ex.blk (k := 2) (pc' := 18) (lv' := []) (st' := [.int 1]) (sh' := ab_SH) (D' := ab_dD h) (fun n => rfl) ?_
  obtain rfl := Option.some.inj hf
  exact ab_Ex.ret (fun n => rfl) rfl
set_option maxRecDepth 20000 in
theorem sJ0_isLatin1_aae02_1000020 (d : Nat) (X : abX)  (h : abJ) (z : Int32) (hf : fJ0_isLatin1_aae02 1000020 h = some z) : ab_Ex X (d + 0) 309 0 [(0, .ref 1000020)] [] ab_SH (ab_dD h) (fun r => r = (some (.int z), ab_SH, ab_dD h)) := by
  unfold fJ0_isLatin1_aae02 at hf
  try simp only [Nat.reduceAdd] at hf
  refine ab_Ex.blk (k := 1) (pc' := 3) (lv' := [(0, .ref 1000020)]) (st' := [.int 1]) (sh' := ab_SH) (D' := ab_dD h) (fun n => rfl) ?_
  refine ab_Ex.blk (k := 1) (pc' := 6) (lv' := [(0, .ref 1000020)]) (st' := []) (sh' := ab_SH) (D' := ab_dD h) (fun n => rfl) ?_
  refine ab_Ex.blk (k := 2) (pc' := 10) (lv' := [(0, .ref 1000020)]) (st' := [.int 0]) (sh' := ab_SH) (D' := ab_dD h) (fun n => rfl) ?_
  refine ab_Ex.blk (k := 1) (pc' := 13) (lv' := [(0, .ref 1000020)]) (st' := []) (sh' := ab_SH) (D' := ab_dD h) (fun n => rfl) ?_
  refine ab_Ex.blk (k := 2) (pc' := 18) (lv' := []) (st' := [.int 1]) (sh' := ab_SH) (D' := ab_dD h) (fun n => rfl) ?_
  obtain rfl := Option.some.inj hf
  exact ab_Ex.ret (fun n => rfl) rfl
set_option maxRecDepth 20000 in
theorem sJ0_isLatin1_aae02_1000021 (d : Nat) (X : abX)  (h : abJ) (z : Int32) (hf : fJ0_isLatin1_aae02 1000021 h = some z) : ab_Ex X (d + 0) 309 0 [(0, .ref 1000021)] [] ab_SH (ab_dD h) (fun r => r = (some (.int z), ab_SH, ab_dD h)) := by
  unfold fJ0_isLatin1_aae02 at hf
  try simp only [Nat.reduceAdd] at hf
  refine ab_Ex.blk (k := 1) (pc' := 3) (lv' := [(0, .ref 1000021)]) (st' := [.int 1]) (sh' := ab_SH) (D' := ab_dD h) (fun n => rfl) ?_
  refine ab_Ex.blk (k := 1) (pc' := 6) (lv' := [(0, .ref 1000021)]) (st' := []) (sh' := ab_SH) (D' := ab_dD h) (fun n => rfl) ?_
  refine ab_Ex.blk (k := 2) (pc' := 10) (lv' := [(0, .ref 1000021)]) (st' := [.int 0]) (sh' := ab_SH) (D' := ab_dD h) (fun n => rfl) ?_
  refine ab_Ex.blk (k := 1) (pc' := 13) (lv' := [(0, .ref 1000021)]) (st' := []) (sh' := ab_SH) (D' := ab_dD h) (fun n => rfl) ?_
  refine ab_Ex.blk (k := 2) (pc' := 18) (lv' := []) (st' := [.int 1]) (sh' := ab_SH) (D' := ab_dD h) (fun n => rfl) ?_
  obtain rfl := Option.some.inj hf
  exact ab_Ex.ret (fun n => rfl) rfl
set_option maxRecDepth 20000 in
theorem sJ0_isLatin1_aae02_1000022 (d : Nat) (X : abX)  (h : abJ) (z : Int32) (hf : fJ0_isLatin1_aae02 1000022 h = some z) : ab_Ex X (d + 0) 309 0 [(0, .ref 1000022)] [] ab_SH (ab_dD h) (fun r => r = (some (.int z), ab_SH, ab_dD h)) := by
  unfold fJ0_isLatin1_aae02 at hf
  try simp only [Nat.reduceAdd] at hf
  refine ab_Ex.blk (k := 1) (pc' := 3) (lv' := [(0, .ref 1000022)]) (st' := [.int 1]) (sh' := ab_SH) (D' := ab_dD h) (fun n => rfl) ?_
  refine ab_Ex.blk (k := 1) (pc' := 6) (lv' := [(0, .ref 1000022)]) (st' := []) (sh' := ab_SH) (D' := ab_dD h) (fun n => rfl) ?_
  refine ab_Ex.blk (k := 2) (pc' := 10) (lv' := [(0, .ref 1000022)]) (st' := [.int 0]) (sh' := ab_SH) (D' := ab_dD h) (fun n => rfl) ?_
  refine ab_Ex.blk (k := 1) (pc' := 13) (lv' := [(0, .ref 1000022)]) (st' := []) (sh' := ab_SH) (D' := ab_dD h) (fun n => rfl) ?_
  refine ab_Ex.blk (k := 2) (pc' := 18) (lv' := []) (st' := [.int 1]) (sh' := ab_SH) (D' := ab_dD h) (fun n => rfl) ?_
  obtain rfl := Option.some.inj hf
  exact ab_Ex.ret (fun n => rfl) rfl
set_option maxRecDepth 20000 in
theorem sJ0_isLatin1_aae02_1000023 (d : Nat) (X : abX)  (h : abJ) (z : Int32) (hf : fJ0_isLatin1_aae02 1000023 h = some z) : ab_Ex X (d + 0) 309 0 [(0, .ref 1000023)] [] ab_SH (ab_dD h) (fun r => r = (some (.int z), ab_SH, ab_dD h)) := by
  unfold fJ0_isLatin1_aae02 at hf
  try simp only [Nat.reduceAdd] at hf
  refine ab_Ex.blk (k := 1) (pc' := 3) (lv' := [(0, .ref 1000023)]) (st' := [.int 1]) (sh' := ab_SH) (D' := ab_dD h) (fun n => rfl) ?_
  refine ab_Ex.blk (k := 1) (pc' := 6) (lv' := [(0, .ref 1000023)]) (st' := []) (sh' := ab_SH) (D' := ab_dD h) (fun n => rfl) ?_
  refine ab_Ex.blk (k := 2) (pc' := 10) (lv' := [(0, .ref 1000023)]) (st' := [.int 0]) (sh' := ab_SH) (D' := ab_dD h) (fun n => rfl) ?_
  refine ab_Ex.blk (k := 1) (pc' := 13) (lv' := [(0, .ref 1000023)]) (st' := []) (sh' := ab_SH) (D' := ab_dD h) (fun n => rfl) ?_
  refine ab_Ex.blk (k := 2) (pc' := 18) (lv' := []) (st' := [.int 1]) (sh' := ab_SH) (D' := ab_dD h) (fun n => rfl) ?_
  obtain rfl := Option.some.inj hf
  exact ab_Ex.ret (fun n => rfl) rfl
set_option maxRecDepth 20000 in
theorem sJ0_isLatin1_aae02_1000024 (d : Nat) (X : abX)  (h : abJ) (z : Int32) (hf : fJ0_isLatin1_aae02 1000024 h = some z) : ab_Ex X (d + 0) 309 0 [(0, .ref 1000024)] [] ab_SH (ab_dD h) (fun r => r = (some (.int z), ab_SH, ab_dD h)) := by
  unfold fJ0_isLatin1_aae02 at hf
  try simp only [Nat.reduceAdd] at hf
  refine ab_Ex.blk (k := 1) (pc' := 3) (lv' := [(0, .ref 1000024)]) (st' := [.int 1]) (sh' := ab_SH) (D' := ab_dD h) (fun n => rfl) ?_
  refine ab_Ex.blk (k := 1) (pc' := 6) (lv' := [(0, .ref 1000024)]) (st' := []) (sh' := ab_SH) (D' := ab_dD h) (fun n => rfl) ?_
  refine ab_Ex.blk (k := 2) (pc' := 10) (lv' := [(0, .ref 1000024)]) (st' := [.int 0]) (sh' := ab_SH) (D' := ab_dD h) (fun n => rfl) ?_
  refine ab_Ex.blk (k := 1) (pc' := 13) (lv' := [(0, .ref 1000024)]) (st' := []) (sh' := ab_SH) (D' := ab_dD h) (fun n => rfl) ?_
  refine ab_Ex.blk (k := 2) (pc' := 18) (lv' := []) (st' := [.int 1]) (sh' := ab_SH) (D' := ab_dD h) (fun n => rfl) ?_
  obtain rfl := Option.some.inj hf
  exact ab_Ex.ret (fun n => rfl) rfl
set_option maxRecDepth 20000 in
theorem sJ0_isLatin1_aae02_1000025 (d : Nat) (X : abX)  (h : abJ) (z : Int32) (hf : fJ0_isLatin1_aae02 1000025 h = some z) : ab_Ex X (d + 0) 309 0 [(0, .ref 1000025)] [] ab_SH (ab_dD h) (fun r => r = (some (.int z), ab_SH, ab_dD h)) := by
  unfold fJ0_isLatin1_aae02 at hf
  try simp only [Nat.reduceAdd] at hf
  refine ab_Ex.blk (k := 1) (pc' := 3) (lv' := [(0, .ref 1000025)]) (st' := [.int 1]) (sh' := ab_SH) (D' := ab_dD h) (fun n => rfl) ?_
  refine ab_Ex.blk (k := 1) (pc' := 6) (lv' := [(0, .ref 1000025)]) (st' := []) (sh' := ab_SH) (D' := ab_dD h) (fun n => rfl) ?_
  refine ab_Ex.blk (k := 2) (pc' := 10) (lv' := [(0, .ref 1000025)]) (st' := [.int 0]) (sh' := ab_SH) (D' := ab_dD h) (fun n => rfl) ?_
  refine ab_Ex.blk (k := 1) (pc' := 13) (lv' := [(0, .ref 1000025)]) (st' := []) (sh' := ab_SH) (D' := ab_dD h) (fun n => rfl) ?_
  refine ab_Ex.blk (k := 2) (pc' := 18) (lv' := []) (st' := [.int 1]) (sh' := ab_SH) (D' := ab_dD h) (fun n => rfl) ?_
  obtain rfl := Option.some.inj hf
  exact ab_Ex.ret (fun n => rfl) rfl
set_option maxRecDepth 20000 in
theorem sJ0_isLatin1_aae02_1000026 (d : Nat) (X : abX)  (h : abJ) (z : Int32) (hf : fJ0_isLatin1_aae02 1000026 h = some z) : ab_Ex X (d + 0) 309 0 [(0, .ref 1000026)] [] ab_SH (ab_dD h) (fun r => r = (some (.int z), ab_SH, ab_dD h)) := by
  unfold fJ0_isLatin1_aae02 at hf
  try simp only [Nat.reduceAdd] at hf
  refine ab_Ex.blk (k := 1) (pc' := 3) (lv' := [(0, .ref 1000026)]) (st' := [.int 1]) (sh' := ab_SH) (D' := ab_dD h) (fun n => rfl) ?_
  refine ab_Ex.blk (k := 1) (pc' := 6) (lv' := [(0, .ref 1000026)]) (st' := []) (sh' := ab_SH) (D' := ab_dD h) (fun n => rfl) ?_
  refine ab_Ex.blk (k := 2) (pc' := 10) (lv' := [(0, .ref 1000026)]) (st' := [.int 0]) (sh' := ab_SH) (D' := ab_dD h) (fun n => rfl) ?_
  refine ab_Ex.blk (k := 1) (pc' := 13) (lv' := [(0, .ref 1000026)]) (st' := []) (sh' := ab_SH) (D' := ab_dD h) (fun n => rfl) ?_
  refine ab_Ex.blk (k := 2) (pc' := 18) (lv' := []) (st' := [.int 1]) (sh' := ab_SH) (D' := ab_dD h) (fun n => rfl) ?_
  obtain rfl := Option.some.inj hf
  exact ab_Ex.ret (fun n => rfl) rfl
set_option maxRecDepth 20000 in
theorem sJ0_isLatin1_aae02_1000027 (d : Nat) (X : abX)  (h : abJ) (z : Int32) (hf : fJ0_isLatin1_aae02 1000027 h = some z) : ab_Ex X (d + 0) 309 0 [(0, .ref 1000027)] [] ab_SH (ab_dD h) (fun r => r = (some (.int z), ab_SH, ab_dD h)) := by
  unfold fJ0_isLatin1_aae02 at hf
  try simp only [Nat.reduceAdd] at hf
  refine ab_Ex.blk (k := 1) (pc' := 3) (lv' := [(0, .ref 1000027)]) (st' := [.int 1]) (sh' := ab_SH) (D' := ab_dD h) (fun n => rfl) ?_
  refine ab_Ex.blk (k := 1) (pc' := 6) (lv' := [(0, .ref 1000027)]) (st' := []) (sh' := ab_SH) (D' := ab_dD h) (fun n => rfl) ?_
  refine ab_Ex.blk (k := 2) (pc' := 10) (lv' := [(0, .ref 1000027)]) (st' := [.int 0]) (sh' := ab_SH) (D' := ab_dD h) (fun n => rfl) ?_
  refine ab_Ex.blk (k := 1) (pc' := 13) (lv' := [(0, .ref 1000027)]) (st' := []) (sh' := ab_SH) (D' := ab_dD h) (fun n => rfl) ?_
  refine ab_Ex.blk (k := 2) (pc' := 18) (lv' := []) (st' := [.int 1]) (sh' := ab_SH) (D' := ab_dD h) (fun n => rfl) ?_
  obtain rfl := Option.some.inj hf
  exact ab_Ex.ret (fun n => rfl) rfl
set_option maxRecDepth 20000 in
theorem sJ0_isLatin1_aae02_1000028 (d : Nat) (X : abX)  (h : abJ) (z : Int32) (hf : fJ0_isLatin1_aae02 1000028 h = some z) : ab_Ex X (d + 0) 309 0 [(0, .ref 1000028)] [] ab_SH (ab_dD h) (fun r => r = (some (.int z), ab_SH, ab_dD h)) := by
  unfold fJ0_isLatin1_aae02 at hf
  try simp only [Nat.reduceAdd] at hf
  refine ab_Ex.blk (k := 1) (pc' := 3) (lv' := [(0, .ref 1000028)]) (st' := [.int 1]) (sh' := ab_SH) (D' := ab_dD h) (fun n => rfl) ?_
  refine ab_Ex.blk (k := 1) (pc' := 6) (lv' := [(0, .ref 1000028)]) (st' := []) (sh' := ab_SH) (D' := ab_dD h) (fun n => rfl) ?_
  refine ab_Ex.blk (k := 2) (pc' := 10) (lv' := [(0, .ref 1000028)]) (st' := [.int 0]) (sh' := ab_SH) (D' := ab_dD h) (fun n => rfl) ?_
  refine ab_Ex.blk (k := 1) (pc' := 13) (lv' := [(0, .ref 1000028)]) (st' := []) (sh' := ab_SH) (D' := ab_dD h) (fun n => rfl) ?_
  refine ab_Ex.blk (k := 2) (pc' := 18) (lv' := []) (st' := [.int 1]) (sh' := ab_SH) (D' := ab_dD h) (fun n => rfl) ?_
  obtain rfl := Option.some.inj hf
  exact ab_Ex.ret (fun n => rfl) rfl
set_option maxRecDepth 20000 in
theorem sJ0_isLatin1_aae02_1000029 (d : Nat) (X : abX)  (h : abJ) (z : Int32) (hf : fJ0_isLatin1_aae02 1000029 h = some z) : ab_Ex X (d + 0) 309 0 [(0, .ref 1000029)] [] ab_SH (ab_dD h) (fun r => r = (some (.int z), ab_SH, ab_dD h)) := by
  unfold fJ0_isLatin1_aae02 at hf
  try simp only [Nat.reduceAdd] at hf
  refine ab_Ex.blk (k := 1) (pc' := 3) (lv' := [(0, .ref 1000029)]) (st' := [.int 1]) (sh' := ab_SH) (D' := ab_dD h) (fun n => rfl) ?_
  refine ab_Ex.blk (k := 1) (pc' := 6) (lv' := [(0, .ref 1000029)]) (st' := []) (sh' := ab_SH) (D' := ab_dD h) (fun n => rfl) ?_
  refine ab_Ex.blk (k := 2) (pc' := 10) (lv' := [(0, .ref 1000029)]) (st' := [.int 0]) (sh' := ab_SH) (D' := ab_dD h) (fun n => rfl) ?_
  refine ab_Ex.blk (k := 1) (pc' := 13) (lv' := [(0, .ref 1000029)]) (st' := []) (sh' := ab_SH) (D' := ab_dD h) (fun n => rfl) ?_
  refine ab_Ex.blk (k := 2) (pc' := 18) (lv' := []) (st' := [.int 1]) (sh' := ab_SH) (D' := ab_dD h) (fun n => rfl) ?_
  obtain rfl := Option.some.inj hf
  exact ab_Ex.ret (fun n => rfl) rfl
set_option maxRecDepth 20000 in
theorem sJ0_isLatin1_aae02_1000030 (d : Nat) (X : abX)  (h : abJ) (z : Int32) (hf : fJ0_isLatin1_aae02 1000030 h = some z) : ab_Ex X (d + 0) 309 0 [(0, .ref 1000030)] [] ab_SH (ab_dD h) (fun r => r = (some (.int z), ab_SH, ab_dD h)) := by
  unfold fJ0_isLatin1_aae02 at hf
  try simp only [Nat.reduceAdd] at hf
  refine ab_Ex.blk (k := 1) (pc' := 3) (lv' := [(0, .ref 1000030)]) (st' := [.int 1]) (sh' := ab_SH) (D' := ab_dD h) (fun n => rfl) ?_
  refine ab_Ex.blk (k := 1) (pc' := 6) (lv' := [(0, .ref 1000030)]) (st' := []) (sh' := ab_SH) (D' := ab_dD h) (fun n => rfl) ?_
  refine ab_Ex.blk (k := 2) (pc' := 10) (lv' := [(0, .ref 1000030)]) (st' := [.int 0]) (sh' := ab_SH) (D' := ab_dD h) (fun n => rfl) ?_
  refine ab_Ex.blk (k := 1) (pc' := 13) (lv' := [(0, .ref 1000030)]) (st' := []) (sh' := ab_SH) (D' := ab_dD h) (fun n => rfl) ?_
  refine ab_Ex.blk (k := 2) (pc' := 18) (lv' := []) (st' := [.int 1]) (sh' := ab_SH) (D' := ab_dD h) (fun n => rfl) ?_
  obtain rfl := Option.some.inj hf
  exact ab_Ex.ret (fun n => rfl) rfl
set_option maxRecDepth 20000 in
theorem sJ0_isLatin1_aae02_1000031 (d : Nat) (X : abX)  (h : abJ) (z : Int32) (hf : fJ0_isLatin1_aae02 1000031 h = some z) : ab_Ex X (d + 0) 309 0 [(0, .ref 1000031)] [] ab_SH (ab_dD h) (fun r => r = (some (.int z), ab_SH, ab_dD h)) := by
  unfold fJ0_isLatin1_aae02 at hf
  try simp only [Nat.reduceAdd] at hf
  refine ab_Ex.blk (k := 1) (pc' := 3) (lv' := [(0, .ref 1000031)]) (st' := [.int 1]) (sh' := ab_SH) (D' := ab_dD h) (fun n => rfl) ?_
  refine ab_Ex.blk (k := 1) (pc' := 6) (lv' := [(0, .ref 1000031)]) (st' := []) (sh' := ab_SH) (D' := ab_dD h) (fun n => rfl) ?_
  refine ab_Ex.blk (k := 2) (pc' := 10) (lv' := [(0, .ref 1000031)]) (st' := [.int 0]) (sh' := ab_SH) (D' := ab_dD h) (fun n => rfl) ?_
  refine ab_Ex.blk (k := 1) (pc' := 13) (lv' := [(0, .ref 1000031)]) (st' := []) (sh' := ab_SH) (D' := ab_dD h) (fun n => rfl) ?_
  refine ab_Ex.blk (k := 2) (pc' := 18) (lv' := []) (st' := [.int 1]) (sh' := ab_SH) (D' := ab_dD h) (fun n => rfl) ?_
  obtain rfl := Option.some.inj hf
  exact ab_Ex.ret (fun n => rfl) rfl
def fJ0_coder_7d493 (o : Nat) (h : abJ) : Option Int32 := some 0
set_option maxRecDepth 20000 in
theorem sJ0_coder_7d493_1000000 (d : Nat) (X : abX)  (h : abJ) (z : Int32) (hf : fJ0_coder_7d493 1000000 h = some z) : ab_Ex X (d + 0) 308 0 [(0, .ref 1000000)] [] ab_SH (ab_dD h) (fun r => r = (some (.int z), ab_SH, ab_dD h)) := by
  unfold fJ0_coder_7d493 at hf
  try simp only [Nat.reduceAdd] at hf
  refine ab_Ex.blk (k := 1) (pc' := 3) (lv' := [(0, .ref 1000000)]) (st' := [.int 1]) (sh' := ab_SH) (D' := ab_dD h) (fun n => rfl) ?_
  refine ab_Ex.blk (k := 1) (pc' := 6) (lv' := [(0, .ref 1000000)]) (st' := []) (sh' := ab_SH) (D' := ab_dD h) (fun n => rfl) ?_
  refine ab_Ex.blk (k := 3) (pc' := 14) (lv' := []) (st' := [.int 0]) (sh' := ab_SH) (D' := ab_dD h) (fun n => rfl) ?_
  obtain rfl := Option.some.inj hf
  exact ab_Ex.ret (fun n => rfl) rfl
set_option maxRecDepth 20000 in
theorem sJ0_coder_7d493_1000001 (d : Nat) (X : abX)  (h : abJ) (z : Int32) (hf : fJ0_coder_7d493 1000001 h = some z) : ab_Ex X (d + 0) 308 0 [(0, .ref 1000001)] [] ab_SH (ab_dD h) (fun r => r = (some (.int z), ab_SH, ab_dD h)) := by
  unfold fJ0_coder_7d493 at hf
  try simp only [Nat.reduceAdd] at hf
  refine ab_Ex.blk (k := 1) (pc' := 3) (lv' := [(0, .ref 1000001)]) (st' := [.int 1]) (sh' := ab_SH) (D' := ab_dD h) (fun n => rfl) ?_
  refine ab_Ex.blk (k := 1) (pc' := 6) (lv' := [(0, .ref 1000001)]) (st' := []) (sh' := ab_SH) (D' := ab_dD h) (fun n => rfl) ?_
  refine ab_Ex.blk (k := 3) (pc' := 14) (lv' := []) (st' := [.int 0]) (sh' := ab_SH) (D' := ab_dD h) (fun n => rfl) ?_
  obtain rfl := Option.some.inj hf
  exact ab_Ex.ret (fun n => rfl) rfl
set_option maxRecDepth 20000 in
theorem sJ0_coder_7d493_1000002 (d : Nat) (X : abX)  (h : abJ) (z : Int32) (hf : fJ0_coder_7d493 1000002 h = some z) : ab_Ex X (d + 0) 308 0 [(0, .ref 1000002)] [] ab_SH (ab_dD h) (fun r => r = (some (.int z), ab_SH, ab_dD h)) := by
  unfold fJ0_coder_7d493 at hf
  try simp only [Nat.reduceAdd] at hf
  refine ab_Ex.blk (k := 1) (pc' := 3) (lv' := [(0, .ref 1000002)]) (st' := [.int 1]) (sh' := ab_SH) (D' := ab_dD h) (fun n => rfl) ?_
  refine ab_Ex.blk (k := 1) (pc' := 6) (lv' := [(0, .ref 1000002)]) (st' := []) (sh' := ab_SH) (D' := ab_dD h) (fun n => rfl) ?_
  refine ab_Ex.blk (k := 3) (pc' := 14) (lv' := []) (st' := [.int 0]) (sh' := ab_SH) (D' := ab_dD h) (fun n => rfl) ?_
  obtain rfl := Option.some.inj hf
  exact ab_Ex.ret (fun n => rfl) rfl
set_option maxRecDepth 20000 in
theorem sJ0_coder_7d493_1000003 (d : Nat) (X : abX)  (h : abJ) (z : Int32) (hf : fJ0_coder_7d493 1000003 h = some z) : ab_Ex X (d + 0) 308 0 [(0, .ref 1000003)] [] ab_SH (ab_dD h) (fun r => r = (some (.int z), ab_SH, ab_dD h)) := by
  unfold fJ0_coder_7d493 at hf
  try simp only [Nat.reduceAdd] at hf
  refine ab_Ex.blk (k := 1) (pc' := 3) (lv' := [(0, .ref 1000003)]) (st' := [.int 1]) (sh' := ab_SH) (D' := ab_dD h) (fun n => rfl) ?_
  refine ab_Ex.blk (k := 1) (pc' := 6) (lv' := [(0, .ref 1000003)]) (st' := []) (sh' := ab_SH) (D' := ab_dD h) (fun n => rfl) ?_
  refine ab_Ex.blk (k := 3) (pc' := 14) (lv' := []) (st' := [.int 0]) (sh' := ab_SH) (D' := ab_dD h) (fun n => rfl) ?_
  obtain rfl := Option.some.inj hf
  exact ab_Ex.ret (fun n => rfl) rfl
set_option maxRecDepth 20000 in
theorem sJ0_coder_7d493_1000004 (d : Nat) (X : abX)  (h : abJ) (z : Int32) (hf : fJ0_coder_7d493 1000004 h = some z) : ab_Ex X (d + 0) 308 0 [(0, .ref 1000004)] [] ab_SH (ab_dD h) (fun r => r = (some (.int z), ab_SH, ab_dD h)) := by
  unfold fJ0_coder_7d493 at hf
  try simp only [Nat.reduceAdd] at hf
  refine ab_Ex.blk (k := 1) (pc' := 3) (lv' := [(0, .ref 1000004)]) (st' := [.int 1]) (sh' := ab_SH) (D' := ab_dD h) (fun n => rfl) ?_
  refine ab_Ex.blk (k := 1) (pc' := 6) (lv' := [(0, .ref 1000004)]) (st' := []) (sh' := ab_SH) (D' := ab_dD h) (fun n => rfl) ?_
  refine ab_Ex.blk (k := 3) (pc' := 14) (lv' := []) (st' := [.int 0]) (sh' := ab_SH) (D' := ab_dD h) (fun n => rfl) ?_
  obtain rfl := Option.some.inj hf
  exact ab_Ex.ret (fun n => rfl) rfl
set_option maxRecDepth 20000 in
theorem sJ0_coder_7d493_1000005 (d : Nat) (X : abX)  (h : abJ) (z : Int32) (hf : fJ0_coder_7d493 1000005 h = some z) : ab_Ex X (d + 0) 308 0 [(0, .ref 1000005)] [] ab_SH (ab_dD h) (fun r => r = (some (.int z), ab_SH, ab_dD h)) := by
  unfold fJ0_coder_7d493 at hf
  try simp only [Nat.reduceAdd] at hf
  refine ab_Ex.blk (k := 1) (pc' := 3) (lv' := [(0, .ref 1000005)]) (st' := [.int 1]) (sh' := ab_SH) (D' := ab_dD h) (fun n => rfl) ?_
  refine ab_Ex.blk (k := 1) (pc' := 6) (lv' := [(0, .ref 1000005)]) (st' := []) (sh' := ab_SH) (D' := ab_dD h) (fun n => rfl) ?_
  refine ab_Ex.blk (k := 3) (pc' := 14) (lv' := []) (st' := [.int 0]) (sh' := ab_SH) (D' := ab_dD h) (fun n => rfl) ?_
  obtain rfl := Option.some.inj hf
  exact ab_Ex.ret (fun n => rfl) rfl
set_option maxRecDepth 20000 in
theorem sJ0_coder_7d493_1000006 (d : Nat) (X : abX)  (h : abJ) (z : Int32) (hf : fJ0_coder_7d493 1000006 h = some z) : ab_Ex X (d + 0) 308 0 [(0, .ref 1000006)] [] ab_SH (ab_dD h) (fun r => r = (some (.int z), ab_SH, ab_dD h)) := by
  unfold fJ0_coder_7d493 at hf
  try simp only [Nat.reduceAdd] at hf
  refine ab_Ex.blk (k := 1) (pc' := 3) (lv' := [(0, .ref 1000006)]) (st' := [.int 1]) (sh' := ab_SH) (D' := ab_dD h) (fun n => rfl) ?_
  refine ab_Ex.blk (k := 1) (pc' := 6) (lv' := [(0, .ref 1000006)]) (st' := []) (sh' := ab_SH) (D' := ab_dD h) (fun n => rfl) ?_
  refine ab_Ex.blk (k := 3) (pc' := 14) (lv' := []) (st' := [.int 0]) (sh' := ab_SH) (D' := ab_dD h) (fun n => rfl) ?_
  obtain rfl := Option.some.inj hf
  exact ab_Ex.ret (fun n => rfl) rfl
set_option maxRecDepth 20000 in
theorem sJ0_coder_7d493_1000007 (d : Nat) (X : abX)  (h : abJ) (z : Int32) (hf : fJ0_coder_7d493 1000007 h = some z) : ab_Ex X (d + 0) 308 0 [(0, .ref 1000007)] [] ab_SH (ab_dD h) (fun r => r = (some (.int z), ab_SH, ab_dD h)) := by
  unfold fJ0_coder_7d493 at hf
  try simp only [Nat.reduceAdd] at hf
  refine ab_Ex.blk (k := 1) (pc' := 3) (lv' := [(0, .ref 1000007)]) (st' := [.int 1]) (sh' := ab_SH) (D' := ab_dD h) (fun n => rfl) ?_
  refine ab_Ex.blk (k := 1) (pc' := 6) (lv' := [(0, .ref 1000007)]) (st' := []) (sh' := ab_SH) (D' := ab_dD h) (fun n => rfl) ?_
  refine ab_Ex.blk (k := 3) (pc' := 14) (lv' := []) (st' := [.int 0]) (sh' := ab_SH) (D' := ab_dD h) (fun n => rfl) ?_
  obtain rfl := Option.some.inj hf
  exact ab_Ex.ret (fun n => rfl) rfl
set_option maxRecDepth 20000 in
theorem sJ0_coder_7d493_1000008 (d : Nat) (X : abX)  (h : abJ) (z : Int32) (hf : fJ0_coder_7d493 1000008 h = some z) : ab_Ex X (d + 0) 308 0 [(0, .ref 1000008)] [] ab_SH (ab_dD h) (fun r => r = (some (.int z), ab_SH, ab_dD h)) := by
  unfold fJ0_coder_7d493 at hf
  try simp only [Nat.reduceAdd] at hf
  refine ab_Ex.blk (k := 1) (pc' := 3) (lv' := [(0, .ref 1000008)]) (st' := [.int 1]) (sh' := ab_SH) (D' := ab_dD h) (fun n => rfl) ?_
  refine ab_Ex.blk (k := 1) (pc' := 6) (lv' := [(0, .ref 1000008)]) (st' := []) (sh' := ab_SH) (D' := ab_dD h) (fun n => rfl) ?_
  refine ab_Ex.blk (k := 3) (pc' := 14) (lv' := []) (st' := [.int 0]) (sh' := ab_SH) (D' := ab_dD h) (fun n => rfl) ?_
  obtain rfl := Option.some.inj hf
  exact ab_Ex.ret (fun n => rfl) rfl
set_option maxRecDepth 20000 in
theorem sJ0_coder_7d493_1000009 (d : Nat) (X : abX)  (h : abJ) (z : Int32) (hf : fJ0_coder_7d493 1000009 h = some z) : ab_Ex X (d + 0) 308 0 [(0, .ref 1000009)] [] ab_SH (ab_dD h) (fun r => r = (some (.int z), ab_SH, ab_dD h)) := by
  unfold fJ0_coder_7d493 at hf
  try simp only [Nat.reduceAdd] at hf
  refine ab_Ex.blk (k := 1) (pc' := 3) (lv' := [(0, .ref 1000009)]) (st' := [.int 1]) (sh' := ab_SH) (D' := ab_dD h) (fun n => rfl) ?_
  refine ab_Ex.blk (k := 1) (pc' := 6) (lv' := [(0, .ref 1000009)]) (st' := []) (sh' := ab_SH) (D' := ab_dD h) (fun n => rfl) ?_
  refine ab_Ex.blk (k := 3) (pc' := 14) (lv' := []) (st' := [.int 0]) (sh' := ab_SH) (D' := ab_dD h) (fun n => rfl) ?_
  obtain rfl := Option.some.inj hf
  exact ab_Ex.ret (fun n => rfl) rfl
set_option maxRecDepth 20000 in
theorem sJ0_coder_7d493_1000010 (d : Nat) (X : abX)  (h : abJ) (z : Int32) (hf : fJ0_coder_7d493 1000010 h = some z) : ab_Ex X (d + 0) 308 0 [(0, .ref 1000010)] [] ab_SH (ab_dD h) (fun r => r = (some (.int z), ab_SH, ab_dD h)) := by
  unfold fJ0_coder_7d493 at hf
  try simp only [Nat.reduceAdd] at hf
  refine ab_Ex.blk (k := 1) (pc' := 3) (lv' := [(0, .ref 1000010)]) (st' := [.int 1]) (sh' := ab_SH) (D' := ab_dD h) (fun n => rfl) ?_
  refine ab_Ex.blk (k := 1) (pc' := 6) (lv' := [(0, .ref 1000010)]) (st' := []) (sh' := ab_SH) (D' := ab_dD h) (fun n => rfl) ?_
  refine ab_Ex.blk (k := 3) (pc' := 14) (lv' := []) (st' := [.int 0]) (sh' := ab_SH) (D' := ab_dD h) (fun n => rfl) ?_
  obtain rfl := Option.some.inj hf
  exact ab_Ex.ret (fun n => rfl) rfl
set_option maxRecDepth 20000 in
theorem sJ0_coder_7d493_1000011 (d : Nat) (X : abX)  (h : abJ) (z : Int32) (hf : fJ0_coder_7d493 1000011 h = some z) : ab_Ex X (d + 0) 308 0 [(0, .ref 1000011)] [] ab_SH (ab_dD h) (fun r => r = (some (.int z), ab_SH, ab_dD h)) := by
  unfold fJ0_coder_7d493 at hf
  try simp only [Nat.reduceAdd] at hf
  refine ab_Ex.blk (k := 1) (pc' := 3) (lv' := [(0, .ref 1000011)]) (st' := [.int 1]) (sh' := ab_SH) (D' := ab_dD h) (fun n => rfl) ?_
  refine ab_Ex.blk (k := 1) (pc' := 6) (lv' := [(0, .ref 1000011)]) (st' := []) (sh' := ab_SH) (D' := ab_dD h) (fun n => rfl) ?_
  refine ab_Ex.blk (k := 3) (pc' := 14) (lv' := []) (st' := [.int 0]) (sh' := ab_SH) (D' := ab_dD h) (fun n => rfl) ?_
  obtain rfl := Option.some.inj hf
  exact ab_Ex.ret (fun n => rfl) rfl
set_option maxRecDepth 20000 in
theorem sJ0_coder_7d493_1000012 (d : Nat) (X : abX)  (h : abJ) (z : Int32) (hf : fJ0_coder_7d493 1000012 h = some z) : ab_Ex X (d + 0) 308 0 [(0, .ref 1000012)] [] ab_SH (ab_dD h) (fun r => r = (some (.int z), ab_SH, ab_dD h)) := by
  unfold fJ0_coder_7d493 at hf
  try simp only [Nat.reduceAdd] at hf
  refine ab_Ex.blk (k := 1) (pc' := 3) (lv' := [(0, .ref 1000012)]) (st' := [.int 1]) (sh' := ab_SH) (D' := ab_dD h) (fun n => rfl) ?_
  refine ab_Ex.blk (k := 1) (pc' := 6) (lv' := [(0, .ref 1000012)]) (st' := []) (sh' := ab_SH) (D' := ab_dD h) (fun n => rfl) ?_
  refine ab_Ex.blk (k := 3) (pc' := 14) (lv' := []) (st' := [.int 0]) (sh' := ab_SH) (D' := ab_dD h) (fun n => rfl) ?_
  obtain rfl := Option.some.inj hf
  exact ab_Ex.ret (fun n => rfl) rfl
set_option maxRecDepth 20000 in
theorem sJ0_coder_7d493_1000013 (d : Nat) (X : abX)  (h : abJ) (z : Int32) (hf : fJ0_coder_7d493 1000013 h = some z) : ab_Ex X (d + 0) 308 0 [(0, .ref 1000013)] [] ab_SH (ab_dD h) (fun r => r = (some (.int z), ab_SH, ab_dD h)) := by
  unfold fJ0_coder_7d493 at hf
  try simp only [Nat.reduceAdd] at hf
  refine ab_Ex.blk (k := 1) (pc' := 3) (lv' := [(0, .ref 1000013)]) (st' := [.int 1]) (sh' := ab_SH) (D' := ab_dD h) (fun n => rfl) ?_
  refine ab_Ex.blk (k := 1) (pc' := 6) (lv' := [(0, .ref 1000013)]) (st' := []) (sh' := ab_SH) (D' := ab_dD h) (fun n => rfl) ?_
  refine ab_Ex.blk (k := 3) (pc' := 14) (lv' := []) (st' := [.int 0]) (sh' := ab_SH) (D' := ab_dD h) (fun n => rfl) ?_
  obtain rfl := Option.some.inj hf
  exact ab_Ex.ret (fun n => rfl) rfl
set_option maxRecDepth 20000 in
theorem sJ0_coder_7d493_1000014 (d : Nat) (X : abX)  (h : abJ) (z : Int32) (hf : fJ0_coder_7d493 1000014 h = some z) : ab_Ex X (d + 0) 308 0 [(0, .ref 1000014)] [] ab_SH (ab_dD h) (fun r => r = (some (.int z), ab_SH, ab_dD h)) := by
  unfold fJ0_coder_7d493 at hf
  try simp only [Nat.reduceAdd] at hf
  refine ab_Ex.blk (k := 1) (pc' := 3) (lv' := [(0, .ref 1000014)]) (st' := [.int 1]) (sh' := ab_SH) (D' := ab_dD h) (fun n => rfl) ?_
  refine ab_Ex.blk (k := 1) (pc' := 6) (lv' := [(0, .ref 1000014)]) (st' := []) (sh' := ab_SH) (D' := ab_dD h) (fun n => rfl) ?_
  refine ab_Ex.blk (k := 3) (pc' := 14) (lv' := []) (st' := [.int 0]) (sh' := ab_SH) (D' := ab_dD h) (fun n => rfl) ?_
  obtain rfl := Option.some.inj hf
  exact ab_Ex.ret (fun n => rfl) rfl
set_option maxRecDepth 20000 in
theorem sJ0_coder_7d493_1000015 (d : Nat) (X : abX)  (h : abJ) (z : Int32) (hf : fJ0_coder_7d493 1000015 h = some z) : ab_Ex X (d + 0) 308 0 [(0, .ref 1000015)] [] ab_SH (ab_dD h) (fun r => r = (some (.int z), ab_SH, ab_dD h)) := by
  unfold fJ0_coder_7d493 at hf
  try simp only [Nat.reduceAdd] at hf
  refine ab_Ex.blk (k := 1) (pc' := 3) (lv' := [(0, .ref 1000015)]) (st' := [.int 1]) (sh' := ab_SH) (D' := ab_dD h) (fun n => rfl) ?_
  refine ab_Ex.blk (k := 1) (pc' := 6) (lv' := [(0, .ref 1000015)]) (st' := []) (sh' := ab_SH) (D' := ab_dD h) (fun n => rfl) ?_
  refine ab_Ex.blk (k := 3) (pc' := 14) (lv' := []) (st' := [.int 0]) (sh' := ab_SH) (D' := ab_dD h) (fun n => rfl) ?_
  obtain rfl := Option.some.inj hf
  exact ab_Ex.ret (fun n => rfl) rfl
set_option maxRecDepth 20000 in
theorem sJ0_coder_7d493_1000016 (d : Nat) (X : abX)  (h : abJ) (z : Int32) (hf : fJ0_coder_7d493 1000016 h = some z) : ab_Ex X (d + 0) 308 0 [(0, .ref 1000016)] [] ab_SH (ab_dD h) (fun r => r = (some (.int z), ab_SH, ab_dD h)) := by
  unfold fJ0_coder_7d493 at hf
  try simp only [Nat.reduceAdd] at hf
  refine ab_Ex.blk (k := 1) (pc' := 3) (lv' := [(0, .ref 1000016)]) (st' := [.int 1]) (sh' := ab_SH) (D' := ab_dD h) (fun n => rfl) ?_
  refine ab_Ex.blk (k := 1) (pc' := 6) (lv' := [(0, .ref 1000016)]) (st' := []) (sh' := ab_SH) (D' := ab_dD h) (fun n => rfl) ?_
  refine ab_Ex.blk (k := 3) (pc' := 14) (lv' := []) (st' := [.int 0]) (sh' := ab_SH) (D' := ab_dD h) (fun n => rfl) ?_
  obtain rfl := Option.some.inj hf
  exact ab_Ex.ret (fun n => rfl) rfl
set_option maxRecDepth 20000 in
theorem sJ0_coder_7d493_1000017 (d : Nat) (X : abX)  (h : abJ) (z : Int32) (hf : fJ0_coder_7d493 1000017 h = some z) : ab_Ex X (d + 0) 308 0 [(0, .ref 1000017)] [] ab_SH (ab_dD h) (fun r => r = (some (.int z), ab_SH, ab_dD h)) := by
  unfold fJ0_coder_7d493 at hf
  try simp only [Nat.reduceAdd] at hf
  refine ab_Ex.blk (k := 1) (pc' := 3) (lv' := [(0, .ref 1000017)]) (st' := [.int 1]) (sh' := ab_SH) (D' := ab_dD h) (fun n => rfl) ?_
  refine ab_Ex.blk (k := 1) (pc' := 6) (lv' := [(0, .ref 1000017)]) (st' := []) (sh' := ab_SH) (D' := ab_dD h) (fun n => rfl) ?_
  refine ab_Ex.blk (k := 3) (pc' := 14) (lv' := []) (st' := [.int 0]) (sh' := ab_SH) (D' := ab_dD h) (fun n => rfl) ?_
  obtain rfl := Option.some.inj hf
  exact ab_Ex.ret (fun n => rfl) rfl
set_option maxRecDepth 20000 in
theorem sJ0_coder_7d493_1000018 (d : Nat) (X : abX)  (h : abJ) (z : Int32) (hf : fJ0_coder_7d493 1000018 h = some z) : ab_Ex X (d + 0) 308 0 [(0, .ref 1000018)] [] ab_SH (ab_dD h) (fun r => r = (some (.int z), ab_SH, ab_dD h)) := by
  unfold fJ0_coder_7d493 at hf
  try simp only [Nat.reduceAdd] at hf
  refine ab_Ex.blk (k := 1) (pc' := 3) (lv' := [(0, .ref 1000018)]) (st' := [.int 1]) (sh' := ab_SH) (D' := ab_dD h) (fun n => rfl) ?_
  refine ab_Ex.blk (k := 1) (pc' := 6) (lv' := [(0, .ref 1000018)]) (st' := []) (sh' := ab_SH) (D' := ab_dD h) (fun n => rfl) ?_
  refine ab_Ex.blk (k := 3) (pc' := 14) (lv' := []) (st' := [.int 0]) (sh' := ab_SH) (D' := ab_dD h) (fun n => rfl) ?_
  obtain rfl := Option.some.inj hf
  exact ab_Ex.ret (fun n => rfl) rfl
set_option maxRecDepth 20000 in
theorem sJ0_coder_7d493_1000019 (d : Nat) (X : abX)  (h : abJ) (z : Int32) (hf : fJ0_coder_7d493 1000019 h = some z) : ab_Ex X (d + 0) 308 0 [(0, .ref 1000019)] [] ab_SH (ab_dD h) (fun r => r = (some (.int z), ab_SH, ab_dD h)) := by
  unfold fJ0_coder_7d493 at hf
  try simp only [Nat.reduceAdd] at hf
  refine ab_Ex.blk (k := 1) (pc' := 3) (lv' := [(0, .ref 1000019)]) (st' := [.int 1]) (sh' := ab_SH) (D' := ab_dD h) (fun n => rfl) ?_
  refine ab_Ex.blk (k := 1) (pc' := 6) (lv' := [(0, .ref 1000019)]) (st' := []) (sh' := ab_SH) (D' := ab_dD h) (fun n => rfl) ?_
  refine ab_Ex.blk (k := 3) (pc' := 14) (lv' := []) (st' := [.int 0]) (sh' := ab_SH) (D' := ab_dD h) (fun n => rfl) ?_
  obtain rfl := Option.some.inj hf
  exact ab_Ex.ret (fun n => rfl) rfl
set_option maxRecDepth 20000 in
theorem sJ0_coder_7d493_1000020 (d : Nat) (X : abX)  (h : abJ) (z : Int32) (hf : fJ0_coder_7d493 1000020 h = some z) : ab_Ex X (d + 0) 308 0 [(0, .ref 1000020)] [] ab_SH (ab_dD h) (fun r => r = (some (.int z), ab_SH, ab_dD h)) := by
  unfold fJ0_coder_7d493 at hf
  try simp only [Nat.reduceAdd] at hf
  refine ab_Ex.blk (k := 1) (pc' := 3) (lv' := [(0, .ref 1000020)]) (st' := [.int 1]) (sh' := ab_SH) (D' := ab_dD h) (fun n => rfl) ?_
  refine ab_Ex.blk (k := 1) (pc' := 6) (lv' := [(0, .ref 1000020)]) (st' := []) (sh' := ab_SH) (D' := ab_dD h) (fun n => rfl) ?_
  refine ab_Ex.blk (k := 3) (pc' := 14) (lv' := []) (st' := [.int 0]) (sh' := ab_SH) (D' := ab_dD h) (fun n => rfl) ?_
  obtain rfl := Option.some.inj hf
  exact ab_Ex.ret (fun n => rfl) rfl
set_option maxRecDepth 20000 in
theorem sJ0_coder_7d493_1000021 (d : Nat) (X : abX)  (h : abJ) (z : Int32) (hf : fJ0_coder_7d493 1000021 h = some z) : ab_Ex X (d + 0) 308 0 [(0, .ref 1000021)] [] ab_SH (ab_dD h) (fun r => r = (some (.int z), ab_SH, ab_dD h)) := by
  unfold fJ0_coder_7d493 at hf
  try simp only [Nat.reduceAdd] at hf
  refine ab_Ex.blk (k := 1) (pc' := 3) (lv' := [(0, .ref 1000021)]) (st' := [.int 1]) (sh' := ab_SH) (D' := ab_dD h) (fun n => rfl) ?_
  refine ab_Ex.blk (k := 1) (pc' := 6) (lv' := [(0, .ref 1000021)]) (st' := []) (sh' := ab_SH) (D' := ab_dD h) (fun n => rfl) ?_
  refine ab_Ex.blk (k := 3) (pc' := 14) (lv' := []) (st' := [.int 0]) (sh' := ab_SH) (D' := ab_dD h) (fun n => rfl) ?_
  obtain rfl := Option.some.inj hf
  exact ab_Ex.ret (fun n => rfl) rfl
set_option maxRecDepth 20000 in
theorem sJ0_coder_7d493_1000022 (d : Nat) (X : abX)  (h : abJ) (z : Int32) (hf : fJ0_coder_7d493 1000022 h = some z) : ab_Ex X (d + 0) 308 0 [(0, .ref 1000022)] [] ab_SH (ab_dD h) (fun r => r = (some (.int z), ab_SH, ab_dD h)) := by
  unfold fJ0_coder_7d493 at hf
  try simp only [Nat.reduceAdd] at hf
  refine ab_Ex.blk (k := 1) (pc' := 3) (lv' := [(0, .ref 1000022)]) (st' := [.int 1]) (sh' := ab_SH) (D' := ab_dD h) (fun n => rfl) ?_
  refine ab_Ex.blk (k := 1) (pc' := 6) (lv' := [(0, .ref 1000022)]) (st' := []) (sh' := ab_SH) (D' := ab_dD h) (fun n => rfl) ?_
  refine ab_Ex.blk (k := 3) (pc' := 14) (lv' := []) (st' := [.int 0]) (sh' := ab_SH) (D' := ab_dD h) (fun n => rfl) ?_
  obtain rfl := Option.some.inj hf
  exact ab_Ex.ret (fun n => rfl) rfl
set_option maxRecDepth 20000 in
theorem sJ0_coder_7d493_1000023 (d : Nat) (X : abX)  (h : abJ) (z : Int32) (hf : fJ0_coder_7d493 1000023 h = some z) : ab_Ex X (d + 0) 308 0 [(0, .ref 1000023)] [] ab_SH (ab_dD h) (fun r => r = (some (.int z), ab_SH, ab_dD h)) := by
  unfold fJ0_coder_7d493 at hf
  try simp only [Nat.reduceAdd] at hf
  refine ab_Ex.blk (k := 1) (pc' := 3) (lv' := [(0, .ref 1000023)]) (st' := [.int 1]) (sh' := ab_SH) (D' := ab_dD h) (fun n => rfl) ?_
  refine ab_Ex.blk (k := 1) (pc' := 6) (lv' := [(0, .ref 1000023)]) (st' := []) (sh' := ab_SH) (D' := ab_dD h) (fun n => rfl) ?_
  refine ab_Ex.blk (k := 3) (pc' := 14) (lv' := []) (st' := [.int 0]) (sh' := ab_SH) (D' := ab_dD h) (fun n => rfl) ?_
  obtain rfl := Option.some.inj hf
  exact ab_Ex.ret (fun n => rfl) rfl
set_option maxRecDepth 20000 in
theorem sJ0_coder_7d493_1000024 (d : Nat) (X : abX)  (h : abJ) (z : Int32) (hf : fJ0_coder_7d493 1000024 h = some z) : ab_Ex X (d + 0) 308 0 [(0, .ref 1000024)] [] ab_SH (ab_dD h) (fun r => r = (some (.int z), ab_SH, ab_dD h)) := by
  unfold fJ0_coder_7d493 at hf
  try simp only [Nat.reduceAdd] at hf
  refine ab_Ex.blk (k := 1) (pc' := 3) (lv' := [(0, .ref 1000024)]) (st' := [.int 1]) (sh' := ab_SH) (D' := ab_dD h) (fun n => rfl) ?_
  refine ab_Ex.blk (k := 1) (pc' := 6) (lv' := [(0, .ref 1000024)]) (st' := []) (sh' := ab_SH) (D' := ab_dD h) (fun n => rfl) ?_
  refine ab_Ex.blk (k := 3) (pc' := 14) (lv' := []) (st' := [.int 0]) (sh' := ab_SH) (D' := ab_dD h) (fun n => rfl) ?_
  obtain rfl := Option.some.inj hf
  exact ab_Ex.ret (fun n => rfl) rfl
set_option maxRecDepth 20000 in
theorem sJ0_coder_7d493_1000025 (d : Nat) (X : abX)  (h : abJ) (z : Int32) (hf : fJ0_coder_7d493 1000025 h = some z) : ab_Ex X (d + 0) 308 0 [(0, .ref 1000025)] [] ab_SH (ab_dD h) (fun r => r = (some (.int z), ab_SH, ab_dD h)) := by
  unfold fJ0_coder_7d493 at hf
  try simp only [Nat.reduceAdd] at hf
  refine ab_Ex.blk (k := 1) (pc' := 3) (lv' := [(0, .ref 1000025)]) (st' := [.int 1]) (sh' := ab_SH) (D' := ab_dD h) (fun n => rfl) ?_
  refine ab_Ex.blk (k := 1) (pc' := 6) (lv' := [(0, .ref 1000025)]) (st' := []) (sh' := ab_SH) (D' := ab_dD h) (fun n => rfl) ?_
  refine ab_Ex.blk (k := 3) (pc' := 14) (lv' := []) (st' := [.int 0]) (sh' := ab_SH) (D' := ab_dD h) (fun n => rfl) ?_
  obtain rfl := Option.some.inj hf
  exact ab_Ex.ret (fun n => rfl) rfl
set_option maxRecDepth 20000 in
theorem sJ0_coder_7d493_1000026 (d : Nat) (X : abX)  (h : abJ) (z : Int32) (hf : fJ0_coder_7d493 1000026 h = some z) : ab_Ex X (d + 0) 308 0 [(0, .ref 1000026)] [] ab_SH (ab_dD h) (fun r => r = (some (.int z), ab_SH, ab_dD h)) := by
  unfold fJ0_coder_7d493 at hf
  try simp only [Nat.reduceAdd] at hf
  refine ab_Ex.blk (k := 1) (pc' := 3) (lv' := [(0, .ref 1000026)]) (st' := [.int 1]) (sh' := ab_SH) (D' := ab_dD h) (fun n => rfl) ?_
  refine ab_Ex.blk (k := 1) (pc' := 6) (lv' := [(0, .ref 1000026)]) (st' := []) (sh' := ab_SH) (D' := ab_dD h) (fun n => rfl) ?_
  refine ab_Ex.blk (k := 3) (pc' := 14) (lv' := []) (st' := [.int 0]) (sh' := ab_SH) (D' := ab_dD h) (fun n => rfl) ?_
  obtain rfl := Option.some.inj hf
  exact ab_Ex.ret (fun n => rfl) rfl
set_option maxRecDepth 20000 in
theorem sJ0_coder_7d493_1000027 (d : Nat) (X : abX)  (h : abJ) (z : Int32) (hf : fJ0_coder_7d493 1000027 h = some z) : ab_Ex X (d + 0) 308 0 [(0, .ref 1000027)] [] ab_SH (ab_dD h) (fun r => r = (some (.int z), ab_SH, ab_dD h)) := by
  unfold fJ0_coder_7d493 at hf
  try simp only [Nat.reduceAdd] at hf
  refine ab_Ex.blk (k := 1) (pc' := 3) (lv' := [(0, .ref 1000027)]) (st' := [.int 1]) (sh' := ab_SH) (D' := ab_dD h) (fun n => rfl) ?_
  refine ab_Ex.blk (k := 1) (pc' := 6) (lv' := [(0, .ref 1000027)]) (st' := []) (sh' := ab_SH) (D' := ab_dD h) (fun n => rfl) ?_
  refine ab_Ex.blk (k := 3) (pc' := 14) (lv' := []) (st' := [.int 0]) (sh' := ab_SH) (D' := ab_dD h) (fun n => rfl) ?_
  obtain rfl := Option.some.inj hf
  exact ab_Ex.ret (fun n => rfl) rfl
set_option maxRecDepth 20000 in
theorem sJ0_coder_7d493_1000028 (d : Nat) (X : abX)  (h : abJ) (z : Int32) (hf : fJ0_coder_7d493 1000028 h = some z) : ab_Ex X (d + 0) 308 0 [(0, .ref 1000028)] [] ab_SH (ab_dD h) (fun r => r = (some (.int z), ab_SH, ab_dD h)) := by
  unfold fJ0_coder_7d493 at hf
  try simp only [Nat.reduceAdd] at hf
  refine ab_Ex.blk (k := 1) (pc' := 3) (lv' := [(0, .ref 1000028)]) (st' := [.int 1]) (sh' := ab_SH) (D' := ab_dD h) (fun n => rfl) ?_
  refine ab_Ex.blk (k := 1) (pc' := 6) (lv' := [(0, .ref 1000028)]) (st' := []) (sh' := ab_SH) (D' := ab_dD h) (fun n => rfl) ?_
  refine ab_Ex.blk (k := 3) (pc' := 14) (lv' := []) (st' := [.int 0]) (sh' := ab_SH) (D' := ab_dD h) (fun n => rfl) ?_
  obtain rfl := Option.some.inj hf
  exact ab_Ex.ret (fun n => rfl) rfl
set_option maxRecDepth 20000 in
theorem sJ0_coder_7d493_1000029 (d : Nat) (X : abX)  (h : abJ) (z : Int32) (hf : fJ0_coder_7d493 1000029 h = some z) : ab_Ex X (d + 0) 308 0 [(0, .ref 1000029)] [] ab_SH (ab_dD h) (fun r => r = (some (.int z), ab_SH, ab_dD h)) := by
  unfold fJ0_coder_7d493 at hf
  try simp only [Nat.reduceAdd] at hf
  refine ab_Ex.blk (k := 1) (pc' := 3) (lv' := [(0, .ref 1000029)]) (st' := [.int 1]) (sh' := ab_SH) (D' := ab_dD h) (fun n => rfl) ?_
  refine ab_Ex.blk (k := 1) (pc' := 6) (lv' := [(0, .ref 1000029)]) (st' := []) (sh' := ab_SH) (D' := ab_dD h) (fun n => rfl) ?_
  refine ab_Ex.blk (k := 3) (pc' := 14) (lv' := []) (st' := [.int 0]) (sh' := ab_SH) (D' := ab_dD h) (fun n => rfl) ?_
  obtain rfl := Option.some.inj hf
  exact ab_Ex.ret (fun n => rfl) rfl
set_option maxRecDepth 20000 in
theorem sJ0_coder_7d493_1000030 (d : Nat) (X : abX)  (h : abJ) (z : Int32) (hf : fJ0_coder_7d493 1000030 h = some z) : ab_Ex X (d + 0) 308 0 [(0, .ref 1000030)] [] ab_SH (ab_dD h) (fun r => r = (some (.int z), ab_SH, ab_dD h)) := by
  unfold fJ0_coder_7d493 at hf
  try simp only [Nat.reduceAdd] at hf
  refine ab_Ex.blk (k := 1) (pc' := 3) (lv' := [(0, .ref 1000030)]) (st' := [.int 1]) (sh' := ab_SH) (D' := ab_dD h) (fun n => rfl) ?_
  refine ab_Ex.blk (k := 1) (pc' := 6) (lv' := [(0, .ref 1000030)]) (st' := []) (sh' := ab_SH) (D' := ab_dD h) (fun n => rfl) ?_
  refine ab_Ex.blk (k := 3) (pc' := 14) (lv' := []) (st' := [.int 0]) (sh' := ab_SH) (D' := ab_dD h) (fun n => rfl) ?_
  obtain rfl := Option.some.inj hf
  exact ab_Ex.ret (fun n => rfl) rfl
set_option maxRecDepth 20000 in
theorem sJ0_coder_7d493_1000031 (d : Nat) (X : abX)  (h : abJ) (z : Int32) (hf : fJ0_coder_7d493 1000031 h = some z) : ab_Ex X (d + 0) 308 0 [(0, .ref 1000031)] [] ab_SH (ab_dD h) (fun r => r = (some (.int z), ab_SH, ab_dD h)) := by
  unfold fJ0_coder_7d493 at hf
  try simp only [Nat.reduceAdd] at hf
  refine ab_Ex.blk (k := 1) (pc' := 3) (lv' := [(0, .ref 1000031)]) (st' := [.int 1]) (sh' := ab_SH) (D' := ab_dD h) (fun n => rfl) ?_
  refine ab_Ex.blk (k := 1) (pc' := 6) (lv' := [(0, .ref 1000031)]) (st' := []) (sh' := ab_SH) (D' := ab_dD h) (fun n => rfl) ?_
  refine ab_Ex.blk (k := 3) (pc' := 14) (lv' := []) (st' := [.int 0]) (sh' := ab_SH) (D' := ab_dD h) (fun n => rfl) ?_
  obtain rfl := Option.some.inj hf
  exact ab_Ex.ret (fun n => rfl) rfl
def fJ0_length_8abf5 (o : Nat) (h : abJ) : Option Int32 := (fJ0_coder_7d493 o h).bind (fun r1 => some (((Int32.ofNat (ab_sl.getD ((o + 1000000) - 2000000) 0)) : Int32) >>> (r1 &&& 31)))
set_option maxRecDepth 20000 in
theorem sJ0_length_8abf5_1000000 (d : Nat) (X : abX)  (h : abJ) (z : Int32) (hf : fJ0_length_8abf5 1000000 h = some z) : ab_Ex X (d + 1) 304 0 [(0, .ref 1000000)] [] ab_SH (ab_dD h) (fun r => r = (some (.int z), ab_SH, ab_dD h)) := by
  unfold fJ0_length_8abf5 at hf
  try simp only [Nat.reduceAdd] at hf
  refine ab_Ex.blk (k := 4) (pc' := 6) (lv' := [(0, .ref 1000000)]) (st' := [.ref 1000000, .int ((Int32.ofNat 12))]) (sh' := ab_SH) (D' := ab_dD h) (fun n => rfl) ?_
  obtain ⟨r1, hr1, hf⟩ := ab_bind_s hf
  refine ab_Ex.call (d := d + 0) (M2 := 308) (as := [.ref 1000000]) (rest := [.int ((Int32.ofNat 12))]) (fun n => rfl) rfl (Nat.not_lt.mpr (Nat.le_of_ble_eq_true rfl)) (sJ0_coder_7d493_1000000 (d) X  h _ hr1) (fun r hr => ?_)
  subst hr
  show ab_Ex X (d + 1) 304 9 [(0, .ref 1000000)] [.int r1, .int ((Int32.ofNat 12))] ab_SH (ab_dD h) _
  refine ab_Ex.blk (k := 1) (pc' := 10) (lv' := [(0, .ref 1000000)]) (st' := [.int ((((Int32.ofNat 12) : Int32) >>> (r1 &&& 31)))]) (sh' := ab_SH) (D' := ab_dD h) (fun n => rfl) ?_
  obtain rfl := Option.some.inj hf
  exact ab_Ex.ret (fun n => rfl) rfl
set_option maxRecDepth 20000 in
theorem sJ0_length_8abf5_1000001 (d : Nat) (X : abX)  (h : abJ) (z : Int32) (hf : fJ0_length_8abf5 1000001 h = some z) : ab_Ex X (d + 1) 304 0 [(0, .ref 1000001)] [] ab_SH (ab_dD h) (fun r => r = (some (.int z), ab_SH, ab_dD h)) := by
  unfold fJ0_length_8abf5 at hf
  try simp only [Nat.reduceAdd] at hf
  refine ab_Ex.blk (k := 4) (pc' := 6) (lv' := [(0, .ref 1000001)]) (st' := [.ref 1000001, .int ((Int32.ofNat 4))]) (sh' := ab_SH) (D' := ab_dD h) (fun n => rfl) ?_
  obtain ⟨r1, hr1, hf⟩ := ab_bind_s hf
  refine ab_Ex.call (d := d + 0) (M2 := 308) (as := [.ref 1000001]) (rest := [.int ((Int32.ofNat 4))]) (fun n => rfl) rfl (Nat.not_lt.mpr (Nat.le_of_ble_eq_true rfl)) (sJ0_coder_7d493_1000001 (d) X  h _ hr1) (fun r hr => ?_)
  subst hr
  show ab_Ex X (d + 1) 304 9 [(0, .ref 1000001)] [.int r1, .int ((Int32.ofNat 4))] ab_SH (ab_dD h) _
  refine ab_Ex.blk (k := 1) (pc' := 10) (lv' := [(0, .ref 1000001)]) (st' := [.int ((((Int32.ofNat 4) : Int32) >>> (r1 &&& 31)))]) (sh' := ab_SH) (D' := ab_dD h) (fun n => rfl) ?_
  obtain rfl := Option.some.inj hf
  exact ab_Ex.ret (fun n => rfl) rfl
set_option maxRecDepth 20000 in
theorem sJ0_length_8abf5_1000002 (d : Nat) (X : abX)  (h : abJ) (z : Int32) (hf : fJ0_length_8abf5 1000002 h = some z) : ab_Ex X (d + 1) 304 0 [(0, .ref 1000002)] [] ab_SH (ab_dD h) (fun r => r = (some (.int z), ab_SH, ab_dD h)) := by
  unfold fJ0_length_8abf5 at hf
  try simp only [Nat.reduceAdd] at hf
  refine ab_Ex.blk (k := 4) (pc' := 6) (lv' := [(0, .ref 1000002)]) (st' := [.ref 1000002, .int ((Int32.ofNat 5))]) (sh' := ab_SH) (D' := ab_dD h) (fun n => rfl) ?_
  obtain ⟨r1, hr1, hf⟩ := ab_bind_s hf
  refine ab_Ex.call (d := d + 0) (M2 := 308) (as := [.ref 1000002]) (rest := [.int ((Int32.ofNat 5))]) (fun n => rfl) rfl (Nat.not_lt.mpr (Nat.le_of_ble_eq_true rfl)) (sJ0_coder_7d493_1000002 (d) X  h _ hr1) (fun r hr => ?_)
  subst hr
  show ab_Ex X (d + 1) 304 9 [(0, .ref 1000002)] [.int r1, .int ((Int32.ofNat 5))] ab_SH (ab_dD h) _
  refine ab_Ex.blk (k := 1) (pc' := 10) (lv' := [(0, .ref 1000002)]) (st' := [.int ((((Int32.ofNat 5) : Int32) >>> (r1 &&& 31)))]) (sh' := ab_SH) (D' := ab_dD h) (fun n => rfl) ?_
  obtain rfl := Option.some.inj hf
  exact ab_Ex.ret (fun n => rfl) rfl
set_option maxRecDepth 20000 in
theorem sJ0_length_8abf5_1000003 (d : Nat) (X : abX)  (h : abJ) (z : Int32) (hf : fJ0_length_8abf5 1000003 h = some z) : ab_Ex X (d + 1) 304 0 [(0, .ref 1000003)] [] ab_SH (ab_dD h) (fun r => r = (some (.int z), ab_SH, ab_dD h)) := by
  unfold fJ0_length_8abf5 at hf
  try simp only [Nat.reduceAdd] at hf
  refine ab_Ex.blk (k := 4) (pc' := 6) (lv' := [(0, .ref 1000003)]) (st' := [.ref 1000003, .int ((Int32.ofNat 1))]) (sh' := ab_SH) (D' := ab_dD h) (fun n => rfl) ?_
  obtain ⟨r1, hr1, hf⟩ := ab_bind_s hf
  refine ab_Ex.call (d := d + 0) (M2 := 308) (as := [.ref 1000003]) (rest := [.int ((Int32.ofNat 1))]) (fun n => rfl) rfl (Nat.not_lt.mpr (Nat.le_of_ble_eq_true rfl)) (sJ0_coder_7d493_1000003 (d) X  h _ hr1) (fun r hr => ?_)
  subst hr
  show ab_Ex X (d + 1) 304 9 [(0, .ref 1000003)] [.int r1, .int ((Int32.ofNat 1))] ab_SH (ab_dD h) _
  refine ab_Ex.blk (k := 1) (pc' := 10) (lv' := [(0, .ref 1000003)]) (st' := [.int ((((Int32.ofNat 1) : Int32) >>> (r1 &&& 31)))]) (sh' := ab_SH) (D' := ab_dD h) (fun n => rfl) ?_
  obtain rfl := Option.some.inj hf
  exact ab_Ex.ret (fun n => rfl) rfl
set_option maxRecDepth 20000 in
theorem sJ0_length_8abf5_1000004 (d : Nat) (X : abX)  (h : abJ) (z : Int32) (hf : fJ0_length_8abf5 1000004 h = some z) : ab_Ex X (d + 1) 304 0 [(0, .ref 1000004)] [] ab_SH (ab_dD h) (fun r => r = (some (.int z), ab_SH, ab_dD h)) := by
  unfold fJ0_length_8abf5 at hf
  try simp only [Nat.reduceAdd] at hf
  refine ab_Ex.blk (k := 4) (pc' := 6) (lv' := [(0, .ref 1000004)]) (st' := [.ref 1000004, .int ((Int32.ofNat 4))]) (sh' := ab_SH) (D' := ab_dD h) (fun n => rfl) ?_
  obtain ⟨r1, hr1, hf⟩ := ab_bind_s hf
  refine ab_Ex.call (d := d + 0) (M2 := 308) (as := [.ref 1000004]) (rest := [.int ((Int32.ofNat 4))]) (fun n => rfl) rfl (Nat.not_lt.mpr (Nat.le_of_ble_eq_true rfl)) (sJ0_coder_7d493_1000004 (d) X  h _ hr1) (fun r hr => ?_)
  subst hr
  show ab_Ex X (d + 1) 304 9 [(0, .ref 1000004)] [.int r1, .int ((Int32.ofNat 4))] ab_SH (ab_dD h) _
  refine ab_Ex.blk (k := 1) (pc' := 10) (lv' := [(0, .ref 1000004)]) (st' := [.int ((((Int32.ofNat 4) : Int32) >>> (r1 &&& 31)))]) (sh' := ab_SH) (D' := ab_dD h) (fun n => rfl) ?_
  obtain rfl := Option.some.inj hf
  exact ab_Ex.ret (fun n => rfl) rfl
set_option maxRecDepth 20000 in
theorem sJ0_length_8abf5_1000005 (d : Nat) (X : abX)  (h : abJ) (z : Int32) (hf : fJ0_length_8abf5 1000005 h = some z) : ab_Ex X (d + 1) 304 0 [(0, .ref 1000005)] [] ab_SH (ab_dD h) (fun r => r = (some (.int z), ab_SH, ab_dD h)) := by
  unfold fJ0_length_8abf5 at hf
  try simp only [Nat.reduceAdd] at hf
  refine ab_Ex.blk (k := 4) (pc' := 6) (lv' := [(0, .ref 1000005)]) (st' := [.ref 1000005, .int ((Int32.ofNat 3))]) (sh' := ab_SH) (D' := ab_dD h) (fun n => rfl) ?_
  obtain ⟨r1, hr1, hf⟩ := ab_bind_s hf
  refine ab_Ex.call (d := d + 0) (M2 := 308) (as := [.ref 1000005]) (rest := [.int ((Int32.ofNat 3))]) (fun n => rfl) rfl (Nat.not_lt.mpr (Nat.le_of_ble_eq_true rfl)) (sJ0_coder_7d493_1000005 (d) X  h _ hr1) (fun r hr => ?_)
  subst hr
  show ab_Ex X (d + 1) 304 9 [(0, .ref 1000005)] [.int r1, .int ((Int32.ofNat 3))] ab_SH (ab_dD h) _
  refine ab_Ex.blk (k := 1) (pc' := 10) (lv' := [(0, .ref 1000005)]) (st' := [.int ((((Int32.ofNat 3) : Int32) >>> (r1 &&& 31)))]) (sh' := ab_SH) (D' := ab_dD h) (fun n => rfl) ?_
  obtain rfl := Option.some.inj hf
  exact ab_Ex.ret (fun n => rfl) rfl
set_option maxRecDepth 20000 in
theorem sJ0_length_8abf5_1000006 (d : Nat) (X : abX)  (h : abJ) (z : Int32) (hf : fJ0_length_8abf5 1000006 h = some z) : ab_Ex X (d + 1) 304 0 [(0, .ref 1000006)] [] ab_SH (ab_dD h) (fun r => r = (some (.int z), ab_SH, ab_dD h)) := by
  unfold fJ0_length_8abf5 at hf
  try simp only [Nat.reduceAdd] at hf
  refine ab_Ex.blk (k := 4) (pc' := 6) (lv' := [(0, .ref 1000006)]) (st' := [.ref 1000006, .int ((Int32.ofNat 4))]) (sh' := ab_SH) (D' := ab_dD h) (fun n => rfl) ?_
  obtain ⟨r1, hr1, hf⟩ := ab_bind_s hf
  refine ab_Ex.call (d := d + 0) (M2 := 308) (as := [.ref 1000006]) (rest := [.int ((Int32.ofNat 4))]) (fun n => rfl) rfl (Nat.not_lt.mpr (Nat.le_of_ble_eq_true rfl)) (sJ0_coder_7d493_1000006 (d) X  h _ hr1) (fun r hr => ?_)
  subst hr
  show ab_Ex X (d + 1) 304 9 [(0, .ref 1000006)] [.int r1, .int ((Int32.ofNat 4))] ab_SH (ab_dD h) _
  refine ab_Ex.blk (k := 1) (pc' := 10) (lv' := [(0, .ref 1000006)]) (st' := [.int ((((Int32.ofNat 4) : Int32) >>> (r1 &&& 31)))]) (sh' := ab_SH) (D' := ab_dD h) (fun n => rfl) ?_
  obtain rfl := Option.some.inj hf
  exact ab_Ex.ret (fun n => rfl) rfl
set_option maxRecDepth 20000 in
theorem sJ0_length_8abf5_1000007 (d : Nat) (X : abX)  (h : abJ) (z : Int32) (hf : fJ0_length_8abf5 1000007 h = some z) : ab_Ex X (d + 1) 304 0 [(0, .ref 1000007)] [] ab_SH (ab_dD h) (fun r => r = (some (.int z), ab_SH, ab_dD h)) := by
  unfold fJ0_length_8abf5 at hf
  try simp only [Nat.reduceAdd] at hf
  refine ab_Ex.blk (k := 4) (pc' := 6) (lv' := [(0, .ref 1000007)]) (st' := [.ref 1000007, .int ((Int32.ofNat 6))]) (sh' := ab_SH) (D' := ab_dD h) (fun n => rfl) ?_
  obtain ⟨r1, hr1, hf⟩ := ab_bind_s hf
  refine ab_Ex.call (d := d + 0) (M2 := 308) (as := [.ref 1000007]) (rest := [.int ((Int32.ofNat 6))]) (fun n => rfl) rfl (Nat.not_lt.mpr (Nat.le_of_ble_eq_true rfl)) (sJ0_coder_7d493_1000007 (d) X  h _ hr1) (fun r hr => ?_)
  subst hr
  show ab_Ex X (d + 1) 304 9 [(0, .ref 1000007)] [.int r1, .int ((Int32.ofNat 6))] ab_SH (ab_dD h) _
  refine ab_Ex.blk (k := 1) (pc' := 10) (lv' := [(0, .ref 1000007)]) (st' := [.int ((((Int32.ofNat 6) : Int32) >>> (r1 &&& 31)))]) (sh' := ab_SH) (D' := ab_dD h) (fun n => rfl) ?_
  obtain rfl := Option.some.inj hf
  exact ab_Ex.ret (fun n => rfl) rfl
set_option maxRecDepth 20000 in
theorem sJ0_length_8abf5_1000008 (d : Nat) (X : abX)  (h : abJ) (z : Int32) (hf : fJ0_length_8abf5 1000008 h = some z) : ab_Ex X (d + 1) 304 0 [(0, .ref 1000008)] [] ab_SH (ab_dD h) (fun r => r = (some (.int z), ab_SH, ab_dD h)) := by
  unfold fJ0_length_8abf5 at hf
  try simp only [Nat.reduceAdd] at hf
  refine ab_Ex.blk (k := 4) (pc' := 6) (lv' := [(0, .ref 1000008)]) (st' := [.ref 1000008, .int ((Int32.ofNat 3))]) (sh' := ab_SH) (D' := ab_dD h) (fun n => rfl) ?_
  obtain ⟨r1, hr1, hf⟩ := ab_bind_s hf
  refine ab_Ex.call (d := d + 0) (M2 := 308) (as := [.ref 1000008]) (rest := [.int ((Int32.ofNat 3))]) (fun n => rfl) rfl (Nat.not_lt.mpr (Nat.le_of_ble_eq_true rfl)) (sJ0_coder_7d493_1000008 (d) X  h _ hr1) (fun r hr => ?_)
  subst hr
  show ab_Ex X (d + 1) 304 9 [(0, .ref 1000008)] [.int r1, .int ((Int32.ofNat 3))] ab_SH (ab_dD h) _
  refine ab_Ex.blk (k := 1) (pc' := 10) (lv' := [(0, .ref 1000008)]) (st' := [.int ((((Int32.ofNat 3) : Int32) >>> (r1 &&& 31)))]) (sh' := ab_SH) (D' := ab_dD h) (fun n => rfl) ?_
  obtain rfl := Option.some.inj hf
  exact ab_Ex.ret (fun n => rfl) rfl
set_option maxRecDepth 20000 in
theorem sJ0_length_8abf5_1000009 (d : Nat) (X : abX)  (h : abJ) (z : Int32) (hf : fJ0_length_8abf5 1000009 h = some z) : ab_Ex X (d + 1) 304 0 [(0, .ref 1000009)] [] ab_SH (ab_dD h) (fun r => r = (some (.int z), ab_SH, ab_dD h)) := by
  unfold fJ0_length_8abf5 at hf
  try simp only [Nat.reduceAdd] at hf
  refine ab_Ex.blk (k := 4) (pc' := 6) (lv' := [(0, .ref 1000009)]) (st' := [.ref 1000009, .int ((Int32.ofNat 5))]) (sh' := ab_SH) (D' := ab_dD h) (fun n => rfl) ?_
  obtain ⟨r1, hr1, hf⟩ := ab_bind_s hf
  refine ab_Ex.call (d := d + 0) (M2 := 308) (as := [.ref 1000009]) (rest := [.int ((Int32.ofNat 5))]) (fun n => rfl) rfl (Nat.not_lt.mpr (Nat.le_of_ble_eq_true rfl)) (sJ0_coder_7d493_1000009 (d) X  h _ hr1) (fun r hr => ?_)
  subst hr
  show ab_Ex X (d + 1) 304 9 [(0, .ref 1000009)] [.int r1, .int ((Int32.ofNat 5))] ab_SH (ab_dD h) _
  refine ab_Ex.blk (k := 1) (pc' := 10) (lv' := [(0, .ref 1000009)]) (st' := [.int ((((Int32.ofNat 5) : Int32) >>> (r1 &&& 31)))]) (sh' := ab_SH) (D' := ab_dD h) (fun n => rfl) ?_
  obtain rfl := Option.some.inj hf
  exact ab_Ex.ret (fun n => rfl) rfl
set_option maxRecDepth 20000 in
theorem sJ0_length_8abf5_1000010 (d : Nat) (X : abX)  (h : abJ) (z : Int32) (hf : fJ0_length_8abf5 1000010 h = some z) : ab_Ex X (d + 1) 304 0 [(0, .ref 1000010)] [] ab_SH (ab_dD h) (fun r => r = (some (.int z), ab_SH, ab_dD h)) := by
  unfold fJ0_length_8abf5 at hf
  try simp only [Nat.reduceAdd] at hf
  refine ab_Ex.blk (k := 4) (pc' := 6) (lv' := [(0, .ref 1000010)]) (st' := [.ref 1000010, .int ((Int32.ofNat 1))]) (sh' := ab_SH) (D' := ab_dD h) (fun n => rfl) ?_
  obtain ⟨r1, hr1, hf⟩ := ab_bind_s hf
  refine ab_Ex.call (d := d + 0) (M2 := 308) (as := [.ref 1000010]) (rest := [.int ((Int32.ofNat 1))]) (fun n => rfl) rfl (Nat.not_lt.mpr (Nat.le_of_ble_eq_true rfl)) (sJ0_coder_7d493_1000010 (d) X  h _ hr1) (fun r hr => ?_)
  subst hr
  show ab_Ex X (d + 1) 304 9 [(0, .ref 1000010)] [.int r1, .int ((Int32.ofNat 1))] ab_SH (ab_dD h) _
  refine ab_Ex.blk (k := 1) (pc' := 10) (lv' := [(0, .ref 1000010)]) (st' := [.int ((((Int32.ofNat 1) : Int32) >>> (r1 &&& 31)))]) (sh' := ab_SH) (D' := ab_dD h) (fun n => rfl) ?_
  obtain rfl := Option.some.inj hf
  exact ab_Ex.ret (fun n => rfl) rfl
set_option maxRecDepth 20000 in
theorem sJ0_length_8abf5_1000011 (d : Nat) (X : abX)  (h : abJ) (z : Int32) (hf : fJ0_length_8abf5 1000011 h = some z) : ab_Ex X (d + 1) 304 0 [(0, .ref 1000011)] [] ab_SH (ab_dD h) (fun r => r = (some (.int z), ab_SH, ab_dD h)) := by
  unfold fJ0_length_8abf5 at hf
  try simp only [Nat.reduceAdd] at hf
  refine ab_Ex.blk (k := 4) (pc' := 6) (lv' := [(0, .ref 1000011)]) (st' := [.ref 1000011, .int ((Int32.ofNat 4))]) (sh' := ab_SH) (D' := ab_dD h) (fun n => rfl) ?_
  obtain ⟨r1, hr1, hf⟩ := ab_bind_s hf
  refine ab_Ex.call (d := d + 0) (M2 := 308) (as := [.ref 1000011]) (rest := [.int ((Int32.ofNat 4))]) (fun n => rfl) rfl (Nat.not_lt.mpr (Nat.le_of_ble_eq_true rfl)) (sJ0_coder_7d493_1000011 (d) X  h _ hr1) (fun r hr => ?_)
  subst hr
  show ab_Ex X (d + 1) 304 9 [(0, .ref 1000011)] [.int r1, .int ((Int32.ofNat 4))] ab_SH (ab_dD h) _
  refine ab_Ex.blk (k := 1) (pc' := 10) (lv' := [(0, .ref 1000011)]) (st' := [.int ((((Int32.ofNat 4) : Int32) >>> (r1 &&& 31)))]) (sh' := ab_SH) (D' := ab_dD h) (fun n => rfl) ?_
  obtain rfl := Option.some.inj hf
  exact ab_Ex.ret (fun n => rfl) rfl
set_option maxRecDepth 20000 in
theorem sJ0_length_8abf5_1000012 (d : Nat) (X : abX)  (h : abJ) (z : Int32) (hf : fJ0_length_8abf5 1000012 h = some z) : ab_Ex X (d + 1) 304 0 [(0, .ref 1000012)] [] ab_SH (ab_dD h) (fun r => r = (some (.int z), ab_SH, ab_dD h)) := by
  unfold fJ0_length_8abf5 at hf
  try simp only [Nat.reduceAdd] at hf
  refine ab_Ex.blk (k := 4) (pc' := 6) (lv' := [(0, .ref 1000012)]) (st' := [.ref 1000012, .int ((Int32.ofNat 5))]) (sh' := ab_SH) (D' := ab_dD h) (fun n => rfl) ?_
  obtain ⟨r1, hr1, hf⟩ := ab_bind_s hf
  refine ab_Ex.call (d := d + 0) (M2 := 308) (as := [.ref 1000012]) (rest := [.int ((Int32.ofNat 5))]) (fun n => rfl) rfl (Nat.not_lt.mpr (Nat.le_of_ble_eq_true rfl)) (sJ0_coder_7d493_1000012 (d) X  h _ hr1) (fun r hr => ?_)
  subst hr
  show ab_Ex X (d + 1) 304 9 [(0, .ref 1000012)] [.int r1, .int ((Int32.ofNat 5))] ab_SH (ab_dD h) _
  refine ab_Ex.blk (k := 1) (pc' := 10) (lv' := [(0, .ref 1000012)]) (st' := [.int ((((Int32.ofNat 5) : Int32) >>> (r1 &&& 31)))]) (sh' := ab_SH) (D' := ab_dD h) (fun n => rfl) ?_
  obtain rfl := Option.some.inj hf
  exact ab_Ex.ret (fun n => rfl) rfl
set_option maxRecDepth 20000 in
theorem sJ0_length_8abf5_1000013 (d : Nat) (X : abX)  (h : abJ) (z : Int32) (hf : fJ0_length_8abf5 1000013 h = some z) : ab_Ex X (d + 1) 304 0 [(0, .ref 1000013)] [] ab_SH (ab_dD h) (fun r => r = (some (.int z), ab_SH, ab_dD h)) := by
  unfold fJ0_length_8abf5 at hf
  try simp only [Nat.reduceAdd] at hf
  refine ab_Ex.blk (k := 4) (pc' := 6) (lv' := [(0, .ref 1000013)]) (st' := [.ref 1000013, .int ((Int32.ofNat 1))]) (sh' := ab_SH) (D' := ab_dD h) (fun n => rfl) ?_
  obtain ⟨r1, hr1, hf⟩ := ab_bind_s hf
  refine ab_Ex.call (d := d + 0) (M2 := 308) (as := [.ref 1000013]) (rest := [.int ((Int32.ofNat 1))]) (fun n => rfl) rfl (Nat.not_lt.mpr (Nat.le_of_ble_eq_true rfl)) (sJ0_coder_7d493_1000013 (d) X  h _ hr1) (fun r hr => ?_)
  subst hr
  show ab_Ex X (d + 1) 304 9 [(0, .ref 1000013)] [.int r1, .int ((Int32.ofNat 1))] ab_SH (ab_dD h) _
  refine ab_Ex.blk (k := 1) (pc' := 10) (lv' := [(0, .ref 1000013)]) (st' := [.int ((((Int32.ofNat 1) : Int32) >>> (r1 &&& 31)))]) (sh' := ab_SH) (D' := ab_dD h) (fun n => rfl) ?_
  obtain rfl := Option.some.inj hf
  exact ab_Ex.ret (fun n => rfl) rfl
set_option maxRecDepth 20000 in
theorem sJ0_length_8abf5_1000014 (d : Nat) (X : abX)  (h : abJ) (z : Int32) (hf : fJ0_length_8abf5 1000014 h = some z) : ab_Ex X (d + 1) 304 0 [(0, .ref 1000014)] [] ab_SH (ab_dD h) (fun r => r = (some (.int z), ab_SH, ab_dD h)) := by
  unfold fJ0_length_8abf5 at hf
  try simp only [Nat.reduceAdd] at hf
  refine ab_Ex.blk (k := 4) (pc' := 6) (lv' := [(0, .ref 1000014)]) (st' := [.ref 1000014, .int ((Int32.ofNat 1))]) (sh' := ab_SH) (D' := ab_dD h) (fun n => rfl) ?_
  obtain ⟨r1, hr1, hf⟩ := ab_bind_s hf
  refine ab_Ex.call (d := d + 0) (M2 := 308) (as := [.ref 1000014]) (rest := [.int ((Int32.ofNat 1))]) (fun n => rfl) rfl (Nat.not_lt.mpr (Nat.le_of_ble_eq_true rfl)) (sJ0_coder_7d493_1000014 (d) X  h _ hr1) (fun r hr => ?_)
  subst hr
  show ab_Ex X (d + 1) 304 9 [(0, .ref 1000014)] [.int r1, .int ((Int32.ofNat 1))] ab_SH (ab_dD h) _
  refine ab_Ex.blk (k := 1) (pc' := 10) (lv' := [(0, .ref 1000014)]) (st' := [.int ((((Int32.ofNat 1) : Int32) >>> (r1 &&& 31)))]) (sh' := ab_SH) (D' := ab_dD h) (fun n => rfl) ?_
  obtain rfl := Option.some.inj hf
  exact ab_Ex.ret (fun n => rfl) rfl
set_option maxRecDepth 20000 in
theorem sJ0_length_8abf5_1000015 (d : Nat) (X : abX)  (h : abJ) (z : Int32) (hf : fJ0_length_8abf5 1000015 h = some z) : ab_Ex X (d + 1) 304 0 [(0, .ref 1000015)] [] ab_SH (ab_dD h) (fun r => r = (some (.int z), ab_SH, ab_dD h)) := by
  unfold fJ0_length_8abf5 at hf
  try simp only [Nat.reduceAdd] at hf
  refine ab_Ex.blk (k := 4) (pc' := 6) (lv' := [(0, .ref 1000015)]) (st' := [.ref 1000015, .int ((Int32.ofNat 2))]) (sh' := ab_SH) (D' := ab_dD h) (fun n => rfl) ?_
  obtain ⟨r1, hr1, hf⟩ := ab_bind_s hf
  refine ab_Ex.call (d := d + 0) (M2 := 308) (as := [.ref 1000015]) (rest := [.int ((Int32.ofNat 2))]) (fun n => rfl) rfl (Nat.not_lt.mpr (Nat.le_of_ble_eq_true rfl)) (sJ0_coder_7d493_1000015 (d) X  h _ hr1) (fun r hr => ?_)
  subst hr
  show ab_Ex X (d + 1) 304 9 [(0, .ref 1000015)] [.int r1, .int ((Int32.ofNat 2))] ab_SH (ab_dD h) _
  refine ab_Ex.blk (k := 1) (pc' := 10) (lv' := [(0, .ref 1000015)]) (st' := [.int ((((Int32.ofNat 2) : Int32) >>> (r1 &&& 31)))]) (sh' := ab_SH) (D' := ab_dD h) (fun n => rfl) ?_
  obtain rfl := Option.some.inj hf
  exact ab_Ex.ret (fun n => rfl) rfl
set_option maxRecDepth 20000 in
theorem sJ0_length_8abf5_1000016 (d : Nat) (X : abX)  (h : abJ) (z : Int32) (hf : fJ0_length_8abf5 1000016 h = some z) : ab_Ex X (d + 1) 304 0 [(0, .ref 1000016)] [] ab_SH (ab_dD h) (fun r => r = (some (.int z), ab_SH, ab_dD h)) := by
  unfold fJ0_length_8abf5 at hf
  try simp only [Nat.reduceAdd] at hf
  refine ab_Ex.blk (k := 4) (pc' := 6) (lv' := [(0, .ref 1000016)]) (st' := [.ref 1000016, .int ((Int32.ofNat 3))]) (sh' := ab_SH) (D' := ab_dD h) (fun n => rfl) ?_
  obtain ⟨r1, hr1, hf⟩ := ab_bind_s hf
  refine ab_Ex.call (d := d + 0) (M2 := 308) (as := [.ref 1000016]) (rest := [.int ((Int32.ofNat 3))]) (fun n => rfl) rfl (Nat.not_lt.mpr (Nat.le_of_ble_eq_true rfl)) (sJ0_coder_7d493_1000016 (d) X  h _ hr1) (fun r hr => ?_)
  subst hr
  show ab_Ex X (d + 1) 304 9 [(0, .ref 1000016)] [.int r1, .int ((Int32.ofNat 3))] ab_SH (ab_dD h) _
  refine ab_Ex.blk (k := 1) (pc' := 10) (lv' := [(0, .ref 1000016)]) (st' := [.int ((((Int32.ofNat 3) : Int32) >>> (r1 &&& 31)))]) (sh' := ab_SH) (D' := ab_dD h) (fun n => rfl) ?_
  obtain rfl := Option.some.inj hf
  exact ab_Ex.ret (fun n => rfl) rfl
set_option maxRecDepth 20000 in
theorem sJ0_length_8abf5_1000017 (d : Nat) (X : abX)  (h : abJ) (z : Int32) (hf : fJ0_length_8abf5 1000017 h = some z) : ab_Ex X (d + 1) 304 0 [(0, .ref 1000017)] [] ab_SH (ab_dD h) (fun r => r = (some (.int z), ab_SH, ab_dD h)) := by
  unfold fJ0_length_8abf5 at hf
  try simp only [Nat.reduceAdd] at hf
  refine ab_Ex.blk (k := 4) (pc' := 6) (lv' := [(0, .ref 1000017)]) (st' := [.ref 1000017, .int ((Int32.ofNat 1))]) (sh' := ab_SH) (D' := ab_dD h) (fun n => rfl) ?_
  obtain ⟨r1, hr1, hf⟩ := ab_bind_s hf
  refine ab_Ex.call (d := d + 0) (M2 := 308) (as := [.ref 1000017]) (rest := [.int ((Int32.ofNat 1))]) (fun n => rfl) rfl (Nat.not_lt.mpr (Nat.le_of_ble_eq_true rfl)) (sJ0_coder_7d493_1000017 (d) X  h _ hr1) (fun r hr => ?_)
  subst hr
  show ab_Ex X (d + 1) 304 9 [(0, .ref 1000017)] [.int r1, .int ((Int32.ofNat 1))] ab_SH (ab_dD h) _
  refine ab_Ex.blk (k := 1) (pc' := 10) (lv' := [(0, .ref 1000017)]) (st' := [.int ((((Int32.ofNat 1) : Int32) >>> (r1 &&& 31)))]) (sh' := ab_SH) (D' := ab_dD h) (fun n => rfl) ?_
  obtain rfl := Option.some.inj hf
  exact ab_Ex.ret (fun n => rfl) rfl
set_option maxRecDepth 20000 in
theorem sJ0_length_8abf5_1000018 (d : Nat) (X : abX)  (h : abJ) (z : Int32) (hf : fJ0_length_8abf5 1000018 h = some z) : ab_Ex X (d + 1) 304 0 [(0, .ref 1000018)] [] ab_SH (ab_dD h) (fun r => r = (some (.int z), ab_SH, ab_dD h)) := by
  unfold fJ0_length_8abf5 at hf
  try simp only [Nat.reduceAdd] at hf
  refine ab_Ex.blk (k := 4) (pc' := 6) (lv' := [(0, .ref 1000018)]) (st' := [.ref 1000018, .int ((Int32.ofNat 1))]) (sh' := ab_SH) (D' := ab_dD h) (fun n => rfl) ?_
  obtain ⟨r1, hr1, hf⟩ := ab_bind_s hf
  refine ab_Ex.call (d := d + 0) (M2 := 308) (as := [.ref 1000018]) (rest := [.int ((Int32.ofNat 1))]) (fun n => rfl) rfl (Nat.not_lt.mpr (Nat.le_of_ble_eq_true rfl)) (sJ0_coder_7d493_1000018 (d) X  h _ hr1) (fun r hr => ?_)
  subst hr
  show ab_Ex X (d + 1) 304 9 [(0, .ref 1000018)] [.int r1, .int ((Int32.ofNat 1))] ab_SH (ab_dD h) _
  refine ab_Ex.blk (k := 1) (pc' := 10) (lv' := [(0, .ref 1000018)]) (st' := [.int ((((Int32.ofNat 1) : Int32) >>> (r1 &&& 31)))]) (sh' := ab_SH) (D' := ab_dD h) (fun n => rfl) ?_
  obtain rfl := Option.some.inj hf
  exact ab_Ex.ret (fun n => rfl) rfl
set_option maxRecDepth 20000 in
theorem sJ0_length_8abf5_1000019 (d : Nat) (X : abX)  (h : abJ) (z : Int32) (hf : fJ0_length_8abf5 1000019 h = some z) : ab_Ex X (d + 1) 304 0 [(0, .ref 1000019)] [] ab_SH (ab_dD h) (fun r => r = (some (.int z), ab_SH, ab_dD h)) := by
  unfold fJ0_length_8abf5 at hf
  try simp only [Nat.reduceAdd] at hf
  refine ab_Ex.blk (k := 4) (pc' := 6) (lv' := [(0, .ref 1000019)]) (st' := [.ref 1000019, .int ((Int32.ofNat 1))]) (sh' := ab_SH) (D' := ab_dD h) (fun n => rfl) ?_
  obtain ⟨r1, hr1, hf⟩ := ab_bind_s hf
  refine ab_Ex.call (d := d + 0) (M2 := 308) (as := [.ref 1000019]) (rest := [.int ((Int32.ofNat 1))]) (fun n => rfl) rfl (Nat.not_lt.mpr (Nat.le_of_ble_eq_true rfl)) (sJ0_coder_7d493_1000019 (d) X  h _ hr1) (fun r hr => ?_)
  subst hr
  show ab_Ex X (d + 1) 304 9 [(0, .ref 1000019)] [.int r1, .int ((Int32.ofNat 1))] ab_SH (ab_dD h) _
  refine ab_Ex.blk (k := 1) (pc' := 10) (lv' := [(0, .ref 1000019)]) (st' := [.int ((((Int32.ofNat 1) : Int32) >>> (r1 &&& 31)))]) (sh' := ab_SH) (D' := ab_dD h) (fun n => rfl) ?_
  obtain rfl := Option.some.inj hf
  exact ab_Ex.ret (fun n => rfl) rfl
set_option maxRecDepth 20000 in
theorem sJ0_length_8abf5_1000020 (d : Nat) (X : abX)  (h : abJ) (z : Int32) (hf : fJ0_length_8abf5 1000020 h = some z) : ab_Ex X (d + 1) 304 0 [(0, .ref 1000020)] [] ab_SH (ab_dD h) (fun r => r = (some (.int z), ab_SH, ab_dD h)) := by
  unfold fJ0_length_8abf5 at hf
  try simp only [Nat.reduceAdd] at hf
  refine ab_Ex.blk (k := 4) (pc' := 6) (lv' := [(0, .ref 1000020)]) (st' := [.ref 1000020, .int ((Int32.ofNat 1))]) (sh' := ab_SH) (D' := ab_dD h) (fun n => rfl) ?_
  obtain ⟨r1, hr1, hf⟩ := ab_bind_s hf
  refine ab_Ex.call (d := d + 0) (M2 := 308) (as := [.ref 1000020]) (rest := [.int ((Int32.ofNat 1))]) (fun n => rfl) rfl (Nat.not_lt.mpr (Nat.le_of_ble_eq_true rfl)) (sJ0_coder_7d493_1000020 (d) X  h _ hr1) (fun r hr => ?_)
  subst hr
  show ab_Ex X (d + 1) 304 9 [(0, .ref 1000020)] [.int r1, .int ((Int32.ofNat 1))] ab_SH (ab_dD h) _
  refine ab_Ex.blk (k := 1) (pc' := 10) (lv' := [(0, .ref 1000020)]) (st' := [.int ((((Int32.ofNat 1) : Int32) >>> (r1 &&& 31)))]) (sh' := ab_SH) (D' := ab_dD h) (fun n => rfl) ?_
  obtain rfl := Option.some.inj hf
  exact ab_Ex.ret (fun n => rfl) rfl
set_option maxRecDepth 20000 in
theorem sJ0_length_8abf5_1000021 (d : Nat) (X : abX)  (h : abJ) (z : Int32) (hf : fJ0_length_8abf5 1000021 h = some z) : ab_Ex X (d + 1) 304 0 [(0, .ref 1000021)] [] ab_SH (ab_dD h) (fun r => r = (some (.int z), ab_SH, ab_dD h)) := by
  unfold fJ0_length_8abf5 at hf
  try simp only [Nat.reduceAdd] at hf
  refine ab_Ex.blk (k := 4) (pc' := 6) (lv' := [(0, .ref 1000021)]) (st' := [.ref 1000021, .int ((Int32.ofNat 1))]) (sh' := ab_SH) (D' := ab_dD h) (fun n => rfl) ?_
  obtain ⟨r1, hr1, hf⟩ := ab_bind_s hf
  refine ab_Ex.call (d := d + 0) (M2 := 308) (as := [.ref 1000021]) (rest := [.int ((Int32.ofNat 1))]) (fun n => rfl) rfl (Nat.not_lt.mpr (Nat.le_of_ble_eq_true rfl)) (sJ0_coder_7d493_1000021 (d) X  h _ hr1) (fun r hr => ?_)
  subst hr
  show ab_Ex X (d + 1) 304 9 [(0, .ref 1000021)] [.int r1, .int ((Int32.ofNat 1))] ab_SH (ab_dD h) _
  refine ab_Ex.blk (k := 1) (pc' := 10) (lv' := [(0, .ref 1000021)]) (st' := [.int ((((Int32.ofNat 1) : Int32) >>> (r1 &&& 31)))]) (sh' := ab_SH) (D' := ab_dD h) (fun n => rfl) ?_
  obtain rfl := Option.some.inj hf
  exact ab_Ex.ret (fun n => rfl) rfl
set_option maxRecDepth 20000 in
theorem sJ0_length_8abf5_1000022 (d : Nat) (X : abX)  (h : abJ) (z : Int32) (hf : fJ0_length_8abf5 1000022 h = some z) : ab_Ex X (d + 1) 304 0 [(0, .ref 1000022)] [] ab_SH (ab_dD h) (fun r => r = (some (.int z), ab_SH, ab_dD h)) := by
  unfold fJ0_length_8abf5 at hf
  try simp only [Nat.reduceAdd] at hf
  refine ab_Ex.blk (k := 4) (pc' := 6) (lv' := [(0, .ref 1000022)]) (st' := [.ref 1000022, .int ((Int32.ofNat 3))]) (sh' := ab_SH) (D' := ab_dD h) (fun n => rfl) ?_
  obtain ⟨r1, hr1, hf⟩ := ab_bind_s hf
  refine ab_Ex.call (d := d + 0) (M2 := 308) (as := [.ref 1000022]) (rest := [.int ((Int32.ofNat 3))]) (fun n => rfl) rfl (Nat.not_lt.mpr (Nat.le_of_ble_eq_true rfl)) (sJ0_coder_7d493_1000022 (d) X  h _ hr1) (fun r hr => ?_)
  subst hr
  show ab_Ex X (d + 1) 304 9 [(0, .ref 1000022)] [.int r1, .int ((Int32.ofNat 3))] ab_SH (ab_dD h) _
  refine ab_Ex.blk (k := 1) (pc' := 10) (lv' := [(0, .ref 1000022)]) (st' := [.int ((((Int32.ofNat 3) : Int32) >>> (r1 &&& 31)))]) (sh' := ab_SH) (D' := ab_dD h) (fun n => rfl) ?_
  obtain rfl := Option.some.inj hf
  exact ab_Ex.ret (fun n => rfl) rfl
set_option maxRecDepth 20000 in
theorem sJ0_length_8abf5_1000023 (d : Nat) (X : abX)  (h : abJ) (z : Int32) (hf : fJ0_length_8abf5 1000023 h = some z) : ab_Ex X (d + 1) 304 0 [(0, .ref 1000023)] [] ab_SH (ab_dD h) (fun r => r = (some (.int z), ab_SH, ab_dD h)) := by
  unfold fJ0_length_8abf5 at hf
  try simp only [Nat.reduceAdd] at hf
  refine ab_Ex.blk (k := 4) (pc' := 6) (lv' := [(0, .ref 1000023)]) (st' := [.ref 1000023, .int ((Int32.ofNat 2))]) (sh' := ab_SH) (D' := ab_dD h) (fun n => rfl) ?_
  obtain ⟨r1, hr1, hf⟩ := ab_bind_s hf
  refine ab_Ex.call (d := d + 0) (M2 := 308) (as := [.ref 1000023]) (rest := [.int ((Int32.ofNat 2))]) (fun n => rfl) rfl (Nat.not_lt.mpr (Nat.le_of_ble_eq_true rfl)) (sJ0_coder_7d493_1000023 (d) X  h _ hr1) (fun r hr => ?_)
  subst hr
  show ab_Ex X (d + 1) 304 9 [(0, .ref 1000023)] [.int r1, .int ((Int32.ofNat 2))] ab_SH (ab_dD h) _
  refine ab_Ex.blk (k := 1) (pc' := 10) (lv' := [(0, .ref 1000023)]) (st' := [.int ((((Int32.ofNat 2) : Int32) >>> (r1 &&& 31)))]) (sh' := ab_SH) (D' := ab_dD h) (fun n => rfl) ?_
  obtain rfl := Option.some.inj hf
  exact ab_Ex.ret (fun n => rfl) rfl
set_option maxRecDepth 20000 in
theorem sJ0_length_8abf5_1000024 (d : Nat) (X : abX)  (h : abJ) (z : Int32) (hf : fJ0_length_8abf5 1000024 h = some z) : ab_Ex X (d + 1) 304 0 [(0, .ref 1000024)] [] ab_SH (ab_dD h) (fun r => r = (some (.int z), ab_SH, ab_dD h)) := by
  unfold fJ0_length_8abf5 at hf
  try simp only [Nat.reduceAdd] at hf
  refine ab_Ex.blk (k := 4) (pc' := 6) (lv' := [(0, .ref 1000024)]) (st' := [.ref 1000024, .int ((Int32.ofNat 4))]) (sh' := ab_SH) (D' := ab_dD h) (fun n => rfl) ?_
  obtain ⟨r1, hr1, hf⟩ := ab_bind_s hf
  refine ab_Ex.call (d := d + 0) (M2 := 308) (as := [.ref 1000024]) (rest := [.int ((Int32.ofNat 4))]) (fun n => rfl) rfl (Nat.not_lt.mpr (Nat.le_of_ble_eq_true rfl)) (sJ0_coder_7d493_1000024 (d) X  h _ hr1) (fun r hr => ?_)
  subst hr
  show ab_Ex X (d + 1) 304 9 [(0, .ref 1000024)] [.int r1, .int ((Int32.ofNat 4))] ab_SH (ab_dD h) _
  refine ab_Ex.blk (k := 1) (pc' := 10) (lv' := [(0, .ref 1000024)]) (st' := [.int ((((Int32.ofNat 4) : Int32) >>> (r1 &&& 31)))]) (sh' := ab_SH) (D' := ab_dD h) (fun n => rfl) ?_
  obtain rfl := Option.some.inj hf
  exact ab_Ex.ret (fun n => rfl) rfl
set_option maxRecDepth 20000 in
theorem sJ0_length_8abf5_1000025 (d : Nat) (X : abX)  (h : abJ) (z : Int32) (hf : fJ0_length_8abf5 1000025 h = some z) : ab_Ex X (d + 1) 304 0 [(0, .ref 1000025)] [] ab_SH (ab_dD h) (fun r => r = (some (.int z), ab_SH, ab_dD h)) := by
  unfold fJ0_length_8abf5 at hf
  try simp only [Nat.reduceAdd] at hf
  refine ab_Ex.blk (k := 4) (pc' := 6) (lv' := [(0, .ref 1000025)]) (st' := [.ref 1000025, .int ((Int32.ofNat 4))]) (sh' := ab_SH) (D' := ab_dD h) (fun n => rfl) ?_
  obtain ⟨r1, hr1, hf⟩ := ab_bind_s hf
  refine ab_Ex.call (d := d + 0) (M2 := 308) (as := [.ref 1000025]) (rest := [.int ((Int32.ofNat 4))]) (fun n => rfl) rfl (Nat.not_lt.mpr (Nat.le_of_ble_eq_true rfl)) (sJ0_coder_7d493_1000025 (d) X  h _ hr1) (fun r hr => ?_)
  subst hr
  show ab_Ex X (d + 1) 304 9 [(0, .ref 1000025)] [.int r1, .int ((Int32.ofNat 4))] ab_SH (ab_dD h) _
  refine ab_Ex.blk (k := 1) (pc' := 10) (lv' := [(0, .ref 1000025)]) (st' := [.int ((((Int32.ofNat 4) : Int32) >>> (r1 &&& 31)))]) (sh' := ab_SH) (D' := ab_dD h) (fun n => rfl) ?_
  obtain rfl := Option.some.inj hf
  exact ab_Ex.ret (fun n => rfl) rfl
set_option maxRecDepth 20000 in
theorem sJ0_length_8abf5_1000026 (d : Nat) (X : abX)  (h : abJ) (z : Int32) (hf : fJ0_length_8abf5 1000026 h = some z) : ab_Ex X (d + 1) 304 0 [(0, .ref 1000026)] [] ab_SH (ab_dD h) (fun r => r = (some (.int z), ab_SH, ab_dD h)) := by
  unfold fJ0_length_8abf5 at hf
  try simp only [Nat.reduceAdd] at hf
  refine ab_Ex.blk (k := 4) (pc' := 6) (lv' := [(0, .ref 1000026)]) (st' := [.ref 1000026, .int ((Int32.ofNat 3))]) (sh' := ab_SH) (D' := ab_dD h) (fun n => rfl) ?_
  obtain ⟨r1, hr1, hf⟩ := ab_bind_s hf
  refine ab_Ex.call (d := d + 0) (M2 := 308) (as := [.ref 1000026]) (rest := [.int ((Int32.ofNat 3))]) (fun n => rfl) rfl (Nat.not_lt.mpr (Nat.le_of_ble_eq_true rfl)) (sJ0_coder_7d493_1000026 (d) X  h _ hr1) (fun r hr => ?_)
  subst hr
  show ab_Ex X (d + 1) 304 9 [(0, .ref 1000026)] [.int r1, .int ((Int32.ofNat 3))] ab_SH (ab_dD h) _
  refine ab_Ex.blk (k := 1) (pc' := 10) (lv' := [(0, .ref 1000026)]) (st' := [.int ((((Int32.ofNat 3) : Int32) >>> (r1 &&& 31)))]) (sh' := ab_SH) (D' := ab_dD h) (fun n => rfl) ?_
  obtain rfl := Option.some.inj hf
  exact ab_Ex.ret (fun n => rfl) rfl
set_option maxRecDepth 20000 in
theorem sJ0_length_8abf5_1000027 (d : Nat) (X : abX)  (h : abJ) (z : Int32) (hf : fJ0_length_8abf5 1000027 h = some z) : ab_Ex X (d + 1) 304 0 [(0, .ref 1000027)] [] ab_SH (ab_dD h) (fun r => r = (some (.int z), ab_SH, ab_dD h)) := by
  unfold fJ0_length_8abf5 at hf
  try simp only [Nat.reduceAdd] at hf
  refine ab_Ex.blk (k := 4) (pc' := 6) (lv' := [(0, .ref 1000027)]) (st' := [.ref 1000027, .int ((Int32.ofNat 1))]) (sh' := ab_SH) (D' := ab_dD h) (fun n => rfl) ?_
  obtain ⟨r1, hr1, hf⟩ := ab_bind_s hf
  refine ab_Ex.call (d := d + 0) (M2 := 308) (as := [.ref 1000027]) (rest := [.int ((Int32.ofNat 1))]) (fun n => rfl) rfl (Nat.not_lt.mpr (Nat.le_of_ble_eq_true rfl)) (sJ0_coder_7d493_1000027 (d) X  h _ hr1) (fun r hr => ?_)
  subst hr
  show ab_Ex X (d + 1) 304 9 [(0, .ref 1000027)] [.int r1, .int ((Int32.ofNat 1))] ab_SH (ab_dD h) _
  refine ab_Ex.blk (k := 1) (pc' := 10) (lv' := [(0, .ref 1000027)]) (st' := [.int ((((Int32.ofNat 1) : Int32) >>> (r1 &&& 31)))]) (sh' := ab_SH) (D' := ab_dD h) (fun n => rfl) ?_
  obtain rfl := Option.some.inj hf
  exact ab_Ex.ret (fun n => rfl) rfl
set_option maxRecDepth 20000 in
theorem sJ0_length_8abf5_1000028 (d : Nat) (X : abX)  (h : abJ) (z : Int32) (hf : fJ0_length_8abf5 1000028 h = some z) : ab_Ex X (d + 1) 304 0 [(0, .ref 1000028)] [] ab_SH (ab_dD h) (fun r => r = (some (.int z), ab_SH, ab_dD h)) := by
  unfold fJ0_length_8abf5 at hf
  try simp only [Nat.reduceAdd] at hf
  refine ab_Ex.blk (k := 4) (pc' := 6) (lv' := [(0, .ref 1000028)]) (st' := [.ref 1000028, .int ((Int32.ofNat 1))]) (sh' := ab_SH) (D' := ab_dD h) (fun n => rfl) ?_
  obtain ⟨r1, hr1, hf⟩ := ab_bind_s hf
  refine ab_Ex.call (d := d + 0) (M2 := 308) (as := [.ref 1000028]) (rest := [.int ((Int32.ofNat 1))]) (fun n => rfl) rfl (Nat.not_lt.mpr (Nat.le_of_ble_eq_true rfl)) (sJ0_coder_7d493_1000028 (d) X  h _ hr1) (fun r hr => ?_)
  subst hr
  show ab_Ex X (d + 1) 304 9 [(0, .ref 1000028)] [.int r1, .int ((Int32.ofNat 1))] ab_SH (ab_dD h) _
  refine ab_Ex.blk (k := 1) (pc' := 10) (lv' := [(0, .ref 1000028)]) (st' := [.int ((((Int32.ofNat 1) : Int32) >>> (r1 &&& 31)))]) (sh' := ab_SH) (D' := ab_dD h) (fun n => rfl) ?_
  obtain rfl := Option.some.inj hf
  exact ab_Ex.ret (fun n => rfl) rfl
set_option maxRecDepth 20000 in
theorem sJ0_length_8abf5_1000029 (d : Nat) (X : abX)  (h : abJ) (z : Int32) (hf : fJ0_length_8abf5 1000029 h = some z) : ab_Ex X (d + 1) 304 0 [(0, .ref 1000029)] [] ab_SH (ab_dD h) (fun r => r = (some (.int z), ab_SH, ab_dD h)) := by
  unfold fJ0_length_8abf5 at hf
  try simp only [Nat.reduceAdd] at hf
  refine ab_Ex.blk (k := 4) (pc' := 6) (lv' := [(0, .ref 1000029)]) (st' := [.ref 1000029, .int ((Int32.ofNat 1))]) (sh' := ab_SH) (D' := ab_dD h) (fun n => rfl) ?_
  obtain ⟨r1, hr1, hf⟩ := ab_bind_s hf
  refine ab_Ex.call (d := d + 0) (M2 := 308) (as := [.ref 1000029]) (rest := [.int ((Int32.ofNat 1))]) (fun n => rfl) rfl (Nat.not_lt.mpr (Nat.le_of_ble_eq_true rfl)) (sJ0_coder_7d493_1000029 (d) X  h _ hr1) (fun r hr => ?_)
  subst hr
  show ab_Ex X (d + 1) 304 9 [(0, .ref 1000029)] [.int r1, .int ((Int32.ofNat 1))] ab_SH (ab_dD h) _
  refine ab_Ex.blk (k := 1) (pc' := 10) (lv' := [(0, .ref 1000029)]) (st' := [.int ((((Int32.ofNat 1) : Int32) >>> (r1 &&& 31)))]) (sh' := ab_SH) (D' := ab_dD h) (fun n => rfl) ?_
  obtain rfl := Option.some.inj hf
  exact ab_Ex.ret (fun n => rfl) rfl
set_option maxRecDepth 20000 in
theorem sJ0_length_8abf5_1000030 (d : Nat) (X : abX)  (h : abJ) (z : Int32) (hf : fJ0_length_8abf5 1000030 h = some z) : ab_Ex X (d + 1) 304 0 [(0, .ref 1000030)] [] ab_SH (ab_dD h) (fun r => r = (some (.int z), ab_SH, ab_dD h)) := by
  unfold fJ0_length_8abf5 at hf
  try simp only [Nat.reduceAdd] at hf
  refine ab_Ex.blk (k := 4) (pc' := 6) (lv' := [(0, .ref 1000030)]) (st' := [.ref 1000030, .int ((Int32.ofNat 6))]) (sh' := ab_SH) (D' := ab_dD h) (fun n => rfl) ?_
  obtain ⟨r1, hr1, hf⟩ := ab_bind_s hf
  refine ab_Ex.call (d := d + 0) (M2 := 308) (as := [.ref 1000030]) (rest := [.int ((Int32.ofNat 6))]) (fun n => rfl) rfl (Nat.not_lt.mpr (Nat.le_of_ble_eq_true rfl)) (sJ0_coder_7d493_1000030 (d) X  h _ hr1) (fun r hr => ?_)
  subst hr
  show ab_Ex X (d + 1) 304 9 [(0, .ref 1000030)] [.int r1, .int ((Int32.ofNat 6))] ab_SH (ab_dD h) _
  refine ab_Ex.blk (k := 1) (pc' := 10) (lv' := [(0, .ref 1000030)]) (st' := [.int ((((Int32.ofNat 6) : Int32) >>> (r1 &&& 31)))]) (sh' := ab_SH) (D' := ab_dD h) (fun n => rfl) ?_
  obtain rfl := Option.some.inj hf
  exact ab_Ex.ret (fun n => rfl) rfl
set_option maxRecDepth 20000 in
theorem sJ0_length_8abf5_1000031 (d : Nat) (X : abX)  (h : abJ) (z : Int32) (hf : fJ0_length_8abf5 1000031 h = some z) : ab_Ex X (d + 1) 304 0 [(0, .ref 1000031)] [] ab_SH (ab_dD h) (fun r => r = (some (.int z), ab_SH, ab_dD h)) := by
  unfold fJ0_length_8abf5 at hf
  try simp only [Nat.reduceAdd] at hf
  refine ab_Ex.blk (k := 4) (pc' := 6) (lv' := [(0, .ref 1000031)]) (st' := [.ref 1000031, .int ((Int32.ofNat 89))]) (sh' := ab_SH) (D' := ab_dD h) (fun n => rfl) ?_
  obtain ⟨r1, hr1, hf⟩ := ab_bind_s hf
  refine ab_Ex.call (d := d + 0) (M2 := 308) (as := [.ref 1000031]) (rest := [.int ((Int32.ofNat 89))]) (fun n => rfl) rfl (Nat.not_lt.mpr (Nat.le_of_ble_eq_true rfl)) (sJ0_coder_7d493_1000031 (d) X  h _ hr1) (fun r hr => ?_)
  subst hr
  show ab_Ex X (d + 1) 304 9 [(0, .ref 1000031)] [.int r1, .int ((Int32.ofNat 89))] ab_SH (ab_dD h) _
  refine ab_Ex.blk (k := 1) (pc' := 10) (lv' := [(0, .ref 1000031)]) (st' := [.int ((((Int32.ofNat 89) : Int32) >>> (r1 &&& 31)))]) (sh' := ab_SH) (D' := ab_dD h) (fun n => rfl) ?_
  obtain rfl := Option.some.inj hf
  exact ab_Ex.ret (fun n => rfl) rfl
