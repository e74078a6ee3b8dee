def fX12_named (x0 : Int32) (x1 : Int32) (x2 : Int32) (h : abJ) : Option (Int32 × abJ) := (fX12_eats x0 h).bind (fun r1 => if r1.1 = 0 then (fX12_fails 2 r1.2).bind (fun r3 => (fX12_takes x1 x2 r3).bind (fun r4 => some (r4.1, r4.2))) else (fX12_takes x1 x2 r1.2).bind (fun r5 => some (r5.1, r5.2)))
set_option maxRecDepth 20000 in
theorem sX12_named (d : Nat) (X : abX) (x0 : Int32) (x1 : Int32) (x2 : Int32) (h : abJ) (z : (Int32 × abJ)) (hf : fX12_named x0 x1 x2 h = some z) : ab_Ex X (d + 7) 199 0 [(0, .ref 64), (1, .int x0), (2, .int x1), (3, .int x2)] [] ab_SH (ab_dD h) (fun r => r = (some (.int z.1), ab_SH, ab_dD z.2)) := by
  unfold fX12_named at hf
  refine ab_Ex.blk (k := 2) (pc' := 2) (lv' := [(0, .ref 64), (1, .int x0), (2, .int x1), (3, .int x2)]) (st' := [.int x0, .ref 64]) (sh' := ab_SH) (D' := ab_dD h) (fun n => rfl) ?_
  obtain ⟨r1, hr1, hf⟩ := ab_bind_s hf
  refine ab_Ex.call (d := d + 6) (M2 := 186) (as := [.ref 64, .int x0]) (rest := []) (fun n => rfl) rfl (Nat.not_lt.mpr (Nat.le_of_ble_eq_true rfl)) (sX12_eats (d) X x0 h _ hr1) (fun r hr => ?_)
  subst hr
  show ab_Ex X (d + 7) 199 5 [(0, .ref 64), (1, .int x0), (2, .int x1), (3, .int x2)] [.int r1.1] ab_SH (ab_dD r1.2) _
  refine ab_Ex.ifc (c := r1.1 = 0) (SA := (8, [(0, .ref 64), (1, .int x0), (2, .int x1), (3, .int x2)], [], ab_dD r1.2)) (SB := (13, [(0, .ref 64), (1, .int x0), (2, .int x1), (3, .int x2)], [], ab_dD r1.2)) (fun n => rfl) (fun c2 => ?_) (fun c2 => ?_)
  · replace hf := (if_pos c2).symm.trans hf
    refine ab_Ex.blk (k := 2) (pc' := 10) (lv' := [(0, .ref 64), (1, .int x0), (2, .int x1), (3, .int x2)]) (st' := [.int 2, .ref 64]) (sh' := ab_SH) (D' := ab_dD r1.2) (fun n => rfl) ?_
    obtain ⟨r3, hr3, hf⟩ := ab_bind_s hf
    refine ab_Ex.call (d := d + 6) (M2 := 184) (as := [.ref 64, .int 2]) (rest := []) (fun n => rfl) rfl (Nat.not_lt.mpr (Nat.le_of_ble_eq_true rfl)) (sX12_fails (d + 6) X 2 r1.2 _ hr3) (fun r hr => ?_)
    subst hr
    show ab_Ex X (d + 7) 199 13 [(0, .ref 64), (2, .int x1), (3, .int x2)] [] ab_SH (ab_dD r3) _
    refine ab_Ex.blk (k := 3) (pc' := 16) (lv' := [(0, .ref 64), (2, .int x1), (3, .int x2)]) (st' := [.int x2, .int x1, .ref 64]) (sh' := ab_SH) (D' := ab_dD r3) (fun n => rfl) ?_
    obtain ⟨r4, hr4, hf⟩ := ab_bind_s hf
    refine ab_Ex.call (d := d + 6) (M2 := 187) (as := [.ref 64, .int x1, .int x2]) (rest := []) (fun n => rfl) rfl (Nat.not_lt.mpr (Nat.le_of_ble_eq_true rfl)) (sX12_takes (d) X x1 x2 r3 _ hr4) (fun r hr => ?_)
    subst hr
    show ab_Ex X (d + 7) 199 19 [(0, .ref 64), (2, .int x1), (3, .int x2)] [.int r4.1] ab_SH (ab_dD r4.2) _
    obtain rfl := Option.some.inj hf
    exact ab_Ex.ret (fun n => rfl) rfl
  · replace hf := (if_neg c2).symm.trans hf
    refine ab_Ex.blk (k := 3) (pc' := 16) (lv' := [(0, .ref 64), (2, .int x1), (3, .int x2)]) (st' := [.int x2, .int x1, .ref 64]) (sh' := ab_SH) (D' := ab_dD r1.2) (fun n => rfl) ?_
    obtain ⟨r5, hr5, hf⟩ := ab_bind_s hf
    refine ab_Ex.call (d := d + 6) (M2 := 187) (as := [.ref 64, .int x1, .int x2]) (rest := []) (fun n => rfl) rfl (Nat.not_lt.mpr (Nat.le_of_ble_eq_true rfl)) (sX12_takes (d) X x1 x2 r1.2 _ hr5) (fun r hr => ?_)
    subst hr
    show ab_Ex X (d + 7) 199 19 [(0, .ref 64), (2, .int x1), (3, .int x2)] [.int r5.1] ab_SH (ab_dD r5.2) _
    obtain rfl := Option.some.inj hf
    exact ab_Ex.ret (fun n => rfl) rfl
def fX12_takesPost  (h : abJ) : Option (Int32 × abJ) := (fX12_takes 0 (((h.1 68 1) - 1)) h).bind (fun r1 => some (r1.1, r1.2))
set_option maxRecDepth 20000 in
theorem sX12_takesPost (d : Nat) (X : abX)  (h : abJ) (z : (Int32 × abJ)) (hf : fX12_takesPost  h = some z) : ab_Ex X (d + 7) 200 0 [(0, .ref 64)] [] ab_SH (ab_dD h) (fun r => r = (some (.int z.1), ab_SH, ab_dD z.2)) := by
  unfold fX12_takesPost at hf
  refine ab_Ex.blk (k := 5) (pc' := 7) (lv' := [(0, .ref 64)]) (st' := [.int 1, .ref 68, .int 0, .ref 64]) (sh' := ab_SH) (D' := ab_dD h) (fun n => rfl) ?_
  refine ab_Ex.blk (k := 1) (pc' := 8) (lv' := [(0, .ref 64)]) (st' := [.int ((h.1 68 1)), .int 0, .ref 64]) (sh' := ab_SH) (D' := ab_dD h) (fun n => rfl) ?_
  refine ab_Ex.blk (k := 2) (pc' := 10) (lv' := [(0, .ref 64)]) (st' := [.int (((h.1 68 1) - 1)), .int 0, .ref 64]) (sh' := ab_SH) (D' := ab_dD h) (fun n => rfl) ?_
  obtain ⟨r1, hr1, hf⟩ := ab_bind_s hf
  refine ab_Ex.call (d := d + 6) (M2 := 187) (as := [.ref 64, .int 0, .int (((h.1 68 1) - 1))]) (rest := []) (fun n => rfl) rfl (Nat.not_lt.mpr (Nat.le_of_ble_eq_true rfl)) (sX12_takes (d) X 0 (((h.1 68 1) - 1)) h _ hr1) (fun r hr => ?_)
  subst hr
  show ab_Ex X (d + 7) 200 13 [(0, .ref 64)] [.int r1.1] ab_SH (ab_dD r1.2) _
  obtain rfl := Option.some.inj hf
  exact ab_Ex.ret (fun n => rfl) rfl
def fX12_readRoad_J47   (h : abJ) : Option abJ := (fX12_takesPost h).bind (fun r4 => (fX12_takesPost r4.2).bind (fun r5 => if ((r5.2).1 64 11) = 0 then ab_ask ((9 + r4.1) < 0 ∨ 1034 ≤ ((9 + r4.1) : Int32).toNatClampNeg) (ab_ask (((15 + (3 * r4.1)) + (r5.2.1 68 ((9 + r4.1) : Int32).toNatClampNeg)) < 0 ∨ 1034 ≤ (((15 + (3 * r4.1)) + (r5.2.1 68 ((9 + r4.1) : Int32).toNatClampNeg)) : Int32).toNatClampNeg) (ab_ask ((9 + r4.1) < 0 ∨ 1034 ≤ ((9 + r4.1) : Int32).toNatClampNeg) (ab_ask ((9 + r4.1) < 0 ∨ 1034 ≤ ((9 + r4.1) : Int32).toNatClampNeg) (some (ab_wI (ab_wI r5.2 68 (((15 + (3 * r4.1)) + (r5.2.1 68 ((9 + r4.1) : Int32).toNatClampNeg)) : Int32).toNatClampNeg r5.1) 68 ((9 + r4.1) : Int32).toNatClampNeg (((ab_wI r5.2 68 (((15 + (3 * r4.1)) + (r5.2.1 68 ((9 + r4.1) : Int32).toNatClampNeg)) : Int32).toNatClampNeg r5.1).1 68 ((9 + r4.1) : Int32).toNatClampNeg) + 1)))))) else some r5.2))
def fX12_readRoad  (h : abJ) : Option abJ := (fX12_next h).bind (fun r1 => (fX12_is 23 r1).bind (fun r2 => if r2 = 0 then fX12_readRoad_J47 r1 else if (r1.1 68 1) ≤ ((r1).1 64 10) then fX12_readRoad_J47 r1 else ab_ask ((9 + ((r1).1 64 10)) < 0 ∨ 1034 ≤ ((9 + ((r1).1 64 10)) : Int32).toNatClampNeg) (if (r1.1 68 ((9 + ((r1).1 64 10)) : Int32).toNatClampNeg) = 3 then (fX12_fails 3 r1).bind (fun r17 => fX12_readRoad_J47 r17) else fX12_readRoad_J47 r1)))
set_option maxRecDepth 20000 in
theorem sX12_readRoad_J47 (d : Nat) (X : abX)   : ∀ (h : abJ) (z : abJ), fX12_readRoad_J47 h = some z → ab_Ex X (d + 8) 201 47 [(0, .ref 64)] [] ab_SH (ab_dD h) (fun r => r = (none, ab_SH, ab_dD z)) := by
  intro h z hf
  unfold fX12_readRoad_J47 at hf
  refine ab_Ex.blk (k := 1) (pc' := 48) (lv' := [(0, .ref 64)]) (st' := [.ref 64]) (sh' := ab_SH) (D' := ab_dD h) (fun n => rfl) ?_
  obtain ⟨r4, hr4, hf⟩ := ab_bind_s hf
  refine ab_Ex.call (d := d + 7) (M2 := 200) (as := [.ref 64]) (rest := []) (fun n => rfl) rfl (Nat.not_lt.mpr (Nat.le_of_ble_eq_true rfl)) (sX12_takesPost (d) X  h _ hr4) (fun r hr => ?_)
  subst hr
  show ab_Ex X (d + 8) 201 51 [(0, .ref 64)] [.int r4.1] ab_SH (ab_dD r4.2) _
  refine ab_Ex.blk (k := 2) (pc' := 53) (lv' := [(1, .int r4.1), (0, .ref 64)]) (st' := [.ref 64]) (sh' := ab_SH) (D' := ab_dD r4.2) (fun n => rfl) ?_
  obtain ⟨r5, hr5, hf⟩ := ab_bind_s hf
  refine ab_Ex.call (d := d + 7) (M2 := 200) (as := [.ref 64]) (rest := []) (fun n => rfl) rfl (Nat.not_lt.mpr (Nat.le_of_ble_eq_true rfl)) (sX12_takesPost (d) X  r4.2 _ hr5) (fun r hr => ?_)
  subst hr
  show ab_Ex X (d + 8) 201 56 [(1, .int r4.1), (0, .ref 64)] [.int r5.1] ab_SH (ab_dD r5.2) _
  refine ab_Ex.blk (k := 3) (pc' := 61) (lv' := [(2, .int r5.1), (1, .int r4.1), (0, .ref 64)]) (st' := [.int (((r5.2).1 64 11))]) (sh' := ab_SH) (D' := ab_dD r5.2) (fun n => rfl) ?_
  refine ab_Ex.ifc (c := ((r5.2).1 64 11) = 0) (SA := (65, [(2, .int r5.1), (1, .int r4.1), (0, .ref 64)], [], ab_dD r5.2)) (SB := (64, [(2, .int r5.1), (1, .int r4.1), (0, .ref 64)], [], ab_dD r5.2)) (fun n => rfl) (fun c6 => ?_) (fun c6 => ?_)
  · replace hf := (if_pos c6).symm.trans hf
    refine ab_Ex.blk (k := 12) (pc' := 83) (lv' := [(2, .int r5.1), (1, .int r4.1), (0, .ref 64)]) (st' := [.int ((9 + r4.1)), .ref 68, .int ((15 + (3 * r4.1))), .ref 68]) (sh' := ab_SH) (D' := ab_dD r5.2) (fun n => rfl) ?_
    obtain ⟨c8, hf⟩ := ab_ask_s hf
    refine ab_Ex.grd (c := (9 + r4.1) < 0 ∨ 1034 ≤ ((9 + r4.1) : Int32).toNatClampNeg) (S := (84, [(2, .int r5.1), (1, .int r4.1), (0, .ref 64)], [.int ((r5.2.1 68 ((9 + r4.1) : Int32).toNatClampNeg)), .int ((15 + (3 * r4.1))), .ref 68], ab_dD r5.2)) (fun n => rfl) c8 ?_
    refine ab_Ex.blk (k := 2) (pc' := 86) (lv' := [(2, .int r5.1), (1, .int r4.1), (0, .ref 64)]) (st' := [.int r5.1, .int (((15 + (3 * r4.1)) + (r5.2.1 68 ((9 + r4.1) : Int32).toNatClampNeg))), .ref 68]) (sh' := ab_SH) (D' := ab_dD r5.2) (fun n => rfl) ?_
    obtain ⟨c9, hf⟩ := ab_ask_s hf
    refine ab_Ex.grd (c := ((15 + (3 * r4.1)) + (r5.2.1 68 ((9 + r4.1) : Int32).toNatClampNeg)) < 0 ∨ 1034 ≤ (((15 + (3 * r4.1)) + (r5.2.1 68 ((9 + r4.1) : Int32).toNatClampNeg)) : Int32).toNatClampNeg) (S := (87, [(2, .int r5.1), (1, .int r4.1), (0, .ref 64)], [], ab_dD (ab_wI r5.2 68 (((15 + (3 * r4.1)) + (r5.2.1 68 ((9 + r4.1) : Int32).toNatClampNeg)) : Int32).toNatClampNeg r5.1))) (fun n => rfl) c9 ?_
    refine ab_Ex.blk (k := 6) (pc' := 96) (lv' := [(2, .int r5.1), (1, .int r4.1), (0, .ref 64)]) (st' := [.int ((9 + r4.1)), .ref 68, .int ((9 + r4.1)), .ref 68]) (sh' := ab_SH) (D' := ab_dD (ab_wI r5.2 68 (((15 + (3 * r4.1)) + (r5.2.1 68 ((9 + r4.1) : Int32).toNatClampNeg)) : Int32).toNatClampNeg r5.1)) (fun n => rfl) ?_
    obtain ⟨c11, hf⟩ := ab_ask_s hf
    refine ab_Ex.grd (c := (9 + r4.1) < 0 ∨ 1034 ≤ ((9 + r4.1) : Int32).toNatClampNeg) (S := (97, [(2, .int r5.1), (1, .int r4.1), (0, .ref 64)], [.int (((ab_wI r5.2 68 (((15 + (3 * r4.1)) + (r5.2.1 68 ((9 + r4.1) : Int32).toNatClampNeg)) : Int32).toNatClampNeg r5.1).1 68 ((9 + r4.1) : Int32).toNatClampNeg)), .int ((9 + r4.1)), .ref 68], ab_dD (ab_wI r5.2 68 (((15 + (3 * r4.1)) + (r5.2.1 68 ((9 + r4.1) : Int32).toNatClampNeg)) : Int32).toNatClampNeg r5.1))) (fun n => rfl) c11 ?_
    refine ab_Ex.blk (k := 2) (pc' := 99) (lv' := [(2, .int r5.1), (1, .int r4.1), (0, .ref 64)]) (st' := [.int ((((ab_wI r5.2 68 (((15 + (3 * r4.1)) + (r5.2.1 68 ((9 + r4.1) : Int32).toNatClampNeg)) : Int32).toNatClampNeg r5.1).1 68 ((9 + r4.1) : Int32).toNatClampNeg) + 1)), .int ((9 + r4.1)), .ref 68]) (sh' := ab_SH) (D' := ab_dD (ab_wI r5.2 68 (((15 + (3 * r4.1)) + (r5.2.1 68 ((9 + r4.1) : Int32).toNatClampNeg)) : Int32).toNatClampNeg r5.1)) (fun n => rfl) ?_
    obtain ⟨c12, hf⟩ := ab_ask_s hf
    refine ab_Ex.grd (c := (9 + r4.1) < 0 ∨ 1034 ≤ ((9 + r4.1) : Int32).toNatClampNeg) (S := (100, [(2, .int r5.1), (1, .int r4.1), (0, .ref 64)], [], ab_dD (ab_wI (ab_wI r5.2 68 (((15 + (3 * r4.1)) + (r5.2.1 68 ((9 + r4.1) : Int32).toNatClampNeg)) : Int32).toNatClampNeg r5.1) 68 ((9 + r4.1) : Int32).toNatClampNeg (((ab_wI r5.2 68 (((15 + (3 * r4.1)) + (r5.2.1 68 ((9 + r4.1) : Int32).toNatClampNeg)) : Int32).toNatClampNeg r5.1).1 68 ((9 + r4.1) : Int32).toNatClampNeg) + 1)))) (fun n => rfl) c12 ?_
    obtain rfl := Option.some.inj hf
    exact ab_Ex.ret (fun n => rfl) rfl
  · replace hf := (if_neg c6).symm.trans hf
    obtain rfl := Option.some.inj hf
    exact ab_Ex.ret (fun n => rfl) rfl
set_option maxRecDepth 20000 in
theorem sX12_readRoad (d : Nat) (X : abX)  (h : abJ) (z : abJ) (hf : fX12_readRoad  h = some z) : ab_Ex X (d + 8) 201 0 [(0, .ref 64)] [] ab_SH (ab_dD h) (fun r => r = (none, ab_SH, ab_dD z)) := by
  unfold fX12_readRoad at hf
  refine ab_Ex.blk (k := 1) (pc' := 1) (lv' := [(0, .ref 64)]) (st' := [.ref 64]) (sh' := ab_SH) (D' := ab_dD h) (fun n => rfl) ?_
  obtain ⟨r1, hr1, hf⟩ := ab_bind_s hf
  refine ab_Ex.call (d := d + 7) (M2 := 183) (as := [.ref 64]) (rest := []) (fun n => rfl) rfl (Nat.not_lt.mpr (Nat.le_of_ble_eq_true rfl)) (sX12_next (d + 2) X  h _ hr1) (fun r hr => ?_)
  subst hr
  show ab_Ex X (d + 8) 201 4 [(0, .ref 64)] [] ab_SH (ab_dD r1) _
  refine ab_Ex.blk (k := 2) (pc' := 7) (lv' := [(0, .ref 64)]) (st' := [.int 23, .ref 64]) (sh' := ab_SH) (D' := ab_dD r1) (fun n => rfl) ?_
  obtain ⟨r2, hr2, hf⟩ := ab_bind_s hf
  refine ab_Ex.call (d := d + 7) (M2 := 185) (as := [.ref 64, .int 23]) (rest := []) (fun n => rfl) rfl (Nat.not_lt.mpr (Nat.le_of_ble_eq_true rfl)) (sX12_is (d + 7) X 23 r1 _ hr2) (fun r hr => ?_)
  subst hr
  show ab_Ex X (d + 8) 201 10 [(0, .ref 64)] [.int r2] ab_SH (ab_dD r1) _
  refine ab_Ex.ifc (c := r2 = 0) (SA := (47, [(0, .ref 64)], [], ab_dD r1)) (SB := (13, [(0, .ref 64)], [], ab_dD r1)) (fun n => rfl) (fun c3 => ?_) (fun c3 => ?_)
  · replace hf := (if_pos c3).symm.trans hf
    exact sX12_readRoad_J47 d X  r1 _ hf
  · replace hf := (if_neg c3).symm.trans hf
    refine ab_Ex.blk (k := 5) (pc' := 22) (lv' := [(0, .ref 64)]) (st' := [.int 1, .ref 68, .int (((r1).1 64 10))]) (sh' := ab_SH) (D' := ab_dD r1) (fun n => rfl) ?_
    refine ab_Ex.blk (k := 1) (pc' := 23) (lv' := [(0, .ref 64)]) (st' := [.int ((r1.1 68 1)), .int (((r1).1 64 10))]) (sh' := ab_SH) (D' := ab_dD r1) (fun n => rfl) ?_
    refine ab_Ex.ifc (c := (r1.1 68 1) ≤ ((r1).1 64 10)) (SA := (47, [(0, .ref 64)], [], ab_dD r1)) (SB := (26, [(0, .ref 64)], [], ab_dD r1)) (fun n => rfl) (fun c13 => ?_) (fun c13 => ?_)
    · replace hf := (if_pos c13).symm.trans hf
      exact sX12_readRoad_J47 d X  r1 _ hf
    · replace hf := (if_neg c13).symm.trans hf
      refine ab_Ex.blk (k := 6) (pc' := 37) (lv' := [(0, .ref 64)]) (st' := [.int ((9 + ((r1).1 64 10))), .ref 68]) (sh' := ab_SH) (D' := ab_dD r1) (fun n => rfl) ?_
      obtain ⟨c15, hf⟩ := ab_ask_s hf
      refine ab_Ex.grd (c := (9 + ((r1).1 64 10)) < 0 ∨ 1034 ≤ ((9 + ((r1).1 64 10)) : Int32).toNatClampNeg) (S := (38, [(0, .ref 64)], [.int ((r1.1 68 ((9 + ((r1).1 64 10)) : Int32).toNatClampNeg))], ab_dD r1)) (fun n => rfl) c15 ?_
      refine ab_Ex.blk (k := 1) (pc' := 39) (lv' := [(0, .ref 64)]) (st' := [.int 3, .int ((r1.1 68 ((9 + ((r1).1 64 10)) : Int32).toNatClampNeg))]) (sh' := ab_SH) (D' := ab_dD r1) (fun n => rfl) ?_
      refine ab_Ex.ifc (c := (r1.1 68 ((9 + ((r1).1 64 10)) : Int32).toNatClampNeg) = 3) (SA := (42, [(0, .ref 64)], [], ab_dD r1)) (SB := (47, [(0, .ref 64)], [], ab_dD r1)) (fun n => rfl) (fun c16 => ?_) (fun c16 => ?_)
      · replace hf := (if_pos c16).symm.trans hf
        refine ab_Ex.blk (k := 2) (pc' := 44) (lv' := [(0, .ref 64)]) (st' := [.int 3, .ref 64]) (sh' := ab_SH) (D' := ab_dD r1) (fun n => rfl) ?_
        obtain ⟨r17, hr17, hf⟩ := ab_bind_s hf
        refine ab_Ex.call (d := d + 7) (M2 := 184) (as := [.ref 64, .int 3]) (rest := []) (fun n => rfl) rfl (Nat.not_lt.mpr (Nat.le_of_ble_eq_true rfl)) (sX12_fails (d + 7) X 3 r1 _ hr17) (fun r hr => ?_)
        subst hr
        show ab_Ex X (d + 8) 201 47 [(0, .ref 64)] [] ab_SH (ab_dD r17) _
        exact sX12_readRoad_J47 d X  r17 _ hf
      · replace hf := (if_neg c16).symm.trans hf
        exact sX12_readRoad_J47 d X  r1 _ hf
def fX12_readArm  (h : abJ) : Option abJ := (fX12_next h).bind (fun r1 => (fX12_takesPost r1).bind (fun r2 => if ((r2.2).1 64 11) = 0 then ab_ask ((9 + r2.1) < 0 ∨ 1034 ≤ ((9 + r2.1) : Int32).toNatClampNeg) ((fX12_takes 0 (((r2.2.1 68 ((9 + r2.1) : Int32).toNatClampNeg) - 1)) r2.2).bind (fun r6 => ab_ask ((34 + r2.1) < 0 ∨ 1034 ≤ ((34 + r2.1) : Int32).toNatClampNeg) (some (ab_wI r6.2 68 ((34 + r2.1) : Int32).toNatClampNeg r6.1)))) else some r2.2))
set_option maxRecDepth 20000 in
theorem sX12_readArm (d : Nat) (X : abX)  (h : abJ) (z : abJ) (hf : fX12_readArm  h = some z) : ab_Ex X (d + 8) 202 0 [(0, .ref 64)] [] ab_SH (ab_dD h) (fun r => r = (none, ab_SH, ab_dD z)) := by
  unfold fX12_readArm at hf
  refine ab_Ex.blk (k := 1) (pc' := 1) (lv' := [(0, .ref 64)]) (st' := [.ref 64]) (sh' := ab_SH) (D' := ab_dD h) (fun n => rfl) ?_
  obtain ⟨r1, hr1, hf⟩ := ab_bind_s hf
  refine ab_Ex.call (d := d + 7) (M2 := 183) (as := [.ref 64]) (rest := []) (fun n => rfl) rfl (Nat.not_lt.mpr (Nat.le_of_ble_eq_true rfl)) (sX12_next (d + 2) X  h _ hr1) (fun r hr => ?_)
  subst hr
  show ab_Ex X (d + 8) 202 4 [(0, .ref 64)] [] ab_SH (ab_dD r1) _
  refine ab_Ex.blk (k := 1) (pc' := 5) (lv' := [(0, .ref 64)]) (st' := [.ref 64]) (sh' := ab_SH) (D' := ab_dD r1) (fun n => rfl) ?_
  obtain ⟨r2, hr2, hf⟩ := ab_bind_s hf
  refine ab_Ex.call (d := d + 7) (M2 := 200) (as := [.ref 64]) (rest := []) (fun n => rfl) rfl (Nat.not_lt.mpr (Nat.le_of_ble_eq_true rfl)) (sX12_takesPost (d) X  r1 _ hr2) (fun r hr => ?_)
  subst hr
  show ab_Ex X (d + 8) 202 8 [(0, .ref 64)] [.int r2.1] ab_SH (ab_dD r2.2) _
  refine ab_Ex.blk (k := 3) (pc' := 13) (lv' := [(1, .int r2.1), (0, .ref 64)]) (st' := [.int (((r2.2).1 64 11))]) (sh' := ab_SH) (D' := ab_dD r2.2) (fun n => rfl) ?_
  refine ab_Ex.ifc (c := ((r2.2).1 64 11) = 0) (SA := (17, [(1, .int r2.1), (0, .ref 64)], [], ab_dD r2.2)) (SB := (16, [(1, .int r2.1), (0, .ref 64)], [], ab_dD r2.2)) (fun n => rfl) (fun c3 => ?_) (fun c3 => ?_)
  · replace hf := (if_pos c3).symm.trans hf
    refine ab_Ex.blk (k := 12) (pc' := 35) (lv' := [(1, .int r2.1), (0, .ref 64)]) (st' := [.int ((9 + r2.1)), .ref 68, .int 0, .ref 64, .int ((34 + r2.1)), .ref 68]) (sh' := ab_SH) (D' := ab_dD r2.2) (fun n => rfl) ?_
    obtain ⟨c5, hf⟩ := ab_ask_s hf
    refine ab_Ex.grd (c := (9 + r2.1) < 0 ∨ 1034 ≤ ((9 + r2.1) : Int32).toNatClampNeg) (S := (36, [(1, .int r2.1), (0, .ref 64)], [.int ((r2.2.1 68 ((9 + r2.1) : Int32).toNatClampNeg)), .int 0, .ref 64, .int ((34 + r2.1)), .ref 68], ab_dD r2.2)) (fun n => rfl) c5 ?_
    refine ab_Ex.blk (k := 2) (pc' := 38) (lv' := [(1, .int r2.1), (0, .ref 64)]) (st' := [.int (((r2.2.1 68 ((9 + r2.1) : Int32).toNatClampNeg) - 1)), .int 0, .ref 64, .int ((34 + r2.1)), .ref 68]) (sh' := ab_SH) (D' := ab_dD r2.2) (fun n => rfl) ?_
    obtain ⟨r6, hr6, hf⟩ := ab_bind_s hf
    refine ab_Ex.call (d := d + 7) (M2 := 187) (as := [.ref 64, .int 0, .int (((r2.2.1 68 ((9 + r2.1) : Int32).toNatClampNeg) - 1))]) (rest := [.int ((34 + r2.1)), .ref 68]) (fun n => rfl) rfl (Nat.not_lt.mpr (Nat.le_of_ble_eq_true rfl)) (sX12_takes (d + 1) X 0 (((r2.2.1 68 ((9 + r2.1) : Int32).toNatClampNeg) - 1)) r2.2 _ hr6) (fun r hr => ?_)
    subst hr
    show ab_Ex X (d + 8) 202 41 [(1, .int r2.1), (0, .ref 64)] [.int r6.1, .int ((34 + r2.1)), .ref 68] ab_SH (ab_dD r6.2) _
    obtain ⟨c7, hf⟩ := ab_ask_s hf
    refine ab_Ex.grd (c := (34 + r2.1) < 0 ∨ 1034 ≤ ((34 + r2.1) : Int32).toNatClampNeg) (S := (42, [(1, .int r2.1), (0, .ref 64)], [], ab_dD (ab_wI r6.2 68 ((34 + r2.1) : Int32).toNatClampNeg r6.1))) (fun n => rfl) c7 ?_
    obtain rfl := Option.some.inj hf
    exact ab_Ex.ret (fun n => rfl) rfl
  · replace hf := (if_neg c3).symm.trans hf
    obtain rfl := Option.some.inj hf
    exact ab_Ex.ret (fun n => rfl) rfl
def fX12_readHome  (h : abJ) : Option abJ := (fX12_next h).bind (fun r1 => (fX12_takesPost r1).bind (fun r2 => if ((r2.2).1 64 11) = 0 then some (ab_wI r2.2 68 2 ((r2.2.1 68 2) ||| ((1 : Int32) <<< (r2.1 &&& 31)))) else some r2.2))
set_option maxRecDepth 20000 in
theorem sX12_readHome (d : Nat) (X : abX)  (h : abJ) (z : abJ) (hf : fX12_readHome  h = some z) : ab_Ex X (d + 8) 203 0 [(0, .ref 64)] [] ab_SH (ab_dD h) (fun r => r = (none, ab_SH, ab_dD z)) := by
  unfold fX12_readHome at hf
  refine ab_Ex.blk (k := 1) (pc' := 1) (lv' := [(0, .ref 64)]) (st' := [.ref 64]) (sh' := ab_SH) (D' := ab_dD h) (fun n => rfl) ?_
  obtain ⟨r1, hr1, hf⟩ := ab_bind_s hf
  refine ab_Ex.call (d := d + 7) (M2 := 183) (as := [.ref 64]) (rest := []) (fun n => rfl) rfl (Nat.not_lt.mpr (Nat.le_of_ble_eq_true rfl)) (sX12_next (d + 2) X  h _ hr1) (fun r hr => ?_)
  subst hr
  show ab_Ex X (d + 8) 203 4 [(0, .ref 64)] [] ab_SH (ab_dD r1) _
  refine ab_Ex.blk (k := 1) (pc' := 5) (lv' := [(0, .ref 64)]) (st' := [.ref 64]) (sh' := ab_SH) (D' := ab_dD r1) (fun n => rfl) ?_
  obtain ⟨r2, hr2, hf⟩ := ab_bind_s hf
  refine ab_Ex.call (d := d + 7) (M2 := 200) (as := [.ref 64]) (rest := []) (fun n => rfl) rfl (Nat.not_lt.mpr (Nat.le_of_ble_eq_true rfl)) (sX12_takesPost (d) X  r1 _ hr2) (fun r hr => ?_)
  subst hr
  show ab_Ex X (d + 8) 203 8 [(0, .ref 64)] [.int r2.1] ab_SH (ab_dD r2.2) _
  refine ab_Ex.blk (k := 3) (pc' := 13) (lv' := [(1, .int r2.1), (0, .ref 64)]) (st' := [.int (((r2.2).1 64 11))]) (sh' := ab_SH) (D' := ab_dD r2.2) (fun n => rfl) ?_
  refine ab_Ex.ifc (c := ((r2.2).1 64 11) = 0) (SA := (16, [(1, .int r2.1), (0, .ref 64)], [], ab_dD r2.2)) (SB := (28, [(1, .int r2.1), (0, .ref 64)], [], ab_dD r2.2)) (fun n => rfl) (fun c3 => ?_) (fun c3 => ?_)
  · replace hf := (if_pos c3).symm.trans hf
    refine ab_Ex.blk (k := 4) (pc' := 22) (lv' := [(1, .int r2.1), (0, .ref 64)]) (st' := [.int 2, .ref 68, .int 2, .ref 68]) (sh' := ab_SH) (D' := ab_dD r2.2) (fun n => rfl) ?_
    refine ab_Ex.blk (k := 1) (pc' := 23) (lv' := [(1, .int r2.1), (0, .ref 64)]) (st' := [.int ((r2.2.1 68 2)), .int 2, .ref 68]) (sh' := ab_SH) (D' := ab_dD r2.2) (fun n => rfl) ?_
    refine ab_Ex.blk (k := 4) (pc' := 27) (lv' := [(1, .int r2.1), (0, .ref 64)]) (st' := [.int (((r2.2.1 68 2) ||| ((1 : Int32) <<< (r2.1 &&& 31)))), .int 2, .ref 68]) (sh' := ab_SH) (D' := ab_dD r2.2) (fun n => rfl) ?_
    refine ab_Ex.blk (k := 1) (pc' := 28) (lv' := []) (st' := []) (sh' := ab_SH) (D' := ab_dD (ab_wI r2.2 68 2 ((r2.2.1 68 2) ||| ((1 : Int32) <<< (r2.1 &&& 31))))) (fun n => rfl) ?_
    obtain rfl := Option.some.inj hf
    exact ab_Ex.ret (fun n => rfl) rfl
  · replace hf := (if_neg c3).symm.trans hf
    obtain rfl := Option.some.inj hf
    exact ab_Ex.ret (fun n => rfl) rfl
def fX12_readLaw_J44   (y1 : Int32) (y2 : Int32) (h : abJ) : Option abJ := if (h.1 64 11) = 0 then ab_ask ((3 + y1) < 0 ∨ 1034 ≤ ((3 + y1) : Int32).toNatClampNeg) (ab_ask ((5 + y1) < 0 ∨ 1034 ≤ ((5 + y1) : Int32).toNatClampNeg) (ab_ask ((7 + y1) < 0 ∨ 1034 ≤ ((7 + y1) : Int32).toNatClampNeg) (some (ab_wI (ab_wI (ab_wI h 68 ((3 + y1) : Int32).toNatClampNeg 1) 68 ((5 + y1) : Int32).toNatClampNeg y2) 68 ((7 + y1) : Int32).toNatClampNeg (((ab_wI (ab_wI h 68 ((3 + y1) : Int32).toNatClampNeg 1) 68 ((5 + y1) : Int32).toNatClampNeg y2).1 68 133) - y2))))) else some h
def fX12_readLaw_J18   (y1 : Int32) (h : abJ) : Option abJ := if y1 = 0 then (fX12_readSum 0 h).bind (fun r6 => fX12_readLaw_J44 y1 ((h.1 68 133)) r6) else (fX12_readTruth 0 h).bind (fun r11 => fX12_readLaw_J44 y1 ((h.1 68 133)) r11)
def fX12_readLaw (x0 : Int32) (h : abJ) : Option abJ := (fX12_next h).bind (fun r1 => (fX12_eats 31 r1).bind (fun r2 => if r2.1 = 0 then (fX12_fails 2 r2.2).bind (fun r4 => fX12_readLaw_J18 x0 r4) else fX12_readLaw_J18 x0 r2.2))
set_option maxRecDepth 20000 in
theorem sX12_readLaw_J44 (d : Nat) (X : abX)   : ∀ (y1 : Int32) (y2 : Int32) (h : abJ) (z : abJ), fX12_readLaw_J44 y1 y2 h = some z → ab_Ex X (d + 108) 204 44 [(0, .ref 64), (1, .int y1), (2, .int y2)] [] ab_SH (ab_dD h) (fun r => r = (none, ab_SH, ab_dD z)) := by
  intro y1 y2 h z hf
  unfold fX12_readLaw_J44 at hf
  refine ab_Ex.blk (k := 2) (pc' := 48) (lv' := [(0, .ref 64), (1, .int y1), (2, .int y2)]) (st' := [.int ((h.1 64 11))]) (sh' := ab_SH) (D' := ab_dD h) (fun n => rfl) ?_
  refine ab_Ex.ifc (c := (h.1 64 11) = 0) (SA := (52, [(0, .ref 64), (1, .int y1), (2, .int y2)], [], ab_dD h)) (SB := (51, [(0, .ref 64), (1, .int y1), (2, .int y2)], [], ab_dD h)) (fun n => rfl) (fun c7 => ?_) (fun c7 => ?_)
  · replace hf := (if_pos c7).symm.trans hf
    refine ab_Ex.blk (k := 6) (pc' := 60) (lv' := [(0, .ref 64), (1, .int y1), (2, .int y2)]) (st' := [.int 1, .int ((3 + y1)), .ref 68]) (sh' := ab_SH) (D' := ab_dD h) (fun n => rfl) ?_
    obtain ⟨c8, hf⟩ := ab_ask_s hf
    refine ab_Ex.grd (c := (3 + y1) < 0 ∨ 1034 ≤ ((3 + y1) : Int32).toNatClampNeg) (S := (61, [(0, .ref 64), (1, .int y1), (2, .int y2)], [], ab_dD (ab_wI h 68 ((3 + y1) : Int32).toNatClampNeg 1))) (fun n => rfl) c8 ?_
    refine ab_Ex.blk (k := 6) (pc' := 69) (lv' := [(0, .ref 64), (1, .int y1), (2, .int y2)]) (st' := [.int y2, .int ((5 + y1)), .ref 68]) (sh' := ab_SH) (D' := ab_dD (ab_wI h 68 ((3 + y1) : Int32).toNatClampNeg 1)) (fun n => rfl) ?_
    obtain ⟨c9, hf⟩ := ab_ask_s hf
    refine ab_Ex.grd (c := (5 + y1) < 0 ∨ 1034 ≤ ((5 + y1) : Int32).toNatClampNeg) (S := (70, [(0, .ref 64), (1, .int y1), (2, .int y2)], [], ab_dD (ab_wI (ab_wI h 68 ((3 + y1) : Int32).toNatClampNeg 1) 68 ((5 + y1) : Int32).toNatClampNeg y2))) (fun n => rfl) c9 ?_
    refine ab_Ex.blk (k := 8) (pc' := 85) (lv' := [(0, .ref 64), (1, .int y1), (2, .int y2)]) (st' := [.int 133, .ref 68, .int ((7 + y1)), .ref 68]) (sh' := ab_SH) (D' := ab_dD (ab_wI (ab_wI h 68 ((3 + y1) : Int32).toNatClampNeg 1) 68 ((5 + y1) : Int32).toNatClampNeg y2)) (fun n => rfl) ?_
    refine ab_Ex.blk (k := 1) (pc' := 86) (lv' := [(0, .ref 64), (1, .int y1), (2, .int y2)]) (st' := [.int (((ab_wI (ab_wI h 68 ((3 + y1) : Int32).toNatClampNeg 1) 68 ((5 + y1) : Int32).toNatClampNeg y2).1 68 133)), .int ((7 + y1)), .ref 68]) (sh' := ab_SH) (D' := ab_dD (ab_wI (ab_wI h 68 ((3 + y1) : Int32).toNatClampNeg 1) 68 ((5 + y1) : Int32).toNatClampNeg y2)) (fun n => rfl) ?_
    refine ab_Ex.blk (k := 2) (pc' := 88) (lv' := [(0, .ref 64), (1, .int y1), (2, .int y2)]) (st' := [.int ((((ab_wI (ab_wI h 68 ((3 + y1) : Int32).toNatClampNeg 1) 68 ((5 + y1) : Int32).toNatClampNeg y2).1 68 133) - y2)), .int ((7 + y1)), .ref 68]) (sh' := ab_SH) (D' := ab_dD (ab_wI (ab_wI h 68 ((3 + y1) : Int32).toNatClampNeg 1) 68 ((5 + y1) : Int32).toNatClampNeg y2)) (fun n => rfl) ?_
    obtain ⟨c10, hf⟩ := ab_ask_s hf
    refine ab_Ex.grd (c := (7 + y1) < 0 ∨ 1034 ≤ ((7 + y1) : Int32).toNatClampNeg) (S := (89, [(0, .ref 64), (1, .int y1), (2, .int y2)], [], ab_dD (ab_wI (ab_wI (ab_wI h 68 ((3 + y1) : Int32).toNatClampNeg 1) 68 ((5 + y1) : Int32).toNatClampNeg y2) 68 ((7 + y1) : Int32).toNatClampNeg (((ab_wI (ab_wI h 68 ((3 + y1) : Int32).toNatClampNeg 1) 68 ((5 + y1) : Int32).toNatClampNeg y2).1 68 133) - y2)))) (fun n => rfl) c10 ?_
    obtain rfl := Option.some.inj hf
    exact ab_Ex.ret (fun n => rfl) rfl
  · replace hf := (if_neg c7).symm.trans hf
    obtain rfl := Option.some.inj hf
    exact ab_Ex.ret (fun n => rfl) rfl
set_option maxRecDepth 20000 in
theorem sX12_readLaw_J18 (d : Nat) (X : abX)   : ∀ (y1 : Int32) (h : abJ) (z : abJ), fX12_readLaw_J18 y1 h = some z → ab_Ex X (d + 108) 204 18 [(0, .ref 64), (1, .int y1)] [] ab_SH (ab_dD h) (fun r => r = (none, ab_SH, ab_dD z)) := by
  intro y1 h z hf
  unfold fX12_readLaw_J18 at hf
  refine ab_Ex.blk (k := 3) (pc' := 25) (lv' := [(0, .ref 64), (1, .int y1)]) (st' := [.int 133, .ref 68]) (sh' := ab_SH) (D' := ab_dD h) (fun n => rfl) ?_
  refine ab_Ex.blk (k := 1) (pc' := 26) (lv' := [(0, .ref 64), (1, .int y1)]) (st' := [.int ((h.1 68 133))]) (sh' := ab_SH) (D' := ab_dD h) (fun n => rfl) ?_
  refine ab_Ex.blk (k := 2) (pc' := 28) (lv' := [(2, .int ((h.1 68 133))), (0, .ref 64), (1, .int y1)]) (st' := [.int y1]) (sh' := ab_SH) (D' := ab_dD h) (fun n => rfl) ?_
  refine ab_Ex.ifc (c := y1 = 0) (SA := (31, [(2, .int ((h.1 68 133))), (0, .ref 64), (1, .int y1)], [], ab_dD h)) (SB := (39, [(2, .int ((h.1 68 133))), (0, .ref 64), (1, .int y1)], [], ab_dD h)) (fun n => rfl) (fun c5 => ?_) (fun c5 => ?_)
  · replace hf := (if_pos c5).symm.trans hf
    refine ab_Ex.blk (k := 2) (pc' := 33) (lv' := [(2, .int ((h.1 68 133))), (0, .ref 64), (1, .int y1)]) (st' := [.int 0, .ref 64]) (sh' := ab_SH) (D' := ab_dD h) (fun n => rfl) ?_
    obtain ⟨r6, hr6, hf⟩ := ab_bind_s hf
    refine ab_Ex.call (d := d + 107) (M2 := 195) (as := [.ref 64, .int 0]) (rest := []) (fun n => rfl) rfl (Nat.not_lt.mpr (Nat.le_of_ble_eq_true rfl)) (sX12_readSum (d) X 0 h _ hr6) (fun r hr => ?_)
    subst hr
    show ab_Ex X (d + 108) 204 36 [(2, .int ((h.1 68 133))), (0, .ref 64), (1, .int y1)] [] ab_SH (ab_dD r6) _
    refine ab_Ex.blk (k := 1) (pc' := 44) (lv' := [(0, .ref 64), (1, .int y1), (2, .int ((h.1 68 133)))]) (st' := []) (sh' := ab_SH) (D' := ab_dD r6) (fun n => rfl) ?_
    exact sX12_readLaw_J44 d X  y1 ((h.1 68 133)) r6 _ hf
  · replace hf := (if_neg c5).symm.trans hf
    refine ab_Ex.blk (k := 2) (pc' := 41) (lv' := [(2, .int ((h.1 68 133))), (0, .ref 64), (1, .int y1)]) (st' := [.int 0, .ref 64]) (sh' := ab_SH) (D' := ab_dD h) (fun n => rfl) ?_
    obtain ⟨r11, hr11, hf⟩ := ab_bind_s hf
    refine ab_Ex.call (d := d + 107) (M2 := 198) (as := [.ref 64, .int 0]) (rest := []) (fun n => rfl) rfl (Nat.not_lt.mpr (Nat.le_of_ble_eq_true rfl)) (sX12_readTruth (d) X 0 h _ hr11) (fun r hr => ?_)
    subst hr
    show ab_Ex X (d + 108) 204 44 [(0, .ref 64), (1, .int y1), (2, .int ((h.1 68 133)))] [] ab_SH (ab_dD r11) _
    exact sX12_readLaw_J44 d X  y1 ((h.1 68 133)) r11 _ hf
set_option maxRecDepth 20000 in
theorem sX12_readLaw (d : Nat) (X : abX) (x0 : Int32) (h : abJ) (z : abJ) (hf : fX12_readLaw x0 h = some z) : ab_Ex X (d + 108) 204 0 [(0, .ref 64), (1, .int x0)] [] ab_SH (ab_dD h) (fun r => r = (none, ab_SH, ab_dD z)) := by
  unfold fX12_readLaw at hf
  refine ab_Ex.blk (k := 1) (pc' := 1) (lv' := [(0, .ref 64), (1, .int x0)]) (st' := [.ref 64]) (sh' := ab_SH) (D' := ab_dD h) (fun n => rfl) ?_
  obtain ⟨r1, hr1, hf⟩ := ab_bind_s hf
  refine ab_Ex.call (d := d + 107) (M2 := 183) (as := [.ref 64]) (rest := []) (fun n => rfl) rfl (Nat.not_lt.mpr (Nat.le_of_ble_eq_true rfl)) (sX12_next (d + 102) X  h _ hr1) (fun r hr => ?_)
  subst hr
  show ab_Ex X (d + 108) 204 4 [(0, .ref 64), (1, .int x0)] [] ab_SH (ab_dD r1) _
  refine ab_Ex.blk (k := 2) (pc' := 7) (lv' := [(0, .ref 64), (1, .int x0)]) (st' := [.int 31, .ref 64]) (sh' := ab_SH) (D' := ab_dD r1) (fun n => rfl) ?_
  obtain ⟨r2, hr2, hf⟩ := ab_bind_s hf
  refine ab_Ex.call (d := d + 107) (M2 := 186) (as := [.ref 64, .int 31]) (rest := []) (fun n => rfl) rfl (Nat.not_lt.mpr (Nat.le_of_ble_eq_true rfl)) (sX12_eats (d + 101) X 31 r1 _ hr2) (fun r hr => ?_)
  subst hr
  show ab_Ex X (d + 108) 204 10 [(0, .ref 64), (1, .int x0)] [.int r2.1] ab_SH (ab_dD r2.2) _
  refine ab_Ex.ifc (c := r2.1 = 0) (SA := (13, [(0, .ref 64), (1, .int x0)], [], ab_dD r2.2)) (SB := (18, [(0, .ref 64), (1, .int x0)], [], ab_dD r2.2)) (fun n => rfl) (fun c3 => ?_) (fun c3 => ?_)
  · replace hf := (if_pos c3).symm.trans hf
    refine ab_Ex.blk (k := 2) (pc' := 15) (lv' := [(0, .ref 64), (1, .int x0)]) (st' := [.int 2, .ref 64]) (sh' := ab_SH) (D' := ab_dD r2.2) (fun n => rfl) ?_
    obtain ⟨r4, hr4, hf⟩ := ab_bind_s hf
    refine ab_Ex.call (d := d + 107) (M2 := 184) (as := [.ref 64, .int 2]) (rest := []) (fun n => rfl) rfl (Nat.not_lt.mpr (Nat.le_of_ble_eq_true rfl)) (sX12_fails (d + 107) X 2 r2.2 _ hr4) (fun r hr => ?_)
    subst hr
    show ab_Ex X (d + 108) 204 18 [(0, .ref 64), (1, .int x0)] [] ab_SH (ab_dD r4) _
    exact sX12_readLaw_J18 d X  x0 r4 _ hf
  · replace hf := (if_neg c3).symm.trans hf
    exact sX12_readLaw_J18 d X  x0 r2.2 _ hf
def fX12_readLine  (h : abJ) : Option abJ := if (h.1 64 11) = 0 then (fX12_is 2 h).bind (fun r2 => if r2 = 0 then (fX12_is 3 h).bind (fun r4 => if r4 = 0 then (fX12_is 4 h).bind (fun r6 => if r6 = 0 then (fX12_eats 5 h).bind (fun r8 => if r8.1 = 0 then (fX12_eats 6 r8.2).bind (fun r10 => if r10.1 = 0 then (fX12_is 7 r10.2).bind (fun r12 => if r12 = 0 then (fX12_is 8 r10.2).bind (fun r14 => if r14 = 0 then (fX12_fails 2 r10.2).bind (fun r16 => some r16) else (fX12_readLaw ((((r10.2).1 64 9) - 7)) r10.2).bind (fun r17 => some r17)) else (fX12_readLaw ((((r10.2).1 64 9) - 7)) r10.2).bind (fun r18 => some r18)) else (fX12_takes 0 9 r10.2).bind (fun r19 => some (ab_wI r19.2 68 40 r19.1))) else (fX12_takesPost r8.2).bind (fun r20 => some (ab_wI r20.2 68 33 r20.1))) else (fX12_readHome h).bind (fun r21 => some r21)) else (fX12_readArm h).bind (fun r22 => some r22)) else (fX12_readRoad h).bind (fun r23 => some r23)) else some h
set_option maxRecDepth 20000 in
theorem sX12_readLine (d : Nat) (X : abX)  (h : abJ) (z : abJ) (hf : fX12_readLine  h = some z) : ab_Ex X (d + 109) 205 0 [(0, .ref 64)] [] ab_SH (ab_dD h) (fun r => r = (none, ab_SH, ab_dD z)) := by
  unfold fX12_readLine at hf
  refine ab_Ex.blk (k := 2) (pc' := 4) (lv' := [(0, .ref 64)]) (st' := [.int ((h.1 64 11))]) (sh' := ab_SH) (D' := ab_dD h) (fun n => rfl) ?_
  refine ab_Ex.ifc (c := (h.1 64 11) = 0) (SA := (8, [(0, .ref 64)], [], ab_dD h)) (SB := (7, [(0, .ref 64)], [], ab_dD h)) (fun n => rfl) (fun c1 => ?_) (fun c1 => ?_)
  · replace hf := (if_pos c1).symm.trans hf
    refine ab_Ex.blk (k := 2) (pc' := 10) (lv' := [(0, .ref 64)]) (st' := [.int 2, .ref 64]) (sh' := ab_SH) (D' := ab_dD h) (fun n => rfl) ?_
    obtain ⟨r2, hr2, hf⟩ := ab_bind_s hf
    refine ab_Ex.call (d := d + 108) (M2 := 185) (as := [.ref 64, .int 2]) (rest := []) (fun n => rfl) rfl (Nat.not_lt.mpr (Nat.le_of_ble_eq_true rfl)) (sX12_is (d + 108) X 2 h _ hr2) (fun r hr => ?_)
    subst hr
    show ab_Ex X (d + 109) 205 13 [(0, .ref 64)] [.int r2] ab_SH (ab_dD h) _
    refine ab_Ex.ifc (c := r2 = 0) (SA := (23, [(0, .ref 64)], [], ab_dD h)) (SB := (16, [(0, .ref 64)], [], ab_dD h)) (fun n => rfl) (fun c3 => ?_) (fun c3 => ?_)
    · replace hf := (if_pos c3).symm.trans hf
      refine ab_Ex.blk (k := 2) (pc' := 25) (lv' := [(0, .ref 64)]) (st' := [.int 3, .ref 64]) (sh' := ab_SH) (D' := ab_dD h) (fun n => rfl) ?_
      obtain ⟨r4, hr4, hf⟩ := ab_bind_s hf
      refine ab_Ex.call (d := d + 108) (M2 := 185) (as := [.ref 64, .int 3]) (rest := []) (fun n => rfl) rfl (Nat.not_lt.mpr (Nat.le_of_ble_eq_true rfl)) (sX12_is (d + 108) X 3 h _ hr4) (fun r hr => ?_)
      subst hr
      show ab_Ex X (d + 109) 205 28 [(0, .ref 64)] [.int r4] ab_SH (ab_dD h) _
      refine ab_Ex.ifc (c := r4 = 0) (SA := (38, [(0, .ref 64)], [], ab_dD h)) (SB := (31, [(0, .ref 64)], [], ab_dD h)) (fun n => rfl) (fun c5 => ?_) (fun c5 => ?_)
      · replace hf := (if_pos c5).symm.trans hf
        refine ab_Ex.blk (k := 2) (pc' := 40) (lv' := [(0, .ref 64)]) (st' := [.int 4, .ref 64]) (sh' := ab_SH) (D' := ab_dD h) (fun n => rfl) ?_
        obtain ⟨r6, hr6, hf⟩ := ab_bind_s hf
        refine ab_Ex.call (d := d + 108) (M2 := 185) (as := [.ref 64, .int 4]) (rest := []) (fun n => rfl) rfl (Nat.not_lt.mpr (Nat.le_of_ble_eq_true rfl)) (sX12_is (d + 108) X 4 h _ hr6) (fun r hr => ?_)
        subst hr
        show ab_Ex X (d + 109) 205 43 [(0, .ref 64)] [.int r6] ab_SH (ab_dD h) _
        refine ab_Ex.ifc (c := r6 = 0) (SA := (53, [(0, .ref 64)], [], ab_dD h)) (SB := (46, [(0, .ref 64)], [], ab_dD h)) (fun n => rfl) (fun c7 => ?_) (fun c7 => ?_)
        · replace hf := (if_pos c7).symm.trans hf
          refine ab_Ex.blk (k := 2) (pc' := 55) (lv' := [(0, .ref 64)]) (st' := [.int 5, .ref 64]) (sh' := ab_SH) (D' := ab_dD h) (fun n => rfl) ?_
          obtain ⟨r8, hr8, hf⟩ := ab_bind_s hf
          refine ab_Ex.call (d := d + 108) (M2 := 186) (as := [.ref 64, .int 5]) (rest := []) (fun n => rfl) rfl (Nat.not_lt.mpr (Nat.le_of_ble_eq_true rfl)) (sX12_eats (d + 102) X 5 h _ hr8) (fun r hr => ?_)
          subst hr
          show ab_Ex X (d + 109) 205 58 [(0, .ref 64)] [.int r8.1] ab_SH (ab_dD r8.2) _
          refine ab_Ex.ifc (c := r8.1 = 0) (SA := (75, [(0, .ref 64)], [], ab_dD r8.2)) (SB := (61, [(0, .ref 64)], [], ab_dD r8.2)) (fun n => rfl) (fun c9 => ?_) (fun c9 => ?_)
          · replace hf := (if_pos c9).symm.trans hf
            refine ab_Ex.blk (k := 2) (pc' := 78) (lv' := [(0, .ref 64)]) (st' := [.int 6, .ref 64]) (sh' := ab_SH) (D' := ab_dD r8.2) (fun n => rfl) ?_
            obtain ⟨r10, hr10, hf⟩ := ab_bind_s hf
            refine ab_Ex.call (d := d + 108) (M2 := 186) (as := [.ref 64, .int 6]) (rest := []) (fun n => rfl) rfl (Nat.not_lt.mpr (Nat.le_of_ble_eq_true rfl)) (sX12_eats (d + 102) X 6 r8.2 _ hr10) (fun r hr => ?_)
            subst hr
            show ab_Ex X (d + 109) 205 81 [(0, .ref 64)] [.int r10.1] ab_SH (ab_dD r10.2) _
            refine ab_Ex.ifc (c := r10.1 = 0) (SA := (101, [(0, .ref 64)], [], ab_dD r10.2)) (SB := (84, [(0, .ref 64)], [], ab_dD r10.2)) (fun n => rfl) (fun c11 => ?_) (fun c11 => ?_)
            · replace hf := (if_pos c11).symm.trans hf
              refine ab_Ex.blk (k := 2) (pc' := 104) (lv' := [(0, .ref 64)]) (st' := [.int 7, .ref 64]) (sh' := ab_SH) (D' := ab_dD r10.2) (fun n => rfl) ?_
              obtain ⟨r12, hr12, hf⟩ := ab_bind_s hf
              refine ab_Ex.call (d := d + 108) (M2 := 185) (as := [.ref 64, .int 7]) (rest := []) (fun n => rfl) rfl (Nat.not_lt.mpr (Nat.le_of_ble_eq_true rfl)) (sX12_is (d + 108) X 7 r10.2 _ hr12) (fun r hr => ?_)
              subst hr
              show ab_Ex X (d + 109) 205 107 [(0, .ref 64)] [.int r12] ab_SH (ab_dD r10.2) _
              refine ab_Ex.ifc (c := r12 = 0) (SA := (110, [(0, .ref 64)], [], ab_dD r10.2)) (SB := (119, [(0, .ref 64)], [], ab_dD r10.2)) (fun n => rfl) (fun c13 => ?_) (fun c13 => ?_)
              · replace hf := (if_pos c13).symm.trans hf
                refine ab_Ex.blk (k := 2) (pc' := 113) (lv' := [(0, .ref 64)]) (st' := [.int 8, .ref 64]) (sh' := ab_SH) (D' := ab_dD r10.2) (fun n => rfl) ?_
                obtain ⟨r14, hr14, hf⟩ := ab_bind_s hf
                refine ab_Ex.call (d := d + 108) (M2 := 185) (as := [.ref 64, .int 8]) (rest := []) (fun n => rfl) rfl (Nat.not_lt.mpr (Nat.le_of_ble_eq_true rfl)) (sX12_is (d + 108) X 8 r10.2 _ hr14) (fun r hr => ?_)
                subst hr
                show ab_Ex X (d + 109) 205 116 [(0, .ref 64)] [.int r14] ab_SH (ab_dD r10.2) _
                refine ab_Ex.ifc (c := r14 = 0) (SA := (133, [(0, .ref 64)], [], ab_dD r10.2)) (SB := (119, [(0, .ref 64)], [], ab_dD r10.2)) (fun n => rfl) (fun c15 => ?_) (fun c15 => ?_)
                · replace hf := (if_pos c15).symm.trans hf
                  refine ab_Ex.blk (k := 2) (pc' := 135) (lv' := [(0, .ref 64)]) (st' := [.int 2, .ref 64]) (sh' := ab_SH) (D' := ab_dD r10.2) (fun n => rfl) ?_
                  obtain ⟨r16, hr16, hf⟩ := ab_bind_s hf
                  refine ab_Ex.call (d := d + 108) (M2 := 184) (as := [.ref 64, .int 2]) (rest := []) (fun n => rfl) rfl (Nat.not_lt.mpr (Nat.le_of_ble_eq_true rfl)) (sX12_fails (d + 108) X 2 r10.2 _ hr16) (fun r hr => ?_)
                  subst hr
                  show ab_Ex X (d + 109) 205 138 [] [] ab_SH (ab_dD r16) _
                  obtain rfl := Option.some.inj hf
                  exact ab_Ex.ret (fun n => rfl) rfl
                · replace hf := (if_neg c15).symm.trans hf
                  refine ab_Ex.blk (k := 5) (pc' := 127) (lv' := [(0, .ref 64)]) (st' := [.int ((((r10.2).1 64 9) - 7)), .ref 64]) (sh' := ab_SH) (D' := ab_dD r10.2) (fun n => rfl) ?_
                  obtain ⟨r17, hr17, hf⟩ := ab_bind_s hf
                  refine ab_Ex.call (d := d + 108) (M2 := 204) (as := [.ref 64, .int ((((r10.2).1 64 9) - 7))]) (rest := []) (fun n => rfl) rfl (Nat.not_lt.mpr (Nat.le_of_ble_eq_true rfl)) (sX12_readLaw (d) X ((((r10.2).1 64 9) - 7)) r10.2 _ hr17) (fun r hr => ?_)
                  subst hr
                  show ab_Ex X (d + 109) 205 130 [(0, .ref 64)] [] ab_SH (ab_dD r17) _
                  refine ab_Ex.blk (k := 1) (pc' := 138) (lv' := []) (st' := []) (sh' := ab_SH) (D' := ab_dD r17) (fun n => rfl) ?_
                  obtain rfl := Option.some.inj hf
                  exact ab_Ex.ret (fun n => rfl) rfl
              · replace hf := (if_neg c13).symm.trans hf
                refine ab_Ex.blk (k := 5) (pc' := 127) (lv' := [(0, .ref 64)]) (st' := [.int ((((r10.2).1 64 9) - 7)), .ref 64]) (sh' := ab_SH) (D' := ab_dD r10.2) (fun n => rfl) ?_
                obtain ⟨r18, hr18, hf⟩ := ab_bind_s hf
                refine ab_Ex.call (d := d + 108) (M2 := 204) (as := [.ref 64, .int ((((r10.2).1 64 9) - 7))]) (rest := []) (fun n => rfl) rfl (Nat.not_lt.mpr (Nat.le_of_ble_eq_true rfl)) (sX12_readLaw (d) X ((((r10.2).1 64 9) - 7)) r10.2 _ hr18) (fun r hr => ?_)
                subst hr
                show ab_Ex X (d + 109) 205 130 [(0, .ref 64)] [] ab_SH (ab_dD r18) _
                refine ab_Ex.blk (k := 1) (pc' := 138) (lv' := []) (st' := []) (sh' := ab_SH) (D' := ab_dD r18) (fun n => rfl) ?_
                obtain rfl := Option.some.inj hf
                exact ab_Ex.ret (fun n => rfl) rfl
            · replace hf := (if_neg c11).symm.trans hf
              refine ab_Ex.blk (k := 6) (pc' := 94) (lv' := [(0, .ref 64)]) (st' := [.int 9, .int 0, .ref 64, .int 40, .ref 68]) (sh' := ab_SH) (D' := ab_dD r10.2) (fun n => rfl) ?_
              obtain ⟨r19, hr19, hf⟩ := ab_bind_s hf
              refine ab_Ex.call (d := d + 108) (M2 := 187) (as := [.ref 64, .int 0, .int 9]) (rest := [.int 40, .ref 68]) (fun n => rfl) rfl (Nat.not_lt.mpr (Nat.le_of_ble_eq_true rfl)) (sX12_takes (d + 102) X 0 9 r10.2 _ hr19) (fun r hr => ?_)
              subst hr
              show ab_Ex X (d + 109) 205 97 [(0, .ref 64)] [.int r19.1, .int 40, .ref 68] ab_SH (ab_dD r19.2) _
              refine ab_Ex.blk (k := 1) (pc' := 98) (lv' := [(0, .ref 64)]) (st' := []) (sh' := ab_SH) (D' := ab_dD (ab_wI r19.2 68 40 r19.1)) (fun n => rfl) ?_
              refine ab_Ex.blk (k := 1) (pc' := 138) (lv' := []) (st' := []) (sh' := ab_SH) (D' := ab_dD (ab_wI r19.2 68 40 r19.1)) (fun n => rfl) ?_
              obtain rfl := Option.some.inj hf
              exact ab_Ex.ret (fun n => rfl) rfl
          · replace hf := (if_neg c9).symm.trans hf
            refine ab_Ex.blk (k := 4) (pc' := 68) (lv' := [(0, .ref 64)]) (st' := [.ref 64, .int 33, .ref 68]) (sh' := ab_SH) (D' := ab_dD r8.2) (fun n => rfl) ?_
            obtain ⟨r20, hr20, hf⟩ := ab_bind_s hf
            refine ab_Ex.call (d := d + 108) (M2 := 200) (as := [.ref 64]) (rest := [.int 33, .ref 68]) (fun n => rfl) rfl (Nat.not_lt.mpr (Nat.le_of_ble_eq_true rfl)) (sX12_takesPost (d + 101) X  r8.2 _ hr20) (fun r hr => ?_)
            subst hr
            show ab_Ex X (d + 109) 205 71 [(0, .ref 64)] [.int r20.1, .int 33, .ref 68] ab_SH (ab_dD r20.2) _
            refine ab_Ex.blk (k := 1) (pc' := 72) (lv' := [(0, .ref 64)]) (st' := []) (sh' := ab_SH) (D' := ab_dD (ab_wI r20.2 68 33 r20.1)) (fun n => rfl) ?_
            refine ab_Ex.blk (k := 1) (pc' := 138) (lv' := []) (st' := []) (sh' := ab_SH) (D' := ab_dD (ab_wI r20.2 68 33 r20.1)) (fun n => rfl) ?_
            obtain rfl := Option.some.inj hf
            exact ab_Ex.ret (fun n => rfl) rfl
        · replace hf := (if_neg c7).symm.trans hf
          refine ab_Ex.blk (k := 1) (pc' := 47) (lv' := [(0, .ref 64)]) (st' := [.ref 64]) (sh' := ab_SH) (D' := ab_dD h) (fun n => rfl) ?_
          obtain ⟨r21, hr21, hf⟩ := ab_bind_s hf
          refine ab_Ex.call (d := d + 108) (M2 := 203) (as := [.ref 64]) (rest := []) (fun n => rfl) rfl (Nat.not_lt.mpr (Nat.le_of_ble_eq_true rfl)) (sX12_readHome (d + 100) X  h _ hr21) (fun r hr => ?_)
          subst hr
          show ab_Ex X (d + 109) 205 50 [(0, .ref 64)] [] ab_SH (ab_dD r21) _
          refine ab_Ex.blk (k := 1) (pc' := 138) (lv' := []) (st' := []) (sh' := ab_SH) (D' := ab_dD r21) (fun n => rfl) ?_
          obtain rfl := Option.some.inj hf
          exact ab_Ex.ret (fun n => rfl) rfl
      · replace hf := (if_neg c5).symm.trans hf
        refine ab_Ex.blk (k := 1) (pc' := 32) (lv' := [(0, .ref 64)]) (st' := [.ref 64]) (sh' := ab_SH) (D' := ab_dD h) (fun n => rfl) ?_
        obtain ⟨r22, hr22, hf⟩ := ab_bind_s hf
        refine ab_Ex.call (d := d + 108) (M2 := 202) (as := [.ref 64]) (rest := []) (fun n => rfl) rfl (Nat.not_lt.mpr (Nat.le_of_ble_eq_true rfl)) (sX12_readArm (d + 100) X  h _ hr22) (fun r hr => ?_)
        subst hr
        show ab_Ex X (d + 109) 205 35 [(0, .ref 64)] [] ab_SH (ab_dD r22) _
        refine ab_Ex.blk (k := 1) (pc' := 138) (lv' := []) (st' := []) (sh' := ab_SH) (D' := ab_dD r22) (fun n => rfl) ?_
        obtain rfl := Option.some.inj hf
        exact ab_Ex.ret (fun n => rfl) rfl
    · replace hf := (if_neg c3).symm.trans hf
      refine ab_Ex.blk (k := 1) (pc' := 17) (lv' := [(0, .ref 64)]) (st' := [.ref 64]) (sh' := ab_SH) (D' := ab_dD h) (fun n => rfl) ?_
      obtain ⟨r23, hr23, hf⟩ := ab_bind_s hf
      refine ab_Ex.call (d := d + 108) (M2 := 201) (as := [.ref 64]) (rest := []) (fun n => rfl) rfl (Nat.not_lt.mpr (Nat.le_of_ble_eq_true rfl)) (sX12_readRoad (d + 100) X  h _ hr23) (fun r hr => ?_)
      subst hr
      show ab_Ex X (d + 109) 205 20 [(0, .ref 64)] [] ab_SH (ab_dD r23) _
      refine ab_Ex.blk (k := 1) (pc' := 138) (lv' := []) (st' := []) (sh' := ab_SH) (D' := ab_dD r23) (fun n => rfl) ?_
      obtain rfl := Option.some.inj hf
      exact ab_Ex.ret (fun n => rfl) rfl
  · replace hf := (if_neg c1).symm.trans hf
    obtain rfl := Option.some.inj hf
    exact ab_Ex.ret (fun n => rfl) rfl
def fX12_closes  (h : abJ) : Option abJ := (fX12_eats 30 h).bind (fun r1 => if r1.1 = 0 then (fX12_fails 2 r1.2).bind (fun r3 => some (ab_wI r3 68 0 ((r3.1 68 0) + 1))) else some (ab_wI r1.2 68 0 ((r1.2.1 68 0) + 1)))
set_option maxRecDepth 20000 in
theorem sX12_closes (d : Nat) (X : abX)  (h : abJ) (z : abJ) (hf : fX12_closes  h = some z) : ab_Ex X (d + 7) 206 0 [(0, .ref 64)] [] ab_SH (ab_dD h) (fun r => r = (none, ab_SH, ab_dD z)) := by
  unfold fX12_closes at hf
  refine ab_Ex.blk (k := 2) (pc' := 3) (lv' := [(0, .ref 64)]) (st' := [.int 30, .ref 64]) (sh' := ab_SH) (D' := ab_dD h) (fun n => rfl) ?_
  obtain ⟨r1, hr1, hf⟩ := ab_bind_s hf
  refine ab_Ex.call (d := d + 6) (M2 := 186) (as := [.ref 64, .int 30]) (rest := []) (fun n => rfl) rfl (Nat.not_lt.mpr (Nat.le_of_ble_eq_true rfl)) (sX12_eats (d) X 30 h _ hr1) (fun r hr => ?_)
  subst hr
  show ab_Ex X (d + 7) 206 6 [(0, .ref 64)] [.int r1.1] ab_SH (ab_dD r1.2) _
  refine ab_Ex.ifc (c := r1.1 = 0) (SA := (9, [(0, .ref 64)], [], ab_dD r1.2)) (SB := (14, [(0, .ref 64)], [], ab_dD r1.2)) (fun n => rfl) (fun c2 => ?_) (fun c2 => ?_)
  · replace hf := (if_pos c2).symm.trans hf
    refine ab_Ex.blk (k := 2) (pc' := 11) (lv' := [(0, .ref 64)]) (st' := [.int 2, .ref 64]) (sh' := ab_SH) (D' := ab_dD r1.2) (fun n => rfl) ?_
    obtain ⟨r3, hr3, hf⟩ := ab_bind_s hf
    refine ab_Ex.call (d := d + 6) (M2 := 184) (as := [.ref 64, .int 2]) (rest := []) (fun n => rfl) rfl (Nat.not_lt.mpr (Nat.le_of_ble_eq_true rfl)) (sX12_fails (d + 6) X 2 r1.2 _ hr3) (fun r hr => ?_)
    subst hr
    show ab_Ex X (d + 7) 206 14 [(0, .ref 64)] [] ab_SH (ab_dD r3) _
    refine ab_Ex.blk (k := 4) (pc' := 20) (lv' := [(0, .ref 64)]) (st' := [.int 0, .ref 68, .int 0, .ref 68]) (sh' := ab_SH) (D' := ab_dD r3) (fun n => rfl) ?_
    refine ab_Ex.blk (k := 1) (pc' := 21) (lv' := [(0, .ref 64)]) (st' := [.int ((r3.1 68 0)), .int 0, .ref 68]) (sh' := ab_SH) (D' := ab_dD r3) (fun n => rfl) ?_
    refine ab_Ex.blk (k := 2) (pc' := 23) (lv' := [(0, .ref 64)]) (st' := [.int (((r3.1 68 0) + 1)), .int 0, .ref 68]) (sh' := ab_SH) (D' := ab_dD r3) (fun n => rfl) ?_
    refine ab_Ex.blk (k := 1) (pc' := 24) (lv' := [(0, .ref 64)]) (st' := []) (sh' := ab_SH) (D' := ab_dD (ab_wI r3 68 0 ((r3.1 68 0) + 1))) (fun n => rfl) ?_
    obtain rfl := Option.some.inj hf
    exact ab_Ex.ret (fun n => rfl) rfl
  · replace hf := (if_neg c2).symm.trans hf
    refine ab_Ex.blk (k := 4) (pc' := 20) (lv' := [(0, .ref 64)]) (st' := [.int 0, .ref 68, .int 0, .ref 68]) (sh' := ab_SH) (D' := ab_dD r1.2) (fun n => rfl) ?_
    refine ab_Ex.blk (k := 1) (pc' := 21) (lv' := [(0, .ref 64)]) (st' := [.int ((r1.2.1 68 0)), .int 0, .ref 68]) (sh' := ab_SH) (D' := ab_dD r1.2) (fun n => rfl) ?_
    refine ab_Ex.blk (k := 2) (pc' := 23) (lv' := [(0, .ref 64)]) (st' := [.int (((r1.2.1 68 0) + 1)), .int 0, .ref 68]) (sh' := ab_SH) (D' := ab_dD r1.2) (fun n => rfl) ?_
    refine ab_Ex.blk (k := 1) (pc' := 24) (lv' := [(0, .ref 64)]) (st' := []) (sh' := ab_SH) (D' := ab_dD (ab_wI r1.2 68 0 ((r1.2.1 68 0) + 1))) (fun n => rfl) ?_
    obtain rfl := Option.some.inj hf
    exact ab_Ex.ret (fun n => rfl) rfl
def fX12_moor_L155   : Nat → Int32 → abJ → Option (Int32 × abJ)
  | 0, _, _ => none
  | n + 1, y2, h => if 1034 ≤ y2 then some ((h.1 65 0), h) else ab_ask (y2 < 0 ∨ 1034 ≤ (y2 : Int32).toNatClampNeg) (ab_ask (y2 < 0 ∨ 3102 ≤ (y2 : Int32).toNatClampNeg) (fX12_moor_L155 n ((y2 + 1)) (ab_wI h 65 (y2 : Int32).toNatClampNeg (h.1 68 (y2 : Int32).toNatClampNeg))))
def fX12_moor_J135   (t1 : Int32) (h : abJ) : Option (Int32 × abJ) := if (((ab_wI h 64 14 t1)).1 64 11) = 0 then fX12_moor_L155 ab_N 0 (ab_wI h 64 14 t1) else some (((-30) - (((ab_wI h 64 14 t1)).1 64 11)), (ab_wI h 64 14 t1))
def fX12_moor_J111   (h : abJ) : Option (Int32 × abJ) := if (((ab_wI h 64 13 (h.1 64 11))).1 64 11) = 0 then fX12_moor_J135 ((-1)) (ab_wI h 64 13 (h.1 64 11)) else fX12_moor_J135 ((((ab_wI h 64 13 (h.1 64 11))).1 64 12)) (ab_wI h 64 13 (h.1 64 11))
def fX12_moor_L84   : Nat → abJ → Option (Int32 × abJ)
  | 0, _ => none
  | n + 1, h => if (h.1 64 11) = 0 then if (h.1 64 9) = 24 then fX12_moor_J111 h else (fX12_readLine h).bind (fun r18 => (fX12_closes r18).bind (fun r19 => fX12_moor_L84 n r19)) else fX12_moor_J111 h
def fX12_moor_J66   (h : abJ) : Option (Int32 × abJ) := (fX12_named 1 1 6 h).bind (fun r8 => (fX12_closes (ab_wI r8.2 68 1 r8.1)).bind (fun r9 => fX12_moor_L84 ab_N r9))
def fX12_moor (x0 : Int32) (h : abJ) : Option (Int32 × abJ) := (fX12_within ((x0 : Int32).toInt64) 0 (((((ab_wI h 64 0 0)).1 64 5) : Int32).toInt64) (ab_wI h 64 0 0)).bind (fun r1 => if r1 = 0 then some ((-3), (ab_wI h 64 0 0)) else (fX12_plain 68 (ab_wI (ab_wI (ab_wI (ab_wI (ab_wI h 64 0 0) 64 8 x0) 64 5 0) 64 7 0) 64 11 0)).bind (fun r3 => (fX12_next r3).bind (fun r4 => (fX12_eats 0 r4).bind (fun r5 => if r5.1 = 0 then (fX12_fails 2 r5.2).bind (fun r7 => fX12_moor_J66 r7) else fX12_moor_J66 r5.2))))
set_option maxRecDepth 20000 in
theorem sX12_moor_L155 (d : Nat) (X : abX)   : ∀ (n : Nat), ∀ (y2 : Int32) (h : abJ) (z : (Int32 × abJ)), fX12_moor_L155 n y2 h = some z → ab_Ex X (d + 110) 207 155 [(0, .ref 64), (2, .int y2)] [] ab_SH (ab_dD h) (fun r => r = (some (.int z.1), ab_SH, ab_dD z.2)) := by
  intro n
  induction n with
  | zero => intro y2 h z hf; cases hf
  | succ n ih =>
    intro y2 h z hf
    rw [fX12_moor_L155] at hf
    refine ab_Ex.blk (k := 2) (pc' := 159) (lv' := [(0, .ref 64), (2, .int y2)]) (st' := [.int 1034, .int y2]) (sh' := ab_SH) (D' := ab_dD h) (fun n => rfl) ?_
    refine ab_Ex.ifc (c := 1034 ≤ y2) (SA := (180, [(0, .ref 64), (2, .int y2)], [], ab_dD h)) (SB := (162, [(0, .ref 64), (2, .int y2)], [], ab_dD h)) (fun n => rfl) (fun c14 => ?_) (fun c14 => ?_)
    · replace hf := (if_pos c14).symm.trans hf
      refine ab_Ex.blk (k := 3) (pc' := 185) (lv' := [(0, .ref 64), (2, .int y2)]) (st' := [.int 0, .ref 65]) (sh' := ab_SH) (D' := ab_dD h) (fun n => rfl) ?_
      refine ab_Ex.blk (k := 1) (pc' := 186) (lv' := [(0, .ref 64), (2, .int y2)]) (st' := [.int ((h.1 65 0))]) (sh' := ab_SH) (D' := ab_dD h) (fun n => rfl) ?_
      obtain rfl := Option.some.inj hf
      exact ab_Ex.ret (fun n => rfl) rfl
    · replace hf := (if_neg c14).symm.trans hf
      refine ab_Ex.blk (k := 6) (pc' := 172) (lv' := [(0, .ref 64), (2, .int y2)]) (st' := [.int y2, .ref 68, .int y2, .ref 65]) (sh' := ab_SH) (D' := ab_dD h) (fun n => rfl) ?_
      obtain ⟨c16, hf⟩ := ab_ask_s hf
      refine ab_Ex.grd (c := y2 < 0 ∨ 1034 ≤ (y2 : Int32).toNatClampNeg) (S := (173, [(0, .ref 64), (2, .int y2)], [.int ((h.1 68 (y2 : Int32).toNatClampNeg)), .int y2, .ref 65], ab_dD h)) (fun n => rfl) c16 ?_
      obtain ⟨c17, hf⟩ := ab_ask_s hf
      refine ab_Ex.grd (c := y2 < 0 ∨ 3102 ≤ (y2 : Int32).toNatClampNeg) (S := (174, [(0, .ref 64), (2, .int y2)], [], ab_dD (ab_wI h 65 (y2 : Int32).toNatClampNeg (h.1 68 (y2 : Int32).toNatClampNeg)))) (fun n => rfl) c17 ?_
      refine ab_Ex.blk (k := 2) (pc' := 155) (lv' := [(0, .ref 64), (2, .int ((y2 + 1)))]) (st' := []) (sh' := ab_SH) (D' := ab_dD (ab_wI h 65 (y2 : Int32).toNatClampNeg (h.1 68 (y2 : Int32).toNatClampNeg))) (fun n => rfl) ?_
      exact ih ((y2 + 1)) (ab_wI h 65 (y2 : Int32).toNatClampNeg (h.1 68 (y2 : Int32).toNatClampNeg)) _ hf
set_option maxRecDepth 20000 in
theorem sX12_moor_J135 (d : Nat) (X : abX)   : ∀ (t1 : Int32) (h : abJ) (z : (Int32 × abJ)), fX12_moor_J135 t1 h = some z → ab_Ex X (d + 110) 207 135 [(0, .ref 64)] [.int t1, .ref 64] ab_SH (ab_dD h) (fun r => r = (some (.int z.1), ab_SH, ab_dD z.2)) := by
  intro t1 h z hf
  unfold fX12_moor_J135 at hf
  refine ab_Ex.blk (k := 3) (pc' := 142) (lv' := [(0, .ref 64)]) (st' := [.int ((((ab_wI h 64 14 t1)).1 64 11))]) (sh' := ab_SH) (D' := ab_dD (ab_wI h 64 14 t1)) (fun n => rfl) ?_
  refine ab_Ex.ifc (c := (((ab_wI h 64 14 t1)).1 64 11) = 0) (SA := (153, [(0, .ref 64)], [], ab_dD (ab_wI h 64 14 t1))) (SB := (145, [(0, .ref 64)], [], ab_dD (ab_wI h 64 14 t1))) (fun n => rfl) (fun c13 => ?_) (fun c13 => ?_)
  · replace hf := (if_pos c13).symm.trans hf
    refine ab_Ex.blk (k := 2) (pc' := 155) (lv' := [(0, .ref 64), (2, .int 0)]) (st' := []) (sh' := ab_SH) (D' := ab_dD (ab_wI h 64 14 t1)) (fun n => rfl) ?_
    exact sX12_moor_L155 d X  ab_N 0 (ab_wI h 64 14 t1) _ hf
  · replace hf := (if_neg c13).symm.trans hf
    refine ab_Ex.blk (k := 4) (pc' := 152) (lv' := [(0, .ref 64)]) (st' := [.int (((-30) - (((ab_wI h 64 14 t1)).1 64 11)))]) (sh' := ab_SH) (D' := ab_dD (ab_wI h 64 14 t1)) (fun n => rfl) ?_
    obtain rfl := Option.some.inj hf
    exact ab_Ex.ret (fun n => rfl) rfl
set_option maxRecDepth 20000 in
theorem sX12_moor_J111 (d : Nat) (X : abX)   : ∀ (h : abJ) (z : (Int32 × abJ)), fX12_moor_J111 h = some z → ab_Ex X (d + 110) 207 111 [(0, .ref 64)] [] ab_SH (ab_dD h) (fun r => r = (some (.int z.1), ab_SH, ab_dD z.2)) := by
  intro h z hf
  unfold fX12_moor_J111 at hf
  refine ab_Ex.blk (k := 7) (pc' := 124) (lv' := [(0, .ref 64)]) (st' := [.int ((((ab_wI h 64 13 (h.1 64 11))).1 64 11)), .ref 64]) (sh' := ab_SH) (D' := ab_dD (ab_wI h 64 13 (h.1 64 11))) (fun n => rfl) ?_
  refine ab_Ex.ifc (c := (((ab_wI h 64 13 (h.1 64 11))).1 64 11) = 0) (SA := (127, [(0, .ref 64)], [.ref 64], ab_dD (ab_wI h 64 13 (h.1 64 11)))) (SB := (131, [(0, .ref 64)], [.ref 64], ab_dD (ab_wI h 64 13 (h.1 64 11)))) (fun n => rfl) (fun c12 => ?_) (fun c12 => ?_)
  · replace hf := (if_pos c12).symm.trans hf
    refine ab_Ex.blk (k := 2) (pc' := 135) (lv' := [(0, .ref 64)]) (st' := [.int ((-1)), .ref 64]) (sh' := ab_SH) (D' := ab_dD (ab_wI h 64 13 (h.1 64 11))) (fun n => rfl) ?_
    exact sX12_moor_J135 d X  ((-1)) (ab_wI h 64 13 (h.1 64 11)) _ hf
  · replace hf := (if_neg c12).symm.trans hf
    refine ab_Ex.blk (k := 2) (pc' := 135) (lv' := [(0, .ref 64)]) (st' := [.int ((((ab_wI h 64 13 (h.1 64 11))).1 64 12)), .ref 64]) (sh' := ab_SH) (D' := ab_dD (ab_wI h 64 13 (h.1 64 11))) (fun n => rfl) ?_
    exact sX12_moor_J135 d X  ((((ab_wI h 64 13 (h.1 64 11))).1 64 12)) (ab_wI h 64 13 (h.1 64 11)) _ hf
set_option maxRecDepth 20000 in
theorem sX12_moor_L84 (d : Nat) (X : abX)   : ∀ (n : Nat), ∀ (h : abJ) (z : (Int32 × abJ)), fX12_moor_L84 n h = some z → ab_Ex X (d + 110) 207 84 [(0, .ref 64)] [] ab_SH (ab_dD h) (fun r => r = (some (.int z.1), ab_SH, ab_dD z.2)) := by
  intro n
  induction n with
  | zero => intro h z hf; cases hf
  | succ n ih =>
    intro h z hf
    rw [fX12_moor_L84] at hf
    refine ab_Ex.blk (k := 2) (pc' := 88) (lv' := [(0, .ref 64)]) (st' := [.int ((h.1 64 11))]) (sh' := ab_SH) (D' := ab_dD h) (fun n => rfl) ?_
    refine ab_Ex.ifc (c := (h.1 64 11) = 0) (SA := (91, [(0, .ref 64)], [], ab_dD h)) (SB := (111, [(0, .ref 64)], [], ab_dD h)) (fun n => rfl) (fun c10 => ?_) (fun c10 => ?_)
    · replace hf := (if_pos c10).symm.trans hf
      refine ab_Ex.blk (k := 3) (pc' := 97) (lv' := [(0, .ref 64)]) (st' := [.int 24, .int ((h.1 64 9))]) (sh' := ab_SH) (D' := ab_dD h) (fun n => rfl) ?_
      refine ab_Ex.ifc (c := (h.1 64 9) = 24) (SA := (111, [(0, .ref 64)], [], ab_dD h)) (SB := (100, [(0, .ref 64)], [], ab_dD h)) (fun n => rfl) (fun c11 => ?_) (fun c11 => ?_)
      · replace hf := (if_pos c11).symm.trans hf
        exact sX12_moor_J111 d X  h _ hf
      · replace hf := (if_neg c11).symm.trans hf
        refine ab_Ex.blk (k := 1) (pc' := 101) (lv' := [(0, .ref 64)]) (st' := [.ref 64]) (sh' := ab_SH) (D' := ab_dD h) (fun n => rfl) ?_
        obtain ⟨r18, hr18, hf⟩ := ab_bind_s hf
        refine ab_Ex.call (d := d + 109) (M2 := 205) (as := [.ref 64]) (rest := []) (fun n => rfl) rfl (Nat.not_lt.mpr (Nat.le_of_ble_eq_true rfl)) (sX12_readLine (d) X  h _ hr18) (fun r hr => ?_)
        subst hr
        show ab_Ex X (d + 110) 207 104 [(0, .ref 64)] [] ab_SH (ab_dD r18) _
        refine ab_Ex.blk (k := 1) (pc' := 105) (lv' := [(0, .ref 64)]) (st' := [.ref 64]) (sh' := ab_SH) (D' := ab_dD r18) (fun n => rfl) ?_
        obtain ⟨r19, hr19, hf⟩ := ab_bind_s hf
        refine ab_Ex.call (d := d + 109) (M2 := 206) (as := [.ref 64]) (rest := []) (fun n => rfl) rfl (Nat.not_lt.mpr (Nat.le_of_ble_eq_true rfl)) (sX12_closes (d + 102) X  r18 _ hr19) (fun r hr => ?_)
        subst hr
        show ab_Ex X (d + 110) 207 108 [(0, .ref 64)] [] ab_SH (ab_dD r19) _
        refine ab_Ex.blk (k := 1) (pc' := 84) (lv' := [(0, .ref 64)]) (st' := []) (sh' := ab_SH) (D' := ab_dD r19) (fun n => rfl) ?_
        exact ih r19 _ hf
    · replace hf := (if_neg c10).symm.trans hf
      exact sX12_moor_J111 d X  h _ hf
set_option maxRecDepth 20000 in
theorem sX12_moor_J66 (d : Nat) (X : abX)   : ∀ (h : abJ) (z : (Int32 × abJ)), fX12_moor_J66 h = some z → ab_Ex X (d + 110) 207 66 [(0, .ref 64)] [] ab_SH (ab_dD h) (fun r => r = (some (.int z.1), ab_SH, ab_dD z.2)) := by
  intro h z hf
  unfold fX12_moor_J66 at hf
  refine ab_Ex.blk (k := 7) (pc' := 76) (lv' := [(0, .ref 64)]) (st' := [.int 6, .int 1, .int 1, .ref 64, .int 1, .ref 68]) (sh' := ab_SH) (D' := ab_dD h) (fun n => rfl) ?_
  obtain ⟨r8, hr8, hf⟩ := ab_bind_s hf
  refine ab_Ex.call (d := d + 109) (M2 := 199) (as := [.ref 64, .int 1, .int 1, .int 6]) (rest := [.int 1, .ref 68]) (fun n => rfl) rfl (Nat.not_lt.mpr (Nat.le_of_ble_eq_true rfl)) (sX12_named (d + 102) X 1 1 6 h _ hr8) (fun r hr => ?_)
  subst hr
  show ab_Ex X (d + 110) 207 79 [(0, .ref 64)] [.int r8.1, .int 1, .ref 68] ab_SH (ab_dD r8.2) _
  refine ab_Ex.blk (k := 1) (pc' := 80) (lv' := [(0, .ref 64)]) (st' := []) (sh' := ab_SH) (D' := ab_dD (ab_wI r8.2 68 1 r8.1)) (fun n => rfl) ?_
  refine ab_Ex.blk (k := 1) (pc' := 81) (lv' := [(0, .ref 64)]) (st' := [.ref 64]) (sh' := ab_SH) (D' := ab_dD (ab_wI r8.2 68 1 r8.1)) (fun n => rfl) ?_
  obtain ⟨r9, hr9, hf⟩ := ab_bind_s hf
  refine ab_Ex.call (d := d + 109) (M2 := 206) (as := [.ref 64]) (rest := []) (fun n => rfl) rfl (Nat.not_lt.mpr (Nat.le_of_ble_eq_true rfl)) (sX12_closes (d + 102) X  (ab_wI r8.2 68 1 r8.1) _ hr9) (fun r hr => ?_)
  subst hr
  show ab_Ex X (d + 110) 207 84 [(0, .ref 64)] [] ab_SH (ab_dD r9) _
  exact sX12_moor_L84 d X  ab_N r9 _ hf
set_option maxRecDepth 20000 in
theorem sX12_moor (d : Nat) (X : abX) (x0 : Int32) (h : abJ) (z : (Int32 × abJ)) (hf : fX12_moor x0 h = some z) : ab_Ex X (d + 110) 207 0 [(0, .ref 64), (1, .int x0)] [] ab_SH (ab_dD h) (fun r => r = (some (.int z.1), ab_SH, ab_dD z.2)) := by
  unfold fX12_moor at hf
  refine ab_Ex.blk (k := 9) (pc' := 13) (lv' := [(0, .ref 64), (1, .int x0)]) (st' := [.long (((((ab_wI h 64 0 0)).1 64 5) : Int32).toInt64), .long 0, .long ((x0 : Int32).toInt64)]) (sh' := ab_SH) (D' := ab_dD (ab_wI h 64 0 0)) (fun n => rfl) ?_
  obtain ⟨r1, hr1, hf⟩ := ab_bind_s hf
  refine ab_Ex.call (d := d + 109) (M2 := 175) (as := [.long ((x0 : Int32).toInt64), .long 0, .long (((((ab_wI h 64 0 0)).1 64 5) : Int32).toInt64)]) (rest := []) (fun n => rfl) rfl (Nat.not_lt.mpr (Nat.le_of_ble_eq_true rfl)) (sX12_within (d + 109) X ((x0 : Int32).toInt64) 0 (((((ab_wI h 64 0 0)).1 64 5) : Int32).toInt64) (ab_wI h 64 0 0) _ hr1) (fun r hr => ?_)
  subst hr
  show ab_Ex X (d + 110) 207 16 [(0, .ref 64), (1, .int x0)] [.int r1] ab_SH (ab_dD (ab_wI h 64 0 0)) _
  refine ab_Ex.ifc (c := r1 = 0) (SA := (19, [(0, .ref 64), (1, .int x0)], [], ab_dD (ab_wI h 64 0 0))) (SB := (22, [(0, .ref 64), (1, .int x0)], [], ab_dD (ab_wI h 64 0 0))) (fun n => rfl) (fun c2 => ?_) (fun c2 => ?_)
  · replace hf := (if_pos c2).symm.trans hf
    refine ab_Ex.blk (k := 1) (pc' := 21) (lv' := [(0, .ref 64), (1, .int x0)]) (st' := [.int ((-3))]) (sh' := ab_SH) (D' := ab_dD (ab_wI h 64 0 0)) (fun n => rfl) ?_
    obtain rfl := Option.some.inj hf
    exact ab_Ex.ret (fun n => rfl) rfl
  · replace hf := (if_neg c2).symm.trans hf
    refine ab_Ex.blk (k := 14) (pc' := 46) (lv' := [(0, .ref 64), (1, .int x0)]) (st' := [.ref 68]) (sh' := ab_SH) (D' := ab_dD (ab_wI (ab_wI (ab_wI (ab_wI (ab_wI h 64 0 0) 64 8 x0) 64 5 0) 64 7 0) 64 11 0)) (fun n => rfl) ?_
    obtain ⟨r3, hr3, hf⟩ := ab_bind_s hf
    refine ab_Ex.call (d := d + 109) (M2 := 177) (as := [.ref 68]) (rest := []) (fun n => rfl) rfl (Nat.not_lt.mpr (Nat.le_of_ble_eq_true rfl)) (sX12_plain_68 (d + 109) X  (ab_wI (ab_wI (ab_wI (ab_wI (ab_wI h 64 0 0) 64 8 x0) 64 5 0) 64 7 0) 64 11 0) _ hr3) (fun r hr => ?_)
    subst hr
    show ab_Ex X (d + 110) 207 49 [(0, .ref 64), (1, .int x0)] [] ab_SH (ab_dD r3) _
    refine ab_Ex.blk (k := 1) (pc' := 50) (lv' := [(0, .ref 64), (1, .int x0)]) (st' := [.ref 64]) (sh' := ab_SH) (D' := ab_dD r3) (fun n => rfl) ?_
    obtain ⟨r4, hr4, hf⟩ := ab_bind_s hf
    refine ab_Ex.call (d := d + 109) (M2 := 183) (as := [.ref 64]) (rest := []) (fun n => rfl) rfl (Nat.not_lt.mpr (Nat.le_of_ble_eq_true rfl)) (sX12_next (d + 104) X  r3 _ hr4) (fun r hr => ?_)
    subst hr
    show ab_Ex X (d + 110) 207 53 [(0, .ref 64), (1, .int x0)] [] ab_SH (ab_dD r4) _
    refine ab_Ex.blk (k := 2) (pc' := 55) (lv' := [(0, .ref 64), (1, .int x0)]) (st' := [.int 0, .ref 64]) (sh' := ab_SH) (D' := ab_dD r4) (fun n => rfl) ?_
    obtain ⟨r5, hr5, hf⟩ := ab_bind_s hf
    refine ab_Ex.call (d := d + 109) (M2 := 186) (as := [.ref 64, .int 0]) (rest := []) (fun n => rfl) rfl (Nat.not_lt.mpr (Nat.le_of_ble_eq_true rfl)) (sX12_eats (d + 103) X 0 r4 _ hr5) (fun r hr => ?_)
    subst hr
    show ab_Ex X (d + 110) 207 58 [(0, .ref 64), (1, .int x0)] [.int r5.1] ab_SH (ab_dD r5.2) _
    refine ab_Ex.ifc (c := r5.1 = 0) (SA := (61, [(0, .ref 64), (1, .int x0)], [], ab_dD r5.2)) (SB := (66, [(0, .ref 64), (1, .int x0)], [], ab_dD r5.2)) (fun n => rfl) (fun c6 => ?_) (fun c6 => ?_)
    · replace hf := (if_pos c6).symm.trans hf
      refine ab_Ex.blk (k := 2) (pc' := 63) (lv' := [(0, .ref 64), (1, .int x0)]) (st' := [.int 2, .ref 64]) (sh' := ab_SH) (D' := ab_dD r5.2) (fun n => rfl) ?_
      obtain ⟨r7, hr7, hf⟩ := ab_bind_s hf
      refine ab_Ex.call (d := d + 109) (M2 := 184) (as := [.ref 64, .int 2]) (rest := []) (fun n => rfl) rfl (Nat.not_lt.mpr (Nat.le_of_ble_eq_true rfl)) (sX12_fails (d + 109) X 2 r5.2 _ hr7) (fun r hr => ?_)
      subst hr
      show ab_Ex X (d + 110) 207 66 [(0, .ref 64)] [] ab_SH (ab_dD r7) _
      exact sX12_moor_J66 d X  r7 _ hf
    · replace hf := (if_neg c6).symm.trans hf
      exact sX12_moor_J66 d X  r5.2 _ hf
def fX12_fault (x0 : Int32) (h : abJ) : Option (Int32 × abJ) := if x0 = 0 then some ((((ab_wI h 64 0 0)).1 64 13), (ab_wI h 64 0 0)) else if x0 = 1 then some ((((ab_wI h 64 0 0)).1 64 14), (ab_wI h 64 0 0)) else some ((-1), (ab_wI h 64 0 0))
set_option maxRecDepth 20000 in
theorem sX12_fault (d : Nat) (X : abX) (x0 : Int32) (h : abJ) (z : (Int32 × abJ)) (hf : fX12_fault x0 h = some z) : ab_Ex X (d + 0) 208 0 [(0, .ref 64), (1, .int x0)] [] ab_SH (ab_dD h) (fun r => r = (some (.int z.1), ab_SH, ab_dD z.2)) := by
  unfold fX12_fault at hf
  refine ab_Ex.blk (k := 4) (pc' := 6) (lv' := [(0, .ref 64), (1, .int x0)]) (st' := [.int x0]) (sh' := ab_SH) (D' := ab_dD (ab_wI h 64 0 0)) (fun n => rfl) ?_
  refine ab_Ex.ifc (c := x0 = 0) (SA := (9, [(0, .ref 64), (1, .int x0)], [], ab_dD (ab_wI h 64 0 0))) (SB := (16, [(0, .ref 64), (1, .int x0)], [], ab_dD (ab_wI h 64 0 0))) (fun n => rfl) (fun c1 => ?_) (fun c1 => ?_)
  · replace hf := (if_pos c1).symm.trans hf
    refine ab_Ex.blk (k := 3) (pc' := 29) (lv' := []) (st' := [.int ((((ab_wI h 64 0 0)).1 64 13))]) (sh' := ab_SH) (D' := ab_dD (ab_wI h 64 0 0)) (fun n => rfl) ?_
    obtain rfl := Option.some.inj hf
    exact ab_Ex.ret (fun n => rfl) rfl
  · replace hf := (if_neg c1).symm.trans hf
    refine ab_Ex.blk (k := 2) (pc' := 18) (lv' := [(0, .ref 64), (1, .int x0)]) (st' := [.int 1, .int x0]) (sh' := ab_SH) (D' := ab_dD (ab_wI h 64 0 0)) (fun n => rfl) ?_
    refine ab_Ex.ifc (c := x0 = 1) (SA := (21, [(0, .ref 64), (1, .int x0)], [], ab_dD (ab_wI h 64 0 0))) (SB := (28, [(0, .ref 64), (1, .int x0)], [], ab_dD (ab_wI h 64 0 0))) (fun n => rfl) (fun c2 => ?_) (fun c2 => ?_)
    · replace hf := (if_pos c2).symm.trans hf
      refine ab_Ex.blk (k := 3) (pc' := 29) (lv' := []) (st' := [.int ((((ab_wI h 64 0 0)).1 64 14))]) (sh' := ab_SH) (D' := ab_dD (ab_wI h 64 0 0)) (fun n => rfl) ?_
      obtain rfl := Option.some.inj hf
      exact ab_Ex.ret (fun n => rfl) rfl
    · replace hf := (if_neg c2).symm.trans hf
      refine ab_Ex.blk (k := 1) (pc' := 29) (lv' := []) (st' := [.int ((-1))]) (sh' := ab_SH) (D' := ab_dD (ab_wI h 64 0 0)) (fun n => rfl) ?_
      obtain rfl := Option.some.inj hf
      exact ab_Ex.ret (fun n => rfl) rfl
def fX12_isPost (x0 : Int64) (h : abJ) : Option Int32 := (fX12_within x0 0 ((((h.1 65 1) - 1) : Int32).toInt64) h).bind (fun r1 => ab_ask (¬ (r1 = 0 ∨ r1 = 1)) (some r1))
set_option maxRecDepth 20000 in
theorem sX12_isPost (d : Nat) (X : abX) (x0 : Int64) (h : abJ) (z : Int32) (hf : fX12_isPost x0 h = some z) : ab_Ex X (d + 1) 209 0 [(0, .ref 64), (1, .long x0)] [] ab_SH (ab_dD h) (fun r => r = (some (.int z), ab_SH, ab_dD h)) := by
  unfold fX12_isPost at hf
  refine ab_Ex.blk (k := 5) (pc' := 7) (lv' := [(0, .ref 64), (1, .long x0)]) (st' := [.int 1, .ref 65, .long 0, .long x0]) (sh' := ab_SH) (D' := ab_dD h) (fun n => rfl) ?_
  refine ab_Ex.blk (k := 1) (pc' := 8) (lv' := [(0, .ref 64), (1, .long x0)]) (st' := [.int ((h.1 65 1)), .long 0, .long x0]) (sh' := ab_SH) (D' := ab_dD h) (fun n => rfl) ?_
  refine ab_Ex.blk (k := 3) (pc' := 11) (lv' := [(0, .ref 64), (1, .long x0)]) (st' := [.long ((((h.1 65 1) - 1) : Int32).toInt64), .long 0, .long x0]) (sh' := ab_SH) (D' := ab_dD h) (fun n => rfl) ?_
  obtain ⟨r1, hr1, hf⟩ := ab_bind_s hf
  refine ab_Ex.call (d := d + 0) (M2 := 175) (as := [.long x0, .long 0, .long ((((h.1 65 1) - 1) : Int32).toInt64)]) (rest := []) (fun n => rfl) rfl (Nat.not_lt.mpr (Nat.le_of_ble_eq_true rfl)) (sX12_within (d) X x0 0 ((((h.1 65 1) - 1) : Int32).toInt64) h _ hr1) (fun r hr => ?_)
  subst hr
  show ab_Ex X (d + 1) 209 14 [(0, .ref 64), (1, .long x0)] [.int r1] ab_SH (ab_dD h) _
  obtain ⟨c9, hf⟩ := ab_ask_s hf
  obtain rfl := Option.some.inj hf
  exact ab_Ex.retc (fun n => rfl) (Decidable.not_not.mp c9) rfl
def fX12_isRoad (x0 : Int32) (x1 : Int64) (h : abJ) : Option Int32 := ab_ask ((9 + x0) < 0 ∨ 3102 ≤ ((9 + x0) : Int32).toNatClampNeg) ((fX12_within x1 0 ((((h.1 65 ((9 + x0) : Int32).toNatClampNeg) - 1) : Int32).toInt64) h).bind (fun r3 => ab_ask (¬ (r3 = 0 ∨ r3 = 1)) (some r3)))
set_option maxRecDepth 20000 in
theorem sX12_isRoad (d : Nat) (X : abX) (x0 : Int32) (x1 : Int64) (h : abJ) (z : Int32) (hf : fX12_isRoad x0 x1 h = some z) : ab_Ex X (d + 1) 210 0 [(0, .ref 64), (1, .int x0), (2, .long x1)] [] ab_SH (ab_dD h) (fun r => r = (some (.int z), ab_SH, ab_dD h)) := by
  unfold fX12_isRoad at hf
  refine ab_Ex.blk (k := 7) (pc' := 10) (lv' := [(0, .ref 64), (1, .int x0), (2, .long x1)]) (st' := [.int ((9 + x0)), .ref 65, .long 0, .long x1]) (sh' := ab_SH) (D' := ab_dD h) (fun n => rfl) ?_
  obtain ⟨c2, hf⟩ := ab_ask_s hf
  refine ab_Ex.grd (c := (9 + x0) < 0 ∨ 3102 ≤ ((9 + x0) : Int32).toNatClampNeg) (S := (11, [(0, .ref 64), (1, .int x0), (2, .long x1)], [.int ((h.1 65 ((9 + x0) : Int32).toNatClampNeg)), .long 0, .long x1], ab_dD h)) (fun n => rfl) c2 ?_
  refine ab_Ex.blk (k := 3) (pc' := 14) (lv' := [(0, .ref 64), (1, .int x0), (2, .long x1)]) (st' := [.long ((((h.1 65 ((9 + x0) : Int32).toNatClampNeg) - 1) : Int32).toInt64), .long 0, .long x1]) (sh' := ab_SH) (D' := ab_dD h) (fun n => rfl) ?_
  obtain ⟨r3, hr3, hf⟩ := ab_bind_s hf
  refine ab_Ex.call (d := d + 0) (M2 := 175) (as := [.long x1, .long 0, .long ((((h.1 65 ((9 + x0) : Int32).toNatClampNeg) - 1) : Int32).toInt64)]) (rest := []) (fun n => rfl) rfl (Nat.not_lt.mpr (Nat.le_of_ble_eq_true rfl)) (sX12_within (d) X x1 0 ((((h.1 65 ((9 + x0) : Int32).toNatClampNeg) - 1) : Int32).toInt64) h _ hr3) (fun r hr => ?_)
  subst hr
  show ab_Ex X (d + 1) 210 17 [(0, .ref 64), (1, .int x0), (2, .long x1)] [.int r3] ab_SH (ab_dD h) _
  obtain ⟨c9, hf⟩ := ab_ask_s hf
  obtain rfl := Option.some.inj hf
  exact ab_Ex.retc (fun n => rfl) (Decidable.not_not.mp c9) rfl
def fX12_placeOf_L4  (h : abJ)  : Nat → Int32 → Int32 → Int32 → Option Int32
  | 0, _, _, _ => none
  | n + 1, y0, y1, y2 => if y0 ≤ y2 then some y1 else fX12_placeOf_L4 h n y0 ((y1 * 3)) ((y2 + 1))
def fX12_placeOf (x0 : Int32) (h : abJ) : Option Int32 := fX12_placeOf_L4 h ab_N x0 1 0
set_option maxRecDepth 20000 in
theorem sX12_placeOf_L4 (d : Nat) (X : abX) (h : abJ)   : ∀ (n : Nat), ∀ (y0 : Int32) (y1 : Int32) (y2 : Int32) (z : Int32), fX12_placeOf_L4 h n y0 y1 y2 = some z → ab_Ex X (d + 0) 211 4 [(0, .int y0), (1, .int y1), (2, .int y2)] [] ab_SH (ab_dD h) (fun r => r = (some (.int z), ab_SH, ab_dD h)) := by
  intro n
  induction n with
  | zero => intro y0 y1 y2 z hf; cases hf
  | succ n ih =>
    intro y0 y1 y2 z hf
    rw [fX12_placeOf_L4] at hf
    refine ab_Ex.blk (k := 2) (pc' := 6) (lv' := [(0, .int y0), (1, .int y1), (2, .int y2)]) (st' := [.int y0, .int y2]) (sh' := ab_SH) (D' := ab_dD h) (fun n => rfl) ?_
    refine ab_Ex.ifc (c := y0 ≤ y2) (SA := (19, [(0, .int y0), (1, .int y1), (2, .int y2)], [], ab_dD h)) (SB := (9, [(0, .int y0), (1, .int y1), (2, .int y2)], [], ab_dD h)) (fun n => rfl) (fun c1 => ?_) (fun c1 => ?_)
    · replace hf := (if_pos c1).symm.trans hf
      refine ab_Ex.blk (k := 1) (pc' := 20) (lv' := [(0, .int y0), (1, .int y1), (2, .int y2)]) (st' := [.int y1]) (sh' := ab_SH) (D' := ab_dD h) (fun n => rfl) ?_
      obtain rfl := Option.some.inj hf
      exact ab_Ex.ret (fun n => rfl) rfl
    · replace hf := (if_neg c1).symm.trans hf
      refine ab_Ex.blk (k := 6) (pc' := 4) (lv' := [(0, .int y0), (1, .int ((y1 * 3))), (2, .int ((y2 + 1)))]) (st' := []) (sh' := ab_SH) (D' := ab_dD h) (fun n => rfl) ?_
      exact ih y0 ((y1 * 3)) ((y2 + 1)) _ hf
set_option maxRecDepth 20000 in
theorem sX12_placeOf (d : Nat) (X : abX) (x0 : Int32) (h : abJ) (z : Int32) (hf : fX12_placeOf x0 h = some z) : ab_Ex X (d + 0) 211 0 [(0, .int x0)] [] ab_SH (ab_dD h) (fun r => r = (some (.int z), ab_SH, ab_dD h)) := by
  unfold fX12_placeOf at hf
  refine ab_Ex.blk (k := 4) (pc' := 4) (lv' := [(0, .int x0), (1, .int 1), (2, .int 0)]) (st' := []) (sh' := ab_SH) (D' := ab_dD h) (fun n => rfl) ?_
  exact sX12_placeOf_L4 d X h ab_N x0 1 0 _ hf
def fX12_armIn (x0 : Int32) (x1 : Int32) (h : abJ) : Option Int32 := (fX12_placeOf x1 h).bind (fun r1 => ab_ask (r1 = 0) (some ((x0 / r1) - (x0 / r1) / 3 * 3)))
set_option maxRecDepth 20000 in
theorem sX12_armIn (d : Nat) (X : abX) (x0 : Int32) (x1 : Int32) (h : abJ) (z : Int32) (hf : fX12_armIn x0 x1 h = some z) : ab_Ex X (d + 1) 212 0 [(0, .int x0), (1, .int x1)] [] ab_SH (ab_dD h) (fun r => r = (some (.int z), ab_SH, ab_dD h)) := by
  unfold fX12_armIn at hf
  refine ab_Ex.blk (k := 2) (pc' := 2) (lv' := [(0, .int x0), (1, .int x1)]) (st' := [.int x1, .int x0]) (sh' := ab_SH) (D' := ab_dD h) (fun n => rfl) ?_
  obtain ⟨r1, hr1, hf⟩ := ab_bind_s hf
  refine ab_Ex.call (d := d + 0) (M2 := 211) (as := [.int x1]) (rest := [.int x0]) (fun n => rfl) rfl (Nat.not_lt.mpr (Nat.le_of_ble_eq_true rfl)) (sX12_placeOf (d) X x1 h _ hr1) (fun r hr => ?_)
  subst hr
  show ab_Ex X (d + 1) 212 5 [(0, .int x0), (1, .int x1)] [.int r1, .int x0] ab_SH (ab_dD h) _
  obtain ⟨c2, hf⟩ := ab_ask_s hf
  refine ab_Ex.grd (c := r1 = 0) (S := (6, [(0, .int x0), (1, .int x1)], [.int ((x0 / r1))], ab_dD h)) (fun n => rfl) c2 ?_
  refine ab_Ex.blk (k := 1) (pc' := 7) (lv' := [(0, .int x0), (1, .int x1)]) (st' := [.int 3, .int ((x0 / r1))]) (sh' := ab_SH) (D' := ab_dD h) (fun n => rfl) ?_
  refine ab_Ex.blk (k := 1) (pc' := 8) (lv' := [(0, .int x0), (1, .int x1)]) (st' := [.int (((x0 / r1) - (x0 / r1) / 3 * 3))]) (sh' := ab_SH) (D' := ab_dD h) (fun n => rfl) ?_
  obtain rfl := Option.some.inj hf
  exact ab_Ex.ret (fun n => rfl) rfl
def fX12_withArm (x0 : Int32) (x1 : Int32) (x2 : Int32) (h : abJ) : Option Int32 := (fX12_placeOf x1 h).bind (fun r1 => (fX12_armIn x0 x1 h).bind (fun r2 => some (x0 + (r1 * (x2 - r2)))))
set_option maxRecDepth 20000 in
theorem sX12_withArm (d : Nat) (X : abX) (x0 : Int32) (x1 : Int32) (x2 : Int32) (h : abJ) (z : Int32) (hf : fX12_withArm x0 x1 x2 h = some z) : ab_Ex X (d + 2) 213 0 [(0, .int x0), (1, .int x1), (2, .int x2)] [] ab_SH (ab_dD h) (fun r => r = (some (.int z), ab_SH, ab_dD h)) := by
  unfold fX12_withArm at hf
  refine ab_Ex.blk (k := 2) (pc' := 2) (lv' := [(0, .int x0), (1, .int x1), (2, .int x2)]) (st' := [.int x1, .int x0]) (sh' := ab_SH) (D' := ab_dD h) (fun n => rfl) ?_
  obtain ⟨r1, hr1, hf⟩ := ab_bind_s hf
  refine ab_Ex.call (d := d + 1) (M2 := 211) (as := [.int x1]) (rest := [.int x0]) (fun n => rfl) rfl (Nat.not_lt.mpr (Nat.le_of_ble_eq_true rfl)) (sX12_placeOf (d + 1) X x1 h _ hr1) (fun r hr => ?_)
  subst hr
  show ab_Ex X (d + 2) 213 5 [(0, .int x0), (1, .int x1), (2, .int x2)] [.int r1, .int x0] ab_SH (ab_dD h) _
  refine ab_Ex.blk (k := 3) (pc' := 8) (lv' := [(0, .int x0), (1, .int x1), (2, .int x2)]) (st' := [.int x1, .int x0, .int x2, .int r1, .int x0]) (sh' := ab_SH) (D' := ab_dD h) (fun n => rfl) ?_
  obtain ⟨r2, hr2, hf⟩ := ab_bind_s hf
  refine ab_Ex.call (d := d + 1) (M2 := 212) (as := [.int x0, .int x1]) (rest := [.int x2, .int r1, .int x0]) (fun n => rfl) rfl (Nat.not_lt.mpr (Nat.le_of_ble_eq_true rfl)) (sX12_armIn (d) X x0 x1 h _ hr2) (fun r hr => ?_)
  subst hr
  show ab_Ex X (d + 2) 213 11 [(0, .int x0), (1, .int x1), (2, .int x2)] [.int r2, .int x2, .int r1, .int x0] ab_SH (ab_dD h) _
  refine ab_Ex.blk (k := 3) (pc' := 14) (lv' := [(0, .int x0), (1, .int x1), (2, .int x2)]) (st' := [.int ((x0 + (r1 * (x2 - r2))))]) (sh' := ab_SH) (D' := ab_dD h) (fun n => rfl) ?_
  obtain rfl := Option.some.inj hf
  exact ab_Ex.ret (fun n => rfl) rfl
def fX12_armsNow_L4  (h : abJ)  : Nat → Int32 → Int32 → Option Int32
  | 0, _, _ => none
  | n + 1, y1, y2 => if (h.1 65 1) ≤ y2 then some y1 else (fX12_placeOf y2 h).bind (fun r2 => ab_ask ((34 + y2) < 0 ∨ 3102 ≤ ((34 + y2) : Int32).toNatClampNeg) (fX12_armsNow_L4 h n ((y1 + (r2 * (h.1 65 ((34 + y2) : Int32).toNatClampNeg)))) ((y2 + 1))))
def fX12_armsNow  (h : abJ) : Option Int32 := fX12_armsNow_L4 h ab_N 0 0
set_option maxRecDepth 20000 in
theorem sX12_armsNow_L4 (d : Nat) (X : abX) (h : abJ)   : ∀ (n : Nat), ∀ (y1 : Int32) (y2 : Int32) (z : Int32), fX12_armsNow_L4 h n y1 y2 = some z → ab_Ex X (d + 1) 214 4 [(0, .ref 64), (1, .int y1), (2, .int y2)] [] ab_SH (ab_dD h) (fun r => r = (some (.int z), ab_SH, ab_dD h)) := by
  intro n
  induction n with
  | zero => intro y1 y2 z hf; cases hf
  | succ n ih =>
    intro y1 y2 z hf
    rw [fX12_armsNow_L4] at hf
    refine ab_Ex.blk (k := 4) (pc' := 10) (lv' := [(0, .ref 64), (1, .int y1), (2, .int y2)]) (st' := [.int 1, .ref 65, .int y2]) (sh' := ab_SH) (D' := ab_dD h) (fun n => rfl) ?_
    refine ab_Ex.blk (k := 1) (pc' := 11) (lv' := [(0, .ref 64), (1, .int y1), (2, .int y2)]) (st' := [.int ((h.1 65 1)), .int y2]) (sh' := ab_SH) (D' := ab_dD h) (fun n => rfl) ?_
    refine ab_Ex.ifc (c := (h.1 65 1) ≤ y2) (SA := (37, [(0, .ref 64), (1, .int y1), (2, .int y2)], [], ab_dD h)) (SB := (14, [(0, .ref 64), (1, .int y1), (2, .int y2)], [], ab_dD h)) (fun n => rfl) (fun c1 => ?_) (fun c1 => ?_)
    · replace hf := (if_pos c1).symm.trans hf
      refine ab_Ex.blk (k := 1) (pc' := 38) (lv' := [(0, .ref 64), (1, .int y1), (2, .int y2)]) (st' := [.int y1]) (sh' := ab_SH) (D' := ab_dD h) (fun n => rfl) ?_
      obtain rfl := Option.some.inj hf
      exact ab_Ex.ret (fun n => rfl) rfl
    · replace hf := (if_neg c1).symm.trans hf
      refine ab_Ex.blk (k := 2) (pc' := 16) (lv' := [(0, .ref 64), (1, .int y1), (2, .int y2)]) (st' := [.int y2, .int y1]) (sh' := ab_SH) (D' := ab_dD h) (fun n => rfl) ?_
      obtain ⟨r2, hr2, hf⟩ := ab_bind_s hf
      refine ab_Ex.call (d := d + 0) (M2 := 211) (as := [.int y2]) (rest := [.int y1]) (fun n => rfl) rfl (Nat.not_lt.mpr (Nat.le_of_ble_eq_true rfl)) (sX12_placeOf (d) X y2 h _ hr2) (fun r hr => ?_)
      subst hr
      show ab_Ex X (d + 1) 214 19 [(0, .ref 64), (1, .int y1), (2, .int y2)] [.int r2, .int y1] ab_SH (ab_dD h) _
      refine ab_Ex.blk (k := 5) (pc' := 27) (lv' := [(0, .ref 64), (1, .int y1), (2, .int y2)]) (st' := [.int ((34 + y2)), .ref 65, .int r2, .int y1]) (sh' := ab_SH) (D' := ab_dD h) (fun n => rfl) ?_
      obtain ⟨c4, hf⟩ := ab_ask_s hf
      refine ab_Ex.grd (c := (34 + y2) < 0 ∨ 3102 ≤ ((34 + y2) : Int32).toNatClampNeg) (S := (28, [(0, .ref 64), (1, .int y1), (2, .int y2)], [.int ((h.1 65 ((34 + y2) : Int32).toNatClampNeg)), .int r2, .int y1], ab_dD h)) (fun n => rfl) c4 ?_
      refine ab_Ex.blk (k := 5) (pc' := 4) (lv' := [(0, .ref 64), (1, .int ((y1 + (r2 * (h.1 65 ((34 + y2) : Int32).toNatClampNeg))))), (2, .int ((y2 + 1)))]) (st' := []) (sh' := ab_SH) (D' := ab_dD h) (fun n => rfl) ?_
      exact ih ((y1 + (r2 * (h.1 65 ((34 + y2) : Int32).toNatClampNeg)))) ((y2 + 1)) _ hf
set_option maxRecDepth 20000 in
theorem sX12_armsNow (d : Nat) (X : abX)  (h : abJ) (z : Int32) (hf : fX12_armsNow  h = some z) : ab_Ex X (d + 1) 214 0 [(0, .ref 64)] [] ab_SH (ab_dD h) (fun r => r = (some (.int z), ab_SH, ab_dD h)) := by
  unfold fX12_armsNow at hf
  refine ab_Ex.blk (k := 4) (pc' := 4) (lv' := [(0, .ref 64), (1, .int 0), (2, .int 0)]) (st' := []) (sh' := ab_SH) (D' := ab_dD h) (fun n => rfl) ?_
  exact sX12_armsNow_L4 d X h ab_N 0 0 _ hf
def fX12_standOf (x0 : Int32) (x1 : Int32) (h : abJ) : Option Int32 := some ((6 * x1) + x0)
set_option maxRecDepth 20000 in
theorem sX12_standOf (d : Nat) (X : abX) (x0 : Int32) (x1 : Int32) (h : abJ) (z : Int32) (hf : fX12_standOf x0 x1 h = some z) : ab_Ex X (d + 0) 215 0 [(0, .int x0), (1, .int x1)] [] ab_SH (ab_dD h) (fun r => r = (some (.int z), ab_SH, ab_dD h)) := by
  unfold fX12_standOf at hf
  refine ab_Ex.blk (k := 5) (pc' := 6) (lv' := [(0, .int x0), (1, .int x1)]) (st' := [.int (((6 * x1) + x0))]) (sh' := ab_SH) (D' := ab_dD h) (fun n => rfl) ?_
  obtain rfl := Option.some.inj hf
  exact ab_Ex.ret (fun n => rfl) rfl
def fX12_standNow  (h : abJ) : Option Int32 := (fX12_armsNow h).bind (fun r1 => (fX12_standOf ((h.1 65 33)) r1 h).bind (fun r2 => some r2))
set_option maxRecDepth 20000 in
theorem sX12_standNow (d : Nat) (X : abX)  (h : abJ) (z : Int32) (hf : fX12_standNow  h = some z) : ab_Ex X (d + 2) 216 0 [(0, .ref 64)] [] ab_SH (ab_dD h) (fun r => r = (some (.int z), ab_SH, ab_dD h)) := by
  unfold fX12_standNow at hf
  refine ab_Ex.blk (k := 3) (pc' := 6) (lv' := [(0, .ref 64)]) (st' := [.int 33, .ref 65]) (sh' := ab_SH) (D' := ab_dD h) (fun n => rfl) ?_
  refine ab_Ex.blk (k := 1) (pc' := 7) (lv' := [(0, .ref 64)]) (st' := [.int ((h.1 65 33))]) (sh' := ab_SH) (D' := ab_dD h) (fun n => rfl) ?_
  refine ab_Ex.blk (k := 1) (pc' := 8) (lv' := [(0, .ref 64)]) (st' := [.ref 64, .int ((h.1 65 33))]) (sh' := ab_SH) (D' := ab_dD h) (fun n => rfl) ?_
  obtain ⟨r1, hr1, hf⟩ := ab_bind_s hf
  refine ab_Ex.call (d := d + 1) (M2 := 214) (as := [.ref 64]) (rest := [.int ((h.1 65 33))]) (fun n => rfl) rfl (Nat.not_lt.mpr (Nat.le_of_ble_eq_true rfl)) (sX12_armsNow (d) X  h _ hr1) (fun r hr => ?_)
  subst hr
  show ab_Ex X (d + 2) 216 11 [(0, .ref 64)] [.int r1, .int ((h.1 65 33))] ab_SH (ab_dD h) _
  obtain ⟨r2, hr2, hf⟩ := ab_bind_s hf
  refine ab_Ex.call (d := d + 1) (M2 := 215) (as := [.int ((h.1 65 33)), .int r1]) (rest := []) (fun n => rfl) rfl (Nat.not_lt.mpr (Nat.le_of_ble_eq_true rfl)) (sX12_standOf (d + 1) X ((h.1 65 33)) r1 h _ hr2) (fun r hr => ?_)
  subst hr
  show ab_Ex X (d + 2) 216 14 [(0, .ref 64)] [.int r2] ab_SH (ab_dD h) _
  obtain rfl := Option.some.inj hf
  exact ab_Ex.ret (fun n => rfl) rfl
def fX12_isStand_L13   : Nat → Int32 → Int32 → abJ → Option abJ
  | 0, _, _, _ => none
  | n + 1, y1, y2, h => if (h.1 65 1) ≤ y2 then some h else (fX12_armIn ((y1 / 6)) y2 h).bind (fun r2 => ab_ask ((34 + y2) < 0 ∨ 3102 ≤ ((34 + y2) : Int32).toNatClampNeg) (fX12_isStand_L13 n y1 ((y2 + 1)) (ab_wI h 65 ((34 + y2) : Int32).toNatClampNeg r2)))
def fX12_isStand (x0 : Int32) (h : abJ) : Option abJ := fX12_isStand_L13 ab_N x0 0 (ab_wI h 65 33 (x0 - x0 / 6 * 6))
set_option maxRecDepth 20000 in
theorem sX12_isStand_L13 (d : Nat) (X : abX)   : ∀ (n : Nat), ∀ (y1 : Int32) (y2 : Int32) (h : abJ) (z : abJ), fX12_isStand_L13 n y1 y2 h = some z → ab_Ex X (d + 2) 217 13 [(0, .ref 64), (1, .int y1), (2, .int y2)] [] ab_SH (ab_dD h) (fun r => r = (none, ab_SH, ab_dD z)) := by
  intro n
  induction n with
  | zero => intro y1 y2 h z hf; cases hf
  | succ n ih =>
    intro y1 y2 h z hf
    rw [fX12_isStand_L13] at hf
    refine ab_Ex.blk (k := 4) (pc' := 19) (lv' := [(0, .ref 64), (1, .int y1), (2, .int y2)]) (st' := [.int 1, .ref 65, .int y2]) (sh' := ab_SH) (D' := ab_dD h) (fun n => rfl) ?_
    refine ab_Ex.blk (k := 1) (pc' := 20) (lv' := [(0, .ref 64), (1, .int y1), (2, .int y2)]) (st' := [.int ((h.1 65 1)), .int y2]) (sh' := ab_SH) (D' := ab_dD h) (fun n => rfl) ?_
    refine ab_Ex.ifc (c := (h.1 65 1) ≤ y2) (SA := (46, [(0, .ref 64), (1, .int y1), (2, .int y2)], [], ab_dD h)) (SB := (23, [(0, .ref 64), (1, .int y1), (2, .int y2)], [], ab_dD h)) (fun n => rfl) (fun c1 => ?_) (fun c1 => ?_)
    · replace hf := (if_pos c1).symm.trans hf
      obtain rfl := Option.some.inj hf
      exact ab_Ex.ret (fun n => rfl) rfl
    · replace hf := (if_neg c1).symm.trans hf
      refine ab_Ex.blk (k := 7) (pc' := 34) (lv' := [(0, .ref 64), (1, .int y1), (2, .int y2)]) (st' := [.int 6, .int y1, .int ((34 + y2)), .ref 65]) (sh' := ab_SH) (D' := ab_dD h) (fun n => rfl) ?_
      refine ab_Ex.blk (k := 1) (pc' := 35) (lv' := [(0, .ref 64), (1, .int y1), (2, .int y2)]) (st' := [.int ((y1 / 6)), .int ((34 + y2)), .ref 65]) (sh' := ab_SH) (D' := ab_dD h) (fun n => rfl) ?_
      refine ab_Ex.blk (k := 1) (pc' := 36) (lv' := [(0, .ref 64), (1, .int y1), (2, .int y2)]) (st' := [.int y2, .int ((y1 / 6)), .int ((34 + y2)), .ref 65]) (sh' := ab_SH) (D' := ab_dD h) (fun n => rfl) ?_
      obtain ⟨r2, hr2, hf⟩ := ab_bind_s hf
      refine ab_Ex.call (d := d + 1) (M2 := 212) (as := [.int ((y1 / 6)), .int y2]) (rest := [.int ((34 + y2)), .ref 65]) (fun n => rfl) rfl (Nat.not_lt.mpr (Nat.le_of_ble_eq_true rfl)) (sX12_armIn (d) X ((y1 / 6)) y2 h _ hr2) (fun r hr => ?_)
      subst hr
      show ab_Ex X (d + 2) 217 39 [(0, .ref 64), (1, .int y1), (2, .int y2)] [.int r2, .int ((34 + y2)), .ref 65] ab_SH (ab_dD h) _
      obtain ⟨c3, hf⟩ := ab_ask_s hf
      refine ab_Ex.grd (c := (34 + y2) < 0 ∨ 3102 ≤ ((34 + y2) : Int32).toNatClampNeg) (S := (40, [(0, .ref 64), (1, .int y1), (2, .int y2)], [], ab_dD (ab_wI h 65 ((34 + y2) : Int32).toNatClampNeg r2))) (fun n => rfl) c3 ?_
      refine ab_Ex.blk (k := 2) (pc' := 13) (lv' := [(0, .ref 64), (1, .int y1), (2, .int ((y2 + 1)))]) (st' := []) (sh' := ab_SH) (D' := ab_dD (ab_wI h 65 ((34 + y2) : Int32).toNatClampNeg r2)) (fun n => rfl) ?_
      exact ih y1 ((y2 + 1)) (ab_wI h 65 ((34 + y2) : Int32).toNatClampNeg r2) _ hf
set_option maxRecDepth 20000 in
theorem sX12_isStand (d : Nat) (X : abX) (x0 : Int32) (h : abJ) (z : abJ) (hf : fX12_isStand x0 h = some z) : ab_Ex X (d + 2) 217 0 [(0, .ref 64), (1, .int x0)] [] ab_SH (ab_dD h) (fun r => r = (none, ab_SH, ab_dD z)) := by
  unfold fX12_isStand at hf
  refine ab_Ex.blk (k := 5) (pc' := 9) (lv' := [(0, .ref 64), (1, .int x0)]) (st' := [.int 6, .int x0, .int 33, .ref 65]) (sh' := ab_SH) (D' := ab_dD h) (fun n => rfl) ?_
  refine ab_Ex.blk (k := 1) (pc' := 10) (lv' := [(0, .ref 64), (1, .int x0)]) (st' := [.int ((x0 - x0 / 6 * 6)), .int 33, .ref 65]) (sh' := ab_SH) (D' := ab_dD h) (fun n => rfl) ?_
  refine ab_Ex.blk (k := 1) (pc' := 11) (lv' := [(0, .ref 64), (1, .int x0)]) (st' := []) (sh' := ab_SH) (D' := ab_dD (ab_wI h 65 33 (x0 - x0 / 6 * 6))) (fun n => rfl) ?_
  refine ab_Ex.blk (k := 2) (pc' := 13) (lv' := [(0, .ref 64), (1, .int x0), (2, .int 0)]) (st' := []) (sh' := ab_SH) (D' := ab_dD (ab_wI h 65 33 (x0 - x0 / 6 * 6))) (fun n => rfl) ?_
  exact sX12_isStand_L13 d X  ab_N x0 0 (ab_wI h 65 33 (x0 - x0 / 6 * 6)) _ hf
def fX12_roadOf (x0 : Int32) (x1 : Int32) (h : abJ) : Option Int32 := ab_ask (((15 + (3 * x0)) + x1) < 0 ∨ 3102 ≤ (((15 + (3 * x0)) + x1) : Int32).toNatClampNeg) (some (h.1 65 (((15 + (3 * x0)) + x1) : Int32).toNatClampNeg))
set_option maxRecDepth 20000 in
theorem sX12_roadOf (d : Nat) (X : abX) (x0 : Int32) (x1 : Int32) (h : abJ) (z : Int32) (hf : fX12_roadOf x0 x1 h = some z) : ab_Ex X (d + 0) 218 0 [(0, .ref 64), (1, .int x0), (2, .int x1)] [] ab_SH (ab_dD h) (fun r => r = (some (.int z), ab_SH, ab_dD h)) := by
  unfold fX12_roadOf at hf
  refine ab_Ex.blk (k := 9) (pc' := 12) (lv' := [(0, .ref 64), (1, .int x0), (2, .int x1)]) (st' := [.int (((15 + (3 * x0)) + x1)), .ref 65]) (sh' := ab_SH) (D' := ab_dD h) (fun n => rfl) ?_
  obtain ⟨c2, hf⟩ := ab_ask_s hf
  refine ab_Ex.grd (c := ((15 + (3 * x0)) + x1) < 0 ∨ 3102 ≤ (((15 + (3 * x0)) + x1) : Int32).toNatClampNeg) (S := (13, [(0, .ref 64), (1, .int x0), (2, .int x1)], [.int ((h.1 65 (((15 + (3 * x0)) + x1) : Int32).toNatClampNeg))], ab_dD h)) (fun n => rfl) c2 ?_
  obtain rfl := Option.some.inj hf
  exact ab_Ex.ret (fun n => rfl) rfl
def fX12_areArms_J45  (h : abJ) (k2 : Int32 → Int32 → Option Int32) (y1 : Int32) (y2 : Int32) : Option Int32 := k2 y1 ((y2 + 1))
def fX12_areArms_L2  (h : abJ)  : Nat → Int32 → Int32 → Option Int32
  | 0, _, _ => none
  | n + 1, y1, y2 => if 6 ≤ y2 then some 1 else (fX12_armIn y1 y2 h).bind (fun r2 => if r2 ≤ 0 then fX12_areArms_J45 h (fun y1 y2 => fX12_areArms_L2 h n y1 y2) y1 y2 else if (h.1 65 1) ≤ y2 then some 0 else (fX12_armIn y1 y2 h).bind (fun r5 => ab_ask ((9 + y2) < 0 ∨ 3102 ≤ ((9 + y2) : Int32).toNatClampNeg) (if r5 < (h.1 65 ((9 + y2) : Int32).toNatClampNeg) then fX12_areArms_J45 h (fun y1 y2 => fX12_areArms_L2 h n y1 y2) y1 y2 else some 0)))
def fX12_areArms (x0 : Int32) (h : abJ) : Option Int32 := fX12_areArms_L2 h ab_N x0 0
set_option maxRecDepth 20000 in
theorem sX12_areArms_J45 (d : Nat) (X : abX) (h : abJ) (k2 : Int32 → Int32 → Option Int32) (hk2 : ∀ (y1 : Int32) (y2 : Int32) (z : Int32), k2 y1 y2 = some z → ab_Ex X (d + 2) 219 2 [(0, .ref 64), (1, .int y1), (2, .int y2)] [] ab_SH (ab_dD h) (fun r => r = (some (.int z), ab_SH, ab_dD h))) : ∀ (y1 : Int32) (y2 : Int32) (z : Int32), fX12_areArms_J45 h k2 y1 y2 = some z → ab_Ex X (d + 2) 219 45 [(0, .ref 64), (1, .int y1), (2, .int y2)] [] ab_SH (ab_dD h) (fun r => r = (some (.int z), ab_SH, ab_dD h)) := by
  intro y1 y2 z hf
  unfold fX12_areArms_J45 at hf
  refine ab_Ex.blk (k := 2) (pc' := 2) (lv' := [(0, .ref 64), (1, .int y1), (2, .int ((y2 + 1)))]) (st' := []) (sh' := ab_SH) (D' := ab_dD h) (fun n => rfl) ?_
  exact hk2 y1 ((y2 + 1)) _ hf
set_option maxRecDepth 20000 in
theorem sX12_areArms_L2 (d : Nat) (X : abX) (h : abJ)   : ∀ (n : Nat), ∀ (y1 : Int32) (y2 : Int32) (z : Int32), fX12_areArms_L2 h n y1 y2 = some z → ab_Ex X (d + 2) 219 2 [(0, .ref 64), (1, .int y1), (2, .int y2)] [] ab_SH (ab_dD h) (fun r => r = (some (.int z), ab_SH, ab_dD h)) := by
  intro n
  induction n with
  | zero => intro y1 y2 z hf; cases hf
  | succ n ih =>
    intro y1 y2 z hf
    rw [fX12_areArms_L2] at hf
    refine ab_Ex.blk (k := 2) (pc' := 5) (lv' := [(0, .ref 64), (1, .int y1), (2, .int y2)]) (st' := [.int 6, .int y2]) (sh' := ab_SH) (D' := ab_dD h) (fun n => rfl) ?_
    refine ab_Ex.ifc (c := 6 ≤ y2) (SA := (51, [(0, .ref 64), (1, .int y1), (2, .int y2)], [], ab_dD h)) (SB := (8, [(0, .ref 64), (1, .int y1), (2, .int y2)], [], ab_dD h)) (fun n => rfl) (fun c1 => ?_) (fun c1 => ?_)
    · replace hf := (if_pos c1).symm.trans hf
      refine ab_Ex.blk (k := 1) (pc' := 52) (lv' := [(0, .ref 64), (1, .int y1), (2, .int y2)]) (st' := [.int 1]) (sh' := ab_SH) (D' := ab_dD h) (fun n => rfl) ?_
      obtain rfl := Option.some.inj hf
      exact ab_Ex.ret (fun n => rfl) rfl
    · replace hf := (if_neg c1).symm.trans hf
      refine ab_Ex.blk (k := 2) (pc' := 10) (lv' := [(0, .ref 64), (1, .int y1), (2, .int y2)]) (st' := [.int y2, .int y1]) (sh' := ab_SH) (D' := ab_dD h) (fun n => rfl) ?_
      obtain ⟨r2, hr2, hf⟩ := ab_bind_s hf
      refine ab_Ex.call (d := d + 1) (M2 := 212) (as := [.int y1, .int y2]) (rest := []) (fun n => rfl) rfl (Nat.not_lt.mpr (Nat.le_of_ble_eq_true rfl)) (sX12_armIn (d) X y1 y2 h _ hr2) (fun r hr => ?_)
      subst hr
      show ab_Ex X (d + 2) 219 13 [(0, .ref 64), (1, .int y1), (2, .int y2)] [.int r2] ab_SH (ab_dD h) _
      refine ab_Ex.ifc (c := r2 ≤ 0) (SA := (45, [(0, .ref 64), (1, .int y1), (2, .int y2)], [], ab_dD h)) (SB := (16, [(0, .ref 64), (1, .int y1), (2, .int y2)], [], ab_dD h)) (fun n => rfl) (fun c3 => ?_) (fun c3 => ?_)
      · replace hf := (if_pos c3).symm.trans hf
        exact sX12_areArms_J45 d X h (fun y1 y2 => fX12_areArms_L2 h n y1 y2) (fun y1 y2 z hz => ih y1 y2 z hz) y1 y2 _ hf
      · replace hf := (if_neg c3).symm.trans hf
        refine ab_Ex.blk (k := 4) (pc' := 22) (lv' := [(0, .ref 64), (1, .int y1), (2, .int y2)]) (st' := [.int 1, .ref 65, .int y2]) (sh' := ab_SH) (D' := ab_dD h) (fun n => rfl) ?_
        refine ab_Ex.blk (k := 1) (pc' := 23) (lv' := [(0, .ref 64), (1, .int y1), (2, .int y2)]) (st' := [.int ((h.1 65 1)), .int y2]) (sh' := ab_SH) (D' := ab_dD h) (fun n => rfl) ?_
        refine ab_Ex.ifc (c := (h.1 65 1) ≤ y2) (SA := (43, [(0, .ref 64), (1, .int y1), (2, .int y2)], [], ab_dD h)) (SB := (26, [(0, .ref 64), (1, .int y1), (2, .int y2)], [], ab_dD h)) (fun n => rfl) (fun c4 => ?_) (fun c4 => ?_)
        · replace hf := (if_pos c4).symm.trans hf
          refine ab_Ex.blk (k := 1) (pc' := 44) (lv' := []) (st' := [.int 0]) (sh' := ab_SH) (D' := ab_dD h) (fun n => rfl) ?_
          obtain rfl := Option.some.inj hf
          exact ab_Ex.ret (fun n => rfl) rfl
        · replace hf := (if_neg c4).symm.trans hf
          refine ab_Ex.blk (k := 2) (pc' := 28) (lv' := [(0, .ref 64), (1, .int y1), (2, .int y2)]) (st' := [.int y2, .int y1]) (sh' := ab_SH) (D' := ab_dD h) (fun n => rfl) ?_
          obtain ⟨r5, hr5, hf⟩ := ab_bind_s hf
          refine ab_Ex.call (d := d + 1) (M2 := 212) (as := [.int y1, .int y2]) (rest := []) (fun n => rfl) rfl (Nat.not_lt.mpr (Nat.le_of_ble_eq_true rfl)) (sX12_armIn (d) X y1 y2 h _ hr5) (fun r hr => ?_)
          subst hr
          show ab_Ex X (d + 2) 219 31 [(0, .ref 64), (1, .int y1), (2, .int y2)] [.int r5] ab_SH (ab_dD h) _
          refine ab_Ex.blk (k := 5) (pc' := 39) (lv' := [(0, .ref 64), (1, .int y1), (2, .int y2)]) (st' := [.int ((9 + y2)), .ref 65, .int r5]) (sh' := ab_SH) (D' := ab_dD h) (fun n => rfl) ?_
          obtain ⟨c7, hf⟩ := ab_ask_s hf
          refine ab_Ex.grd (c := (9 + y2) < 0 ∨ 3102 ≤ ((9 + y2) : Int32).toNatClampNeg) (S := (40, [(0, .ref 64), (1, .int y1), (2, .int y2)], [.int ((h.1 65 ((9 + y2) : Int32).toNatClampNeg)), .int r5], ab_dD h)) (fun n => rfl) c7 ?_
          refine ab_Ex.ifc (c := r5 < (h.1 65 ((9 + y2) : Int32).toNatClampNeg)) (SA := (45, [(0, .ref 64), (1, .int y1), (2, .int y2)], [], ab_dD h)) (SB := (43, [(0, .ref 64), (1, .int y1), (2, .int y2)], [], ab_dD h)) (fun n => rfl) (fun c8 => ?_) (fun c8 => ?_)
          · replace hf := (if_pos c8).symm.trans hf
            exact sX12_areArms_J45 d X h (fun y1 y2 => fX12_areArms_L2 h n y1 y2) (fun y1 y2 z hz => ih y1 y2 z hz) y1 y2 _ hf
          · replace hf := (if_neg c8).symm.trans hf
            refine ab_Ex.blk (k := 1) (pc' := 44) (lv' := []) (st' := [.int 0]) (sh' := ab_SH) (D' := ab_dD h) (fun n => rfl) ?_
            obtain rfl := Option.some.inj hf
            exact ab_Ex.ret (fun n => rfl) rfl
set_option maxRecDepth 20000 in
theorem sX12_areArms (d : Nat) (X : abX) (x0 : Int32) (h : abJ) (z : Int32) (hf : fX12_areArms x0 h = some z) : ab_Ex X (d + 2) 219 0 [(0, .ref 64), (1, .int x0)] [] ab_SH (ab_dD h) (fun r => r = (some (.int z), ab_SH, ab_dD h)) := by
  unfold fX12_areArms at hf
  refine ab_Ex.blk (k := 2) (pc' := 2) (lv' := [(0, .ref 64), (1, .int x0), (2, .int 0)]) (st' := []) (sh' := ab_SH) (D' := ab_dD h) (fun n => rfl) ?_
  exact sX12_areArms_L2 d X h ab_N x0 0 _ hf
def fX12_isStand1 (x0 : Int32) (h : abJ) : Option Int32 := if (h.1 65 1) ≤ (x0 - x0 / 6 * 6) then some 0 else (fX12_areArms ((x0 / 6)) h).bind (fun r2 => if r2 = 0 then some 0 else some 1)
set_option maxRecDepth 20000 in
theorem sX12_isStand1 (d : Nat) (X : abX) (x0 : Int32) (h : abJ) (z : Int32) (hf : fX12_isStand1 x0 h = some z) : ab_Ex X (d + 3) 220 0 [(0, .ref 64), (1, .int x0)] [] ab_SH (ab_dD h) (fun r => r = (some (.int z), ab_SH, ab_dD h)) := by
  unfold fX12_isStand1 at hf
  refine ab_Ex.blk (k := 2) (pc' := 3) (lv' := [(0, .ref 64), (1, .int x0)]) (st' := [.int 6, .int x0]) (sh' := ab_SH) (D' := ab_dD h) (fun n => rfl) ?_
  refine ab_Ex.blk (k := 1) (pc' := 4) (lv' := [(0, .ref 64), (1, .int x0)]) (st' := [.int ((x0 - x0 / 6 * 6))]) (sh' := ab_SH) (D' := ab_dD h) (fun n => rfl) ?_
  refine ab_Ex.blk (k := 3) (pc' := 9) (lv' := [(0, .ref 64), (1, .int x0)]) (st' := [.int 1, .ref 65, .int ((x0 - x0 / 6 * 6))]) (sh' := ab_SH) (D' := ab_dD h) (fun n => rfl) ?_
  refine ab_Ex.blk (k := 1) (pc' := 10) (lv' := [(0, .ref 64), (1, .int x0)]) (st' := [.int ((h.1 65 1)), .int ((x0 - x0 / 6 * 6))]) (sh' := ab_SH) (D' := ab_dD h) (fun n => rfl) ?_
  refine ab_Ex.ifc (c := (h.1 65 1) ≤ (x0 - x0 / 6 * 6)) (SA := (28, [(0, .ref 64), (1, .int x0)], [], ab_dD h)) (SB := (13, [(0, .ref 64), (1, .int x0)], [], ab_dD h)) (fun n => rfl) (fun c1 => ?_) (fun c1 => ?_)
  · replace hf := (if_pos c1).symm.trans hf
    refine ab_Ex.blk (k := 1) (pc' := 29) (lv' := []) (st' := [.int 0]) (sh' := ab_SH) (D' := ab_dD h) (fun n => rfl) ?_
    obtain rfl := Option.some.inj hf
    exact ab_Ex.ret (fun n => rfl) rfl
  · replace hf := (if_neg c1).symm.trans hf
    refine ab_Ex.blk (k := 3) (pc' := 17) (lv' := [(0, .ref 64), (1, .int x0)]) (st' := [.int 6, .int x0, .ref 64]) (sh' := ab_SH) (D' := ab_dD h) (fun n => rfl) ?_
    refine ab_Ex.blk (k := 1) (pc' := 18) (lv' := [(0, .ref 64), (1, .int x0)]) (st' := [.int ((x0 / 6)), .ref 64]) (sh' := ab_SH) (D' := ab_dD h) (fun n => rfl) ?_
    obtain ⟨r2, hr2, hf⟩ := ab_bind_s hf
    refine ab_Ex.call (d := d + 2) (M2 := 219) (as := [.ref 64, .int ((x0 / 6))]) (rest := []) (fun n => rfl) rfl (Nat.not_lt.mpr (Nat.le_of_ble_eq_true rfl)) (sX12_areArms (d) X ((x0 / 6)) h _ hr2) (fun r hr => ?_)
    subst hr
    show ab_Ex X (d + 3) 220 21 [(0, .ref 64), (1, .int x0)] [.int r2] ab_SH (ab_dD h) _
    refine ab_Ex.ifc (c := r2 = 0) (SA := (28, [(0, .ref 64), (1, .int x0)], [], ab_dD h)) (SB := (24, [(0, .ref 64), (1, .int x0)], [], ab_dD h)) (fun n => rfl) (fun c3 => ?_) (fun c3 => ?_)
    · replace hf := (if_pos c3).symm.trans hf
      refine ab_Ex.blk (k := 1) (pc' := 29) (lv' := []) (st' := [.int 0]) (sh' := ab_SH) (D' := ab_dD h) (fun n => rfl) ?_
      obtain rfl := Option.some.inj hf
      exact ab_Ex.ret (fun n => rfl) rfl
    · replace hf := (if_neg c3).symm.trans hf
      refine ab_Ex.blk (k := 2) (pc' := 29) (lv' := []) (st' := [.int 1]) (sh' := ab_SH) (D' := ab_dD h) (fun n => rfl) ?_
      obtain rfl := Option.some.inj hf
      exact ab_Ex.ret (fun n => rfl) rfl
def fX12_between_J116  (h : abJ)  (t0 : Int64) : Option Int32 := if (lg_cmp t0 1000000) ≤ 0 then if 0 ≤ (lg_cmp t0 (-1000000)) then some (t0 : Int64).toInt32 else some ((-1000000) : Int64).toInt32 else some (1000000 : Int64).toInt32
def fX12_between (x0 : Int32) (x1 : Int32) (x2 : Int32) (h : abJ) : Option Int32 := if x0 = 3003 then if x1 = x2 then some 1 else some 0 else if x0 = 3004 then if x2 ≤ x1 then some 0 else some 1 else if x0 = 3005 then if x1 ≤ x2 then some 0 else some 1 else if x0 = 3006 then if x0 = 3000 then fX12_between_J116 h (((x1 : Int32).toInt64 + (x2 : Int32).toInt64)) else if x0 = 3001 then fX12_between_J116 h (((x1 : Int32).toInt64 - (x2 : Int32).toInt64)) else fX12_between_J116 h (((x1 : Int32).toInt64 * (x2 : Int32).toInt64)) else if x0 = 3007 then some (x1 &&& x2) else if x0 = 3008 then some (x1 ||| x2) else if x0 = 3000 then fX12_between_J116 h (((x1 : Int32).toInt64 + (x2 : Int32).toInt64)) else if x0 = 3001 then fX12_between_J116 h (((x1 : Int32).toInt64 - (x2 : Int32).toInt64)) else fX12_between_J116 h (((x1 : Int32).toInt64 * (x2 : Int32).toInt64))
set_option maxRecDepth 20000 in
theorem sX12_between_J116 (d : Nat) (X : abX) (h : abJ)   : ∀ (t0 : Int64) (z : Int32), fX12_between_J116 h t0 = some z → ab_Ex X (d + 0) 221 116 [] [.long t0] ab_SH (ab_dD h) (fun r => r = (some (.int z), ab_SH, ab_dD h)) := by
  intro t0 z hf
  unfold fX12_between_J116 at hf
  refine ab_Ex.blk (k := 4) (pc' := 122) (lv' := [(3, .long t0)]) (st' := [.int ((lg_cmp t0 1000000))]) (sh' := ab_SH) (D' := ab_dD h) (fun n => rfl) ?_
  refine ab_Ex.ifc (c := (lg_cmp t0 1000000) ≤ 0) (SA := (131, [(3, .long t0)], [], ab_dD h)) (SB := (125, [(3, .long t0)], [], ab_dD h)) (fun n => rfl) (fun c9 => ?_) (fun c9 => ?_)
  · replace hf := (if_pos c9).symm.trans hf
    refine ab_Ex.blk (k := 3) (pc' := 136) (lv' := [(3, .long t0)]) (st' := [.int ((lg_cmp t0 (-1000000)))]) (sh' := ab_SH) (D' := ab_dD h) (fun n => rfl) ?_
    refine ab_Ex.ifc (c := 0 ≤ (lg_cmp t0 (-1000000))) (SA := (145, [(3, .long t0)], [], ab_dD h)) (SB := (139, [(3, .long t0)], [], ab_dD h)) (fun n => rfl) (fun c10 => ?_) (fun c10 => ?_)
    · replace hf := (if_pos c10).symm.trans hf
      refine ab_Ex.blk (k := 2) (pc' := 147) (lv' := []) (st' := [.int ((t0 : Int64).toInt32)]) (sh' := ab_SH) (D' := ab_dD h) (fun n => rfl) ?_
      obtain rfl := Option.some.inj hf
      exact ab_Ex.ret (fun n => rfl) rfl
    · replace hf := (if_neg c10).symm.trans hf
      refine ab_Ex.blk (k := 3) (pc' := 147) (lv' := []) (st' := [.int (((-1000000) : Int64).toInt32)]) (sh' := ab_SH) (D' := ab_dD h) (fun n => rfl) ?_
      obtain rfl := Option.some.inj hf
      exact ab_Ex.ret (fun n => rfl) rfl
  · replace hf := (if_neg c9).symm.trans hf
    refine ab_Ex.blk (k := 3) (pc' := 147) (lv' := []) (st' := [.int ((1000000 : Int64).toInt32)]) (sh' := ab_SH) (D' := ab_dD h) (fun n => rfl) ?_
    obtain rfl := Option.some.inj hf
    exact ab_Ex.ret (fun n => rfl) rfl
set_option maxRecDepth 20000 in
theorem sX12_between (d : Nat) (X : abX) (x0 : Int32) (x1 : Int32) (x2 : Int32) (h : abJ) (z : Int32) (hf : fX12_between x0 x1 x2 h = some z) : ab_Ex X (d + 0) 221 0 [(0, .int x0), (1, .int x1), (2, .int x2)] [] ab_SH (ab_dD h) (fun r => r = (some (.int z), ab_SH, ab_dD h)) := by
  unfold fX12_between at hf
  refine ab_Ex.blk (k := 1) (pc' := 1) (lv' := [(0, .int x0), (1, .int x1), (2, .int x2)]) (st' := [.int x0]) (sh' := ab_SH) (D' := ab_dD h) (fun n => rfl) ?_
  by_cases c1 : x0 = 3003
  · replace hf := (if_pos c1).symm.trans hf
    refine ab_Ex.blk (k := 1) (pc' := 40) (lv' := [(0, .int x0), (1, .int x1), (2, .int x2)]) (st' := []) (sh' := ab_SH) (D' := ab_dD h) (fun n => by rw [c1]; rfl) ?_
    refine ab_Ex.blk (k := 2) (pc' := 42) (lv' := [(0, .int x0), (1, .int x1), (2, .int x2)]) (st' := [.int x2, .int x1]) (sh' := ab_SH) (D' := ab_dD h) (fun n => rfl) ?_
    refine ab_Ex.ifc (c := x1 = x2) (SA := (45, [(0, .int x0), (1, .int x1), (2, .int x2)], [], ab_dD h)) (SB := (49, [(0, .int x0), (1, .int x1), (2, .int x2)], [], ab_dD h)) (fun n => rfl) (fun c2 => ?_) (fun c2 => ?_)
    · replace hf := (if_pos c2).symm.trans hf
      refine ab_Ex.blk (k := 2) (pc' := 50) (lv' := []) (st' := [.int 1]) (sh' := ab_SH) (D' := ab_dD h) (fun n => rfl) ?_
      obtain rfl := Option.some.inj hf
      exact ab_Ex.ret (fun n => rfl) rfl
    · replace hf := (if_neg c2).symm.trans hf
      refine ab_Ex.blk (k := 1) (pc' := 50) (lv' := []) (st' := [.int 0]) (sh' := ab_SH) (D' := ab_dD h) (fun n => rfl) ?_
      obtain rfl := Option.some.inj hf
      exact ab_Ex.ret (fun n => rfl) rfl
  · replace hf := (if_neg c1).symm.trans hf
    by_cases c3 : x0 = 3004
    · replace hf := (if_pos c3).symm.trans hf
      refine ab_Ex.blk (k := 1) (pc' := 51) (lv' := [(0, .int x0), (1, .int x1), (2, .int x2)]) (st' := []) (sh' := ab_SH) (D' := ab_dD h) (fun n => by rw [c3]; rfl) ?_
      refine ab_Ex.blk (k := 2) (pc' := 53) (lv' := [(0, .int x0), (1, .int x1), (2, .int x2)]) (st' := [.int x2, .int x1]) (sh' := ab_SH) (D' := ab_dD h) (fun n => rfl) ?_
      refine ab_Ex.ifc (c := x2 ≤ x1) (SA := (60, [(0, .int x0), (1, .int x1), (2, .int x2)], [], ab_dD h)) (SB := (56, [(0, .int x0), (1, .int x1), (2, .int x2)], [], ab_dD h)) (fun n => rfl) (fun c4 => ?_) (fun c4 => ?_)
      · replace hf := (if_pos c4).symm.trans hf
        refine ab_Ex.blk (k := 1) (pc' := 61) (lv' := []) (st' := [.int 0]) (sh' := ab_SH) (D' := ab_dD h) (fun n => rfl) ?_
        obtain rfl := Option.some.inj hf
        exact ab_Ex.ret (fun n => rfl) rfl
      · replace hf := (if_neg c4).symm.trans hf
        refine ab_Ex.blk (k := 2) (pc' := 61) (lv' := []) (st' := [.int 1]) (sh' := ab_SH) (D' := ab_dD h) (fun n => rfl) ?_
        obtain rfl := Option.some.inj hf
        exact ab_Ex.ret (fun n => rfl) rfl
    · replace hf := (if_neg c3).symm.trans hf
      by_cases c5 : x0 = 3005
      · replace hf := (if_pos c5).symm.trans hf
        refine ab_Ex.blk (k := 1) (pc' := 62) (lv' := [(0, .int x0), (1, .int x1), (2, .int x2)]) (st' := []) (sh' := ab_SH) (D' := ab_dD h) (fun n => by rw [c5]; rfl) ?_
        refine ab_Ex.blk (k := 2) (pc' := 64) (lv' := [(0, .int x0), (1, .int x1), (2, .int x2)]) (st' := [.int x2, .int x1]) (sh' := ab_SH) (D' := ab_dD h) (fun n => rfl) ?_
        refine ab_Ex.ifc (c := x1 ≤ x2) (SA := (71, [(0, .int x0), (1, .int x1), (2, .int x2)], [], ab_dD h)) (SB := (67, [(0, .int x0), (1, .int x1), (2, .int x2)], [], ab_dD h)) (fun n => rfl) (fun c6 => ?_) (fun c6 => ?_)
        · replace hf := (if_pos c6).symm.trans hf
          refine ab_Ex.blk (k := 1) (pc' := 72) (lv' := []) (st' := [.int 0]) (sh' := ab_SH) (D' := ab_dD h) (fun n => rfl) ?_
          obtain rfl := Option.some.inj hf
          exact ab_Ex.ret (fun n => rfl) rfl
        · replace hf := (if_neg c6).symm.trans hf
          refine ab_Ex.blk (k := 2) (pc' := 72) (lv' := []) (st' := [.int 1]) (sh' := ab_SH) (D' := ab_dD h) (fun n => rfl) ?_
          obtain rfl := Option.some.inj hf
          exact ab_Ex.ret (fun n => rfl) rfl
      · replace hf := (if_neg c5).symm.trans hf
        by_cases c7 : x0 = 3006
        · replace hf := (if_pos c7).symm.trans hf
          refine ab_Ex.blk (k := 1) (pc' := 81) (lv' := [(0, .int x0), (1, .int x1), (2, .int x2)]) (st' := []) (sh' := ab_SH) (D' := ab_dD h) (fun n => by rw [c7]; rfl) ?_
          refine ab_Ex.blk (k := 2) (pc' := 85) (lv' := [(0, .int x0), (1, .int x1), (2, .int x2)]) (st' := [.int 3000, .int x0]) (sh' := ab_SH) (D' := ab_dD h) (fun n => rfl) ?_
          refine ab_Ex.ifc (c := x0 = 3000) (SA := (88, [(0, .int x0), (1, .int x1), (2, .int x2)], [], ab_dD h)) (SB := (96, [(0, .int x0), (1, .int x1), (2, .int x2)], [], ab_dD h)) (fun n => rfl) (fun c8 => ?_) (fun c8 => ?_)
          · replace hf := (if_pos c8).symm.trans hf
            refine ab_Ex.blk (k := 6) (pc' := 116) (lv' := []) (st' := [.long (((x1 : Int32).toInt64 + (x2 : Int32).toInt64))]) (sh' := ab_SH) (D' := ab_dD h) (fun n => rfl) ?_
            exact sX12_between_J116 d X h (((x1 : Int32).toInt64 + (x2 : Int32).toInt64)) _ hf
          · replace hf := (if_neg c8).symm.trans hf
            refine ab_Ex.blk (k := 2) (pc' := 100) (lv' := [(0, .int x0), (1, .int x1), (2, .int x2)]) (st' := [.int 3001, .int x0]) (sh' := ab_SH) (D' := ab_dD h) (fun n => rfl) ?_
            refine ab_Ex.ifc (c := x0 = 3001) (SA := (103, [(0, .int x0), (1, .int x1), (2, .int x2)], [], ab_dD h)) (SB := (111, [(0, .int x0), (1, .int x1), (2, .int x2)], [], ab_dD h)) (fun n => rfl) (fun c11 => ?_) (fun c11 => ?_)
            · replace hf := (if_pos c11).symm.trans hf
              refine ab_Ex.blk (k := 6) (pc' := 116) (lv' := []) (st' := [.long (((x1 : Int32).toInt64 - (x2 : Int32).toInt64))]) (sh' := ab_SH) (D' := ab_dD h) (fun n => rfl) ?_
              exact sX12_between_J116 d X h (((x1 : Int32).toInt64 - (x2 : Int32).toInt64)) _ hf
            · replace hf := (if_neg c11).symm.trans hf
              refine ab_Ex.blk (k := 5) (pc' := 116) (lv' := []) (st' := [.long (((x1 : Int32).toInt64 * (x2 : Int32).toInt64))]) (sh' := ab_SH) (D' := ab_dD h) (fun n => rfl) ?_
              exact sX12_between_J116 d X h (((x1 : Int32).toInt64 * (x2 : Int32).toInt64)) _ hf
        · replace hf := (if_neg c7).symm.trans hf
          by_cases c12 : x0 = 3007
          · replace hf := (if_pos c12).symm.trans hf
            refine ab_Ex.blk (k := 1) (pc' := 73) (lv' := [(0, .int x0), (1, .int x1), (2, .int x2)]) (st' := []) (sh' := ab_SH) (D' := ab_dD h) (fun n => by rw [c12]; rfl) ?_
            refine ab_Ex.blk (k := 3) (pc' := 76) (lv' := [(0, .int x0), (1, .int x1), (2, .int x2)]) (st' := [.int ((x1 &&& x2))]) (sh' := ab_SH) (D' := ab_dD h) (fun n => rfl) ?_
            obtain rfl := Option.some.inj hf
            exact ab_Ex.ret (fun n => rfl) rfl
          · replace hf := (if_neg c12).symm.trans hf
            by_cases c13 : x0 = 3008
            · replace hf := (if_pos c13).symm.trans hf
              refine ab_Ex.blk (k := 1) (pc' := 77) (lv' := [(0, .int x0), (1, .int x1), (2, .int x2)]) (st' := []) (sh' := ab_SH) (D' := ab_dD h) (fun n => by rw [c13]; rfl) ?_
              refine ab_Ex.blk (k := 3) (pc' := 80) (lv' := [(0, .int x0), (1, .int x1), (2, .int x2)]) (st' := [.int ((x1 ||| x2))]) (sh' := ab_SH) (D' := ab_dD h) (fun n => rfl) ?_
              obtain rfl := Option.some.inj hf
              exact ab_Ex.ret (fun n => rfl) rfl
            · replace hf := (if_neg c13).symm.trans hf
              have qc1 := lv_neT c1 (show (3003 : Int32).toInt = 3003 by decide)
              have qc3 := lv_neT c3 (show (3004 : Int32).toInt = 3004 by decide)
              have qc5 := lv_neT c5 (show (3005 : Int32).toInt = 3005 by decide)
              have qc7 := lv_neT c7 (show (3006 : Int32).toInt = 3006 by decide)
              have qc12 := lv_neT c12 (show (3007 : Int32).toInt = 3007 by decide)
              have qc13 := lv_neT c13 (show (3008 : Int32).toInt = 3008 by decide)
              refine ab_Ex.tsw (c := (x0 : Int32).toInt < 3003 ∨ 3008 < (x0 : Int32).toInt) (S := (81, [(0, .int x0), (1, .int x1), (2, .int x2)], [], ab_dD h)) (fun n => rfl) (by omega) ?_
              refine ab_Ex.blk (k := 2) (pc' := 85) (lv' := [(0, .int x0), (1, .int x1), (2, .int x2)]) (st' := [.int 3000, .int x0]) (sh' := ab_SH) (D' := ab_dD h) (fun n => rfl) ?_
              refine ab_Ex.ifc (c := x0 = 3000) (SA := (88, [(0, .int x0), (1, .int x1), (2, .int x2)], [], ab_dD h)) (SB := (96, [(0, .int x0), (1, .int x1), (2, .int x2)], [], ab_dD h)) (fun n => rfl) (fun c14 => ?_) (fun c14 => ?_)
              · replace hf := (if_pos c14).symm.trans hf
                refine ab_Ex.blk (k := 6) (pc' := 116) (lv' := []) (st' := [.long (((x1 : Int32).toInt64 + (x2 : Int32).toInt64))]) (sh' := ab_SH) (D' := ab_dD h) (fun n => rfl) ?_
                exact sX12_between_J116 d X h (((x1 : Int32).toInt64 + (x2 : Int32).toInt64)) _ hf
              · replace hf := (if_neg c14).symm.trans hf
                refine ab_Ex.blk (k := 2) (pc' := 100) (lv' := [(0, .int x0), (1, .int x1), (2, .int x2)]) (st' := [.int 3001, .int x0]) (sh' := ab_SH) (D' := ab_dD h) (fun n => rfl) ?_
                refine ab_Ex.ifc (c := x0 = 3001) (SA := (103, [(0, .int x0), (1, .int x1), (2, .int x2)], [], ab_dD h)) (SB := (111, [(0, .int x0), (1, .int x1), (2, .int x2)], [], ab_dD h)) (fun n => rfl) (fun c15 => ?_) (fun c15 => ?_)
                · replace hf := (if_pos c15).symm.trans hf
                  refine ab_Ex.blk (k := 6) (pc' := 116) (lv' := []) (st' := [.long (((x1 : Int32).toInt64 - (x2 : Int32).toInt64))]) (sh' := ab_SH) (D' := ab_dD h) (fun n => rfl) ?_
                  exact sX12_between_J116 d X h (((x1 : Int32).toInt64 - (x2 : Int32).toInt64)) _ hf
                · replace hf := (if_neg c15).symm.trans hf
                  refine ab_Ex.blk (k := 5) (pc' := 116) (lv' := []) (st' := [.long (((x1 : Int32).toInt64 * (x2 : Int32).toInt64))]) (sh' := ab_SH) (D' := ab_dD h) (fun n => rfl) ?_
                  exact sX12_between_J116 d X h (((x1 : Int32).toInt64 * (x2 : Int32).toInt64)) _ hf
def fX12_reckons_J192  (k4 : Int32 → Int32 → Int32 → abJ → Option (Int32 × abJ)) (y1 : Int32) (y2 : Int32) (y3 : Int32) (h : abJ) : Option (Int32 × abJ) := k4 y1 y2 ((y3 + 1)) h
def fX12_reckons_J158  (k4 : Int32 → Int32 → Int32 → abJ → Option (Int32 × abJ)) (y1 : Int32) (y2 : Int32) (y3 : Int32) (t1 : Int32) (t2 : Int32) (h : abJ) : Option (Int32 × abJ) := ab_ask (t1 < 0 ∨ 900 ≤ (t1 : Int32).toNatClampNeg) (fX12_reckons_J192 k4 y1 y2 y3 (ab_wI h 69 (t1 : Int32).toNatClampNeg t2))
def fX12_reckons_J122  (k4 : Int32 → Int32 → Int32 → abJ → Option (Int32 × abJ)) (y2 : Int32) (y4 : Int32) (y1 : Int32) (y3 : Int32) (h : abJ) : Option (Int32 × abJ) := ab_ask ((y2 - 1) < 0 ∨ 900 ≤ ((y2 - 1) : Int32).toNatClampNeg) (if (h.1 69 ((y2 - 1) : Int32).toNatClampNeg) = 1 then ab_ask (y2 < 0 ∨ 900 ≤ (y2 : Int32).toNatClampNeg) (fX12_reckons_J158 k4 y1 y2 y3 ((y2 - 1)) ((h.1 69 (y2 : Int32).toNatClampNeg)) h) else ab_ask ((y2 + 1) < 0 ∨ 900 ≤ ((y2 + 1) : Int32).toNatClampNeg) (fX12_reckons_J158 k4 y1 y2 y3 ((y2 - 1)) ((h.1 69 ((y2 + 1) : Int32).toNatClampNeg)) h))
def fX12_reckons_J165  (k4 : Int32 → Int32 → Int32 → abJ → Option (Int32 × abJ)) (y2 : Int32) (y4 : Int32) (y1 : Int32) (y3 : Int32) (h : abJ) : Option (Int32 × abJ) := ab_ask ((y2 - 1) < 0 ∨ 900 ≤ ((y2 - 1) : Int32).toNatClampNeg) (ab_ask (y2 < 0 ∨ 900 ≤ (y2 : Int32).toNatClampNeg) ((fX12_between y4 ((h.1 69 ((y2 - 1) : Int32).toNatClampNeg)) ((h.1 69 (y2 : Int32).toNatClampNeg)) h).bind (fun r26 => ab_ask ((y2 - 1) < 0 ∨ 900 ≤ ((y2 - 1) : Int32).toNatClampNeg) (fX12_reckons_J192 k4 y1 y2 y3 (ab_wI h 69 ((y2 - 1) : Int32).toNatClampNeg r26)))))
def fX12_reckons_J75  (k4 : Int32 → Int32 → Int32 → abJ → Option (Int32 × abJ)) (y1 : Int32) (y2 : Int32) (y3 : Int32) (t1 : Int32) (t2 : Int32) (h : abJ) : Option (Int32 × abJ) := ab_ask (t1 < 0 ∨ 900 ≤ (t1 : Int32).toNatClampNeg) (fX12_reckons_J192 k4 y1 ((y2 + 1)) y3 (ab_wI h 69 (t1 : Int32).toNatClampNeg t2))
def fX12_reckons_L4   : Nat → Int32 → Int32 → Int32 → abJ → Option (Int32 × abJ)
  | 0, _, _, _, _ => none
  | n + 1, y1, y2, y3, h => ab_ask ((7 + y1) < 0 ∨ 3102 ≤ ((7 + y1) : Int32).toNatClampNeg) (if (h.1 65 ((7 + y1) : Int32).toNatClampNeg) ≤ y3 then some ((h.1 69 0), h) else ab_ask ((5 + y1) < 0 ∨ 3102 ≤ ((5 + y1) : Int32).toNatClampNeg) (ab_ask (((134 + (h.1 65 ((5 + y1) : Int32).toNatClampNeg)) + y3) < 0 ∨ 3102 ≤ (((134 + (h.1 65 ((5 + y1) : Int32).toNatClampNeg)) + y3) : Int32).toNatClampNeg) (if 3000 ≤ (h.1 65 (((134 + (h.1 65 ((5 + y1) : Int32).toNatClampNeg)) + y3) : Int32).toNatClampNeg) then if (h.1 65 (((134 + (h.1 65 ((5 + y1) : Int32).toNatClampNeg)) + y3) : Int32).toNatClampNeg) = 3006 then ab_ask ((y2 - 1) < 0 ∨ 900 ≤ ((y2 - 1) : Int32).toNatClampNeg) (ab_ask ((y2 - 1) < 0 ∨ 900 ≤ ((y2 - 1) : Int32).toNatClampNeg) (fX12_reckons_J192 (fun y1 y2 y3 h => fX12_reckons_L4 n y1 y2 y3 h) y1 y2 y3 (ab_wI h 69 ((y2 - 1) : Int32).toNatClampNeg (1 - (h.1 69 ((y2 - 1) : Int32).toNatClampNeg))))) else if (h.1 65 (((134 + (h.1 65 ((5 + y1) : Int32).toNatClampNeg)) + y3) : Int32).toNatClampNeg) = 3009 then fX12_reckons_J122 (fun y1 y2 y3 h => fX12_reckons_L4 n y1 y2 y3 h) ((y2 + Int32.ofInt (-2))) ((h.1 65 (((134 + (h.1 65 ((5 + y1) : Int32).toNatClampNeg)) + y3) : Int32).toNatClampNeg)) y1 y3 h else fX12_reckons_J165 (fun y1 y2 y3 h => fX12_reckons_L4 n y1 y2 y3 h) ((y2 + Int32.ofInt (-1))) ((h.1 65 (((134 + (h.1 65 ((5 + y1) : Int32).toNatClampNeg)) + y3) : Int32).toNatClampNeg)) y1 y3 h else if 1000 ≤ (h.1 65 (((134 + (h.1 65 ((5 + y1) : Int32).toNatClampNeg)) + y3) : Int32).toNatClampNeg) then ab_ask (((h.1 65 (((134 + (h.1 65 ((5 + y1) : Int32).toNatClampNeg)) + y3) : Int32).toNatClampNeg) - 1000) < 0 ∨ 4 ≤ (((h.1 65 (((134 + (h.1 65 ((5 + y1) : Int32).toNatClampNeg)) + y3) : Int32).toNatClampNeg) - 1000) : Int32).toNatClampNeg) (fX12_reckons_J75 (fun y1 y2 y3 h => fX12_reckons_L4 n y1 y2 y3 h) y1 y2 y3 y2 ((h.1 70 (((h.1 65 (((134 + (h.1 65 ((5 + y1) : Int32).toNatClampNeg)) + y3) : Int32).toNatClampNeg) - 1000) : Int32).toNatClampNeg)) h) else fX12_reckons_J75 (fun y1 y2 y3 h => fX12_reckons_L4 n y1 y2 y3 h) y1 y2 y3 y2 ((h.1 65 (((134 + (h.1 65 ((5 + y1) : Int32).toNatClampNeg)) + y3) : Int32).toNatClampNeg)) h)))
def fX12_reckons (x0 : Int32) (h : abJ) : Option (Int32 × abJ) := fX12_reckons_L4 ab_N x0 0 0 h
set_option maxRecDepth 20000 in
theorem sX12_reckons_J192 (d : Nat) (X : abX) (k4 : Int32 → Int32 → Int32 → abJ → Option (Int32 × abJ)) (hk4 : ∀ (y1 : Int32) (y2 : Int32) (y3 : Int32) (h : abJ) (z : (Int32 × abJ)), k4 y1 y2 y3 h = some z → ab_Ex X (d + 1) 222 4 [(0, .ref 64), (1, .int y1), (2, .int y2), (3, .int y3)] [] ab_SH (ab_dD h) (fun r => r = (some (.int z.1), ab_SH, ab_dD z.2))) : ∀ (y1 : Int32) (y2 : Int32) (y3 : Int32) (h : abJ) (z : (Int32 × abJ)), fX12_reckons_J192 k4 y1 y2 y3 h = some z → ab_Ex X (d + 1) 222 192 [(0, .ref 64), (1, .int y1), (2, .int y2), (3, .int y3)] [] ab_SH (ab_dD h) (fun r => r = (some (.int z.1), ab_SH, ab_dD z.2)) := by
  intro y1 y2 y3 h z hf
  unfold fX12_reckons_J192 at hf
  refine ab_Ex.blk (k := 2) (pc' := 4) (lv' := [(0, .ref 64), (1, .int y1), (2, .int y2), (3, .int ((y3 + 1)))]) (st' := []) (sh' := ab_SH) (D' := ab_dD h) (fun n => rfl) ?_
  exact hk4 y1 y2 ((y3 + 1)) h _ hf
set_option maxRecDepth 20000 in
theorem sX12_reckons_J158 (d : Nat) (X : abX) (k4 : Int32 → Int32 → Int32 → abJ → Option (Int32 × abJ)) (hk4 : ∀ (y1 : Int32) (y2 : Int32) (y3 : Int32) (h : abJ) (z : (Int32 × abJ)), k4 y1 y2 y3 h = some z → ab_Ex X (d + 1) 222 4 [(0, .ref 64), (1, .int y1), (2, .int y2), (3, .int y3)] [] ab_SH (ab_dD h) (fun r => r = (some (.int z.1), ab_SH, ab_dD z.2))) : ∀ (y1 : Int32) (y2 : Int32) (y3 : Int32) (t1 : Int32) (t2 : Int32) (h : abJ) (z : (Int32 × abJ)), fX12_reckons_J158 k4 y1 y2 y3 t1 t2 h = some z → ab_Ex X (d + 1) 222 158 [(0, .ref 64), (1, .int y1), (2, .int y2), (3, .int y3)] [.int t2, .int t1, .ref 69] ab_SH (ab_dD h) (fun r => r = (some (.int z.1), ab_SH, ab_dD z.2)) := by
  intro y1 y2 y3 t1 t2 h z hf
  unfold fX12_reckons_J158 at hf
  obtain ⟨c19, hf⟩ := ab_ask_s hf
  refine ab_Ex.grd (c := t1 < 0 ∨ 900 ≤ (t1 : Int32).toNatClampNeg) (S := (159, [(0, .ref 64), (1, .int y1), (2, .int y2), (3, .int y3)], [], ab_dD (ab_wI h 69 (t1 : Int32).toNatClampNeg t2))) (fun n => rfl) c19 ?_
  refine ab_Ex.blk (k := 1) (pc' := 192) (lv' := [(0, .ref 64), (1, .int y1), (2, .int y2), (3, .int y3)]) (st' := []) (sh' := ab_SH) (D' := ab_dD (ab_wI h 69 (t1 : Int32).toNatClampNeg t2)) (fun n => rfl) ?_
  exact sX12_reckons_J192 d X k4 hk4 y1 y2 y3 (ab_wI h 69 (t1 : Int32).toNatClampNeg t2) _ hf
set_option maxRecDepth 20000 in
theorem sX12_reckons_J122 (d : Nat) (X : abX) (k4 : Int32 → Int32 → Int32 → abJ → Option (Int32 × abJ)) (hk4 : ∀ (y1 : Int32) (y2 : Int32) (y3 : Int32) (h : abJ) (z : (Int32 × abJ)), k4 y1 y2 y3 h = some z → ab_Ex X (d + 1) 222 4 [(0, .ref 64), (1, .int y1), (2, .int y2), (3, .int y3)] [] ab_SH (ab_dD h) (fun r => r = (some (.int z.1), ab_SH, ab_dD z.2))) : ∀ (y2 : Int32) (y4 : Int32) (y1 : Int32) (y3 : Int32) (h : abJ) (z : (Int32 × abJ)), fX12_reckons_J122 k4 y2 y4 y1 y3 h = some z → ab_Ex X (d + 1) 222 122 [(2, .int y2), (4, .int y4), (0, .ref 64), (1, .int y1), (3, .int y3)] [] ab_SH (ab_dD h) (fun r => r = (some (.int z.1), ab_SH, ab_dD z.2)) := by
  intro y2 y4 y1 y3 h z hf
  unfold fX12_reckons_J122 at hf
  refine ab_Ex.blk (k := 10) (pc' := 136) (lv' := [(2, .int y2), (4, .int y4), (0, .ref 64), (1, .int y1), (3, .int y3)]) (st' := [.int ((y2 - 1)), .ref 69, .int ((y2 - 1)), .ref 69]) (sh' := ab_SH) (D' := ab_dD h) (fun n => rfl) ?_
  obtain ⟨c15, hf⟩ := ab_ask_s hf
  refine ab_Ex.grd (c := (y2 - 1) < 0 ∨ 900 ≤ ((y2 - 1) : Int32).toNatClampNeg) (S := (137, [(2, .int y2), (4, .int y4), (0, .ref 64), (1, .int y1), (3, .int y3)], [.int ((h.1 69 ((y2 - 1) : Int32).toNatClampNeg)), .int ((y2 - 1)), .ref 69], ab_dD h)) (fun n => rfl) c15 ?_
  refine ab_Ex.blk (k := 1) (pc' := 138) (lv' := [(2, .int y2), (4, .int y4), (0, .ref 64), (1, .int y1), (3, .int y3)]) (st' := [.int 1, .int ((h.1 69 ((y2 - 1) : Int32).toNatClampNeg)), .int ((y2 - 1)), .ref 69]) (sh' := ab_SH) (D' := ab_dD h) (fun n => rfl) ?_
  refine ab_Ex.ifc (c := (h.1 69 ((y2 - 1) : Int32).toNatClampNeg) = 1) (SA := (141, [(2, .int y2), (4, .int y4), (0, .ref 64), (1, .int y1), (3, .int y3)], [.int ((y2 - 1)), .ref 69], ab_dD h)) (SB := (150, [(2, .int y2), (4, .int y4), (0, .ref 64), (1, .int y1), (3, .int y3)], [.int ((y2 - 1)), .ref 69], ab_dD h)) (fun n => rfl) (fun c16 => ?_) (fun c16 => ?_)
  · replace hf := (if_pos c16).symm.trans hf
    refine ab_Ex.blk (k := 3) (pc' := 146) (lv' := [(2, .int y2), (4, .int y4), (0, .ref 64), (1, .int y1), (3, .int y3)]) (st' := [.int y2, .ref 69, .int ((y2 - 1)), .ref 69]) (sh' := ab_SH) (D' := ab_dD h) (fun n => rfl) ?_
    obtain ⟨c18, hf⟩ := ab_ask_s hf
    refine ab_Ex.grd (c := y2 < 0 ∨ 900 ≤ (y2 : Int32).toNatClampNeg) (S := (147, [(2, .int y2), (4, .int y4), (0, .ref 64), (1, .int y1), (3, .int y3)], [.int ((h.1 69 (y2 : Int32).toNatClampNeg)), .int ((y2 - 1)), .ref 69], ab_dD h)) (fun n => rfl) c18 ?_
    refine ab_Ex.blk (k := 1) (pc' := 158) (lv' := [(0, .ref 64), (1, .int y1), (2, .int y2), (3, .int y3)]) (st' := [.int ((h.1 69 (y2 : Int32).toNatClampNeg)), .int ((y2 - 1)), .ref 69]) (sh' := ab_SH) (D' := ab_dD h) (fun n => rfl) ?_
    exact sX12_reckons_J158 d X k4 hk4 y1 y2 y3 ((y2 - 1)) ((h.1 69 (y2 : Int32).toNatClampNeg)) h _ hf
  · replace hf := (if_neg c16).symm.trans hf
    refine ab_Ex.blk (k := 5) (pc' := 157) (lv' := [(2, .int y2), (4, .int y4), (0, .ref 64), (1, .int y1), (3, .int y3)]) (st' := [.int ((y2 + 1)), .ref 69, .int ((y2 - 1)), .ref 69]) (sh' := ab_SH) (D' := ab_dD h) (fun n => rfl) ?_
    obtain ⟨c21, hf⟩ := ab_ask_s hf
    refine ab_Ex.grd (c := (y2 + 1) < 0 ∨ 900 ≤ ((y2 + 1) : Int32).toNatClampNeg) (S := (158, [(2, .int y2), (4, .int y4), (0, .ref 64), (1, .int y1), (3, .int y3)], [.int ((h.1 69 ((y2 + 1) : Int32).toNatClampNeg)), .int ((y2 - 1)), .ref 69], ab_dD h)) (fun n => rfl) c21 ?_
    exact sX12_reckons_J158 d X k4 hk4 y1 y2 y3 ((y2 - 1)) ((h.1 69 ((y2 + 1) : Int32).toNatClampNeg)) h _ hf
set_option maxRecDepth 20000 in
theorem sX12_reckons_J165 (d : Nat) (X : abX) (k4 : Int32 → Int32 → Int32 → abJ → Option (Int32 × abJ)) (hk4 : ∀ (y1 : Int32) (y2 : Int32) (y3 : Int32) (h : abJ) (z : (Int32 × abJ)), k4 y1 y2 y3 h = some z → ab_Ex X (d + 1) 222 4 [(0, .ref 64), (1, .int y1), (2, .int y2), (3, .int y3)] [] ab_SH (ab_dD h) (fun r => r = (some (.int z.1), ab_SH, ab_dD z.2))) : ∀ (y2 : Int32) (y4 : Int32) (y1 : Int32) (y3 : Int32) (h : abJ) (z : (Int32 × abJ)), fX12_reckons_J165 k4 y2 y4 y1 y3 h = some z → ab_Ex X (d + 1) 222 165 [(2, .int y2), (4, .int y4), (0, .ref 64), (1, .int y1), (3, .int y3)] [] ab_SH (ab_dD h) (fun r => r = (some (.int z.1), ab_SH, ab_dD z.2)) := by
  intro y2 y4 y1 y3 h z hf
  unfold fX12_reckons_J165 at hf
  refine ab_Ex.blk (k := 11) (pc' := 181) (lv' := [(2, .int y2), (4, .int y4), (0, .ref 64), (1, .int y1), (3, .int y3)]) (st' := [.int ((y2 - 1)), .ref 69, .int y4, .int ((y2 - 1)), .ref 69]) (sh' := ab_SH) (D' := ab_dD h) (fun n => rfl) ?_
  obtain ⟨c23, hf⟩ := ab_ask_s hf
  refine ab_Ex.grd (c := (y2 - 1) < 0 ∨ 900 ≤ ((y2 - 1) : Int32).toNatClampNeg) (S := (182, [(2, .int y2), (4, .int y4), (0, .ref 64), (1, .int y1), (3, .int y3)], [.int ((h.1 69 ((y2 - 1) : Int32).toNatClampNeg)), .int y4, .int ((y2 - 1)), .ref 69], ab_dD h)) (fun n => rfl) c23 ?_
  refine ab_Ex.blk (k := 3) (pc' := 187) (lv' := [(2, .int y2), (4, .int y4), (0, .ref 64), (1, .int y1), (3, .int y3)]) (st' := [.int y2, .ref 69, .int ((h.1 69 ((y2 - 1) : Int32).toNatClampNeg)), .int y4, .int ((y2 - 1)), .ref 69]) (sh' := ab_SH) (D' := ab_dD h) (fun n => rfl) ?_
  obtain ⟨c25, hf⟩ := ab_ask_s hf
  refine ab_Ex.grd (c := y2 < 0 ∨ 900 ≤ (y2 : Int32).toNatClampNeg) (S := (188, [(2, .int y2), (4, .int y4), (0, .ref 64), (1, .int y1), (3, .int y3)], [.int ((h.1 69 (y2 : Int32).toNatClampNeg)), .int ((h.1 69 ((y2 - 1) : Int32).toNatClampNeg)), .int y4, .int ((y2 - 1)), .ref 69], ab_dD h)) (fun n => rfl) c25 ?_
  obtain ⟨r26, hr26, hf⟩ := ab_bind_s hf
  refine ab_Ex.call (d := d + 0) (M2 := 221) (as := [.int y4, .int ((h.1 69 ((y2 - 1) : Int32).toNatClampNeg)), .int ((h.1 69 (y2 : Int32).toNatClampNeg))]) (rest := [.int ((y2 - 1)), .ref 69]) (fun n => rfl) rfl (Nat.not_lt.mpr (Nat.le_of_ble_eq_true rfl)) (sX12_between (d) X y4 ((h.1 69 ((y2 - 1) : Int32).toNatClampNeg)) ((h.1 69 (y2 : Int32).toNatClampNeg)) h _ hr26) (fun r hr => ?_)
  subst hr
  show ab_Ex X (d + 1) 222 191 [(2, .int y2), (4, .int y4), (0, .ref 64), (1, .int y1), (3, .int y3)] [.int r26, .int ((y2 - 1)), .ref 69] ab_SH (ab_dD h) _
  obtain ⟨c27, hf⟩ := ab_ask_s hf
  refine ab_Ex.grd (c := (y2 - 1) < 0 ∨ 900 ≤ ((y2 - 1) : Int32).toNatClampNeg) (S := (192, [(2, .int y2), (4, .int y4), (0, .ref 64), (1, .int y1), (3, .int y3)], [], ab_dD (ab_wI h 69 ((y2 - 1) : Int32).toNatClampNeg r26))) (fun n => rfl) c27 ?_
  exact sX12_reckons_J192 d X k4 hk4 y1 y2 y3 (ab_wI h 69 ((y2 - 1) : Int32).toNatClampNeg r26) _ hf
set_option maxRecDepth 20000 in
theorem sX12_reckons_J75 (d : Nat) (X : abX) (k4 : Int32 → Int32 → Int32 → abJ → Option (Int32 × abJ)) (hk4 : ∀ (y1 : Int32) (y2 : Int32) (y3 : Int32) (h : abJ) (z : (Int32 × abJ)), k4 y1 y2 y3 h = some z → ab_Ex X (d + 1) 222 4 [(0, .ref 64), (1, .int y1), (2, .int y2), (3, .int y3)] [] ab_SH (ab_dD h) (fun r => r = (some (.int z.1), ab_SH, ab_dD z.2))) : ∀ (y1 : Int32) (y2 : Int32) (y3 : Int32) (t1 : Int32) (t2 : Int32) (h : abJ) (z : (Int32 × abJ)), fX12_reckons_J75 k4 y1 y2 y3 t1 t2 h = some z → ab_Ex X (d + 1) 222 75 [(0, .ref 64), (1, .int y1), (2, .int y2), (3, .int y3)] [.int t2, .int t1, .ref 69] ab_SH (ab_dD h) (fun r => r = (some (.int z.1), ab_SH, ab_dD z.2)) := by
  intro y1 y2 y3 t1 t2 h z hf
  unfold fX12_reckons_J75 at hf
  obtain ⟨c31, hf⟩ := ab_ask_s hf
  refine ab_Ex.grd (c := t1 < 0 ∨ 900 ≤ (t1 : Int32).toNatClampNeg) (S := (76, [(0, .ref 64), (1, .int y1), (2, .int y2), (3, .int y3)], [], ab_dD (ab_wI h 69 (t1 : Int32).toNatClampNeg t2))) (fun n => rfl) c31 ?_
  refine ab_Ex.blk (k := 2) (pc' := 192) (lv' := [(0, .ref 64), (1, .int y1), (2, .int ((y2 + 1))), (3, .int y3)]) (st' := []) (sh' := ab_SH) (D' := ab_dD (ab_wI h 69 (t1 : Int32).toNatClampNeg t2)) (fun n => rfl) ?_
  exact sX12_reckons_J192 d X k4 hk4 y1 ((y2 + 1)) y3 (ab_wI h 69 (t1 : Int32).toNatClampNeg t2) _ hf
set_option maxRecDepth 20000 in
theorem sX12_reckons_L4 (d : Nat) (X : abX)   : ∀ (n : Nat), ∀ (y1 : Int32) (y2 : Int32) (y3 : Int32) (h : abJ) (z : (Int32 × abJ)), fX12_reckons_L4 n y1 y2 y3 h = some z → ab_Ex X (d + 1) 222 4 [(0, .ref 64), (1, .int y1), (2, .int y2), (3, .int y3)] [] ab_SH (ab_dD h) (fun r => r = (some (.int z.1), ab_SH, ab_dD z.2)) := by
  intro n
  induction n with
  | zero => intro y1 y2 y3 h z hf; cases hf
  | succ n ih =>
    intro y1 y2 y3 h z hf
    rw [fX12_reckons_L4] at hf
    refine ab_Ex.blk (k := 6) (pc' := 13) (lv' := [(0, .ref 64), (1, .int y1), (2, .int y2), (3, .int y3)]) (st' := [.int ((7 + y1)), .ref 65, .int y3]) (sh' := ab_SH) (D' := ab_dD h) (fun n => rfl) ?_
    obtain ⟨c2, hf⟩ := ab_ask_s hf
    refine ab_Ex.grd (c := (7 + y1) < 0 ∨ 3102 ≤ ((7 + y1) : Int32).toNatClampNeg) (S := (14, [(0, .ref 64), (1, .int y1), (2, .int y2), (3, .int y3)], [.int ((h.1 65 ((7 + y1) : Int32).toNatClampNeg)), .int y3], ab_dD h)) (fun n => rfl) c2 ?_
    refine ab_Ex.ifc (c := (h.1 65 ((7 + y1) : Int32).toNatClampNeg) ≤ y3) (SA := (198, [(0, .ref 64), (1, .int y1), (2, .int y2), (3, .int y3)], [], ab_dD h)) (SB := (17, [(0, .ref 64), (1, .int y1), (2, .int y2), (3, .int y3)], [], ab_dD h)) (fun n => rfl) (fun c3 => ?_) (fun c3 => ?_)
    · replace hf := (if_pos c3).symm.trans hf
      refine ab_Ex.blk (k := 3) (pc' := 203) (lv' := [(0, .ref 64), (1, .int y1), (2, .int y2), (3, .int y3)]) (st' := [.int 0, .ref 69]) (sh' := ab_SH) (D' := ab_dD h) (fun n => rfl) ?_
      refine ab_Ex.blk (k := 1) (pc' := 204) (lv' := [(0, .ref 64), (1, .int y1), (2, .int y2), (3, .int y3)]) (st' := [.int ((h.1 69 0))]) (sh' := ab_SH) (D' := ab_dD h) (fun n => rfl) ?_
      obtain rfl := Option.some.inj hf
      exact ab_Ex.ret (fun n => rfl) rfl
    · replace hf := (if_neg c3).symm.trans hf
      refine ab_Ex.blk (k := 8) (pc' := 31) (lv' := [(0, .ref 64), (1, .int y1), (2, .int y2), (3, .int y3)]) (st' := [.int ((5 + y1)), .ref 65, .int 134, .ref 65]) (sh' := ab_SH) (D' := ab_dD h) (fun n => rfl) ?_
      obtain ⟨c5, hf⟩ := ab_ask_s hf
      refine ab_Ex.grd (c := (5 + y1) < 0 ∨ 3102 ≤ ((5 + y1) : Int32).toNatClampNeg) (S := (32, [(0, .ref 64), (1, .int y1), (2, .int y2), (3, .int y3)], [.int ((h.1 65 ((5 + y1) : Int32).toNatClampNeg)), .int 134, .ref 65], ab_dD h)) (fun n => rfl) c5 ?_
      refine ab_Ex.blk (k := 3) (pc' := 35) (lv' := [(0, .ref 64), (1, .int y1), (2, .int y2), (3, .int y3)]) (st' := [.int (((134 + (h.1 65 ((5 + y1) : Int32).toNatClampNeg)) + y3)), .ref 65]) (sh' := ab_SH) (D' := ab_dD h) (fun n => rfl) ?_
      obtain ⟨c7, hf⟩ := ab_ask_s hf
      refine ab_Ex.grd (c := ((134 + (h.1 65 ((5 + y1) : Int32).toNatClampNeg)) + y3) < 0 ∨ 3102 ≤ (((134 + (h.1 65 ((5 + y1) : Int32).toNatClampNeg)) + y3) : Int32).toNatClampNeg) (S := (36, [(0, .ref 64), (1, .int y1), (2, .int y2), (3, .int y3)], [.int ((h.1 65 (((134 + (h.1 65 ((5 + y1) : Int32).toNatClampNeg)) + y3) : Int32).toNatClampNeg))], ab_dD h)) (fun n => rfl) c7 ?_
      refine ab_Ex.blk (k := 3) (pc' := 43) (lv' := [(4, .int ((h.1 65 (((134 + (h.1 65 ((5 + y1) : Int32).toNatClampNeg)) + y3) : Int32).toNatClampNeg))), (0, .ref 64), (1, .int y1), (2, .int y2), (3, .int y3)]) (st' := [.int 3000, .int ((h.1 65 (((134 + (h.1 65 ((5 + y1) : Int32).toNatClampNeg)) + y3) : Int32).toNatClampNeg))]) (sh' := ab_SH) (D' := ab_dD h) (fun n => rfl) ?_
      refine ab_Ex.ifc (c := 3000 ≤ (h.1 65 (((134 + (h.1 65 ((5 + y1) : Int32).toNatClampNeg)) + y3) : Int32).toNatClampNeg)) (SA := (82, [(4, .int ((h.1 65 (((134 + (h.1 65 ((5 + y1) : Int32).toNatClampNeg)) + y3) : Int32).toNatClampNeg))), (0, .ref 64), (1, .int y1), (2, .int y2), (3, .int y3)], [], ab_dD h)) (SB := (46, [(4, .int ((h.1 65 (((134 + (h.1 65 ((5 + y1) : Int32).toNatClampNeg)) + y3) : Int32).toNatClampNeg))), (0, .ref 64), (1, .int y1), (2, .int y2), (3, .int y3)], [], ab_dD h)) (fun n => rfl) (fun c8 => ?_) (fun c8 => ?_)
      · replace hf := (if_pos c8).symm.trans hf
        refine ab_Ex.blk (k := 2) (pc' := 87) (lv' := [(4, .int ((h.1 65 (((134 + (h.1 65 ((5 + y1) : Int32).toNatClampNeg)) + y3) : Int32).toNatClampNeg))), (0, .ref 64), (1, .int y1), (2, .int y2), (3, .int y3)]) (st' := [.int 3006, .int ((h.1 65 (((134 + (h.1 65 ((5 + y1) : Int32).toNatClampNeg)) + y3) : Int32).toNatClampNeg))]) (sh' := ab_SH) (D' := ab_dD h) (fun n => rfl) ?_
        refine ab_Ex.ifc (c := (h.1 65 (((134 + (h.1 65 ((5 + y1) : Int32).toNatClampNeg)) + y3) : Int32).toNatClampNeg) = 3006) (SA := (90, [(4, .int ((h.1 65 (((134 + (h.1 65 ((5 + y1) : Int32).toNatClampNeg)) + y3) : Int32).toNatClampNeg))), (0, .ref 64), (1, .int y1), (2, .int y2), (3, .int y3)], [], ab_dD h)) (SB := (111, [(4, .int ((h.1 65 (((134 + (h.1 65 ((5 + y1) : Int32).toNatClampNeg)) + y3) : Int32).toNatClampNeg))), (0, .ref 64), (1, .int y1), (2, .int y2), (3, .int y3)], [], ab_dD h)) (fun n => rfl) (fun c9 => ?_) (fun c9 => ?_)
        · replace hf := (if_pos c9).symm.trans hf
          refine ab_Ex.blk (k := 11) (pc' := 105) (lv' := [(4, .int ((h.1 65 (((134 + (h.1 65 ((5 + y1) : Int32).toNatClampNeg)) + y3) : Int32).toNatClampNeg))), (0, .ref 64), (1, .int y1), (2, .int y2), (3, .int y3)]) (st' := [.int ((y2 - 1)), .ref 69, .int 1, .int ((y2 - 1)), .ref 69]) (sh' := ab_SH) (D' := ab_dD h) (fun n => rfl) ?_
          obtain ⟨c11, hf⟩ := ab_ask_s hf
          refine ab_Ex.grd (c := (y2 - 1) < 0 ∨ 900 ≤ ((y2 - 1) : Int32).toNatClampNeg) (S := (106, [(4, .int ((h.1 65 (((134 + (h.1 65 ((5 + y1) : Int32).toNatClampNeg)) + y3) : Int32).toNatClampNeg))), (0, .ref 64), (1, .int y1), (2, .int y2), (3, .int y3)], [.int ((h.1 69 ((y2 - 1) : Int32).toNatClampNeg)), .int 1, .int ((y2 - 1)), .ref 69], ab_dD h)) (fun n => rfl) c11 ?_
          refine ab_Ex.blk (k := 1) (pc' := 107) (lv' := [(4, .int ((h.1 65 (((134 + (h.1 65 ((5 + y1) : Int32).toNatClampNeg)) + y3) : Int32).toNatClampNeg))), (0, .ref 64), (1, .int y1), (2, .int y2), (3, .int y3)]) (st' := [.int ((1 - (h.1 69 ((y2 - 1) : Int32).toNatClampNeg))), .int ((y2 - 1)), .ref 69]) (sh' := ab_SH) (D' := ab_dD h) (fun n => rfl) ?_
          obtain ⟨c12, hf⟩ := ab_ask_s hf
          refine ab_Ex.grd (c := (y2 - 1) < 0 ∨ 900 ≤ ((y2 - 1) : Int32).toNatClampNeg) (S := (108, [(4, .int ((h.1 65 (((134 + (h.1 65 ((5 + y1) : Int32).toNatClampNeg)) + y3) : Int32).toNatClampNeg))), (0, .ref 64), (1, .int y1), (2, .int y2), (3, .int y3)], [], ab_dD (ab_wI h 69 ((y2 - 1) : Int32).toNatClampNeg (1 - (h.1 69 ((y2 - 1) : Int32).toNatClampNeg))))) (fun n => rfl) c12 ?_
          refine ab_Ex.blk (k := 1) (pc' := 192) (lv' := [(0, .ref 64), (1, .int y1), (2, .int y2), (3, .int y3)]) (st' := []) (sh' := ab_SH) (D' := ab_dD (ab_wI h 69 ((y2 - 1) : Int32).toNatClampNeg (1 - (h.1 69 ((y2 - 1) : Int32).toNatClampNeg)))) (fun n => rfl) ?_
          exact sX12_reckons_J192 d X (fun y1 y2 y3 h => fX12_reckons_L4 n y1 y2 y3 h) (fun y1 y2 y3 h z hz => ih y1 y2 y3 h z hz) y1 y2 y3 (ab_wI h 69 ((y2 - 1) : Int32).toNatClampNeg (1 - (h.1 69 ((y2 - 1) : Int32).toNatClampNeg))) _ hf
        · replace hf := (if_neg c9).symm.trans hf
          refine ab_Ex.blk (k := 2) (pc' := 116) (lv' := [(4, .int ((h.1 65 (((134 + (h.1 65 ((5 + y1) : Int32).toNatClampNeg)) + y3) : Int32).toNatClampNeg))), (0, .ref 64), (1, .int y1), (2, .int y2), (3, .int y3)]) (st' := [.int 3009, .int ((h.1 65 (((134 + (h.1 65 ((5 + y1) : Int32).toNatClampNeg)) + y3) : Int32).toNatClampNeg))]) (sh' := ab_SH) (D' := ab_dD h) (fun n => rfl) ?_
          refine ab_Ex.ifc (c := (h.1 65 (((134 + (h.1 65 ((5 + y1) : Int32).toNatClampNeg)) + y3) : Int32).toNatClampNeg) = 3009) (SA := (119, [(4, .int ((h.1 65 (((134 + (h.1 65 ((5 + y1) : Int32).toNatClampNeg)) + y3) : Int32).toNatClampNeg))), (0, .ref 64), (1, .int y1), (2, .int y2), (3, .int y3)], [], ab_dD h)) (SB := (162, [(4, .int ((h.1 65 (((134 + (h.1 65 ((5 + y1) : Int32).toNatClampNeg)) + y3) : Int32).toNatClampNeg))), (0, .ref 64), (1, .int y1), (2, .int y2), (3, .int y3)], [], ab_dD h)) (fun n => rfl) (fun c13 => ?_) (fun c13 => ?_)
          · replace hf := (if_pos c13).symm.trans hf
            refine ab_Ex.blk (k := 1) (pc' := 122) (lv' := [(2, .int ((y2 + Int32.ofInt (-2)))), (4, .int ((h.1 65 (((134 + (h.1 65 ((5 + y1) : Int32).toNatClampNeg)) + y3) : Int32).toNatClampNeg))), (0, .ref 64), (1, .int y1), (3, .int y3)]) (st' := []) (sh' := ab_SH) (D' := ab_dD h) (fun n => rfl) ?_
            exact sX12_reckons_J122 d X (fun y1 y2 y3 h => fX12_reckons_L4 n y1 y2 y3 h) (fun y1 y2 y3 h z hz => ih y1 y2 y3 h z hz) ((y2 + Int32.ofInt (-2))) ((h.1 65 (((134 + (h.1 65 ((5 + y1) : Int32).toNatClampNeg)) + y3) : Int32).toNatClampNeg)) y1 y3 h _ hf
          · replace hf := (if_neg c13).symm.trans hf
            refine ab_Ex.blk (k := 1) (pc' := 165) (lv' := [(2, .int ((y2 + Int32.ofInt (-1)))), (4, .int ((h.1 65 (((134 + (h.1 65 ((5 + y1) : Int32).toNatClampNeg)) + y3) : Int32).toNatClampNeg))), (0, .ref 64), (1, .int y1), (3, .int y3)]) (st' := []) (sh' := ab_SH) (D' := ab_dD h) (fun n => rfl) ?_
            exact sX12_reckons_J165 d X (fun y1 y2 y3 h => fX12_reckons_L4 n y1 y2 y3 h) (fun y1 y2 y3 h z hz => ih y1 y2 y3 h z hz) ((y2 + Int32.ofInt (-1))) ((h.1 65 (((134 + (h.1 65 ((5 + y1) : Int32).toNatClampNeg)) + y3) : Int32).toNatClampNeg)) y1 y3 h _ hf
      · replace hf := (if_neg c8).symm.trans hf
        refine ab_Ex.blk (k := 5) (pc' := 56) (lv' := [(4, .int ((h.1 65 (((134 + (h.1 65 ((5 + y1) : Int32).toNatClampNeg)) + y3) : Int32).toNatClampNeg))), (0, .ref 64), (1, .int y1), (2, .int y2), (3, .int y3)]) (st' := [.int 1000, .int ((h.1 65 (((134 + (h.1 65 ((5 + y1) : Int32).toNatClampNeg)) + y3) : Int32).toNatClampNeg)), .int y2, .ref 69]) (sh' := ab_SH) (D' := ab_dD h) (fun n => rfl) ?_
        refine ab_Ex.ifc (c := 1000 ≤ (h.1 65 (((134 + (h.1 65 ((5 + y1) : Int32).toNatClampNeg)) + y3) : Int32).toNatClampNeg)) (SA := (64, [(4, .int ((h.1 65 (((134 + (h.1 65 ((5 + y1) : Int32).toNatClampNeg)) + y3) : Int32).toNatClampNeg))), (0, .ref 64), (1, .int y1), (2, .int y2), (3, .int y3)], [.int y2, .ref 69], ab_dD h)) (SB := (59, [(4, .int ((h.1 65 (((134 + (h.1 65 ((5 + y1) : Int32).toNatClampNeg)) + y3) : Int32).toNatClampNeg))), (0, .ref 64), (1, .int y1), (2, .int y2), (3, .int y3)], [.int y2, .ref 69], ab_dD h)) (fun n => rfl) (fun c28 => ?_) (fun c28 => ?_)
        · replace hf := (if_pos c28).symm.trans hf
          refine ab_Ex.blk (k := 5) (pc' := 74) (lv' := [(4, .int ((h.1 65 (((134 + (h.1 65 ((5 + y1) : Int32).toNatClampNeg)) + y3) : Int32).toNatClampNeg))), (0, .ref 64), (1, .int y1), (2, .int y2), (3, .int y3)]) (st' := [.int (((h.1 65 (((134 + (h.1 65 ((5 + y1) : Int32).toNatClampNeg)) + y3) : Int32).toNatClampNeg) - 1000)), .ref 70, .int y2, .ref 69]) (sh' := ab_SH) (D' := ab_dD h) (fun n => rfl) ?_
          obtain ⟨c30, hf⟩ := ab_ask_s hf
          refine ab_Ex.grd (c := ((h.1 65 (((134 + (h.1 65 ((5 + y1) : Int32).toNatClampNeg)) + y3) : Int32).toNatClampNeg) - 1000) < 0 ∨ 4 ≤ (((h.1 65 (((134 + (h.1 65 ((5 + y1) : Int32).toNatClampNeg)) + y3) : Int32).toNatClampNeg) - 1000) : Int32).toNatClampNeg) (S := (75, [(4, .int ((h.1 65 (((134 + (h.1 65 ((5 + y1) : Int32).toNatClampNeg)) + y3) : Int32).toNatClampNeg))), (0, .ref 64), (1, .int y1), (2, .int y2), (3, .int y3)], [.int ((h.1 70 (((h.1 65 (((134 + (h.1 65 ((5 + y1) : Int32).toNatClampNeg)) + y3) : Int32).toNatClampNeg) - 1000) : Int32).toNatClampNeg)), .int y2, .ref 69], ab_dD h)) (fun n => rfl) c30 ?_
          exact sX12_reckons_J75 d X (fun y1 y2 y3 h => fX12_reckons_L4 n y1 y2 y3 h) (fun y1 y2 y3 h z hz => ih y1 y2 y3 h z hz) y1 y2 y3 y2 ((h.1 70 (((h.1 65 (((134 + (h.1 65 ((5 + y1) : Int32).toNatClampNeg)) + y3) : Int32).toNatClampNeg) - 1000) : Int32).toNatClampNeg)) h _ hf
        · replace hf := (if_neg c28).symm.trans hf
          refine ab_Ex.blk (k := 2) (pc' := 75) (lv' := [(0, .ref 64), (1, .int y1), (2, .int y2), (3, .int y3)]) (st' := [.int ((h.1 65 (((134 + (h.1 65 ((5 + y1) : Int32).toNatClampNeg)) + y3) : Int32).toNatClampNeg)), .int y2, .ref 69]) (sh' := ab_SH) (D' := ab_dD h) (fun n => rfl) ?_
          exact sX12_reckons_J75 d X (fun y1 y2 y3 h => fX12_reckons_L4 n y1 y2 y3 h) (fun y1 y2 y3 h z hz => ih y1 y2 y3 h z hz) y1 y2 y3 y2 ((h.1 65 (((134 + (h.1 65 ((5 + y1) : Int32).toNatClampNeg)) + y3) : Int32).toNatClampNeg)) h _ hf
set_option maxRecDepth 20000 in
theorem sX12_reckons (d : Nat) (X : abX) (x0 : Int32) (h : abJ) (z : (Int32 × abJ)) (hf : fX12_reckons x0 h = some z) : ab_Ex X (d + 1) 222 0 [(0, .ref 64), (1, .int x0)] [] ab_SH (ab_dD h) (fun r => r = (some (.int z.1), ab_SH, ab_dD z.2)) := by
  unfold fX12_reckons at hf
  refine ab_Ex.blk (k := 4) (pc' := 4) (lv' := [(0, .ref 64), (1, .int x0), (2, .int 0), (3, .int 0)]) (st' := []) (sh' := ab_SH) (D' := ab_dD h) (fun n => rfl) ?_
  exact sX12_reckons_L4 d X  ab_N x0 0 0 h _ hf
def fX12_isRest (x0 : Int32) (h : abJ) : Option Int32 := (fX12_isIn (((h.1 65 2) : Int32).toInt64) x0 h).bind (fun r1 => if r1 = 0 then ab_ask ((9 + x0) < 0 ∨ 3102 ≤ ((9 + x0) : Int32).toNatClampNeg) (if (h.1 65 ((9 + x0) : Int32).toNatClampNeg) = 0 then some 1 else some 0) else some 1)
set_option maxRecDepth 20000 in
theorem sX12_isRest (d : Nat) (X : abX) (x0 : Int32) (h : abJ) (z : Int32) (hf : fX12_isRest x0 h = some z) : ab_Ex X (d + 1) 223 0 [(0, .ref 64), (1, .int x0)] [] ab_SH (ab_dD h) (fun r => r = (some (.int z), ab_SH, ab_dD h)) := by
  unfold fX12_isRest at hf
  refine ab_Ex.blk (k := 3) (pc' := 5) (lv' := [(0, .ref 64), (1, .int x0)]) (st' := [.int 2, .ref 65]) (sh' := ab_SH) (D' := ab_dD h) (fun n => rfl) ?_
  refine ab_Ex.blk (k := 1) (pc' := 6) (lv' := [(0, .ref 64), (1, .int x0)]) (st' := [.int ((h.1 65 2))]) (sh' := ab_SH) (D' := ab_dD h) (fun n => rfl) ?_
  refine ab_Ex.blk (k := 2) (pc' := 8) (lv' := [(0, .ref 64), (1, .int x0)]) (st' := [.int x0, .long (((h.1 65 2) : Int32).toInt64)]) (sh' := ab_SH) (D' := ab_dD h) (fun n => rfl) ?_
  obtain ⟨r1, hr1, hf⟩ := ab_bind_s hf
  refine ab_Ex.call (d := d + 0) (M2 := 188) (as := [.long (((h.1 65 2) : Int32).toInt64), .int x0]) (rest := []) (fun n => rfl) rfl (Nat.not_lt.mpr (Nat.le_of_ble_eq_true rfl)) (sX12_isIn (d) X (((h.1 65 2) : Int32).toInt64) x0 h _ hr1) (fun r hr => ?_)
  subst hr
  show ab_Ex X (d + 1) 223 11 [(0, .ref 64), (1, .int x0)] [.int r1] ab_SH (ab_dD h) _
  refine ab_Ex.ifc (c := r1 = 0) (SA := (14, [(0, .ref 64), (1, .int x0)], [], ab_dD h)) (SB := (26, [(0, .ref 64), (1, .int x0)], [], ab_dD h)) (fun n => rfl) (fun c2 => ?_) (fun c2 => ?_)
  · replace hf := (if_pos c2).symm.trans hf
    refine ab_Ex.blk (k := 5) (pc' := 22) (lv' := [(0, .ref 64), (1, .int x0)]) (st' := [.int ((9 + x0)), .ref 65]) (sh' := ab_SH) (D' := ab_dD h) (fun n => rfl) ?_
    obtain ⟨c4, hf⟩ := ab_ask_s hf
    refine ab_Ex.grd (c := (9 + x0) < 0 ∨ 3102 ≤ ((9 + x0) : Int32).toNatClampNeg) (S := (23, [(0, .ref 64), (1, .int x0)], [.int ((h.1 65 ((9 + x0) : Int32).toNatClampNeg))], ab_dD h)) (fun n => rfl) c4 ?_
    refine ab_Ex.ifc (c := (h.1 65 ((9 + x0) : Int32).toNatClampNeg) = 0) (SA := (26, [(0, .ref 64), (1, .int x0)], [], ab_dD h)) (SB := (30, [(0, .ref 64), (1, .int x0)], [], ab_dD h)) (fun n => rfl) (fun c5 => ?_) (fun c5 => ?_)
    · replace hf := (if_pos c5).symm.trans hf
      refine ab_Ex.blk (k := 2) (pc' := 31) (lv' := []) (st' := [.int 1]) (sh' := ab_SH) (D' := ab_dD h) (fun n => rfl) ?_
      obtain rfl := Option.some.inj hf
      exact ab_Ex.ret (fun n => rfl) rfl
    · replace hf := (if_neg c5).symm.trans hf
      refine ab_Ex.blk (k := 1) (pc' := 31) (lv' := []) (st' := [.int 0]) (sh' := ab_SH) (D' := ab_dD h) (fun n => rfl) ?_
      obtain rfl := Option.some.inj hf
      exact ab_Ex.ret (fun n => rfl) rfl
  · replace hf := (if_neg c2).symm.trans hf
    refine ab_Ex.blk (k := 2) (pc' := 31) (lv' := []) (st' := [.int 1]) (sh' := ab_SH) (D' := ab_dD h) (fun n => rfl) ?_
    obtain rfl := Option.some.inj hf
    exact ab_Ex.ret (fun n => rfl) rfl
def fX12_stepTo_J105   (y3 : Int32) (y4 : Int32) (y5 : Int32) (y6 : Int32) (t0 : Int32) (h : abJ) : Option (Int32 × abJ) := ab_ask (y5 = 0) (ab_ask (y5 = 0) (if y6 = 0 then (fX12_roadOf y3 ((h.1 70 1)) h).bind (fun r12 => (fX12_withArm y4 y3 (((((h.1 70 1) + (t0 - t0 / y5 * y5)) + y5) - (((h.1 70 1) + (t0 - t0 / y5 * y5)) + y5) / y5 * y5)) h).bind (fun r13 => (fX12_standOf r12 r13 h).bind (fun r14 => some (r14, h)))) else (fX12_withArm y4 y3 (((((h.1 70 1) + (t0 - t0 / y5 * y5)) + y5) - (((h.1 70 1) + (t0 - t0 / y5 * y5)) + y5) / y5 * y5)) h).bind (fun r15 => (fX12_standOf y3 r15 h).bind (fun r16 => some (r16, h)))))
def fX12_stepTo_J96   (y3 : Int32) (y4 : Int32) (y5 : Int32) (y6 : Int32) (h : abJ) : Option (Int32 × abJ) := fX12_stepTo_J105 y3 y4 y5 y6 1 h
def fX12_stepTo_J80   (y3 : Int32) (y4 : Int32) (y5 : Int32) (t0 : Int32) (h : abJ) : Option (Int32 × abJ) := if t0 = 0 then if (h.1 65 3) = 0 then fX12_stepTo_J96 y3 y4 y5 t0 h else (fX12_reckons 0 h).bind (fun r17 => fX12_stepTo_J105 y3 y4 y5 t0 r17.1 r17.2) else fX12_stepTo_J96 y3 y4 y5 t0 h
def fX12_stepTo_J79   (y3 : Int32) (y4 : Int32) (y5 : Int32) (h : abJ) : Option (Int32 × abJ) := fX12_stepTo_J80 y3 y4 y5 0 h
def fX12_stepTo (x0 : Int32) (x1 : Int32) (h : abJ) : Option (Int32 × abJ) := ab_ask ((9 + (x0 - x0 / 6 * 6)) < 0 ∨ 3102 ≤ ((9 + (x0 - x0 / 6 * 6)) : Int32).toNatClampNeg) ((fX12_armIn ((x0 / 6)) ((x0 - x0 / 6 * 6)) (ab_wI h 70 0 (x0 - x0 / 6 * 6))).bind (fun r3 => if ((ab_wI (ab_wI (ab_wI (ab_wI h 70 0 (x0 - x0 / 6 * 6)) 70 1 r3) 70 2 (h.1 65 ((9 + (x0 - x0 / 6 * 6)) : Int32).toNatClampNeg)) 70 3 x1).1 65 4) = 1 then (fX12_reckons 1 (ab_wI (ab_wI (ab_wI (ab_wI h 70 0 (x0 - x0 / 6 * 6)) 70 1 r3) 70 2 (h.1 65 ((9 + (x0 - x0 / 6 * 6)) : Int32).toNatClampNeg)) 70 3 x1)).bind (fun r5 => if r5.1 = 1 then fX12_stepTo_J80 ((x0 - x0 / 6 * 6)) ((x0 / 6)) ((h.1 65 ((9 + (x0 - x0 / 6 * 6)) : Int32).toNatClampNeg)) 1 r5.2 else fX12_stepTo_J79 ((x0 - x0 / 6 * 6)) ((x0 / 6)) ((h.1 65 ((9 + (x0 - x0 / 6 * 6)) : Int32).toNatClampNeg)) r5.2) else fX12_stepTo_J79 ((x0 - x0 / 6 * 6)) ((x0 / 6)) ((h.1 65 ((9 + (x0 - x0 / 6 * 6)) : Int32).toNatClampNeg)) (ab_wI (ab_wI (ab_wI (ab_wI h 70 0 (x0 - x0 / 6 * 6)) 70 1 r3) 70 2 (h.1 65 ((9 + (x0 - x0 / 6 * 6)) : Int32).toNatClampNeg)) 70 3 x1)))
set_option maxRecDepth 20000 in
theorem sX12_stepTo_J105 (d : Nat) (X : abX)   : ∀ (y3 : Int32) (y4 : Int32) (y5 : Int32) (y6 : Int32) (t0 : Int32) (h : abJ) (z : (Int32 × abJ)), fX12_stepTo_J105 y3 y4 y5 y6 t0 h = some z → ab_Ex X (d + 3) 224 105 [(0, .ref 64), (3, .int y3), (4, .int y4), (5, .int y5), (6, .int y6)] [.int t0] ab_SH (ab_dD h) (fun r => r = (some (.int z.1), ab_SH, ab_dD z.2)) := by
  intro y3 y4 y5 y6 t0 h z hf
  unfold fX12_stepTo_J105 at hf
  refine ab_Ex.blk (k := 4) (pc' := 112) (lv' := [(7, .int t0), (0, .ref 64), (3, .int y3), (4, .int y4), (5, .int y5), (6, .int y6)]) (st' := [.int 1, .ref 70]) (sh' := ab_SH) (D' := ab_dD h) (fun n => rfl) ?_
  refine ab_Ex.blk (k := 1) (pc' := 113) (lv' := [(7, .int t0), (0, .ref 64), (3, .int y3), (4, .int y4), (5, .int y5), (6, .int y6)]) (st' := [.int ((h.1 70 1))]) (sh' := ab_SH) (D' := ab_dD h) (fun n => rfl) ?_
  refine ab_Ex.blk (k := 2) (pc' := 117) (lv' := [(7, .int t0), (0, .ref 64), (3, .int y3), (4, .int y4), (5, .int y5), (6, .int y6)]) (st' := [.int y5, .int t0, .int ((h.1 70 1))]) (sh' := ab_SH) (D' := ab_dD h) (fun n => rfl) ?_
  obtain ⟨c9, hf⟩ := ab_ask_s hf
  refine ab_Ex.grd (c := y5 = 0) (S := (118, [(7, .int t0), (0, .ref 64), (3, .int y3), (4, .int y4), (5, .int y5), (6, .int y6)], [.int ((t0 - t0 / y5 * y5)), .int ((h.1 70 1))], ab_dD h)) (fun n => rfl) c9 ?_
  refine ab_Ex.blk (k := 4) (pc' := 124) (lv' := [(7, .int t0), (0, .ref 64), (3, .int y3), (4, .int y4), (5, .int y5), (6, .int y6)]) (st' := [.int y5, .int ((((h.1 70 1) + (t0 - t0 / y5 * y5)) + y5))]) (sh' := ab_SH) (D' := ab_dD h) (fun n => rfl) ?_
  obtain ⟨c10, hf⟩ := ab_ask_s hf
  refine ab_Ex.grd (c := y5 = 0) (S := (125, [(7, .int t0), (0, .ref 64), (3, .int y3), (4, .int y4), (5, .int y5), (6, .int y6)], [.int (((((h.1 70 1) + (t0 - t0 / y5 * y5)) + y5) - (((h.1 70 1) + (t0 - t0 / y5 * y5)) + y5) / y5 * y5))], ab_dD h)) (fun n => rfl) c10 ?_
  refine ab_Ex.blk (k := 2) (pc' := 129) (lv' := [(8, .int (((((h.1 70 1) + (t0 - t0 / y5 * y5)) + y5) - (((h.1 70 1) + (t0 - t0 / y5 * y5)) + y5) / y5 * y5))), (7, .int t0), (0, .ref 64), (3, .int y3), (4, .int y4), (5, .int y5), (6, .int y6)]) (st' := [.int y6]) (sh' := ab_SH) (D' := ab_dD h) (fun n => rfl) ?_
  refine ab_Ex.ifc (c := y6 = 0) (SA := (136, [(8, .int (((((h.1 70 1) + (t0 - t0 / y5 * y5)) + y5) - (((h.1 70 1) + (t0 - t0 / y5 * y5)) + y5) / y5 * y5))), (7, .int t0), (0, .ref 64), (3, .int y3), (4, .int y4), (5, .int y5), (6, .int y6)], [], ab_dD h)) (SB := (132, [(8, .int (((((h.1 70 1) + (t0 - t0 / y5 * y5)) + y5) - (((h.1 70 1) + (t0 - t0 / y5 * y5)) + y5) / y5 * y5))), (7, .int t0), (0, .ref 64), (3, .int y3), (4, .int y4), (5, .int y5), (6, .int y6)], [], ab_dD h)) (fun n => rfl) (fun c11 => ?_) (fun c11 => ?_)
  · replace hf := (if_pos c11).symm.trans hf
    refine ab_Ex.blk (k := 5) (pc' := 143) (lv' := [(8, .int (((((h.1 70 1) + (t0 - t0 / y5 * y5)) + y5) - (((h.1 70 1) + (t0 - t0 / y5 * y5)) + y5) / y5 * y5))), (7, .int t0), (0, .ref 64), (3, .int y3), (4, .int y4), (5, .int y5), (6, .int y6)]) (st' := [.int 1, .ref 70, .int y3, .ref 64]) (sh' := ab_SH) (D' := ab_dD h) (fun n => rfl) ?_
    refine ab_Ex.blk (k := 1) (pc' := 144) (lv' := [(8, .int (((((h.1 70 1) + (t0 - t0 / y5 * y5)) + y5) - (((h.1 70 1) + (t0 - t0 / y5 * y5)) + y5) / y5 * y5))), (7, .int t0), (0, .ref 64), (3, .int y3), (4, .int y4), (5, .int y5), (6, .int y6)]) (st' := [.int ((h.1 70 1)), .int y3, .ref 64]) (sh' := ab_SH) (D' := ab_dD h) (fun n => rfl) ?_
    obtain ⟨r12, hr12, hf⟩ := ab_bind_s hf
    refine ab_Ex.call (d := d + 2) (M2 := 218) (as := [.ref 64, .int y3, .int ((h.1 70 1))]) (rest := []) (fun n => rfl) rfl (Nat.not_lt.mpr (Nat.le_of_ble_eq_true rfl)) (sX12_roadOf (d + 2) X y3 ((h.1 70 1)) h _ hr12) (fun r hr => ?_)
    subst hr
    show ab_Ex X (d + 3) 224 147 [(3, .int y3), (4, .int y4), (8, .int (((((h.1 70 1) + (t0 - t0 / y5 * y5)) + y5) - (((h.1 70 1) + (t0 - t0 / y5 * y5)) + y5) / y5 * y5)))] [.int r12] ab_SH (ab_dD h) _
    refine ab_Ex.blk (k := 3) (pc' := 152) (lv' := [(3, .int y3), (4, .int y4), (8, .int (((((h.1 70 1) + (t0 - t0 / y5 * y5)) + y5) - (((h.1 70 1) + (t0 - t0 / y5 * y5)) + y5) / y5 * y5)))]) (st' := [.int (((((h.1 70 1) + (t0 - t0 / y5 * y5)) + y5) - (((h.1 70 1) + (t0 - t0 / y5 * y5)) + y5) / y5 * y5)), .int y3, .int y4, .int r12]) (sh' := ab_SH) (D' := ab_dD h) (fun n => rfl) ?_
    obtain ⟨r13, hr13, hf⟩ := ab_bind_s hf
    refine ab_Ex.call (d := d + 2) (M2 := 213) (as := [.int y4, .int y3, .int (((((h.1 70 1) + (t0 - t0 / y5 * y5)) + y5) - (((h.1 70 1) + (t0 - t0 / y5 * y5)) + y5) / y5 * y5))]) (rest := [.int r12]) (fun n => rfl) rfl (Nat.not_lt.mpr (Nat.le_of_ble_eq_true rfl)) (sX12_withArm (d) X y4 y3 (((((h.1 70 1) + (t0 - t0 / y5 * y5)) + y5) - (((h.1 70 1) + (t0 - t0 / y5 * y5)) + y5) / y5 * y5)) h _ hr13) (fun r hr => ?_)
    subst hr
    show ab_Ex X (d + 3) 224 155 [(3, .int y3), (4, .int y4), (8, .int (((((h.1 70 1) + (t0 - t0 / y5 * y5)) + y5) - (((h.1 70 1) + (t0 - t0 / y5 * y5)) + y5) / y5 * y5)))] [.int r13, .int r12] ab_SH (ab_dD h) _
    obtain ⟨r14, hr14, hf⟩ := ab_bind_s hf
    refine ab_Ex.call (d := d + 2) (M2 := 215) (as := [.int r12, .int r13]) (rest := []) (fun n => rfl) rfl (Nat.not_lt.mpr (Nat.le_of_ble_eq_true rfl)) (sX12_standOf (d + 2) X r12 r13 h _ hr14) (fun r hr => ?_)
    subst hr
    show ab_Ex X (d + 3) 224 158 [(3, .int y3), (4, .int y4), (8, .int (((((h.1 70 1) + (t0 - t0 / y5 * y5)) + y5) - (((h.1 70 1) + (t0 - t0 / y5 * y5)) + y5) / y5 * y5)))] [.int r14] ab_SH (ab_dD h) _
    obtain rfl := Option.some.inj hf
    exact ab_Ex.ret (fun n => rfl) rfl
  · replace hf := (if_neg c11).symm.trans hf
    refine ab_Ex.blk (k := 5) (pc' := 152) (lv' := [(3, .int y3), (4, .int y4), (8, .int (((((h.1 70 1) + (t0 - t0 / y5 * y5)) + y5) - (((h.1 70 1) + (t0 - t0 / y5 * y5)) + y5) / y5 * y5)))]) (st' := [.int (((((h.1 70 1) + (t0 - t0 / y5 * y5)) + y5) - (((h.1 70 1) + (t0 - t0 / y5 * y5)) + y5) / y5 * y5)), .int y3, .int y4, .int y3]) (sh' := ab_SH) (D' := ab_dD h) (fun n => rfl) ?_
    obtain ⟨r15, hr15, hf⟩ := ab_bind_s hf
    refine ab_Ex.call (d := d + 2) (M2 := 213) (as := [.int y4, .int y3, .int (((((h.1 70 1) + (t0 - t0 / y5 * y5)) + y5) - (((h.1 70 1) + (t0 - t0 / y5 * y5)) + y5) / y5 * y5))]) (rest := [.int y3]) (fun n => rfl) rfl (Nat.not_lt.mpr (Nat.le_of_ble_eq_true rfl)) (sX12_withArm (d) X y4 y3 (((((h.1 70 1) + (t0 - t0 / y5 * y5)) + y5) - (((h.1 70 1) + (t0 - t0 / y5 * y5)) + y5) / y5 * y5)) h _ hr15) (fun r hr => ?_)
    subst hr
    show ab_Ex X (d + 3) 224 155 [(3, .int y3), (4, .int y4), (8, .int (((((h.1 70 1) + (t0 - t0 / y5 * y5)) + y5) - (((h.1 70 1) + (t0 - t0 / y5 * y5)) + y5) / y5 * y5)))] [.int r15, .int y3] ab_SH (ab_dD h) _
    obtain ⟨r16, hr16, hf⟩ := ab_bind_s hf
    refine ab_Ex.call (d := d + 2) (M2 := 215) (as := [.int y3, .int r15]) (rest := []) (fun n => rfl) rfl (Nat.not_lt.mpr (Nat.le_of_ble_eq_true rfl)) (sX12_standOf (d + 2) X y3 r15 h _ hr16) (fun r hr => ?_)
    subst hr
    show ab_Ex X (d + 3) 224 158 [(3, .int y3), (4, .int y4), (8, .int (((((h.1 70 1) + (t0 - t0 / y5 * y5)) + y5) - (((h.1 70 1) + (t0 - t0 / y5 * y5)) + y5) / y5 * y5)))] [.int r16] ab_SH (ab_dD h) _
    obtain rfl := Option.some.inj hf
    exact ab_Ex.ret (fun n => rfl) rfl
set_option maxRecDepth 20000 in
theorem sX12_stepTo_J96 (d : Nat) (X : abX)   : ∀ (y3 : Int32) (y4 : Int32) (y5 : Int32) (y6 : Int32) (h : abJ) (z : (Int32 × abJ)), fX12_stepTo_J96 y3 y4 y5 y6 h = some z → ab_Ex X (d + 3) 224 96 [(0, .ref 64), (3, .int y3), (4, .int y4), (5, .int y5), (6, .int y6)] [] ab_SH (ab_dD h) (fun r => r = (some (.int z.1), ab_SH, ab_dD z.2)) := by
  intro y3 y4 y5 y6 h z hf
  unfold fX12_stepTo_J96 at hf
  refine ab_Ex.blk (k := 2) (pc' := 105) (lv' := [(0, .ref 64), (3, .int y3), (4, .int y4), (5, .int y5), (6, .int y6)]) (st' := [.int 1]) (sh' := ab_SH) (D' := ab_dD h) (fun n => rfl) ?_
  exact sX12_stepTo_J105 d X  y3 y4 y5 y6 1 h _ hf
set_option maxRecDepth 20000 in
theorem sX12_stepTo_J80 (d : Nat) (X : abX)   : ∀ (y3 : Int32) (y4 : Int32) (y5 : Int32) (t0 : Int32) (h : abJ) (z : (Int32 × abJ)), fX12_stepTo_J80 y3 y4 y5 t0 h = some z → ab_Ex X (d + 3) 224 80 [(0, .ref 64), (3, .int y3), (4, .int y4), (5, .int y5)] [.int t0] ab_SH (ab_dD h) (fun r => r = (some (.int z.1), ab_SH, ab_dD z.2)) := by
  intro y3 y4 y5 t0 h z hf
  unfold fX12_stepTo_J80 at hf
  refine ab_Ex.blk (k := 2) (pc' := 84) (lv' := [(6, .int t0), (0, .ref 64), (3, .int y3), (4, .int y4), (5, .int y5)]) (st' := [.int t0]) (sh' := ab_SH) (D' := ab_dD h) (fun n => rfl) ?_
  refine ab_Ex.ifc (c := t0 = 0) (SA := (87, [(6, .int t0), (0, .ref 64), (3, .int y3), (4, .int y4), (5, .int y5)], [], ab_dD h)) (SB := (96, [(6, .int t0), (0, .ref 64), (3, .int y3), (4, .int y4), (5, .int y5)], [], ab_dD h)) (fun n => rfl) (fun c7 => ?_) (fun c7 => ?_)
  · replace hf := (if_pos c7).symm.trans hf
    refine ab_Ex.blk (k := 3) (pc' := 92) (lv' := [(6, .int t0), (0, .ref 64), (3, .int y3), (4, .int y4), (5, .int y5)]) (st' := [.int 3, .ref 65]) (sh' := ab_SH) (D' := ab_dD h) (fun n => rfl) ?_
    refine ab_Ex.blk (k := 1) (pc' := 93) (lv' := [(6, .int t0), (0, .ref 64), (3, .int y3), (4, .int y4), (5, .int y5)]) (st' := [.int ((h.1 65 3))]) (sh' := ab_SH) (D' := ab_dD h) (fun n => rfl) ?_
    refine ab_Ex.ifc (c := (h.1 65 3) = 0) (SA := (96, [(6, .int t0), (0, .ref 64), (3, .int y3), (4, .int y4), (5, .int y5)], [], ab_dD h)) (SB := (100, [(6, .int t0), (0, .ref 64), (3, .int y3), (4, .int y4), (5, .int y5)], [], ab_dD h)) (fun n => rfl) (fun c8 => ?_) (fun c8 => ?_)
    · replace hf := (if_pos c8).symm.trans hf
      exact sX12_stepTo_J96 d X  y3 y4 y5 t0 h _ hf
    · replace hf := (if_neg c8).symm.trans hf
      refine ab_Ex.blk (k := 2) (pc' := 102) (lv' := [(6, .int t0), (0, .ref 64), (3, .int y3), (4, .int y4), (5, .int y5)]) (st' := [.int 0, .ref 64]) (sh' := ab_SH) (D' := ab_dD h) (fun n => rfl) ?_
      obtain ⟨r17, hr17, hf⟩ := ab_bind_s hf
      refine ab_Ex.call (d := d + 2) (M2 := 222) (as := [.ref 64, .int 0]) (rest := []) (fun n => rfl) rfl (Nat.not_lt.mpr (Nat.le_of_ble_eq_true rfl)) (sX12_reckons (d + 1) X 0 h _ hr17) (fun r hr => ?_)
      subst hr
      show ab_Ex X (d + 3) 224 105 [(0, .ref 64), (3, .int y3), (4, .int y4), (5, .int y5), (6, .int t0)] [.int r17.1] ab_SH (ab_dD r17.2) _
      exact sX12_stepTo_J105 d X  y3 y4 y5 t0 r17.1 r17.2 _ hf
  · replace hf := (if_neg c7).symm.trans hf
    exact sX12_stepTo_J96 d X  y3 y4 y5 t0 h _ hf
set_option maxRecDepth 20000 in
theorem sX12_stepTo_J79 (d : Nat) (X : abX)   : ∀ (y3 : Int32) (y4 : Int32) (y5 : Int32) (h : abJ) (z : (Int32 × abJ)), fX12_stepTo_J79 y3 y4 y5 h = some z → ab_Ex X (d + 3) 224 79 [(0, .ref 64), (3, .int y3), (4, .int y4), (5, .int y5)] [] ab_SH (ab_dD h) (fun r => r = (some (.int z.1), ab_SH, ab_dD z.2)) := by
  intro y3 y4 y5 h z hf
  unfold fX12_stepTo_J79 at hf
  refine ab_Ex.blk (k := 1) (pc' := 80) (lv' := [(0, .ref 64), (3, .int y3), (4, .int y4), (5, .int y5)]) (st' := [.int 0]) (sh' := ab_SH) (D' := ab_dD h) (fun n => rfl) ?_
  exact sX12_stepTo_J80 d X  y3 y4 y5 0 h _ hf
set_option maxRecDepth 20000 in
theorem sX12_stepTo (d : Nat) (X : abX) (x0 : Int32) (x1 : Int32) (h : abJ) (z : (Int32 × abJ)) (hf : fX12_stepTo x0 x1 h = some z) : ab_Ex X (d + 3) 224 0 [(0, .ref 64), (1, .int x0), (2, .int x1)] [] ab_SH (ab_dD h) (fun r => r = (some (.int z.1), ab_SH, ab_dD z.2)) := by
  unfold fX12_stepTo at hf
  refine ab_Ex.blk (k := 2) (pc' := 3) (lv' := [(0, .ref 64), (1, .int x0), (2, .int x1)]) (st' := [.int 6, .int x0]) (sh' := ab_SH) (D' := ab_dD h) (fun n => rfl) ?_
  refine ab_Ex.blk (k := 1) (pc' := 4) (lv' := [(0, .ref 64), (1, .int x0), (2, .int x1)]) (st' := [.int ((x0 - x0 / 6 * 6))]) (sh' := ab_SH) (D' := ab_dD h) (fun n => rfl) ?_
  refine ab_Ex.blk (k := 3) (pc' := 8) (lv' := [(3, .int ((x0 - x0 / 6 * 6))), (0, .ref 64), (1, .int x0), (2, .int x1)]) (st' := [.int 6, .int x0]) (sh' := ab_SH) (D' := ab_dD h) (fun n => rfl) ?_
  refine ab_Ex.blk (k := 1) (pc' := 9) (lv' := [(3, .int ((x0 - x0 / 6 * 6))), (0, .ref 64), (1, .int x0), (2, .int x1)]) (st' := [.int ((x0 / 6))]) (sh' := ab_SH) (D' := ab_dD h) (fun n => rfl) ?_
  refine ab_Ex.blk (k := 6) (pc' := 19) (lv' := [(4, .int ((x0 / 6))), (3, .int ((x0 - x0 / 6 * 6))), (0, .ref 64), (1, .int x0), (2, .int x1)]) (st' := [.int ((9 + (x0 - x0 / 6 * 6))), .ref 65]) (sh' := ab_SH) (D' := ab_dD h) (fun n => rfl) ?_
  obtain ⟨c2, hf⟩ := ab_ask_s hf
  refine ab_Ex.grd (c := (9 + (x0 - x0 / 6 * 6)) < 0 ∨ 3102 ≤ ((9 + (x0 - x0 / 6 * 6)) : Int32).toNatClampNeg) (S := (20, [(4, .int ((x0 / 6))), (3, .int ((x0 - x0 / 6 * 6))), (0, .ref 64), (1, .int x0), (2, .int x1)], [.int ((h.1 65 ((9 + (x0 - x0 / 6 * 6)) : Int32).toNatClampNeg))], ab_dD h)) (fun n => rfl) c2 ?_
  refine ab_Ex.blk (k := 5) (pc' := 28) (lv' := [(5, .int ((h.1 65 ((9 + (x0 - x0 / 6 * 6)) : Int32).toNatClampNeg))), (4, .int ((x0 / 6))), (3, .int ((x0 - x0 / 6 * 6))), (0, .ref 64), (1, .int x0), (2, .int x1)]) (st' := [.int ((x0 - x0 / 6 * 6)), .int 0, .ref 70]) (sh' := ab_SH) (D' := ab_dD h) (fun n => rfl) ?_
  refine ab_Ex.blk (k := 1) (pc' := 29) (lv' := [(5, .int ((h.1 65 ((9 + (x0 - x0 / 6 * 6)) : Int32).toNatClampNeg))), (4, .int ((x0 / 6))), (3, .int ((x0 - x0 / 6 * 6))), (0, .ref 64), (1, .int x0), (2, .int x1)]) (st' := []) (sh' := ab_SH) (D' := ab_dD (ab_wI h 70 0 (x0 - x0 / 6 * 6))) (fun n => rfl) ?_
  refine ab_Ex.blk (k := 5) (pc' := 37) (lv' := [(5, .int ((h.1 65 ((9 + (x0 - x0 / 6 * 6)) : Int32).toNatClampNeg))), (4, .int ((x0 / 6))), (3, .int ((x0 - x0 / 6 * 6))), (0, .ref 64), (1, .int x0), (2, .int x1)]) (st' := [.int ((x0 - x0 / 6 * 6)), .int ((x0 / 6)), .int 1, .ref 70]) (sh' := ab_SH) (D' := ab_dD (ab_wI h 70 0 (x0 - x0 / 6 * 6))) (fun n => rfl) ?_
  obtain ⟨r3, hr3, hf⟩ := ab_bind_s hf
  refine ab_Ex.call (d := d + 2) (M2 := 212) (as := [.int ((x0 / 6)), .int ((x0 - x0 / 6 * 6))]) (rest := [.int 1, .ref 70]) (fun n => rfl) rfl (Nat.not_lt.mpr (Nat.le_of_ble_eq_true rfl)) (sX12_armIn (d + 1) X ((x0 / 6)) ((x0 - x0 / 6 * 6)) (ab_wI h 70 0 (x0 - x0 / 6 * 6)) _ hr3) (fun r hr => ?_)
  subst hr
  show ab_Ex X (d + 3) 224 40 [(5, .int ((h.1 65 ((9 + (x0 - x0 / 6 * 6)) : Int32).toNatClampNeg))), (4, .int ((x0 / 6))), (3, .int ((x0 - x0 / 6 * 6))), (0, .ref 64), (1, .int x0), (2, .int x1)] [.int r3, .int 1, .ref 70] ab_SH (ab_dD (ab_wI h 70 0 (x0 - x0 / 6 * 6))) _
  refine ab_Ex.blk (k := 1) (pc' := 41) (lv' := [(5, .int ((h.1 65 ((9 + (x0 - x0 / 6 * 6)) : Int32).toNatClampNeg))), (4, .int ((x0 / 6))), (3, .int ((x0 - x0 / 6 * 6))), (0, .ref 64), (1, .int x0), (2, .int x1)]) (st' := []) (sh' := ab_SH) (D' := ab_dD (ab_wI (ab_wI h 70 0 (x0 - x0 / 6 * 6)) 70 1 r3)) (fun n => rfl) ?_
  refine ab_Ex.blk (k := 4) (pc' := 48) (lv' := [(5, .int ((h.1 65 ((9 + (x0 - x0 / 6 * 6)) : Int32).toNatClampNeg))), (4, .int ((x0 / 6))), (3, .int ((x0 - x0 / 6 * 6))), (0, .ref 64), (1, .int x0), (2, .int x1)]) (st' := [.int ((h.1 65 ((9 + (x0 - x0 / 6 * 6)) : Int32).toNatClampNeg)), .int 2, .ref 70]) (sh' := ab_SH) (D' := ab_dD (ab_wI (ab_wI h 70 0 (x0 - x0 / 6 * 6)) 70 1 r3)) (fun n => rfl) ?_
  refine ab_Ex.blk (k := 1) (pc' := 49) (lv' := [(5, .int ((h.1 65 ((9 + (x0 - x0 / 6 * 6)) : Int32).toNatClampNeg))), (4, .int ((x0 / 6))), (3, .int ((x0 - x0 / 6 * 6))), (0, .ref 64), (1, .int x0), (2, .int x1)]) (st' := []) (sh' := ab_SH) (D' := ab_dD (ab_wI (ab_wI (ab_wI h 70 0 (x0 - x0 / 6 * 6)) 70 1 r3) 70 2 (h.1 65 ((9 + (x0 - x0 / 6 * 6)) : Int32).toNatClampNeg))) (fun n => rfl) ?_
  refine ab_Ex.blk (k := 4) (pc' := 55) (lv' := [(5, .int ((h.1 65 ((9 + (x0 - x0 / 6 * 6)) : Int32).toNatClampNeg))), (4, .int ((x0 / 6))), (3, .int ((x0 - x0 / 6 * 6))), (0, .ref 64), (1, .int x0), (2, .int x1)]) (st' := [.int x1, .int 3, .ref 70]) (sh' := ab_SH) (D' := ab_dD (ab_wI (ab_wI (ab_wI h 70 0 (x0 - x0 / 6 * 6)) 70 1 r3) 70 2 (h.1 65 ((9 + (x0 - x0 / 6 * 6)) : Int32).toNatClampNeg))) (fun n => rfl) ?_
  refine ab_Ex.blk (k := 1) (pc' := 56) (lv' := [(5, .int ((h.1 65 ((9 + (x0 - x0 / 6 * 6)) : Int32).toNatClampNeg))), (4, .int ((x0 / 6))), (3, .int ((x0 - x0 / 6 * 6))), (0, .ref 64), (1, .int x0), (2, .int x1)]) (st' := []) (sh' := ab_SH) (D' := ab_dD (ab_wI (ab_wI (ab_wI (ab_wI h 70 0 (x0 - x0 / 6 * 6)) 70 1 r3) 70 2 (h.1 65 ((9 + (x0 - x0 / 6 * 6)) : Int32).toNatClampNeg)) 70 3 x1)) (fun n => rfl) ?_
  refine ab_Ex.blk (k := 3) (pc' := 61) (lv' := [(5, .int ((h.1 65 ((9 + (x0 - x0 / 6 * 6)) : Int32).toNatClampNeg))), (4, .int ((x0 / 6))), (3, .int ((x0 - x0 / 6 * 6))), (0, .ref 64), (1, .int x0), (2, .int x1)]) (st' := [.int 4, .ref 65]) (sh' := ab_SH) (D' := ab_dD (ab_wI (ab_wI (ab_wI (ab_wI h 70 0 (x0 - x0 / 6 * 6)) 70 1 r3) 70 2 (h.1 65 ((9 + (x0 - x0 / 6 * 6)) : Int32).toNatClampNeg)) 70 3 x1)) (fun n => rfl) ?_
  refine ab_Ex.blk (k := 1) (pc' := 62) (lv' := [(5, .int ((h.1 65 ((9 + (x0 - x0 / 6 * 6)) : Int32).toNatClampNeg))), (4, .int ((x0 / 6))), (3, .int ((x0 - x0 / 6 * 6))), (0, .ref 64), (1, .int x0), (2, .int x1)]) (st' := [.int (((ab_wI (ab_wI (ab_wI (ab_wI h 70 0 (x0 - x0 / 6 * 6)) 70 1 r3) 70 2 (h.1 65 ((9 + (x0 - x0 / 6 * 6)) : Int32).toNatClampNeg)) 70 3 x1).1 65 4))]) (sh' := ab_SH) (D' := ab_dD (ab_wI (ab_wI (ab_wI (ab_wI h 70 0 (x0 - x0 / 6 * 6)) 70 1 r3) 70 2 (h.1 65 ((9 + (x0 - x0 / 6 * 6)) : Int32).toNatClampNeg)) 70 3 x1)) (fun n => rfl) ?_
  refine ab_Ex.blk (k := 1) (pc' := 63) (lv' := [(5, .int ((h.1 65 ((9 + (x0 - x0 / 6 * 6)) : Int32).toNatClampNeg))), (4, .int ((x0 / 6))), (3, .int ((x0 - x0 / 6 * 6))), (0, .ref 64), (1, .int x0), (2, .int x1)]) (st' := [.int 1, .int (((ab_wI (ab_wI (ab_wI (ab_wI h 70 0 (x0 - x0 / 6 * 6)) 70 1 r3) 70 2 (h.1 65 ((9 + (x0 - x0 / 6 * 6)) : Int32).toNatClampNeg)) 70 3 x1).1 65 4))]) (sh' := ab_SH) (D' := ab_dD (ab_wI (ab_wI (ab_wI (ab_wI h 70 0 (x0 - x0 / 6 * 6)) 70 1 r3) 70 2 (h.1 65 ((9 + (x0 - x0 / 6 * 6)) : Int32).toNatClampNeg)) 70 3 x1)) (fun n => rfl) ?_
  refine ab_Ex.ifc (c := ((ab_wI (ab_wI (ab_wI (ab_wI h 70 0 (x0 - x0 / 6 * 6)) 70 1 r3) 70 2 (h.1 65 ((9 + (x0 - x0 / 6 * 6)) : Int32).toNatClampNeg)) 70 3 x1).1 65 4) = 1) (SA := (66, [(5, .int ((h.1 65 ((9 + (x0 - x0 / 6 * 6)) : Int32).toNatClampNeg))), (4, .int ((x0 / 6))), (3, .int ((x0 - x0 / 6 * 6))), (0, .ref 64), (1, .int x0), (2, .int x1)], [], ab_dD (ab_wI (ab_wI (ab_wI (ab_wI h 70 0 (x0 - x0 / 6 * 6)) 70 1 r3) 70 2 (h.1 65 ((9 + (x0 - x0 / 6 * 6)) : Int32).toNatClampNeg)) 70 3 x1))) (SB := (79, [(5, .int ((h.1 65 ((9 + (x0 - x0 / 6 * 6)) : Int32).toNatClampNeg))), (4, .int ((x0 / 6))), (3, .int ((x0 - x0 / 6 * 6))), (0, .ref 64), (1, .int x0), (2, .int x1)], [], ab_dD (ab_wI (ab_wI (ab_wI (ab_wI h 70 0 (x0 - x0 / 6 * 6)) 70 1 r3) 70 2 (h.1 65 ((9 + (x0 - x0 / 6 * 6)) : Int32).toNatClampNeg)) 70 3 x1))) (fun n => rfl) (fun c4 => ?_) (fun c4 => ?_)
  · replace hf := (if_pos c4).symm.trans hf
    refine ab_Ex.blk (k := 2) (pc' := 68) (lv' := [(5, .int ((h.1 65 ((9 + (x0 - x0 / 6 * 6)) : Int32).toNatClampNeg))), (4, .int ((x0 / 6))), (3, .int ((x0 - x0 / 6 * 6))), (0, .ref 64), (1, .int x0), (2, .int x1)]) (st' := [.int 1, .ref 64]) (sh' := ab_SH) (D' := ab_dD (ab_wI (ab_wI (ab_wI (ab_wI h 70 0 (x0 - x0 / 6 * 6)) 70 1 r3) 70 2 (h.1 65 ((9 + (x0 - x0 / 6 * 6)) : Int32).toNatClampNeg)) 70 3 x1)) (fun n => rfl) ?_
    obtain ⟨r5, hr5, hf⟩ := ab_bind_s hf
    refine ab_Ex.call (d := d + 2) (M2 := 222) (as := [.ref 64, .int 1]) (rest := []) (fun n => rfl) rfl (Nat.not_lt.mpr (Nat.le_of_ble_eq_true rfl)) (sX12_reckons (d + 1) X 1 (ab_wI (ab_wI (ab_wI (ab_wI h 70 0 (x0 - x0 / 6 * 6)) 70 1 r3) 70 2 (h.1 65 ((9 + (x0 - x0 / 6 * 6)) : Int32).toNatClampNeg)) 70 3 x1) _ hr5) (fun r hr => ?_)
    subst hr
    show ab_Ex X (d + 3) 224 71 [(5, .int ((h.1 65 ((9 + (x0 - x0 / 6 * 6)) : Int32).toNatClampNeg))), (4, .int ((x0 / 6))), (3, .int ((x0 - x0 / 6 * 6))), (0, .ref 64), (1, .int x0), (2, .int x1)] [.int r5.1] ab_SH (ab_dD r5.2) _
    refine ab_Ex.blk (k := 1) (pc' := 72) (lv' := [(5, .int ((h.1 65 ((9 + (x0 - x0 / 6 * 6)) : Int32).toNatClampNeg))), (4, .int ((x0 / 6))), (3, .int ((x0 - x0 / 6 * 6))), (0, .ref 64), (1, .int x0), (2, .int x1)]) (st' := [.int 1, .int r5.1]) (sh' := ab_SH) (D' := ab_dD r5.2) (fun n => rfl) ?_
    refine ab_Ex.ifc (c := r5.1 = 1) (SA := (75, [(5, .int ((h.1 65 ((9 + (x0 - x0 / 6 * 6)) : Int32).toNatClampNeg))), (4, .int ((x0 / 6))), (3, .int ((x0 - x0 / 6 * 6))), (0, .ref 64), (1, .int x0), (2, .int x1)], [], ab_dD r5.2)) (SB := (79, [(5, .int ((h.1 65 ((9 + (x0 - x0 / 6 * 6)) : Int32).toNatClampNeg))), (4, .int ((x0 / 6))), (3, .int ((x0 - x0 / 6 * 6))), (0, .ref 64), (1, .int x0), (2, .int x1)], [], ab_dD r5.2)) (fun n => rfl) (fun c6 => ?_) (fun c6 => ?_)
    · replace hf := (if_pos c6).symm.trans hf
      refine ab_Ex.blk (k := 2) (pc' := 80) (lv' := [(0, .ref 64), (3, .int ((x0 - x0 / 6 * 6))), (4, .int ((x0 / 6))), (5, .int ((h.1 65 ((9 + (x0 - x0 / 6 * 6)) : Int32).toNatClampNeg)))]) (st' := [.int 1]) (sh' := ab_SH) (D' := ab_dD r5.2) (fun n => rfl) ?_
      exact sX12_stepTo_J80 d X  ((x0 - x0 / 6 * 6)) ((x0 / 6)) ((h.1 65 ((9 + (x0 - x0 / 6 * 6)) : Int32).toNatClampNeg)) 1 r5.2 _ hf
    · replace hf := (if_neg c6).symm.trans hf
      exact sX12_stepTo_J79 d X  ((x0 - x0 / 6 * 6)) ((x0 / 6)) ((h.1 65 ((9 + (x0 - x0 / 6 * 6)) : Int32).toNatClampNeg)) r5.2 _ hf
  · replace hf := (if_neg c4).symm.trans hf
    exact sX12_stepTo_J79 d X  ((x0 - x0 / 6 * 6)) ((x0 / 6)) ((h.1 65 ((9 + (x0 - x0 / 6 * 6)) : Int32).toNatClampNeg)) (ab_wI (ab_wI (ab_wI (ab_wI h 70 0 (x0 - x0 / 6 * 6)) 70 1 r3) 70 2 (h.1 65 ((9 + (x0 - x0 / 6 * 6)) : Int32).toNatClampNeg)) 70 3 x1) _ hf
def fX12_goesTo (x0 : Int32) (h : abJ) : Option (Int32 × abJ) := (fX12_isRest ((x0 - x0 / 6 * 6)) h).bind (fun r1 => if r1 = 0 then (fX12_stepTo x0 ((h.1 65 40)) h).bind (fun r3 => some (r3.1, r3.2)) else some (x0, h))
set_option maxRecDepth 20000 in
theorem sX12_goesTo (d : Nat) (X : abX) (x0 : Int32) (h : abJ) (z : (Int32 × abJ)) (hf : fX12_goesTo x0 h = some z) : ab_Ex X (d + 4) 225 0 [(0, .ref 64), (1, .int x0)] [] ab_SH (ab_dD h) (fun r => r = (some (.int z.1), ab_SH, ab_dD z.2)) := by
  unfold fX12_goesTo at hf
  refine ab_Ex.blk (k := 3) (pc' := 4) (lv' := [(0, .ref 64), (1, .int x0)]) (st' := [.int 6, .int x0, .ref 64]) (sh' := ab_SH) (D' := ab_dD h) (fun n => rfl) ?_
  refine ab_Ex.blk (k := 1) (pc' := 5) (lv' := [(0, .ref 64), (1, .int x0)]) (st' := [.int ((x0 - x0 / 6 * 6)), .ref 64]) (sh' := ab_SH) (D' := ab_dD h) (fun n => rfl) ?_
  obtain ⟨r1, hr1, hf⟩ := ab_bind_s hf
  refine ab_Ex.call (d := d + 3) (M2 := 223) (as := [.ref 64, .int ((x0 - x0 / 6 * 6))]) (rest := []) (fun n => rfl) rfl (Nat.not_lt.mpr (Nat.le_of_ble_eq_true rfl)) (sX12_isRest (d + 2) X ((x0 - x0 / 6 * 6)) h _ hr1) (fun r hr => ?_)
  subst hr
  show ab_Ex X (d + 4) 225 8 [(0, .ref 64), (1, .int x0)] [.int r1] ab_SH (ab_dD h) _
  refine ab_Ex.ifc (c := r1 = 0) (SA := (15, [(0, .ref 64), (1, .int x0)], [], ab_dD h)) (SB := (11, [(0, .ref 64), (1, .int x0)], [], ab_dD h)) (fun n => rfl) (fun c2 => ?_) (fun c2 => ?_)
  · replace hf := (if_pos c2).symm.trans hf
    refine ab_Ex.blk (k := 5) (pc' := 23) (lv' := [(0, .ref 64), (1, .int x0)]) (st' := [.int 40, .ref 65, .int x0, .ref 64]) (sh' := ab_SH) (D' := ab_dD h) (fun n => rfl) ?_
    refine ab_Ex.blk (k := 1) (pc' := 24) (lv' := [(0, .ref 64), (1, .int x0)]) (st' := [.int ((h.1 65 40)), .int x0, .ref 64]) (sh' := ab_SH) (D' := ab_dD h) (fun n => rfl) ?_
    obtain ⟨r3, hr3, hf⟩ := ab_bind_s hf
    refine ab_Ex.call (d := d + 3) (M2 := 224) (as := [.ref 64, .int x0, .int ((h.1 65 40))]) (rest := []) (fun n => rfl) rfl (Nat.not_lt.mpr (Nat.le_of_ble_eq_true rfl)) (sX12_stepTo (d) X x0 ((h.1 65 40)) h _ hr3) (fun r hr => ?_)
    subst hr
    show ab_Ex X (d + 4) 225 27 [] [.int r3.1] ab_SH (ab_dD r3.2) _
    obtain rfl := Option.some.inj hf
    exact ab_Ex.ret (fun n => rfl) rfl
  · replace hf := (if_neg c2).symm.trans hf
    refine ab_Ex.blk (k := 2) (pc' := 27) (lv' := []) (st' := [.int x0]) (sh' := ab_SH) (D' := ab_dD h) (fun n => rfl) ?_
    obtain rfl := Option.some.inj hf
    exact ab_Ex.ret (fun n => rfl) rfl
def fX12_post (x0 : Int32) (x1 : Int32) (h : abJ) : Option (Int32 × abJ) := (fX12_isPost ((x0 : Int32).toInt64) (ab_wI h 64 0 0)).bind (fun r1 => if r1 = 0 then some ((-2), (ab_wI h 64 0 0)) else if x1 = 0 then ab_ask ((34 + x0) < 0 ∨ 3102 ≤ ((34 + x0) : Int32).toNatClampNeg) (some (((ab_wI h 64 0 0).1 65 ((34 + x0) : Int32).toNatClampNeg), (ab_wI h 64 0 0))) else if x1 = 1 then ab_ask ((9 + x0) < 0 ∨ 3102 ≤ ((9 + x0) : Int32).toNatClampNeg) (some (((ab_wI h 64 0 0).1 65 ((9 + x0) : Int32).toNatClampNeg), (ab_wI h 64 0 0))) else if x1 = 2 then some ((((((ab_wI h 64 0 0).1 65 2) : Int32) >>> (x0 &&& 31)) &&& 1), (ab_wI h 64 0 0)) else if x1 < 10 then some ((-2), (ab_wI h 64 0 0)) else (fX12_isRoad x0 (((x1 - 10) : Int32).toInt64) (ab_wI h 64 0 0)).bind (fun r11 => if r11 = 0 then some ((-2), (ab_wI h 64 0 0)) else (fX12_roadOf x0 ((x1 - 10)) (ab_wI h 64 0 0)).bind (fun r13 => some (r13, (ab_wI h 64 0 0)))))
set_option maxRecDepth 20000 in
theorem sX12_post (d : Nat) (X : abX) (x0 : Int32) (x1 : Int32) (h : abJ) (z : (Int32 × abJ)) (hf : fX12_post x0 x1 h = some z) : ab_Ex X (d + 2) 226 0 [(0, .ref 64), (1, .int x0), (2, .int x1)] [] ab_SH (ab_dD h) (fun r => r = (some (.int z.1), ab_SH, ab_dD z.2)) := by
  unfold fX12_post at hf
  refine ab_Ex.blk (k := 6) (pc' := 8) (lv' := [(0, .ref 64), (1, .int x0), (2, .int x1)]) (st' := [.long ((x0 : Int32).toInt64), .ref 64]) (sh' := ab_SH) (D' := ab_dD (ab_wI h 64 0 0)) (fun n => rfl) ?_
  obtain ⟨r1, hr1, hf⟩ := ab_bind_s hf
  refine ab_Ex.call (d := d + 1) (M2 := 209) (as := [.ref 64, .long ((x0 : Int32).toInt64)]) (rest := []) (fun n => rfl) rfl (Nat.not_lt.mpr (Nat.le_of_ble_eq_true rfl)) (sX12_isPost (d) X ((x0 : Int32).toInt64) (ab_wI h 64 0 0) _ hr1) (fun r hr => ?_)
  subst hr
  show ab_Ex X (d + 2) 226 11 [(0, .ref 64), (1, .int x0), (2, .int x1)] [.int r1] ab_SH (ab_dD (ab_wI h 64 0 0)) _
  refine ab_Ex.ifc (c := r1 = 0) (SA := (14, [(0, .ref 64), (1, .int x0), (2, .int x1)], [], ab_dD (ab_wI h 64 0 0))) (SB := (17, [(0, .ref 64), (1, .int x0), (2, .int x1)], [], ab_dD (ab_wI h 64 0 0))) (fun n => rfl) (fun c2 => ?_) (fun c2 => ?_)
  · replace hf := (if_pos c2).symm.trans hf
    refine ab_Ex.blk (k := 1) (pc' := 16) (lv' := [(0, .ref 64), (1, .int x0), (2, .int x1)]) (st' := [.int ((-2))]) (sh' := ab_SH) (D' := ab_dD (ab_wI h 64 0 0)) (fun n => rfl) ?_
    obtain rfl := Option.some.inj hf
    exact ab_Ex.ret (fun n => rfl) rfl
  · replace hf := (if_neg c2).symm.trans hf
    refine ab_Ex.blk (k := 1) (pc' := 18) (lv' := [(0, .ref 64), (1, .int x0), (2, .int x1)]) (st' := [.int x1]) (sh' := ab_SH) (D' := ab_dD (ab_wI h 64 0 0)) (fun n => rfl) ?_
    by_cases c3 : x1 = 0
    · replace hf := (if_pos c3).symm.trans hf
      refine ab_Ex.blk (k := 1) (pc' := 44) (lv' := [(0, .ref 64), (1, .int x0), (2, .int x1)]) (st' := []) (sh' := ab_SH) (D' := ab_dD (ab_wI h 64 0 0)) (fun n => by rw [c3]; rfl) ?_
      refine ab_Ex.blk (k := 5) (pc' := 52) (lv' := [(0, .ref 64), (1, .int x0), (2, .int x1)]) (st' := [.int ((34 + x0)), .ref 65]) (sh' := ab_SH) (D' := ab_dD (ab_wI h 64 0 0)) (fun n => rfl) ?_
      obtain ⟨c5, hf⟩ := ab_ask_s hf
      refine ab_Ex.grd (c := (34 + x0) < 0 ∨ 3102 ≤ ((34 + x0) : Int32).toNatClampNeg) (S := (53, [(0, .ref 64), (1, .int x0), (2, .int x1)], [.int (((ab_wI h 64 0 0).1 65 ((34 + x0) : Int32).toNatClampNeg))], ab_dD (ab_wI h 64 0 0))) (fun n => rfl) c5 ?_
      obtain rfl := Option.some.inj hf
      exact ab_Ex.ret (fun n => rfl) rfl
    · replace hf := (if_neg c3).symm.trans hf
      by_cases c6 : x1 = 1
      · replace hf := (if_pos c6).symm.trans hf
        refine ab_Ex.blk (k := 1) (pc' := 54) (lv' := [(0, .ref 64), (1, .int x0), (2, .int x1)]) (st' := []) (sh' := ab_SH) (D' := ab_dD (ab_wI h 64 0 0)) (fun n => by rw [c6]; rfl) ?_
        refine ab_Ex.blk (k := 5) (pc' := 62) (lv' := [(0, .ref 64), (1, .int x0), (2, .int x1)]) (st' := [.int ((9 + x0)), .ref 65]) (sh' := ab_SH) (D' := ab_dD (ab_wI h 64 0 0)) (fun n => rfl) ?_
        obtain ⟨c8, hf⟩ := ab_ask_s hf
        refine ab_Ex.grd (c := (9 + x0) < 0 ∨ 3102 ≤ ((9 + x0) : Int32).toNatClampNeg) (S := (63, [(0, .ref 64), (1, .int x0), (2, .int x1)], [.int (((ab_wI h 64 0 0).1 65 ((9 + x0) : Int32).toNatClampNeg))], ab_dD (ab_wI h 64 0 0))) (fun n => rfl) c8 ?_
        obtain rfl := Option.some.inj hf
        exact ab_Ex.ret (fun n => rfl) rfl
      · replace hf := (if_neg c6).symm.trans hf
        by_cases c9 : x1 = 2
        · replace hf := (if_pos c9).symm.trans hf
          refine ab_Ex.blk (k := 1) (pc' := 64) (lv' := [(0, .ref 64), (1, .int x0), (2, .int x1)]) (st' := []) (sh' := ab_SH) (D' := ab_dD (ab_wI h 64 0 0)) (fun n => by rw [c9]; rfl) ?_
          refine ab_Ex.blk (k := 3) (pc' := 69) (lv' := [(0, .ref 64), (1, .int x0), (2, .int x1)]) (st' := [.int 2, .ref 65]) (sh' := ab_SH) (D' := ab_dD (ab_wI h 64 0 0)) (fun n => rfl) ?_
          refine ab_Ex.blk (k := 1) (pc' := 70) (lv' := [(0, .ref 64), (1, .int x0), (2, .int x1)]) (st' := [.int (((ab_wI h 64 0 0).1 65 2))]) (sh' := ab_SH) (D' := ab_dD (ab_wI h 64 0 0)) (fun n => rfl) ?_
          refine ab_Ex.blk (k := 4) (pc' := 74) (lv' := [(0, .ref 64), (1, .int x0), (2, .int x1)]) (st' := [.int ((((((ab_wI h 64 0 0).1 65 2) : Int32) >>> (x0 &&& 31)) &&& 1))]) (sh' := ab_SH) (D' := ab_dD (ab_wI h 64 0 0)) (fun n => rfl) ?_
          obtain rfl := Option.some.inj hf
          exact ab_Ex.ret (fun n => rfl) rfl
        · replace hf := (if_neg c9).symm.trans hf
          have qc3 := lv_neT c3 (show (0 : Int32).toInt = 0 by decide)
          have qc6 := lv_neT c6 (show (1 : Int32).toInt = 1 by decide)
          have qc9 := lv_neT c9 (show (2 : Int32).toInt = 2 by decide)
          refine ab_Ex.tsw (c := (x1 : Int32).toInt < 0 ∨ 2 < (x1 : Int32).toInt) (S := (75, [(0, .ref 64), (1, .int x0), (2, .int x1)], [], ab_dD (ab_wI h 64 0 0))) (fun n => rfl) (by omega) ?_
          refine ab_Ex.blk (k := 2) (pc' := 78) (lv' := [(0, .ref 64), (1, .int x0), (2, .int x1)]) (st' := [.int 10, .int x1]) (sh' := ab_SH) (D' := ab_dD (ab_wI h 64 0 0)) (fun n => rfl) ?_
          refine ab_Ex.ifc (c := x1 < 10) (SA := (106, [(0, .ref 64), (1, .int x0), (2, .int x1)], [], ab_dD (ab_wI h 64 0 0))) (SB := (81, [(0, .ref 64), (1, .int x0), (2, .int x1)], [], ab_dD (ab_wI h 64 0 0))) (fun n => rfl) (fun c10 => ?_) (fun c10 => ?_)
          · replace hf := (if_pos c10).symm.trans hf
            refine ab_Ex.blk (k := 1) (pc' := 108) (lv' := []) (st' := [.int ((-2))]) (sh' := ab_SH) (D' := ab_dD (ab_wI h 64 0 0)) (fun n => rfl) ?_
            obtain rfl := Option.some.inj hf
            exact ab_Ex.ret (fun n => rfl) rfl
          · replace hf := (if_neg c10).symm.trans hf
            refine ab_Ex.blk (k := 6) (pc' := 88) (lv' := [(0, .ref 64), (1, .int x0), (2, .int x1)]) (st' := [.long (((x1 - 10) : Int32).toInt64), .int x0, .ref 64]) (sh' := ab_SH) (D' := ab_dD (ab_wI h 64 0 0)) (fun n => rfl) ?_
            obtain ⟨r11, hr11, hf⟩ := ab_bind_s hf
            refine ab_Ex.call (d := d + 1) (M2 := 210) (as := [.ref 64, .int x0, .long (((x1 - 10) : Int32).toInt64)]) (rest := []) (fun n => rfl) rfl (Nat.not_lt.mpr (Nat.le_of_ble_eq_true rfl)) (sX12_isRoad (d) X x0 (((x1 - 10) : Int32).toInt64) (ab_wI h 64 0 0) _ hr11) (fun r hr => ?_)
            subst hr
            show ab_Ex X (d + 2) 226 91 [(0, .ref 64), (1, .int x0), (2, .int x1)] [.int r11] ab_SH (ab_dD (ab_wI h 64 0 0)) _
            refine ab_Ex.ifc (c := r11 = 0) (SA := (106, [(0, .ref 64), (1, .int x0), (2, .int x1)], [], ab_dD (ab_wI h 64 0 0))) (SB := (94, [(0, .ref 64), (1, .int x0), (2, .int x1)], [], ab_dD (ab_wI h 64 0 0))) (fun n => rfl) (fun c12 => ?_) (fun c12 => ?_)
            · replace hf := (if_pos c12).symm.trans hf
              refine ab_Ex.blk (k := 1) (pc' := 108) (lv' := []) (st' := [.int ((-2))]) (sh' := ab_SH) (D' := ab_dD (ab_wI h 64 0 0)) (fun n => rfl) ?_
              obtain rfl := Option.some.inj hf
              exact ab_Ex.ret (fun n => rfl) rfl
            · replace hf := (if_neg c12).symm.trans hf
              refine ab_Ex.blk (k := 5) (pc' := 100) (lv' := [(0, .ref 64), (1, .int x0), (2, .int x1)]) (st' := [.int ((x1 - 10)), .int x0, .ref 64]) (sh' := ab_SH) (D' := ab_dD (ab_wI h 64 0 0)) (fun n => rfl) ?_
              obtain ⟨r13, hr13, hf⟩ := ab_bind_s hf
              refine ab_Ex.call (d := d + 1) (M2 := 218) (as := [.ref 64, .int x0, .int ((x1 - 10))]) (rest := []) (fun n => rfl) rfl (Nat.not_lt.mpr (Nat.le_of_ble_eq_true rfl)) (sX12_roadOf (d + 1) X x0 ((x1 - 10)) (ab_wI h 64 0 0) _ hr13) (fun r hr => ?_)
              subst hr
              show ab_Ex X (d + 2) 226 103 [(0, .ref 64), (1, .int x0), (2, .int x1)] [.int r13] ab_SH (ab_dD (ab_wI h 64 0 0)) _
              refine ab_Ex.blk (k := 1) (pc' := 108) (lv' := []) (st' := [.int r13]) (sh' := ab_SH) (D' := ab_dD (ab_wI h 64 0 0)) (fun n => rfl) ?_
              obtain rfl := Option.some.inj hf
              exact ab_Ex.ret (fun n => rfl) rfl
def fX12_by (x0 : Int32) (x1 : Int32) (h : abJ) : Option (Int32 × abJ) := (fX12_isPost ((x0 : Int32).toInt64) (ab_wI h 64 0 0)).bind (fun r1 => if r1 = 0 then some ((-2), (ab_wI h 64 0 0)) else (fX12_within ((x1 : Int32).toInt64) 0 1 (ab_wI h 64 0 0)).bind (fun r3 => if r3 = 0 then some ((-2), (ab_wI h 64 0 0)) else ab_ask ((9 + x0) < 0 ∨ 3102 ≤ ((9 + x0) : Int32).toNatClampNeg) (if ((ab_wI h 64 0 0).1 65 ((9 + x0) : Int32).toNatClampNeg) = 0 then some ((-5), (ab_wI h 64 0 0)) else (fX12_armsNow (ab_wI h 64 0 0)).bind (fun r8 => (fX12_standOf x0 r8 (ab_wI h 64 0 0)).bind (fun r9 => (fX12_stepTo r9 (((ab_wI h 64 0 0).1 65 40)) (ab_wI h 64 0 0)).bind (fun r10 => if x1 = 0 then some ((r10.1 - r10.1 / 6 * 6), r10.2) else (fX12_armIn ((r10.1 / 6)) x0 r10.2).bind (fun r12 => some (r12, r10.2))))))))
set_option maxRecDepth 20000 in
theorem sX12_by (d : Nat) (X : abX) (x0 : Int32) (x1 : Int32) (h : abJ) (z : (Int32 × abJ)) (hf : fX12_by x0 x1 h = some z) : ab_Ex X (d + 4) 227 0 [(0, .ref 64), (1, .int x0), (2, .int x1)] [] ab_SH (ab_dD h) (fun r => r = (some (.int z.1), ab_SH, ab_dD z.2)) := by
  unfold fX12_by at hf
  refine ab_Ex.blk (k := 6) (pc' := 8) (lv' := [(0, .ref 64), (1, .int x0), (2, .int x1)]) (st' := [.long ((x0 : Int32).toInt64), .ref 64]) (sh' := ab_SH) (D' := ab_dD (ab_wI h 64 0 0)) (fun n => rfl) ?_
  obtain ⟨r1, hr1, hf⟩ := ab_bind_s hf
  refine ab_Ex.call (d := d + 3) (M2 := 209) (as := [.ref 64, .long ((x0 : Int32).toInt64)]) (rest := []) (fun n => rfl) rfl (Nat.not_lt.mpr (Nat.le_of_ble_eq_true rfl)) (sX12_isPost (d + 2) X ((x0 : Int32).toInt64) (ab_wI h 64 0 0) _ hr1) (fun r hr => ?_)
  subst hr
  show ab_Ex X (d + 4) 227 11 [(0, .ref 64), (1, .int x0), (2, .int x1)] [.int r1] ab_SH (ab_dD (ab_wI h 64 0 0)) _
  refine ab_Ex.ifc (c := r1 = 0) (SA := (24, [(0, .ref 64), (1, .int x0), (2, .int x1)], [], ab_dD (ab_wI h 64 0 0))) (SB := (14, [(0, .ref 64), (1, .int x0), (2, .int x1)], [], ab_dD (ab_wI h 64 0 0))) (fun n => rfl) (fun c2 => ?_) (fun c2 => ?_)
  · replace hf := (if_pos c2).symm.trans hf
    refine ab_Ex.blk (k := 1) (pc' := 26) (lv' := []) (st' := [.int ((-2))]) (sh' := ab_SH) (D' := ab_dD (ab_wI h 64 0 0)) (fun n => rfl) ?_
    obtain rfl := Option.some.inj hf
    exact ab_Ex.ret (fun n => rfl) rfl
  · replace hf := (if_neg c2).symm.trans hf
    refine ab_Ex.blk (k := 4) (pc' := 18) (lv' := [(0, .ref 64), (1, .int x0), (2, .int x1)]) (st' := [.long 1, .long 0, .long ((x1 : Int32).toInt64)]) (sh' := ab_SH) (D' := ab_dD (ab_wI h 64 0 0)) (fun n => rfl) ?_
    obtain ⟨r3, hr3, hf⟩ := ab_bind_s hf
    refine ab_Ex.call (d := d + 3) (M2 := 175) (as := [.long ((x1 : Int32).toInt64), .long 0, .long 1]) (rest := []) (fun n => rfl) rfl (Nat.not_lt.mpr (Nat.le_of_ble_eq_true rfl)) (sX12_within (d + 3) X ((x1 : Int32).toInt64) 0 1 (ab_wI h 64 0 0) _ hr3) (fun r hr => ?_)
    subst hr
    show ab_Ex X (d + 4) 227 21 [(0, .ref 64), (1, .int x0), (2, .int x1)] [.int r3] ab_SH (ab_dD (ab_wI h 64 0 0)) _
    refine ab_Ex.ifc (c := r3 = 0) (SA := (24, [(0, .ref 64), (1, .int x0), (2, .int x1)], [], ab_dD (ab_wI h 64 0 0))) (SB := (27, [(0, .ref 64), (1, .int x0), (2, .int x1)], [], ab_dD (ab_wI h 64 0 0))) (fun n => rfl) (fun c4 => ?_) (fun c4 => ?_)
    · replace hf := (if_pos c4).symm.trans hf
      refine ab_Ex.blk (k := 1) (pc' := 26) (lv' := []) (st' := [.int ((-2))]) (sh' := ab_SH) (D' := ab_dD (ab_wI h 64 0 0)) (fun n => rfl) ?_
      obtain rfl := Option.some.inj hf
      exact ab_Ex.ret (fun n => rfl) rfl
    · replace hf := (if_neg c4).symm.trans hf
      refine ab_Ex.blk (k := 5) (pc' := 35) (lv' := [(0, .ref 64), (1, .int x0), (2, .int x1)]) (st' := [.int ((9 + x0)), .ref 65]) (sh' := ab_SH) (D' := ab_dD (ab_wI h 64 0 0)) (fun n => rfl) ?_
      obtain ⟨c6, hf⟩ := ab_ask_s hf
      refine ab_Ex.grd (c := (9 + x0) < 0 ∨ 3102 ≤ ((9 + x0) : Int32).toNatClampNeg) (S := (36, [(0, .ref 64), (1, .int x0), (2, .int x1)], [.int (((ab_wI h 64 0 0).1 65 ((9 + x0) : Int32).toNatClampNeg))], ab_dD (ab_wI h 64 0 0))) (fun n => rfl) c6 ?_
      refine ab_Ex.ifc (c := ((ab_wI h 64 0 0).1 65 ((9 + x0) : Int32).toNatClampNeg) = 0) (SA := (39, [(0, .ref 64), (1, .int x0), (2, .int x1)], [], ab_dD (ab_wI h 64 0 0))) (SB := (42, [(0, .ref 64), (1, .int x0), (2, .int x1)], [], ab_dD (ab_wI h 64 0 0))) (fun n => rfl) (fun c7 => ?_) (fun c7 => ?_)
      · replace hf := (if_pos c7).symm.trans hf
        refine ab_Ex.blk (k := 1) (pc' := 41) (lv' := [(0, .ref 64), (1, .int x0), (2, .int x1)]) (st' := [.int ((-5))]) (sh' := ab_SH) (D' := ab_dD (ab_wI h 64 0 0)) (fun n => rfl) ?_
        obtain rfl := Option.some.inj hf
        exact ab_Ex.ret (fun n => rfl) rfl
      · replace hf := (if_neg c7).symm.trans hf
        refine ab_Ex.blk (k := 3) (pc' := 45) (lv' := [(0, .ref 64), (1, .int x0), (2, .int x1)]) (st' := [.ref 64, .int x0, .ref 64]) (sh' := ab_SH) (D' := ab_dD (ab_wI h 64 0 0)) (fun n => rfl) ?_
        obtain ⟨r8, hr8, hf⟩ := ab_bind_s hf
        refine ab_Ex.call (d := d + 3) (M2 := 214) (as := [.ref 64]) (rest := [.int x0, .ref 64]) (fun n => rfl) rfl (Nat.not_lt.mpr (Nat.le_of_ble_eq_true rfl)) (sX12_armsNow (d + 2) X  (ab_wI h 64 0 0) _ hr8) (fun r hr => ?_)
        subst hr
        show ab_Ex X (d + 4) 227 48 [(0, .ref 64), (1, .int x0), (2, .int x1)] [.int r8, .int x0, .ref 64] ab_SH (ab_dD (ab_wI h 64 0 0)) _
        obtain ⟨r9, hr9, hf⟩ := ab_bind_s hf
        refine ab_Ex.call (d := d + 3) (M2 := 215) (as := [.int x0, .int r8]) (rest := [.ref 64]) (fun n => rfl) rfl (Nat.not_lt.mpr (Nat.le_of_ble_eq_true rfl)) (sX12_standOf (d + 3) X x0 r8 (ab_wI h 64 0 0) _ hr9) (fun r hr => ?_)
        subst hr
        show ab_Ex X (d + 4) 227 51 [(0, .ref 64), (1, .int x0), (2, .int x1)] [.int r9, .ref 64] ab_SH (ab_dD (ab_wI h 64 0 0)) _
        refine ab_Ex.blk (k := 3) (pc' := 57) (lv' := [(0, .ref 64), (1, .int x0), (2, .int x1)]) (st' := [.int 40, .ref 65, .int r9, .ref 64]) (sh' := ab_SH) (D' := ab_dD (ab_wI h 64 0 0)) (fun n => rfl) ?_
        refine ab_Ex.blk (k := 1) (pc' := 58) (lv' := [(0, .ref 64), (1, .int x0), (2, .int x1)]) (st' := [.int (((ab_wI h 64 0 0).1 65 40)), .int r9, .ref 64]) (sh' := ab_SH) (D' := ab_dD (ab_wI h 64 0 0)) (fun n => rfl) ?_
        obtain ⟨r10, hr10, hf⟩ := ab_bind_s hf
        refine ab_Ex.call (d := d + 3) (M2 := 224) (as := [.ref 64, .int r9, .int (((ab_wI h 64 0 0).1 65 40))]) (rest := []) (fun n => rfl) rfl (Nat.not_lt.mpr (Nat.le_of_ble_eq_true rfl)) (sX12_stepTo (d) X r9 (((ab_wI h 64 0 0).1 65 40)) (ab_wI h 64 0 0) _ hr10) (fun r hr => ?_)
        subst hr
        show ab_Ex X (d + 4) 227 61 [(0, .ref 64), (1, .int x0), (2, .int x1)] [.int r10.1] ab_SH (ab_dD r10.2) _
        refine ab_Ex.blk (k := 2) (pc' := 63) (lv' := [(3, .int r10.1), (0, .ref 64), (1, .int x0), (2, .int x1)]) (st' := [.int x1]) (sh' := ab_SH) (D' := ab_dD r10.2) (fun n => rfl) ?_
        refine ab_Ex.ifc (c := x1 = 0) (SA := (66, [(3, .int r10.1), (0, .ref 64), (1, .int x0), (2, .int x1)], [], ab_dD r10.2)) (SB := (73, [(3, .int r10.1), (0, .ref 64), (1, .int x0), (2, .int x1)], [], ab_dD r10.2)) (fun n => rfl) (fun c11 => ?_) (fun c11 => ?_)
        · replace hf := (if_pos c11).symm.trans hf
          refine ab_Ex.blk (k := 2) (pc' := 69) (lv' := [(3, .int r10.1), (0, .ref 64), (1, .int x0), (2, .int x1)]) (st' := [.int 6, .int r10.1]) (sh' := ab_SH) (D' := ab_dD r10.2) (fun n => rfl) ?_
          refine ab_Ex.blk (k := 1) (pc' := 70) (lv' := [(3, .int r10.1), (0, .ref 64), (1, .int x0), (2, .int x1)]) (st' := [.int ((r10.1 - r10.1 / 6 * 6))]) (sh' := ab_SH) (D' := ab_dD r10.2) (fun n => rfl) ?_
          refine ab_Ex.blk (k := 1) (pc' := 81) (lv' := []) (st' := [.int ((r10.1 - r10.1 / 6 * 6))]) (sh' := ab_SH) (D' := ab_dD r10.2) (fun n => rfl) ?_
          obtain rfl := Option.some.inj hf
          exact ab_Ex.ret (fun n => rfl) rfl
        · replace hf := (if_neg c11).symm.trans hf
          refine ab_Ex.blk (k := 2) (pc' := 76) (lv' := [(3, .int r10.1), (0, .ref 64), (1, .int x0), (2, .int x1)]) (st' := [.int 6, .int r10.1]) (sh' := ab_SH) (D' := ab_dD r10.2) (fun n => rfl) ?_
          refine ab_Ex.blk (k := 1) (pc' := 77) (lv' := [(3, .int r10.1), (0, .ref 64), (1, .int x0), (2, .int x1)]) (st' := [.int ((r10.1 / 6))]) (sh' := ab_SH) (D' := ab_dD r10.2) (fun n => rfl) ?_
          refine ab_Ex.blk (k := 1) (pc' := 78) (lv' := [(3, .int r10.1), (0, .ref 64), (1, .int x0), (2, .int x1)]) (st' := [.int x0, .int ((r10.1 / 6))]) (sh' := ab_SH) (D' := ab_dD r10.2) (fun n => rfl) ?_
          obtain ⟨r12, hr12, hf⟩ := ab_bind_s hf
          refine ab_Ex.call (d := d + 3) (M2 := 212) (as := [.int ((r10.1 / 6)), .int x0]) (rest := []) (fun n => rfl) rfl (Nat.not_lt.mpr (Nat.le_of_ble_eq_true rfl)) (sX12_armIn (d + 2) X ((r10.1 / 6)) x0 r10.2 _ hr12) (fun r hr => ?_)
          subst hr
          show ab_Ex X (d + 4) 227 81 [] [.int r12] ab_SH (ab_dD r10.2) _
          obtain rfl := Option.some.inj hf
          exact ab_Ex.ret (fun n => rfl) rfl
def fX12_stores_L2   : Nat → Int32 → abJ → Option abJ
  | 0, _, _ => none
  | n + 1, y1, h => if 9 ≤ y1 then some h else ab_ask ((33 + y1) < 0 ∨ 3102 ≤ ((33 + y1) : Int32).toNatClampNeg) (ab_ask (y1 < 0 ∨ 9 ≤ (y1 : Int32).toNatClampNeg) (fX12_stores_L2 n ((y1 + 1)) (ab_wI h 71 (y1 : Int32).toNatClampNeg (h.1 65 ((33 + y1) : Int32).toNatClampNeg))))
def fX12_stores  (h : abJ) : Option abJ := fX12_stores_L2 ab_N 0 h
set_option maxRecDepth 20000 in
theorem sX12_stores_L2 (d : Nat) (X : abX)   : ∀ (n : Nat), ∀ (y1 : Int32) (h : abJ) (z : abJ), fX12_stores_L2 n y1 h = some z → ab_Ex X (d + 0) 228 2 [(0, .ref 64), (1, .int y1)] [] ab_SH (ab_dD h) (fun r => r = (none, ab_SH, ab_dD z)) := by
  intro n
  induction n with
  | zero => intro y1 h z hf; cases hf
  | succ n ih =>
    intro y1 h z hf
    rw [fX12_stores_L2] at hf
    refine ab_Ex.blk (k := 2) (pc' := 5) (lv' := [(0, .ref 64), (1, .int y1)]) (st' := [.int 9, .int y1]) (sh' := ab_SH) (D' := ab_dD h) (fun n => rfl) ?_
    refine ab_Ex.ifc (c := 9 ≤ y1) (SA := (29, [(0, .ref 64), (1, .int y1)], [], ab_dD h)) (SB := (8, [(0, .ref 64), (1, .int y1)], [], ab_dD h)) (fun n => rfl) (fun c1 => ?_) (fun c1 => ?_)
    · replace hf := (if_pos c1).symm.trans hf
      obtain rfl := Option.some.inj hf
      exact ab_Ex.ret (fun n => rfl) rfl
    · replace hf := (if_neg c1).symm.trans hf
      refine ab_Ex.blk (k := 8) (pc' := 21) (lv' := [(0, .ref 64), (1, .int y1)]) (st' := [.int ((33 + y1)), .ref 65, .int y1, .ref 71]) (sh' := ab_SH) (D' := ab_dD h) (fun n => rfl) ?_
      obtain ⟨c3, hf⟩ := ab_ask_s hf
      refine ab_Ex.grd (c := (33 + y1) < 0 ∨ 3102 ≤ ((33 + y1) : Int32).toNatClampNeg) (S := (22, [(0, .ref 64), (1, .int y1)], [.int ((h.1 65 ((33 + y1) : Int32).toNatClampNeg)), .int y1, .ref 71], ab_dD h)) (fun n => rfl) c3 ?_
      obtain ⟨c4, hf⟩ := ab_ask_s hf
      refine ab_Ex.grd (c := y1 < 0 ∨ 9 ≤ (y1 : Int32).toNatClampNeg) (S := (23, [(0, .ref 64), (1, .int y1)], [], ab_dD (ab_wI h 71 (y1 : Int32).toNatClampNeg (h.1 65 ((33 + y1) : Int32).toNatClampNeg)))) (fun n => rfl) c4 ?_
      refine ab_Ex.blk (k := 2) (pc' := 2) (lv' := [(0, .ref 64), (1, .int ((y1 + 1)))]) (st' := []) (sh' := ab_SH) (D' := ab_dD (ab_wI h 71 (y1 : Int32).toNatClampNeg (h.1 65 ((33 + y1) : Int32).toNatClampNeg))) (fun n => rfl) ?_
      exact ih ((y1 + 1)) (ab_wI h 71 (y1 : Int32).toNatClampNeg (h.1 65 ((33 + y1) : Int32).toNatClampNeg)) _ hf
set_option maxRecDepth 20000 in
theorem sX12_stores (d : Nat) (X : abX)  (h : abJ) (z : abJ) (hf : fX12_stores  h = some z) : ab_Ex X (d + 0) 228 0 [(0, .ref 64)] [] ab_SH (ab_dD h) (fun r => r = (none, ab_SH, ab_dD z)) := by
  unfold fX12_stores at hf
  refine ab_Ex.blk (k := 2) (pc' := 2) (lv' := [(0, .ref 64), (1, .int 0)]) (st' := []) (sh' := ab_SH) (D' := ab_dD h) (fun n => rfl) ?_
  exact sX12_stores_L2 d X  ab_N 0 h _ hf
def fX12_isAgain_L2   : Nat → Int32 → abJ → Option abJ
  | 0, _, _ => none
  | n + 1, y1, h => if 9 ≤ y1 then some h else ab_ask (y1 < 0 ∨ 9 ≤ (y1 : Int32).toNatClampNeg) (ab_ask ((33 + y1) < 0 ∨ 3102 ≤ ((33 + y1) : Int32).toNatClampNeg) (fX12_isAgain_L2 n ((y1 + 1)) (ab_wI h 65 ((33 + y1) : Int32).toNatClampNeg (h.1 71 (y1 : Int32).toNatClampNeg))))
def fX12_isAgain  (h : abJ) : Option abJ := fX12_isAgain_L2 ab_N 0 h
set_option maxRecDepth 20000 in
theorem sX12_isAgain_L2 (d : Nat) (X : abX)   : ∀ (n : Nat), ∀ (y1 : Int32) (h : abJ) (z : abJ), fX12_isAgain_L2 n y1 h = some z → ab_Ex X (d + 0) 229 2 [(0, .ref 64), (1, .int y1)] [] ab_SH (ab_dD h) (fun r => r = (none, ab_SH, ab_dD z)) := by
  intro n
  induction n with
  | zero => intro y1 h z hf; cases hf
  | succ n ih =>
    intro y1 h z hf
    rw [fX12_isAgain_L2] at hf
    refine ab_Ex.blk (k := 2) (pc' := 5) (lv' := [(0, .ref 64), (1, .int y1)]) (st' := [.int 9, .int y1]) (sh' := ab_SH) (D' := ab_dD h) (fun n => rfl) ?_
    refine ab_Ex.ifc (c := 9 ≤ y1) (SA := (29, [(0, .ref 64), (1, .int y1)], [], ab_dD h)) (SB := (8, [(0, .ref 64), (1, .int y1)], [], ab_dD h)) (fun n => rfl) (fun c1 => ?_) (fun c1 => ?_)
    · replace hf := (if_pos c1).symm.trans hf
      obtain rfl := Option.some.inj hf
      exact ab_Ex.ret (fun n => rfl) rfl
    · replace hf := (if_neg c1).symm.trans hf
      refine ab_Ex.blk (k := 8) (pc' := 21) (lv' := [(0, .ref 64), (1, .int y1)]) (st' := [.int y1, .ref 71, .int ((33 + y1)), .ref 65]) (sh' := ab_SH) (D' := ab_dD h) (fun n => rfl) ?_
      obtain ⟨c3, hf⟩ := ab_ask_s hf
      refine ab_Ex.grd (c := y1 < 0 ∨ 9 ≤ (y1 : Int32).toNatClampNeg) (S := (22, [(0, .ref 64), (1, .int y1)], [.int ((h.1 71 (y1 : Int32).toNatClampNeg)), .int ((33 + y1)), .ref 65], ab_dD h)) (fun n => rfl) c3 ?_
      obtain ⟨c4, hf⟩ := ab_ask_s hf
      refine ab_Ex.grd (c := (33 + y1) < 0 ∨ 3102 ≤ ((33 + y1) : Int32).toNatClampNeg) (S := (23, [(0, .ref 64), (1, .int y1)], [], ab_dD (ab_wI h 65 ((33 + y1) : Int32).toNatClampNeg (h.1 71 (y1 : Int32).toNatClampNeg)))) (fun n => rfl) c4 ?_
      refine ab_Ex.blk (k := 2) (pc' := 2) (lv' := [(0, .ref 64), (1, .int ((y1 + 1)))]) (st' := []) (sh' := ab_SH) (D' := ab_dD (ab_wI h 65 ((33 + y1) : Int32).toNatClampNeg (h.1 71 (y1 : Int32).toNatClampNeg))) (fun n => rfl) ?_
      exact ih ((y1 + 1)) (ab_wI h 65 ((33 + y1) : Int32).toNatClampNeg (h.1 71 (y1 : Int32).toNatClampNeg)) _ hf
set_option maxRecDepth 20000 in
theorem sX12_isAgain (d : Nat) (X : abX)  (h : abJ) (z : abJ) (hf : fX12_isAgain  h = some z) : ab_Ex X (d + 0) 229 0 [(0, .ref 64)] [] ab_SH (ab_dD h) (fun r => r = (none, ab_SH, ab_dD z)) := by
  unfold fX12_isAgain at hf
  refine ab_Ex.blk (k := 2) (pc' := 2) (lv' := [(0, .ref 64), (1, .int 0)]) (st' := []) (sh' := ab_SH) (D' := ab_dD h) (fun n => rfl) ?_
  exact sX12_isAgain_L2 d X  ab_N 0 h _ hf
def fX12_notes_L57   : Nat → Int32 → abJ → Option abJ
  | 0, _, _ => none
  | n + 1, y1, h => if 9 ≤ y1 then some (ab_wI h 65 42 ((h.1 65 42) + 1)) else ab_ask (y1 < 0 ∨ 9 ≤ (y1 : Int32).toNatClampNeg) (ab_ask (((43 + (9 * (h.1 65 42))) + y1) < 0 ∨ 3102 ≤ (((43 + (9 * (h.1 65 42))) + y1) : Int32).toNatClampNeg) (fX12_notes_L57 n ((y1 + 1)) (ab_wI h 65 (((43 + (9 * (h.1 65 42))) + y1) : Int32).toNatClampNeg (h.1 71 (y1 : Int32).toNatClampNeg))))
def fX12_notes_J55   (h : abJ) : Option abJ := fX12_notes_L57 ab_N 0 h
def fX12_notes_L14   : Nat → Int32 → abJ → Option abJ
  | 0, _, _ => none
  | n + 1, y1, h => if 81 ≤ y1 then fX12_notes_J55 (ab_wI h 65 42 ((h.1 65 42) - 1)) else ab_ask ((52 + y1) < 0 ∨ 3102 ≤ ((52 + y1) : Int32).toNatClampNeg) (ab_ask ((43 + y1) < 0 ∨ 3102 ≤ ((43 + y1) : Int32).toNatClampNeg) (fX12_notes_L14 n ((y1 + 1)) (ab_wI h 65 ((43 + y1) : Int32).toNatClampNeg (h.1 65 ((52 + y1) : Int32).toNatClampNeg))))
def fX12_notes  (h : abJ) : Option abJ := if (h.1 65 42) = 10 then fX12_notes_L14 ab_N 0 h else fX12_notes_J55 h
set_option maxRecDepth 20000 in
theorem sX12_notes_L57 (d : Nat) (X : abX)   : ∀ (n : Nat), ∀ (y1 : Int32) (h : abJ) (z : abJ), fX12_notes_L57 n y1 h = some z → ab_Ex X (d + 0) 230 57 [(0, .ref 64), (1, .int y1)] [] ab_SH (ab_dD h) (fun r => r = (none, ab_SH, ab_dD z)) := by
  intro n
  induction n with
  | zero => intro y1 h z hf; cases hf
  | succ n ih =>
    intro y1 h z hf
    rw [fX12_notes_L57] at hf
    refine ab_Ex.blk (k := 2) (pc' := 60) (lv' := [(0, .ref 64), (1, .int y1)]) (st' := [.int 9, .int y1]) (sh' := ab_SH) (D' := ab_dD h) (fun n => rfl) ?_
    refine ab_Ex.ifc (c := 9 ≤ y1) (SA := (95, [(0, .ref 64), (1, .int y1)], [], ab_dD h)) (SB := (63, [(0, .ref 64), (1, .int y1)], [], ab_dD h)) (fun n => rfl) (fun c3 => ?_) (fun c3 => ?_)
    · replace hf := (if_pos c3).symm.trans hf
      refine ab_Ex.blk (k := 4) (pc' := 102) (lv' := [(0, .ref 64), (1, .int y1)]) (st' := [.int 42, .ref 65, .int 42, .ref 65]) (sh' := ab_SH) (D' := ab_dD h) (fun n => rfl) ?_
      refine ab_Ex.blk (k := 1) (pc' := 103) (lv' := [(0, .ref 64), (1, .int y1)]) (st' := [.int ((h.1 65 42)), .int 42, .ref 65]) (sh' := ab_SH) (D' := ab_dD h) (fun n => rfl) ?_
      refine ab_Ex.blk (k := 2) (pc' := 105) (lv' := [(0, .ref 64), (1, .int y1)]) (st' := [.int (((h.1 65 42) + 1)), .int 42, .ref 65]) (sh' := ab_SH) (D' := ab_dD h) (fun n => rfl) ?_
      refine ab_Ex.blk (k := 1) (pc' := 106) (lv' := [(0, .ref 64), (1, .int y1)]) (st' := []) (sh' := ab_SH) (D' := ab_dD (ab_wI h 65 42 ((h.1 65 42) + 1))) (fun n => rfl) ?_
      obtain rfl := Option.some.inj hf
      exact ab_Ex.ret (fun n => rfl) rfl
    · replace hf := (if_neg c3).symm.trans hf
      refine ab_Ex.blk (k := 7) (pc' := 77) (lv' := [(0, .ref 64), (1, .int y1)]) (st' := [.int 42, .ref 65, .int 9, .int 43, .ref 65]) (sh' := ab_SH) (D' := ab_dD h) (fun n => rfl) ?_
      refine ab_Ex.blk (k := 1) (pc' := 78) (lv' := [(0, .ref 64), (1, .int y1)]) (st' := [.int ((h.1 65 42)), .int 9, .int 43, .ref 65]) (sh' := ab_SH) (D' := ab_dD h) (fun n => rfl) ?_
      refine ab_Ex.blk (k := 7) (pc' := 87) (lv' := [(0, .ref 64), (1, .int y1)]) (st' := [.int y1, .ref 71, .int (((43 + (9 * (h.1 65 42))) + y1)), .ref 65]) (sh' := ab_SH) (D' := ab_dD h) (fun n => rfl) ?_
      obtain ⟨c5, hf⟩ := ab_ask_s hf
      refine ab_Ex.grd (c := y1 < 0 ∨ 9 ≤ (y1 : Int32).toNatClampNeg) (S := (88, [(0, .ref 64), (1, .int y1)], [.int ((h.1 71 (y1 : Int32).toNatClampNeg)), .int (((43 + (9 * (h.1 65 42))) + y1)), .ref 65], ab_dD h)) (fun n => rfl) c5 ?_
      obtain ⟨c6, hf⟩ := ab_ask_s hf
      refine ab_Ex.grd (c := ((43 + (9 * (h.1 65 42))) + y1) < 0 ∨ 3102 ≤ (((43 + (9 * (h.1 65 42))) + y1) : Int32).toNatClampNeg) (S := (89, [(0, .ref 64), (1, .int y1)], [], ab_dD (ab_wI h 65 (((43 + (9 * (h.1 65 42))) + y1) : Int32).toNatClampNeg (h.1 71 (y1 : Int32).toNatClampNeg)))) (fun n => rfl) c6 ?_
      refine ab_Ex.blk (k := 2) (pc' := 57) (lv' := [(0, .ref 64), (1, .int ((y1 + 1)))]) (st' := []) (sh' := ab_SH) (D' := ab_dD (ab_wI h 65 (((43 + (9 * (h.1 65 42))) + y1) : Int32).toNatClampNeg (h.1 71 (y1 : Int32).toNatClampNeg))) (fun n => rfl) ?_
      exact ih ((y1 + 1)) (ab_wI h 65 (((43 + (9 * (h.1 65 42))) + y1) : Int32).toNatClampNeg (h.1 71 (y1 : Int32).toNatClampNeg)) _ hf
set_option maxRecDepth 20000 in
theorem sX12_notes_J55 (d : Nat) (X : abX)   : ∀ (h : abJ) (z : abJ), fX12_notes_J55 h = some z → ab_Ex X (d + 0) 230 55 [(0, .ref 64)] [] ab_SH (ab_dD h) (fun r => r = (none, ab_SH, ab_dD z)) := by
  intro h z hf
  unfold fX12_notes_J55 at hf
  refine ab_Ex.blk (k := 2) (pc' := 57) (lv' := [(0, .ref 64), (1, .int 0)]) (st' := []) (sh' := ab_SH) (D' := ab_dD h) (fun n => rfl) ?_
  exact sX12_notes_L57 d X  ab_N 0 h _ hf
set_option maxRecDepth 20000 in
theorem sX12_notes_L14 (d : Nat) (X : abX)   : ∀ (n : Nat), ∀ (y1 : Int32) (h : abJ) (z : abJ), fX12_notes_L14 n y1 h = some z → ab_Ex X (d + 0) 230 14 [(0, .ref 64), (1, .int y1)] [] ab_SH (ab_dD h) (fun r => r = (none, ab_SH, ab_dD z)) := by
  intro n
  induction n with
  | zero => intro y1 h z hf; cases hf
  | succ n ih =>
    intro y1 h z hf
    rw [fX12_notes_L14] at hf
    refine ab_Ex.blk (k := 2) (pc' := 17) (lv' := [(0, .ref 64), (1, .int y1)]) (st' := [.int 81, .int y1]) (sh' := ab_SH) (D' := ab_dD h) (fun n => rfl) ?_
    refine ab_Ex.ifc (c := 81 ≤ y1) (SA := (44, [(0, .ref 64), (1, .int y1)], [], ab_dD h)) (SB := (20, [(0, .ref 64), (1, .int y1)], [], ab_dD h)) (fun n => rfl) (fun c2 => ?_) (fun c2 => ?_)
    · replace hf := (if_pos c2).symm.trans hf
      refine ab_Ex.blk (k := 4) (pc' := 51) (lv' := [(0, .ref 64), (1, .int y1)]) (st' := [.int 42, .ref 65, .int 42, .ref 65]) (sh' := ab_SH) (D' := ab_dD h) (fun n => rfl) ?_
      refine ab_Ex.blk (k := 1) (pc' := 52) (lv' := [(0, .ref 64), (1, .int y1)]) (st' := [.int ((h.1 65 42)), .int 42, .ref 65]) (sh' := ab_SH) (D' := ab_dD h) (fun n => rfl) ?_
      refine ab_Ex.blk (k := 2) (pc' := 54) (lv' := [(0, .ref 64), (1, .int y1)]) (st' := [.int (((h.1 65 42) - 1)), .int 42, .ref 65]) (sh' := ab_SH) (D' := ab_dD h) (fun n => rfl) ?_
      refine ab_Ex.blk (k := 1) (pc' := 55) (lv' := [(0, .ref 64)]) (st' := []) (sh' := ab_SH) (D' := ab_dD (ab_wI h 65 42 ((h.1 65 42) - 1))) (fun n => rfl) ?_
      exact sX12_notes_J55 d X  (ab_wI h 65 42 ((h.1 65 42) - 1)) _ hf
    · replace hf := (if_neg c2).symm.trans hf
      refine ab_Ex.blk (k := 10) (pc' := 36) (lv' := [(0, .ref 64), (1, .int y1)]) (st' := [.int ((52 + y1)), .ref 65, .int ((43 + y1)), .ref 65]) (sh' := ab_SH) (D' := ab_dD h) (fun n => rfl) ?_
      obtain ⟨c8, hf⟩ := ab_ask_s hf
      refine ab_Ex.grd (c := (52 + y1) < 0 ∨ 3102 ≤ ((52 + y1) : Int32).toNatClampNeg) (S := (37, [(0, .ref 64), (1, .int y1)], [.int ((h.1 65 ((52 + y1) : Int32).toNatClampNeg)), .int ((43 + y1)), .ref 65], ab_dD h)) (fun n => rfl) c8 ?_
      obtain ⟨c9, hf⟩ := ab_ask_s hf
      refine ab_Ex.grd (c := (43 + y1) < 0 ∨ 3102 ≤ ((43 + y1) : Int32).toNatClampNeg) (S := (38, [(0, .ref 64), (1, .int y1)], [], ab_dD (ab_wI h 65 ((43 + y1) : Int32).toNatClampNeg (h.1 65 ((52 + y1) : Int32).toNatClampNeg)))) (fun n => rfl) c9 ?_
      refine ab_Ex.blk (k := 2) (pc' := 14) (lv' := [(0, .ref 64), (1, .int ((y1 + 1)))]) (st' := []) (sh' := ab_SH) (D' := ab_dD (ab_wI h 65 ((43 + y1) : Int32).toNatClampNeg (h.1 65 ((52 + y1) : Int32).toNatClampNeg))) (fun n => rfl) ?_
      exact ih ((y1 + 1)) (ab_wI h 65 ((43 + y1) : Int32).toNatClampNeg (h.1 65 ((52 + y1) : Int32).toNatClampNeg)) _ hf
set_option maxRecDepth 20000 in
theorem sX12_notes (d : Nat) (X : abX)  (h : abJ) (z : abJ) (hf : fX12_notes  h = some z) : ab_Ex X (d + 0) 230 0 [(0, .ref 64)] [] ab_SH (ab_dD h) (fun r => r = (none, ab_SH, ab_dD z)) := by
  unfold fX12_notes at hf
  refine ab_Ex.blk (k := 3) (pc' := 6) (lv' := [(0, .ref 64)]) (st' := [.int 42, .ref 65]) (sh' := ab_SH) (D' := ab_dD h) (fun n => rfl) ?_
  refine ab_Ex.blk (k := 1) (pc' := 7) (lv' := [(0, .ref 64)]) (st' := [.int ((h.1 65 42))]) (sh' := ab_SH) (D' := ab_dD h) (fun n => rfl) ?_
  refine ab_Ex.blk (k := 1) (pc' := 9) (lv' := [(0, .ref 64)]) (st' := [.int 10, .int ((h.1 65 42))]) (sh' := ab_SH) (D' := ab_dD h) (fun n => rfl) ?_
  refine ab_Ex.ifc (c := (h.1 65 42) = 10) (SA := (12, [(0, .ref 64)], [], ab_dD h)) (SB := (55, [(0, .ref 64)], [], ab_dD h)) (fun n => rfl) (fun c1 => ?_) (fun c1 => ?_)
  · replace hf := (if_pos c1).symm.trans hf
    refine ab_Ex.blk (k := 2) (pc' := 14) (lv' := [(0, .ref 64), (1, .int 0)]) (st' := []) (sh' := ab_SH) (D' := ab_dD h) (fun n => rfl) ?_
    exact sX12_notes_L14 d X  ab_N 0 h _ hf
  · replace hf := (if_neg c1).symm.trans hf
    exact sX12_notes_J55 d X  h _ hf
