def fX3_roadsOf (o : Nat) (x0 : Int32) (h : abJ) : Option Int32 := if x0 < 0 then some 0 else if (h.1 o 0) ≤ x0 then some 0 else if x0 < 6 then ab_ask (x0 < 0 ∨ 6 ≤ (x0 : Int32).toNatClampNeg) (some (h.1 (o + 1) (x0 : Int32).toNatClampNeg)) else some 0
theorem sX3_roadsOf_1 (d : Nat) (X : abX) (x0 : Int32) (h : abJ) (z : Int32) (hf : fX3_roadsOf 1 x0 h = some z) : ab_Ex X (d + 0) 35 0 [(0, .ref 1), (1, .int x0)] [] ab_SH (ab_dD h) (fun r => r = (some (.int z), ab_SH, ab_dD h)) := by
  unfold fX3_roadsOf at hf
  try simp only [Nat.reduceAdd] at hf
  refine ab_Ex.blk (k := 1) (pc' := 1) (lv' := [(0, .ref 1), (1, .int x0)]) (st' := [.int x0]) (sh' := ab_SH) (D' := ab_dD h) (fun n => rfl) ?_
  refine ab_Ex.ifc (c := x0 < 0) (SA := (18, [(0, .ref 1), (1, .int x0)], [], ab_dD h)) (SB := (4, [(0, .ref 1), (1, .int x0)], [], ab_dD h)) (fun n => rfl) (fun c1 => ?_) (fun c1 => ?_)
  · replace hf := (if_pos c1).symm.trans hf
    refine ab_Ex.blk (k := 2) (pc' := 28) (lv' := []) (st' := [.int 0]) (sh' := ab_SH) (D' := ab_dD h) (fun n => rfl) ?_
    obtain rfl := Option.some.inj hf
    exact ab_Ex.ret (fun n => rfl) rfl
  · replace hf := (if_neg c1).symm.trans hf
    refine ab_Ex.blk (k := 3) (pc' := 9) (lv' := [(0, .ref 1), (1, .int x0)]) (st' := [.int ((h.1 1 0)), .int x0]) (sh' := ab_SH) (D' := ab_dD h) (fun n => rfl) ?_
    refine ab_Ex.ifc (c := (h.1 1 0) ≤ x0) (SA := (18, [(0, .ref 1), (1, .int x0)], [], ab_dD h)) (SB := (12, [(0, .ref 1), (1, .int x0)], [], ab_dD h)) (fun n => rfl) (fun c2 => ?_) (fun c2 => ?_)
    · replace hf := (if_pos c2).symm.trans hf
      refine ab_Ex.blk (k := 2) (pc' := 28) (lv' := []) (st' := [.int 0]) (sh' := ab_SH) (D' := ab_dD h) (fun n => rfl) ?_
      obtain rfl := Option.some.inj hf
      exact ab_Ex.ret (fun n => rfl) rfl
    · replace hf := (if_neg c2).symm.trans hf
      refine ab_Ex.blk (k := 2) (pc' := 15) (lv' := [(0, .ref 1), (1, .int x0)]) (st' := [.int 6, .int x0]) (sh' := ab_SH) (D' := ab_dD h) (fun n => rfl) ?_
      refine ab_Ex.ifc (c := x0 < 6) (SA := (22, [(0, .ref 1), (1, .int x0)], [], ab_dD h)) (SB := (18, [(0, .ref 1), (1, .int x0)], [], ab_dD h)) (fun n => rfl) (fun c3 => ?_) (fun c3 => ?_)
      · replace hf := (if_pos c3).symm.trans hf
        refine ab_Ex.blk (k := 3) (pc' := 27) (lv' := [(0, .ref 1), (1, .int x0)]) (st' := [.int x0, .ref 2]) (sh' := ab_SH) (D' := ab_dD h) (fun n => rfl) ?_
        obtain ⟨c5, hf⟩ := ab_ask_s hf
        refine ab_Ex.grd (c := x0 < 0 ∨ 6 ≤ (x0 : Int32).toNatClampNeg) (S := (28, [(0, .ref 1), (1, .int x0)], [.int ((h.1 2 (x0 : Int32).toNatClampNeg))], ab_dD h)) (fun n => rfl) c5 ?_
        obtain rfl := Option.some.inj hf
        exact ab_Ex.ret (fun n => rfl) rfl
      · replace hf := (if_neg c3).symm.trans hf
        refine ab_Ex.blk (k := 2) (pc' := 28) (lv' := []) (st' := [.int 0]) (sh' := ab_SH) (D' := ab_dD h) (fun n => rfl) ?_
        obtain rfl := Option.some.inj hf
        exact ab_Ex.ret (fun n => rfl) rfl
theorem sX3_roadsOf_5 (d : Nat) (X : abX) (x0 : Int32) (h : abJ) (z : Int32) (hf : fX3_roadsOf 5 x0 h = some z) : ab_Ex X (d + 0) 35 0 [(0, .ref 5), (1, .int x0)] [] ab_SH (ab_dD h) (fun r => r = (some (.int z), ab_SH, ab_dD h)) := by
  unfold fX3_roadsOf at hf
  try simp only [Nat.reduceAdd] at hf
  refine ab_Ex.blk (k := 1) (pc' := 1) (lv' := [(0, .ref 5), (1, .int x0)]) (st' := [.int x0]) (sh' := ab_SH) (D' := ab_dD h) (fun n => rfl) ?_
  refine ab_Ex.ifc (c := x0 < 0) (SA := (18, [(0, .ref 5), (1, .int x0)], [], ab_dD h)) (SB := (4, [(0, .ref 5), (1, .int x0)], [], ab_dD h)) (fun n => rfl) (fun c1 => ?_) (fun c1 => ?_)
  · replace hf := (if_pos c1).symm.trans hf
    refine ab_Ex.blk (k := 2) (pc' := 28) (lv' := []) (st' := [.int 0]) (sh' := ab_SH) (D' := ab_dD h) (fun n => rfl) ?_
    obtain rfl := Option.some.inj hf
    exact ab_Ex.ret (fun n => rfl) rfl
  · replace hf := (if_neg c1).symm.trans hf
    refine ab_Ex.blk (k := 3) (pc' := 9) (lv' := [(0, .ref 5), (1, .int x0)]) (st' := [.int ((h.1 5 0)), .int x0]) (sh' := ab_SH) (D' := ab_dD h) (fun n => rfl) ?_
    refine ab_Ex.ifc (c := (h.1 5 0) ≤ x0) (SA := (18, [(0, .ref 5), (1, .int x0)], [], ab_dD h)) (SB := (12, [(0, .ref 5), (1, .int x0)], [], ab_dD h)) (fun n => rfl) (fun c2 => ?_) (fun c2 => ?_)
    · replace hf := (if_pos c2).symm.trans hf
      refine ab_Ex.blk (k := 2) (pc' := 28) (lv' := []) (st' := [.int 0]) (sh' := ab_SH) (D' := ab_dD h) (fun n => rfl) ?_
      obtain rfl := Option.some.inj hf
      exact ab_Ex.ret (fun n => rfl) rfl
    · replace hf := (if_neg c2).symm.trans hf
      refine ab_Ex.blk (k := 2) (pc' := 15) (lv' := [(0, .ref 5), (1, .int x0)]) (st' := [.int 6, .int x0]) (sh' := ab_SH) (D' := ab_dD h) (fun n => rfl) ?_
      refine ab_Ex.ifc (c := x0 < 6) (SA := (22, [(0, .ref 5), (1, .int x0)], [], ab_dD h)) (SB := (18, [(0, .ref 5), (1, .int x0)], [], ab_dD h)) (fun n => rfl) (fun c3 => ?_) (fun c3 => ?_)
      · replace hf := (if_pos c3).symm.trans hf
        refine ab_Ex.blk (k := 3) (pc' := 27) (lv' := [(0, .ref 5), (1, .int x0)]) (st' := [.int x0, .ref 6]) (sh' := ab_SH) (D' := ab_dD h) (fun n => rfl) ?_
        obtain ⟨c5, hf⟩ := ab_ask_s hf
        refine ab_Ex.grd (c := x0 < 0 ∨ 6 ≤ (x0 : Int32).toNatClampNeg) (S := (28, [(0, .ref 5), (1, .int x0)], [.int ((h.1 6 (x0 : Int32).toNatClampNeg))], ab_dD h)) (fun n => rfl) c5 ?_
        obtain rfl := Option.some.inj hf
        exact ab_Ex.ret (fun n => rfl) rfl
      · replace hf := (if_neg c3).symm.trans hf
        refine ab_Ex.blk (k := 2) (pc' := 28) (lv' := []) (st' := [.int 0]) (sh' := ab_SH) (D' := ab_dD h) (fun n => rfl) ?_
        obtain rfl := Option.some.inj hf
        exact ab_Ex.ret (fun n => rfl) rfl
def fX3_has (o : Nat) (x0 : Int32) (h : abJ) : Option Int32 := if x0 < 0 then some 0 else if (h.1 o 0) ≤ x0 then some 0 else if 6 ≤ x0 then some 0 else some 1
theorem sX3_has_1 (d : Nat) (X : abX) (x0 : Int32) (h : abJ) (z : Int32) (hf : fX3_has 1 x0 h = some z) : ab_Ex X (d + 0) 34 0 [(0, .ref 1), (1, .int x0)] [] ab_SH (ab_dD h) (fun r => r = (some (.int z), ab_SH, ab_dD h)) := by
  unfold fX3_has at hf
  try simp only [Nat.reduceAdd] at hf
  refine ab_Ex.blk (k := 1) (pc' := 1) (lv' := [(0, .ref 1), (1, .int x0)]) (st' := [.int x0]) (sh' := ab_SH) (D' := ab_dD h) (fun n => rfl) ?_
  refine ab_Ex.ifc (c := x0 < 0) (SA := (22, [(0, .ref 1), (1, .int x0)], [], ab_dD h)) (SB := (4, [(0, .ref 1), (1, .int x0)], [], ab_dD h)) (fun n => rfl) (fun c1 => ?_) (fun c1 => ?_)
  · replace hf := (if_pos c1).symm.trans hf
    refine ab_Ex.blk (k := 1) (pc' := 23) (lv' := []) (st' := [.int 0]) (sh' := ab_SH) (D' := ab_dD h) (fun n => rfl) ?_
    obtain rfl := Option.some.inj hf
    exact ab_Ex.ret (fun n => rfl) rfl
  · replace hf := (if_neg c1).symm.trans hf
    refine ab_Ex.blk (k := 3) (pc' := 9) (lv' := [(0, .ref 1), (1, .int x0)]) (st' := [.int ((h.1 1 0)), .int x0]) (sh' := ab_SH) (D' := ab_dD h) (fun n => rfl) ?_
    refine ab_Ex.ifc (c := (h.1 1 0) ≤ x0) (SA := (22, [(0, .ref 1), (1, .int x0)], [], ab_dD h)) (SB := (12, [(0, .ref 1), (1, .int x0)], [], ab_dD h)) (fun n => rfl) (fun c2 => ?_) (fun c2 => ?_)
    · replace hf := (if_pos c2).symm.trans hf
      refine ab_Ex.blk (k := 1) (pc' := 23) (lv' := []) (st' := [.int 0]) (sh' := ab_SH) (D' := ab_dD h) (fun n => rfl) ?_
      obtain rfl := Option.some.inj hf
      exact ab_Ex.ret (fun n => rfl) rfl
    · replace hf := (if_neg c2).symm.trans hf
      refine ab_Ex.blk (k := 2) (pc' := 15) (lv' := [(0, .ref 1), (1, .int x0)]) (st' := [.int 6, .int x0]) (sh' := ab_SH) (D' := ab_dD h) (fun n => rfl) ?_
      refine ab_Ex.ifc (c := 6 ≤ x0) (SA := (22, [(0, .ref 1), (1, .int x0)], [], ab_dD h)) (SB := (18, [(0, .ref 1), (1, .int x0)], [], ab_dD h)) (fun n => rfl) (fun c3 => ?_) (fun c3 => ?_)
      · replace hf := (if_pos c3).symm.trans hf
        refine ab_Ex.blk (k := 1) (pc' := 23) (lv' := []) (st' := [.int 0]) (sh' := ab_SH) (D' := ab_dD h) (fun n => rfl) ?_
        obtain rfl := Option.some.inj hf
        exact ab_Ex.ret (fun n => rfl) rfl
      · replace hf := (if_neg c3).symm.trans hf
        refine ab_Ex.blk (k := 2) (pc' := 23) (lv' := []) (st' := [.int 1]) (sh' := ab_SH) (D' := ab_dD h) (fun n => rfl) ?_
        obtain rfl := Option.some.inj hf
        exact ab_Ex.ret (fun n => rfl) rfl
theorem sX3_has_5 (d : Nat) (X : abX) (x0 : Int32) (h : abJ) (z : Int32) (hf : fX3_has 5 x0 h = some z) : ab_Ex X (d + 0) 34 0 [(0, .ref 5), (1, .int x0)] [] ab_SH (ab_dD h) (fun r => r = (some (.int z), ab_SH, ab_dD h)) := by
  unfold fX3_has at hf
  try simp only [Nat.reduceAdd] at hf
  refine ab_Ex.blk (k := 1) (pc' := 1) (lv' := [(0, .ref 5), (1, .int x0)]) (st' := [.int x0]) (sh' := ab_SH) (D' := ab_dD h) (fun n => rfl) ?_
  refine ab_Ex.ifc (c := x0 < 0) (SA := (22, [(0, .ref 5), (1, .int x0)], [], ab_dD h)) (SB := (4, [(0, .ref 5), (1, .int x0)], [], ab_dD h)) (fun n => rfl) (fun c1 => ?_) (fun c1 => ?_)
  · replace hf := (if_pos c1).symm.trans hf
    refine ab_Ex.blk (k := 1) (pc' := 23) (lv' := []) (st' := [.int 0]) (sh' := ab_SH) (D' := ab_dD h) (fun n => rfl) ?_
    obtain rfl := Option.some.inj hf
    exact ab_Ex.ret (fun n => rfl) rfl
  · replace hf := (if_neg c1).symm.trans hf
    refine ab_Ex.blk (k := 3) (pc' := 9) (lv' := [(0, .ref 5), (1, .int x0)]) (st' := [.int ((h.1 5 0)), .int x0]) (sh' := ab_SH) (D' := ab_dD h) (fun n => rfl) ?_
    refine ab_Ex.ifc (c := (h.1 5 0) ≤ x0) (SA := (22, [(0, .ref 5), (1, .int x0)], [], ab_dD h)) (SB := (12, [(0, .ref 5), (1, .int x0)], [], ab_dD h)) (fun n => rfl) (fun c2 => ?_) (fun c2 => ?_)
    · replace hf := (if_pos c2).symm.trans hf
      refine ab_Ex.blk (k := 1) (pc' := 23) (lv' := []) (st' := [.int 0]) (sh' := ab_SH) (D' := ab_dD h) (fun n => rfl) ?_
      obtain rfl := Option.some.inj hf
      exact ab_Ex.ret (fun n => rfl) rfl
    · replace hf := (if_neg c2).symm.trans hf
      refine ab_Ex.blk (k := 2) (pc' := 15) (lv' := [(0, .ref 5), (1, .int x0)]) (st' := [.int 6, .int x0]) (sh' := ab_SH) (D' := ab_dD h) (fun n => rfl) ?_
      refine ab_Ex.ifc (c := 6 ≤ x0) (SA := (22, [(0, .ref 5), (1, .int x0)], [], ab_dD h)) (SB := (18, [(0, .ref 5), (1, .int x0)], [], ab_dD h)) (fun n => rfl) (fun c3 => ?_) (fun c3 => ?_)
      · replace hf := (if_pos c3).symm.trans hf
        refine ab_Ex.blk (k := 1) (pc' := 23) (lv' := []) (st' := [.int 0]) (sh' := ab_SH) (D' := ab_dD h) (fun n => rfl) ?_
        obtain rfl := Option.some.inj hf
        exact ab_Ex.ret (fun n => rfl) rfl
      · replace hf := (if_neg c3).symm.trans hf
        refine ab_Ex.blk (k := 2) (pc' := 23) (lv' := []) (st' := [.int 1]) (sh' := ab_SH) (D' := ab_dD h) (fun n => rfl) ?_
        obtain rfl := Option.some.inj hf
        exact ab_Ex.ret (fun n => rfl) rfl
def fX3_leadsTo (x0 : Int32) (x1 : Int32) (h : abJ) : Option Int32 := if x1 < 0 then some (-1) else (fX3_roadsOf 1 x0 h).bind (fun r2 => if x1 < r2 then ab_ask (((x0 * 3) + x1) < 0 ∨ 18 ≤ (((x0 * 3) + x1) : Int32).toNatClampNeg) (some (h.1 3 (((x0 * 3) + x1) : Int32).toNatClampNeg)) else some (-1))
theorem sX3_leadsTo (d : Nat) (X : abX) (x0 : Int32) (x1 : Int32) (h : abJ) (z : Int32) (hf : fX3_leadsTo x0 x1 h = some z) : ab_Ex X (d + 1) 36 0 [(0, .ref 1), (1, .int x0), (2, .int x1)] [] ab_SH (ab_dD h) (fun r => r = (some (.int z), ab_SH, ab_dD h)) := by
  unfold fX3_leadsTo at hf
  refine ab_Ex.blk (k := 1) (pc' := 1) (lv' := [(0, .ref 1), (1, .int x0), (2, .int x1)]) (st' := [.int x1]) (sh' := ab_SH) (D' := ab_dD h) (fun n => rfl) ?_
  refine ab_Ex.ifc (c := x1 < 0) (SA := (13, [(0, .ref 1), (1, .int x0), (2, .int x1)], [], ab_dD h)) (SB := (4, [(0, .ref 1), (1, .int x0), (2, .int x1)], [], ab_dD h)) (fun n => rfl) (fun c1 => ?_) (fun c1 => ?_)
  · replace hf := (if_pos c1).symm.trans hf
    refine ab_Ex.blk (k := 2) (pc' := 27) (lv' := []) (st' := [.int ((-1))]) (sh' := ab_SH) (D' := ab_dD h) (fun n => rfl) ?_
    obtain rfl := Option.some.inj hf
    exact ab_Ex.ret (fun n => rfl) rfl
  · replace hf := (if_neg c1).symm.trans hf
    refine ab_Ex.blk (k := 3) (pc' := 7) (lv' := [(0, .ref 1), (1, .int x0), (2, .int x1)]) (st' := [.int x0, .ref 1, .int x1]) (sh' := ab_SH) (D' := ab_dD h) (fun n => rfl) ?_
    obtain ⟨r2, hr2, hf⟩ := ab_bind_s hf
    refine ab_Ex.call (d := d + 0) (M2 := 35) (as := [.ref 1, .int x0]) (rest := [.int x1]) (fun n => rfl) rfl (Nat.not_lt.mpr (Nat.le_of_ble_eq_true rfl)) (sX3_roadsOf_1 (d) X x0 h _ hr2) (fun r hr => ?_)
    subst hr
    show ab_Ex X (d + 1) 36 10 [(0, .ref 1), (1, .int x0), (2, .int x1)] [.int r2, .int x1] ab_SH (ab_dD h) _
    refine ab_Ex.ifc (c := x1 < r2) (SA := (17, [(0, .ref 1), (1, .int x0), (2, .int x1)], [], ab_dD h)) (SB := (13, [(0, .ref 1), (1, .int x0), (2, .int x1)], [], ab_dD h)) (fun n => rfl) (fun c3 => ?_) (fun c3 => ?_)
    · replace hf := (if_pos c3).symm.trans hf
      refine ab_Ex.blk (k := 7) (pc' := 26) (lv' := [(0, .ref 1), (1, .int x0), (2, .int x1)]) (st' := [.int (((x0 * 3) + x1)), .ref 3]) (sh' := ab_SH) (D' := ab_dD h) (fun n => rfl) ?_
      obtain ⟨c5, hf⟩ := ab_ask_s hf
      refine ab_Ex.grd (c := ((x0 * 3) + x1) < 0 ∨ 18 ≤ (((x0 * 3) + x1) : Int32).toNatClampNeg) (S := (27, [(0, .ref 1), (1, .int x0), (2, .int x1)], [.int ((h.1 3 (((x0 * 3) + x1) : Int32).toNatClampNeg))], ab_dD h)) (fun n => rfl) c5 ?_
      obtain rfl := Option.some.inj hf
      exact ab_Ex.ret (fun n => rfl) rfl
    · replace hf := (if_neg c3).symm.trans hf
      refine ab_Ex.blk (k := 2) (pc' := 27) (lv' := []) (st' := [.int ((-1))]) (sh' := ab_SH) (D' := ab_dD h) (fun n => rfl) ?_
      obtain rfl := Option.some.inj hf
      exact ab_Ex.ret (fun n => rfl) rfl
def fX11_isIn (x0 : Int32) (x1 : Int32) (h : abJ) : Option Int32 := if x1 < 0 then some 0 else if 6 ≤ x1 then some 0 else if ((x0 >>> (x1 &&& 31)) &&& 1) = 0 then some 0 else some 1
theorem sX11_isIn (d : Nat) (X : abX) (x0 : Int32) (x1 : Int32) (h : abJ) (z : Int32) (hf : fX11_isIn x0 x1 h = some z) : ab_Ex X (d + 0) 174 0 [(0, .int x0), (1, .int x1)] [] ab_SH (ab_dD h) (fun r => r = (some (.int z), ab_SH, ab_dD h)) := by
  unfold fX11_isIn at hf
  refine ab_Ex.blk (k := 1) (pc' := 1) (lv' := [(0, .int x0), (1, .int x1)]) (st' := [.int x1]) (sh' := ab_SH) (D' := ab_dD h) (fun n => rfl) ?_
  refine ab_Ex.ifc (c := x1 < 0) (SA := (22, [(0, .int x0), (1, .int x1)], [], ab_dD h)) (SB := (4, [(0, .int x0), (1, .int x1)], [], ab_dD h)) (fun n => rfl) (fun c1 => ?_) (fun c1 => ?_)
  · replace hf := (if_pos c1).symm.trans hf
    refine ab_Ex.blk (k := 1) (pc' := 23) (lv' := []) (st' := [.int 0]) (sh' := ab_SH) (D' := ab_dD h) (fun n => rfl) ?_
    obtain rfl := Option.some.inj hf
    exact ab_Ex.ret (fun n => rfl) rfl
  · replace hf := (if_neg c1).symm.trans hf
    refine ab_Ex.blk (k := 2) (pc' := 7) (lv' := [(0, .int x0), (1, .int x1)]) (st' := [.int 6, .int x1]) (sh' := ab_SH) (D' := ab_dD h) (fun n => rfl) ?_
    refine ab_Ex.ifc (c := 6 ≤ x1) (SA := (22, [(0, .int x0), (1, .int x1)], [], ab_dD h)) (SB := (10, [(0, .int x0), (1, .int x1)], [], ab_dD h)) (fun n => rfl) (fun c2 => ?_) (fun c2 => ?_)
    · replace hf := (if_pos c2).symm.trans hf
      refine ab_Ex.blk (k := 1) (pc' := 23) (lv' := []) (st' := [.int 0]) (sh' := ab_SH) (D' := ab_dD h) (fun n => rfl) ?_
      obtain rfl := Option.some.inj hf
      exact ab_Ex.ret (fun n => rfl) rfl
    · replace hf := (if_neg c2).symm.trans hf
      refine ab_Ex.blk (k := 5) (pc' := 15) (lv' := [(0, .int x0), (1, .int x1)]) (st' := [.int (((x0 >>> (x1 &&& 31)) &&& 1))]) (sh' := ab_SH) (D' := ab_dD h) (fun n => rfl) ?_
      refine ab_Ex.ifc (c := ((x0 >>> (x1 &&& 31)) &&& 1) = 0) (SA := (22, [(0, .int x0), (1, .int x1)], [], ab_dD h)) (SB := (18, [(0, .int x0), (1, .int x1)], [], ab_dD h)) (fun n => rfl) (fun c3 => ?_) (fun c3 => ?_)
      · replace hf := (if_pos c3).symm.trans hf
        refine ab_Ex.blk (k := 1) (pc' := 23) (lv' := []) (st' := [.int 0]) (sh' := ab_SH) (D' := ab_dD h) (fun n => rfl) ?_
        obtain rfl := Option.some.inj hf
        exact ab_Ex.ret (fun n => rfl) rfl
      · replace hf := (if_neg c3).symm.trans hf
        refine ab_Ex.blk (k := 2) (pc' := 23) (lv' := []) (st' := [.int 1]) (sh' := ab_SH) (D' := ab_dD h) (fun n => rfl) ?_
        obtain rfl := Option.some.inj hf
        exact ab_Ex.ret (fun n => rfl) rfl
def fX11_armOf (x0 : Int32) (x1 : Int32) (h : abJ) : Option Int32 := if x1 < 0 then some 0 else if x1 < 6 then ab_ask (x1 < 0 ∨ 7 ≤ (x1 : Int32).toNatClampNeg) (ab_ask ((ab_wt.getD (x1 : Int32).toNatClampNeg 0) = 0) (some ((x0 / (ab_wt.getD (x1 : Int32).toNatClampNeg 0)) - (x0 / (ab_wt.getD (x1 : Int32).toNatClampNeg 0)) / 3 * 3))) else some 0
theorem sX11_armOf (d : Nat) (X : abX) (x0 : Int32) (x1 : Int32) (h : abJ) (z : Int32) (hf : fX11_armOf x0 x1 h = some z) : ab_Ex X (d + 0) 172 0 [(0, .int x0), (1, .int x1)] [] ab_SH (ab_dD h) (fun r => r = (some (.int z), ab_SH, ab_dD h)) := by
  unfold fX11_armOf at hf
  refine ab_Ex.blk (k := 1) (pc' := 1) (lv' := [(0, .int x0), (1, .int x1)]) (st' := [.int x1]) (sh' := ab_SH) (D' := ab_dD h) (fun n => rfl) ?_
  refine ab_Ex.ifc (c := x1 < 0) (SA := (10, [(0, .int x0), (1, .int x1)], [], ab_dD h)) (SB := (4, [(0, .int x0), (1, .int x1)], [], ab_dD h)) (fun n => rfl) (fun c1 => ?_) (fun c1 => ?_)
  · replace hf := (if_pos c1).symm.trans hf
    refine ab_Ex.blk (k := 2) (pc' := 23) (lv' := []) (st' := [.int 0]) (sh' := ab_SH) (D' := ab_dD h) (fun n => rfl) ?_
    obtain rfl := Option.some.inj hf
    exact ab_Ex.ret (fun n => rfl) rfl
  · replace hf := (if_neg c1).symm.trans hf
    refine ab_Ex.blk (k := 2) (pc' := 7) (lv' := [(0, .int x0), (1, .int x1)]) (st' := [.int 6, .int x1]) (sh' := ab_SH) (D' := ab_dD h) (fun n => rfl) ?_
    refine ab_Ex.ifc (c := x1 < 6) (SA := (14, [(0, .int x0), (1, .int x1)], [], ab_dD h)) (SB := (10, [(0, .int x0), (1, .int x1)], [], ab_dD h)) (fun n => rfl) (fun c2 => ?_) (fun c2 => ?_)
    · replace hf := (if_pos c2).symm.trans hf
      refine ab_Ex.blk (k := 3) (pc' := 19) (lv' := [(0, .int x0), (1, .int x1)]) (st' := [.int x1, .ref 3000000, .int x0]) (sh' := ab_SH) (D' := ab_dD h) (fun n => rfl) ?_
      obtain ⟨c4, hf⟩ := ab_ask_s hf
      refine ab_Ex.grd (c := x1 < 0 ∨ 7 ≤ (x1 : Int32).toNatClampNeg) (S := (20, [(0, .int x0), (1, .int x1)], [.int ((ab_wt.getD (x1 : Int32).toNatClampNeg 0)), .int x0], ab_dD h)) (fun n => rfl) c4 ?_
      obtain ⟨c5, hf⟩ := ab_ask_s hf
      refine ab_Ex.grd (c := (ab_wt.getD (x1 : Int32).toNatClampNeg 0) = 0) (S := (21, [(0, .int x0), (1, .int x1)], [.int ((x0 / (ab_wt.getD (x1 : Int32).toNatClampNeg 0)))], ab_dD h)) (fun n => rfl) c5 ?_
      refine ab_Ex.blk (k := 1) (pc' := 22) (lv' := [(0, .int x0), (1, .int x1)]) (st' := [.int 3, .int ((x0 / (ab_wt.getD (x1 : Int32).toNatClampNeg 0)))]) (sh' := ab_SH) (D' := ab_dD h) (fun n => rfl) ?_
      refine ab_Ex.blk (k := 1) (pc' := 23) (lv' := []) (st' := [.int (((x0 / (ab_wt.getD (x1 : Int32).toNatClampNeg 0)) - (x0 / (ab_wt.getD (x1 : Int32).toNatClampNeg 0)) / 3 * 3))]) (sh' := ab_SH) (D' := ab_dD h) (fun n => rfl) ?_
      obtain rfl := Option.some.inj hf
      exact ab_Ex.ret (fun n => rfl) rfl
    · replace hf := (if_neg c2).symm.trans hf
      refine ab_Ex.blk (k := 2) (pc' := 23) (lv' := []) (st' := [.int 0]) (sh' := ab_SH) (D' := ab_dD h) (fun n => rfl) ?_
      obtain rfl := Option.some.inj hf
      exact ab_Ex.ret (fun n => rfl) rfl
def fX11_withArm (x0 : Int32) (x1 : Int32) (x2 : Int32) (h : abJ) : Option Int32 := if x1 < 0 then some x0 else if x1 < 6 then (fX11_armOf x0 x1 h).bind (fun r3 => ab_ask (x1 < 0 ∨ 7 ≤ (x1 : Int32).toNatClampNeg) (some (x0 + ((x2 - r3) * (ab_wt.getD (x1 : Int32).toNatClampNeg 0))))) else some x0
theorem sX11_withArm (d : Nat) (X : abX) (x0 : Int32) (x1 : Int32) (x2 : Int32) (h : abJ) (z : Int32) (hf : fX11_withArm x0 x1 x2 h = some z) : ab_Ex X (d + 1) 173 0 [(0, .int x0), (1, .int x1), (2, .int x2)] [] ab_SH (ab_dD h) (fun r => r = (some (.int z), ab_SH, ab_dD h)) := by
  unfold fX11_withArm at hf
  refine ab_Ex.blk (k := 1) (pc' := 1) (lv' := [(0, .int x0), (1, .int x1), (2, .int x2)]) (st' := [.int x1]) (sh' := ab_SH) (D' := ab_dD h) (fun n => rfl) ?_
  refine ab_Ex.ifc (c := x1 < 0) (SA := (10, [(0, .int x0), (1, .int x1), (2, .int x2)], [], ab_dD h)) (SB := (4, [(0, .int x0), (1, .int x1), (2, .int x2)], [], ab_dD h)) (fun n => rfl) (fun c1 => ?_) (fun c1 => ?_)
  · replace hf := (if_pos c1).symm.trans hf
    refine ab_Ex.blk (k := 2) (pc' := 29) (lv' := []) (st' := [.int x0]) (sh' := ab_SH) (D' := ab_dD h) (fun n => rfl) ?_
    obtain rfl := Option.some.inj hf
    exact ab_Ex.ret (fun n => rfl) rfl
  · replace hf := (if_neg c1).symm.trans hf
    refine ab_Ex.blk (k := 2) (pc' := 7) (lv' := [(0, .int x0), (1, .int x1), (2, .int x2)]) (st' := [.int 6, .int x1]) (sh' := ab_SH) (D' := ab_dD h) (fun n => rfl) ?_
    refine ab_Ex.ifc (c := x1 < 6) (SA := (14, [(0, .int x0), (1, .int x1), (2, .int x2)], [], ab_dD h)) (SB := (10, [(0, .int x0), (1, .int x1), (2, .int x2)], [], ab_dD h)) (fun n => rfl) (fun c2 => ?_) (fun c2 => ?_)
    · replace hf := (if_pos c2).symm.trans hf
      refine ab_Ex.blk (k := 4) (pc' := 18) (lv' := [(0, .int x0), (1, .int x1), (2, .int x2)]) (st' := [.int x1, .int x0, .int x2, .int x0]) (sh' := ab_SH) (D' := ab_dD h) (fun n => rfl) ?_
      obtain ⟨r3, hr3, hf⟩ := ab_bind_s hf
      refine ab_Ex.call (d := d + 0) (M2 := 172) (as := [.int x0, .int x1]) (rest := [.int x2, .int x0]) (fun n => rfl) rfl (Nat.not_lt.mpr (Nat.le_of_ble_eq_true rfl)) (sX11_armOf (d) X x0 x1 h _ hr3) (fun r hr => ?_)
      subst hr
      show ab_Ex X (d + 1) 173 21 [(0, .int x0), (1, .int x1), (2, .int x2)] [.int r3, .int x2, .int x0] ab_SH (ab_dD h) _
      refine ab_Ex.blk (k := 3) (pc' := 26) (lv' := [(0, .int x0), (1, .int x1), (2, .int x2)]) (st' := [.int x1, .ref 3000000, .int ((x2 - r3)), .int x0]) (sh' := ab_SH) (D' := ab_dD h) (fun n => rfl) ?_
      obtain ⟨c5, hf⟩ := ab_ask_s hf
      refine ab_Ex.grd (c := x1 < 0 ∨ 7 ≤ (x1 : Int32).toNatClampNeg) (S := (27, [(0, .int x0), (1, .int x1), (2, .int x2)], [.int ((ab_wt.getD (x1 : Int32).toNatClampNeg 0)), .int ((x2 - r3)), .int x0], ab_dD h)) (fun n => rfl) c5 ?_
      refine ab_Ex.blk (k := 2) (pc' := 29) (lv' := []) (st' := [.int ((x0 + ((x2 - r3) * (ab_wt.getD (x1 : Int32).toNatClampNeg 0))))]) (sh' := ab_SH) (D' := ab_dD h) (fun n => rfl) ?_
      obtain rfl := Option.some.inj hf
      exact ab_Ex.ret (fun n => rfl) rfl
    · replace hf := (if_neg c2).symm.trans hf
      refine ab_Ex.blk (k := 2) (pc' := 29) (lv' := []) (st' := [.int x0]) (sh' := ab_SH) (D' := ab_dD h) (fun n => rfl) ?_
      obtain rfl := Option.some.inj hf
      exact ab_Ex.ret (fun n => rfl) rfl
def fX12_placeOf_L4  (h : abJ)  : Nat → Int32 → Int32 → Int32 → Option Int32
  | 0, _, _, _ => none
  | n + 1, y0, y1, y2 => if y0 ≤ y2 then some y1 else fX12_placeOf_L4 h n y0 ((y1 * 3)) ((y2 + 1))
def fX12_placeOf (x0 : Int32) (h : abJ) : Option Int32 := fX12_placeOf_L4 h ab_N x0 1 0
theorem sX12_placeOf_L4 (d : Nat) (X : abX) (h : abJ)   : ∀ (n : Nat), ∀ (y0 : Int32) (y1 : Int32) (y2 : Int32) (z : Int32), fX12_placeOf_L4 h n y0 y1 y2 = some z → ab_Ex X (d + 0) 211 4 [(0, .int y0), (1, .int y1), (2, .int y2)] [] ab_SH (ab_dD h) (fun r => r = (some (.int z), ab_SH, ab_dD h)) := by
  intro n
  induction n with
  | zero => intro y0 y1 y2 z hf; cases hf
  | succ n ih =>
    intro y0 y1 y2 z hf
    rw [fX12_placeOf_L4] at hf
    refine ab_Ex.blk (k := 2) (pc' := 6) (lv' := [(0, .int y0), (1, .int y1), (2, .int y2)]) (st' := [.int y0, .int y2]) (sh' := ab_SH) (D' := ab_dD h) (fun n => rfl) ?_
    refine ab_Ex.ifc (c := y0 ≤ y2) (SA := (19, [(0, .int y0), (1, .int y1), (2, .int y2)], [], ab_dD h)) (SB := (9, [(0, .int y0), (1, .int y1), (2, .int y2)], [], ab_dD h)) (fun n => rfl) (fun c1 => ?_) (fun c1 => ?_)
    · replace hf := (if_pos c1).symm.trans hf
      refine ab_Ex.blk (k := 1) (pc' := 20) (lv' := [(0, .int y0), (1, .int y1), (2, .int y2)]) (st' := [.int y1]) (sh' := ab_SH) (D' := ab_dD h) (fun n => rfl) ?_
      obtain rfl := Option.some.inj hf
      exact ab_Ex.ret (fun n => rfl) rfl
    · replace hf := (if_neg c1).symm.trans hf
      refine ab_Ex.blk (k := 6) (pc' := 4) (lv' := [(0, .int y0), (1, .int ((y1 * 3))), (2, .int ((y2 + 1)))]) (st' := []) (sh' := ab_SH) (D' := ab_dD h) (fun n => rfl) ?_
      exact ih y0 ((y1 * 3)) ((y2 + 1)) _ hf
theorem sX12_placeOf (d : Nat) (X : abX) (x0 : Int32) (h : abJ) (z : Int32) (hf : fX12_placeOf x0 h = some z) : ab_Ex X (d + 0) 211 0 [(0, .int x0)] [] ab_SH (ab_dD h) (fun r => r = (some (.int z), ab_SH, ab_dD h)) := by
  unfold fX12_placeOf at hf
  refine ab_Ex.blk (k := 4) (pc' := 4) (lv' := [(0, .int x0), (1, .int 1), (2, .int 0)]) (st' := []) (sh' := ab_SH) (D' := ab_dD h) (fun n => rfl) ?_
  exact sX12_placeOf_L4 d X h ab_N x0 1 0 _ hf
def fX12_armIn (x0 : Int32) (x1 : Int32) (h : abJ) : Option Int32 := (fX12_placeOf x1 h).bind (fun r1 => ab_ask (r1 = 0) (some ((x0 / r1) - (x0 / r1) / 3 * 3)))
theorem sX12_armIn (d : Nat) (X : abX) (x0 : Int32) (x1 : Int32) (h : abJ) (z : Int32) (hf : fX12_armIn x0 x1 h = some z) : ab_Ex X (d + 1) 212 0 [(0, .int x0), (1, .int x1)] [] ab_SH (ab_dD h) (fun r => r = (some (.int z), ab_SH, ab_dD h)) := by
  unfold fX12_armIn at hf
  refine ab_Ex.blk (k := 2) (pc' := 2) (lv' := [(0, .int x0), (1, .int x1)]) (st' := [.int x1, .int x0]) (sh' := ab_SH) (D' := ab_dD h) (fun n => rfl) ?_
  obtain ⟨r1, hr1, hf⟩ := ab_bind_s hf
  refine ab_Ex.call (d := d + 0) (M2 := 211) (as := [.int x1]) (rest := [.int x0]) (fun n => rfl) rfl (Nat.not_lt.mpr (Nat.le_of_ble_eq_true rfl)) (sX12_placeOf (d) X x1 h _ hr1) (fun r hr => ?_)
  subst hr
  show ab_Ex X (d + 1) 212 5 [(0, .int x0), (1, .int x1)] [.int r1, .int x0] ab_SH (ab_dD h) _
  obtain ⟨c2, hf⟩ := ab_ask_s hf
  refine ab_Ex.grd (c := r1 = 0) (S := (6, [(0, .int x0), (1, .int x1)], [.int ((x0 / r1))], ab_dD h)) (fun n => rfl) c2 ?_
  refine ab_Ex.blk (k := 1) (pc' := 7) (lv' := [(0, .int x0), (1, .int x1)]) (st' := [.int 3, .int ((x0 / r1))]) (sh' := ab_SH) (D' := ab_dD h) (fun n => rfl) ?_
  refine ab_Ex.blk (k := 1) (pc' := 8) (lv' := [(0, .int x0), (1, .int x1)]) (st' := [.int (((x0 / r1) - (x0 / r1) / 3 * 3))]) (sh' := ab_SH) (D' := ab_dD h) (fun n => rfl) ?_
  obtain rfl := Option.some.inj hf
  exact ab_Ex.ret (fun n => rfl) rfl
def fX12_armsNow_L4  (h : abJ)  : Nat → Int32 → Int32 → Option Int32
  | 0, _, _ => none
  | n + 1, y1, y2 => ab_ask (1 < 0 ∨ 3102 ≤ (1 : Int32).toNatClampNeg) (if (h.1 65 (1 : Int32).toNatClampNeg) ≤ y2 then some y1 else (fX12_placeOf y2 h).bind (fun r4 => ab_ask ((34 + y2) < 0 ∨ 3102 ≤ ((34 + y2) : Int32).toNatClampNeg) (fX12_armsNow_L4 h n ((y1 + (r4 * (h.1 65 ((34 + y2) : Int32).toNatClampNeg)))) ((y2 + 1)))))
def fX12_armsNow  (h : abJ) : Option Int32 := fX12_armsNow_L4 h ab_N 0 0
theorem sX12_armsNow_L4 (d : Nat) (X : abX) (h : abJ)   : ∀ (n : Nat), ∀ (y1 : Int32) (y2 : Int32) (z : Int32), fX12_armsNow_L4 h n y1 y2 = some z → ab_Ex X (d + 1) 214 4 [(0, .ref 64), (1, .int y1), (2, .int y2)] [] ab_SH (ab_dD h) (fun r => r = (some (.int z), ab_SH, ab_dD h)) := by
  intro n
  induction n with
  | zero => intro y1 y2 z hf; cases hf
  | succ n ih =>
    intro y1 y2 z hf
    rw [fX12_armsNow_L4] at hf
    refine ab_Ex.blk (k := 4) (pc' := 10) (lv' := [(0, .ref 64), (1, .int y1), (2, .int y2)]) (st' := [.int 1, .ref 65, .int y2]) (sh' := ab_SH) (D' := ab_dD h) (fun n => rfl) ?_
    obtain ⟨c2, hf⟩ := ab_ask_s hf
    refine ab_Ex.grd (c := 1 < 0 ∨ 3102 ≤ (1 : Int32).toNatClampNeg) (S := (11, [(0, .ref 64), (1, .int y1), (2, .int y2)], [.int ((h.1 65 (1 : Int32).toNatClampNeg)), .int y2], ab_dD h)) (fun n => rfl) c2 ?_
    refine ab_Ex.ifc (c := (h.1 65 (1 : Int32).toNatClampNeg) ≤ y2) (SA := (37, [(0, .ref 64), (1, .int y1), (2, .int y2)], [], ab_dD h)) (SB := (14, [(0, .ref 64), (1, .int y1), (2, .int y2)], [], ab_dD h)) (fun n => rfl) (fun c3 => ?_) (fun c3 => ?_)
    · replace hf := (if_pos c3).symm.trans hf
      refine ab_Ex.blk (k := 1) (pc' := 38) (lv' := [(0, .ref 64), (1, .int y1), (2, .int y2)]) (st' := [.int y1]) (sh' := ab_SH) (D' := ab_dD h) (fun n => rfl) ?_
      obtain rfl := Option.some.inj hf
      exact ab_Ex.ret (fun n => rfl) rfl
    · replace hf := (if_neg c3).symm.trans hf
      refine ab_Ex.blk (k := 2) (pc' := 16) (lv' := [(0, .ref 64), (1, .int y1), (2, .int y2)]) (st' := [.int y2, .int y1]) (sh' := ab_SH) (D' := ab_dD h) (fun n => rfl) ?_
      obtain ⟨r4, hr4, hf⟩ := ab_bind_s hf
      refine ab_Ex.call (d := d + 0) (M2 := 211) (as := [.int y2]) (rest := [.int y1]) (fun n => rfl) rfl (Nat.not_lt.mpr (Nat.le_of_ble_eq_true rfl)) (sX12_placeOf (d) X y2 h _ hr4) (fun r hr => ?_)
      subst hr
      show ab_Ex X (d + 1) 214 19 [(0, .ref 64), (1, .int y1), (2, .int y2)] [.int r4, .int y1] ab_SH (ab_dD h) _
      refine ab_Ex.blk (k := 5) (pc' := 27) (lv' := [(0, .ref 64), (1, .int y1), (2, .int y2)]) (st' := [.int ((34 + y2)), .ref 65, .int r4, .int y1]) (sh' := ab_SH) (D' := ab_dD h) (fun n => rfl) ?_
      obtain ⟨c6, hf⟩ := ab_ask_s hf
      refine ab_Ex.grd (c := (34 + y2) < 0 ∨ 3102 ≤ ((34 + y2) : Int32).toNatClampNeg) (S := (28, [(0, .ref 64), (1, .int y1), (2, .int y2)], [.int ((h.1 65 ((34 + y2) : Int32).toNatClampNeg)), .int r4, .int y1], ab_dD h)) (fun n => rfl) c6 ?_
      refine ab_Ex.blk (k := 5) (pc' := 4) (lv' := [(0, .ref 64), (1, .int ((y1 + (r4 * (h.1 65 ((34 + y2) : Int32).toNatClampNeg))))), (2, .int ((y2 + 1)))]) (st' := []) (sh' := ab_SH) (D' := ab_dD h) (fun n => rfl) ?_
      exact ih ((y1 + (r4 * (h.1 65 ((34 + y2) : Int32).toNatClampNeg)))) ((y2 + 1)) _ hf
theorem sX12_armsNow (d : Nat) (X : abX)  (h : abJ) (z : Int32) (hf : fX12_armsNow  h = some z) : ab_Ex X (d + 1) 214 0 [(0, .ref 64)] [] ab_SH (ab_dD h) (fun r => r = (some (.int z), ab_SH, ab_dD h)) := by
  unfold fX12_armsNow at hf
  refine ab_Ex.blk (k := 4) (pc' := 4) (lv' := [(0, .ref 64), (1, .int 0), (2, .int 0)]) (st' := []) (sh' := ab_SH) (D' := ab_dD h) (fun n => rfl) ?_
  exact sX12_armsNow_L4 d X h ab_N 0 0 _ hf
def fX12_areArms_J45  (h : abJ) (k2 : Int32 → Int32 → Option Int32) (y1 : Int32) (y2 : Int32) : Option Int32 := k2 y1 ((y2 + 1))
def fX12_areArms_L2  (h : abJ)  : Nat → Int32 → Int32 → Option Int32
  | 0, _, _ => none
  | n + 1, y1, y2 => if 6 ≤ y2 then some 1 else (fX12_armIn y1 y2 h).bind (fun r2 => if r2 ≤ 0 then fX12_areArms_J45 h (fun y1 y2 => fX12_areArms_L2 h n y1 y2) y1 y2 else ab_ask (1 < 0 ∨ 3102 ≤ (1 : Int32).toNatClampNeg) (if (h.1 65 (1 : Int32).toNatClampNeg) ≤ y2 then some 0 else (fX12_armIn y1 y2 h).bind (fun r7 => ab_ask ((9 + y2) < 0 ∨ 3102 ≤ ((9 + y2) : Int32).toNatClampNeg) (if r7 < (h.1 65 ((9 + y2) : Int32).toNatClampNeg) then fX12_areArms_J45 h (fun y1 y2 => fX12_areArms_L2 h n y1 y2) y1 y2 else some 0))))
def fX12_areArms (x0 : Int32) (h : abJ) : Option Int32 := fX12_areArms_L2 h ab_N x0 0
theorem sX12_areArms_J45 (d : Nat) (X : abX) (h : abJ) (k2 : Int32 → Int32 → Option Int32) (hk2 : ∀ (y1 : Int32) (y2 : Int32) (z : Int32), k2 y1 y2 = some z → ab_Ex X (d + 2) 219 2 [(0, .ref 64), (1, .int y1), (2, .int y2)] [] ab_SH (ab_dD h) (fun r => r = (some (.int z), ab_SH, ab_dD h))) : ∀ (y1 : Int32) (y2 : Int32) (z : Int32), fX12_areArms_J45 h k2 y1 y2 = some z → ab_Ex X (d + 2) 219 45 [(0, .ref 64), (1, .int y1), (2, .int y2)] [] ab_SH (ab_dD h) (fun r => r = (some (.int z), ab_SH, ab_dD h)) := by
  intro y1 y2 z hf
  unfold fX12_areArms_J45 at hf
  refine ab_Ex.blk (k := 2) (pc' := 2) (lv' := [(0, .ref 64), (1, .int y1), (2, .int ((y2 + 1)))]) (st' := []) (sh' := ab_SH) (D' := ab_dD h) (fun n => rfl) ?_
  exact hk2 y1 ((y2 + 1)) _ hf
theorem sX12_areArms_L2 (d : Nat) (X : abX) (h : abJ)   : ∀ (n : Nat), ∀ (y1 : Int32) (y2 : Int32) (z : Int32), fX12_areArms_L2 h n y1 y2 = some z → ab_Ex X (d + 2) 219 2 [(0, .ref 64), (1, .int y1), (2, .int y2)] [] ab_SH (ab_dD h) (fun r => r = (some (.int z), ab_SH, ab_dD h)) := by
  intro n
  induction n with
  | zero => intro y1 y2 z hf; cases hf
  | succ n ih =>
    intro y1 y2 z hf
    rw [fX12_areArms_L2] at hf
    refine ab_Ex.blk (k := 2) (pc' := 5) (lv' := [(0, .ref 64), (1, .int y1), (2, .int y2)]) (st' := [.int 6, .int y2]) (sh' := ab_SH) (D' := ab_dD h) (fun n => rfl) ?_
    refine ab_Ex.ifc (c := 6 ≤ y2) (SA := (51, [(0, .ref 64), (1, .int y1), (2, .int y2)], [], ab_dD h)) (SB := (8, [(0, .ref 64), (1, .int y1), (2, .int y2)], [], ab_dD h)) (fun n => rfl) (fun c1 => ?_) (fun c1 => ?_)
    · replace hf := (if_pos c1).symm.trans hf
      refine ab_Ex.blk (k := 1) (pc' := 52) (lv' := [(0, .ref 64), (1, .int y1), (2, .int y2)]) (st' := [.int 1]) (sh' := ab_SH) (D' := ab_dD h) (fun n => rfl) ?_
      obtain rfl := Option.some.inj hf
      exact ab_Ex.ret (fun n => rfl) rfl
    · replace hf := (if_neg c1).symm.trans hf
      refine ab_Ex.blk (k := 2) (pc' := 10) (lv' := [(0, .ref 64), (1, .int y1), (2, .int y2)]) (st' := [.int y2, .int y1]) (sh' := ab_SH) (D' := ab_dD h) (fun n => rfl) ?_
      obtain ⟨r2, hr2, hf⟩ := ab_bind_s hf
      refine ab_Ex.call (d := d + 1) (M2 := 212) (as := [.int y1, .int y2]) (rest := []) (fun n => rfl) rfl (Nat.not_lt.mpr (Nat.le_of_ble_eq_true rfl)) (sX12_armIn (d) X y1 y2 h _ hr2) (fun r hr => ?_)
      subst hr
      show ab_Ex X (d + 2) 219 13 [(0, .ref 64), (1, .int y1), (2, .int y2)] [.int r2] ab_SH (ab_dD h) _
      refine ab_Ex.ifc (c := r2 ≤ 0) (SA := (45, [(0, .ref 64), (1, .int y1), (2, .int y2)], [], ab_dD h)) (SB := (16, [(0, .ref 64), (1, .int y1), (2, .int y2)], [], ab_dD h)) (fun n => rfl) (fun c3 => ?_) (fun c3 => ?_)
      · replace hf := (if_pos c3).symm.trans hf
        exact sX12_areArms_J45 d X h (fun y1 y2 => fX12_areArms_L2 h n y1 y2) (fun y1 y2 z hz => ih y1 y2 z hz) y1 y2 _ hf
      · replace hf := (if_neg c3).symm.trans hf
        refine ab_Ex.blk (k := 4) (pc' := 22) (lv' := [(0, .ref 64), (1, .int y1), (2, .int y2)]) (st' := [.int 1, .ref 65, .int y2]) (sh' := ab_SH) (D' := ab_dD h) (fun n => rfl) ?_
        obtain ⟨c5, hf⟩ := ab_ask_s hf
        refine ab_Ex.grd (c := 1 < 0 ∨ 3102 ≤ (1 : Int32).toNatClampNeg) (S := (23, [(0, .ref 64), (1, .int y1), (2, .int y2)], [.int ((h.1 65 (1 : Int32).toNatClampNeg)), .int y2], ab_dD h)) (fun n => rfl) c5 ?_
        refine ab_Ex.ifc (c := (h.1 65 (1 : Int32).toNatClampNeg) ≤ y2) (SA := (43, [(0, .ref 64), (1, .int y1), (2, .int y2)], [], ab_dD h)) (SB := (26, [(0, .ref 64), (1, .int y1), (2, .int y2)], [], ab_dD h)) (fun n => rfl) (fun c6 => ?_) (fun c6 => ?_)
        · replace hf := (if_pos c6).symm.trans hf
          refine ab_Ex.blk (k := 1) (pc' := 44) (lv' := []) (st' := [.int 0]) (sh' := ab_SH) (D' := ab_dD h) (fun n => rfl) ?_
          obtain rfl := Option.some.inj hf
          exact ab_Ex.ret (fun n => rfl) rfl
        · replace hf := (if_neg c6).symm.trans hf
          refine ab_Ex.blk (k := 2) (pc' := 28) (lv' := [(0, .ref 64), (1, .int y1), (2, .int y2)]) (st' := [.int y2, .int y1]) (sh' := ab_SH) (D' := ab_dD h) (fun n => rfl) ?_
          obtain ⟨r7, hr7, hf⟩ := ab_bind_s hf
          refine ab_Ex.call (d := d + 1) (M2 := 212) (as := [.int y1, .int y2]) (rest := []) (fun n => rfl) rfl (Nat.not_lt.mpr (Nat.le_of_ble_eq_true rfl)) (sX12_armIn (d) X y1 y2 h _ hr7) (fun r hr => ?_)
          subst hr
          show ab_Ex X (d + 2) 219 31 [(0, .ref 64), (1, .int y1), (2, .int y2)] [.int r7] ab_SH (ab_dD h) _
          refine ab_Ex.blk (k := 5) (pc' := 39) (lv' := [(0, .ref 64), (1, .int y1), (2, .int y2)]) (st' := [.int ((9 + y2)), .ref 65, .int r7]) (sh' := ab_SH) (D' := ab_dD h) (fun n => rfl) ?_
          obtain ⟨c9, hf⟩ := ab_ask_s hf
          refine ab_Ex.grd (c := (9 + y2) < 0 ∨ 3102 ≤ ((9 + y2) : Int32).toNatClampNeg) (S := (40, [(0, .ref 64), (1, .int y1), (2, .int y2)], [.int ((h.1 65 ((9 + y2) : Int32).toNatClampNeg)), .int r7], ab_dD h)) (fun n => rfl) c9 ?_
          refine ab_Ex.ifc (c := r7 < (h.1 65 ((9 + y2) : Int32).toNatClampNeg)) (SA := (45, [(0, .ref 64), (1, .int y1), (2, .int y2)], [], ab_dD h)) (SB := (43, [(0, .ref 64), (1, .int y1), (2, .int y2)], [], ab_dD h)) (fun n => rfl) (fun c10 => ?_) (fun c10 => ?_)
          · replace hf := (if_pos c10).symm.trans hf
            exact sX12_areArms_J45 d X h (fun y1 y2 => fX12_areArms_L2 h n y1 y2) (fun y1 y2 z hz => ih y1 y2 z hz) y1 y2 _ hf
          · replace hf := (if_neg c10).symm.trans hf
            refine ab_Ex.blk (k := 1) (pc' := 44) (lv' := []) (st' := [.int 0]) (sh' := ab_SH) (D' := ab_dD h) (fun n => rfl) ?_
            obtain rfl := Option.some.inj hf
            exact ab_Ex.ret (fun n => rfl) rfl
theorem sX12_areArms (d : Nat) (X : abX) (x0 : Int32) (h : abJ) (z : Int32) (hf : fX12_areArms x0 h = some z) : ab_Ex X (d + 2) 219 0 [(0, .ref 64), (1, .int x0)] [] ab_SH (ab_dD h) (fun r => r = (some (.int z), ab_SH, ab_dD h)) := by
  unfold fX12_areArms at hf
  refine ab_Ex.blk (k := 2) (pc' := 2) (lv' := [(0, .ref 64), (1, .int x0), (2, .int 0)]) (st' := []) (sh' := ab_SH) (D' := ab_dD h) (fun n => rfl) ?_
  exact sX12_areArms_L2 d X h ab_N x0 0 _ hf
def fX3_canShow_L2  (h : abJ)  : Nat → Int32 → Int32 → Option Int32
  | 0, _, _ => none
  | n + 1, y1, y2 => if (h.1 1 0) ≤ y2 then some 1 else (fX11_armOf y1 y2 h).bind (fun r2 => (fX3_roadsOf 1 y2 h).bind (fun r3 => (fJ9_max_7cf53 1 r3 h).bind (fun r4 => if r2 < r4 then fX3_canShow_L2 h n y1 ((y2 + 1)) else some 0)))
def fX3_canShow (x0 : Int32) (h : abJ) : Option Int32 := fX3_canShow_L2 h ab_N x0 0
theorem sX3_canShow_L2 (d : Nat) (X : abX) (h : abJ)   : ∀ (n : Nat), ∀ (y1 : Int32) (y2 : Int32) (z : Int32), fX3_canShow_L2 h n y1 y2 = some z → ab_Ex X (d + 1) 42 2 [(0, .ref 1), (1, .int y1), (2, .int y2)] [] ab_SH (ab_dD h) (fun r => r = (some (.int z), ab_SH, ab_dD h)) := by
  intro n
  induction n with
  | zero => intro y1 y2 z hf; cases hf
  | succ n ih =>
    intro y1 y2 z hf
    rw [fX3_canShow_L2] at hf
    refine ab_Ex.blk (k := 3) (pc' := 7) (lv' := [(0, .ref 1), (1, .int y1), (2, .int y2)]) (st' := [.int ((h.1 1 0)), .int y2]) (sh' := ab_SH) (D' := ab_dD h) (fun n => rfl) ?_
    refine ab_Ex.ifc (c := (h.1 1 0) ≤ y2) (SA := (35, [(0, .ref 1), (1, .int y1), (2, .int y2)], [], ab_dD h)) (SB := (10, [(0, .ref 1), (1, .int y1), (2, .int y2)], [], ab_dD h)) (fun n => rfl) (fun c1 => ?_) (fun c1 => ?_)
    · replace hf := (if_pos c1).symm.trans hf
      refine ab_Ex.blk (k := 1) (pc' := 36) (lv' := [(0, .ref 1), (1, .int y1), (2, .int y2)]) (st' := [.int 1]) (sh' := ab_SH) (D' := ab_dD h) (fun n => rfl) ?_
      obtain rfl := Option.some.inj hf
      exact ab_Ex.ret (fun n => rfl) rfl
    · replace hf := (if_neg c1).symm.trans hf
      refine ab_Ex.blk (k := 2) (pc' := 12) (lv' := [(0, .ref 1), (1, .int y1), (2, .int y2)]) (st' := [.int y2, .int y1]) (sh' := ab_SH) (D' := ab_dD h) (fun n => rfl) ?_
      obtain ⟨r2, hr2, hf⟩ := ab_bind_s hf
      refine ab_Ex.call (d := d + 0) (M2 := 172) (as := [.int y1, .int y2]) (rest := []) (fun n => rfl) rfl (Nat.not_lt.mpr (Nat.le_of_ble_eq_true rfl)) (sX11_armOf (d) X y1 y2 h _ hr2) (fun r hr => ?_)
      subst hr
      show ab_Ex X (d + 1) 42 15 [(0, .ref 1), (1, .int y1), (2, .int y2)] [.int r2] ab_SH (ab_dD h) _
      refine ab_Ex.blk (k := 3) (pc' := 18) (lv' := [(0, .ref 1), (1, .int y1), (2, .int y2)]) (st' := [.int y2, .ref 1, .int 1, .int r2]) (sh' := ab_SH) (D' := ab_dD h) (fun n => rfl) ?_
      obtain ⟨r3, hr3, hf⟩ := ab_bind_s hf
      refine ab_Ex.call (d := d + 0) (M2 := 35) (as := [.ref 1, .int y2]) (rest := [.int 1, .int r2]) (fun n => rfl) rfl (Nat.not_lt.mpr (Nat.le_of_ble_eq_true rfl)) (sX3_roadsOf_1 (d) X y2 h _ hr3) (fun r hr => ?_)
      subst hr
      show ab_Ex X (d + 1) 42 21 [(0, .ref 1), (1, .int y1), (2, .int y2)] [.int r3, .int 1, .int r2] ab_SH (ab_dD h) _
      obtain ⟨r4, hr4, hf⟩ := ab_bind_s hf
      refine ab_Ex.call (d := d + 0) (M2 := 302) (as := [.int 1, .int r3]) (rest := [.int r2]) (fun n => rfl) rfl (Nat.not_lt.mpr (Nat.le_of_ble_eq_true rfl)) (sJ9_max_7cf53 (d) X 1 r3 h _ hr4) (fun r hr => ?_)
      subst hr
      show ab_Ex X (d + 1) 42 24 [(0, .ref 1), (1, .int y1), (2, .int y2)] [.int r4, .int r2] ab_SH (ab_dD h) _
      refine ab_Ex.ifc (c := r2 < r4) (SA := (29, [(0, .ref 1), (1, .int y1), (2, .int y2)], [], ab_dD h)) (SB := (27, [(0, .ref 1), (1, .int y1), (2, .int y2)], [], ab_dD h)) (fun n => rfl) (fun c5 => ?_) (fun c5 => ?_)
      · replace hf := (if_pos c5).symm.trans hf
        refine ab_Ex.blk (k := 2) (pc' := 2) (lv' := [(0, .ref 1), (1, .int y1), (2, .int ((y2 + 1)))]) (st' := []) (sh' := ab_SH) (D' := ab_dD h) (fun n => rfl) ?_
        exact ih y1 ((y2 + 1)) _ hf
      · replace hf := (if_neg c5).symm.trans hf
        refine ab_Ex.blk (k := 1) (pc' := 28) (lv' := [(0, .ref 1), (1, .int y1), (2, .int y2)]) (st' := [.int 0]) (sh' := ab_SH) (D' := ab_dD h) (fun n => rfl) ?_
        obtain rfl := Option.some.inj hf
        exact ab_Ex.ret (fun n => rfl) rfl
theorem sX3_canShow (d : Nat) (X : abX) (x0 : Int32) (h : abJ) (z : Int32) (hf : fX3_canShow x0 h = some z) : ab_Ex X (d + 1) 42 0 [(0, .ref 1), (1, .int x0)] [] ab_SH (ab_dD h) (fun r => r = (some (.int z), ab_SH, ab_dD h)) := by
  unfold fX3_canShow at hf
  refine ab_Ex.blk (k := 2) (pc' := 2) (lv' := [(0, .ref 1), (1, .int x0), (2, .int 0)]) (st' := []) (sh' := ab_SH) (D' := ab_dD h) (fun n => rfl) ?_
  exact sX3_canShow_L2 d X h ab_N x0 0 _ hf
def fX3_allRoads_L4  (h : abJ)  : Nat → Int32 → Int32 → Option Int32
  | 0, _, _ => none
  | n + 1, y1, y2 => if (h.1 1 0) ≤ y2 then some y1 else (fX3_roadsOf 1 y2 h).bind (fun r2 => fX3_allRoads_L4 h n ((y1 + r2)) ((y2 + 1)))
def fX3_allRoads  (h : abJ) : Option Int32 := fX3_allRoads_L4 h ab_N 0 0
theorem sX3_allRoads_L4 (d : Nat) (X : abX) (h : abJ)   : ∀ (n : Nat), ∀ (y1 : Int32) (y2 : Int32) (z : Int32), fX3_allRoads_L4 h n y1 y2 = some z → ab_Ex X (d + 1) 39 4 [(0, .ref 1), (1, .int y1), (2, .int y2)] [] ab_SH (ab_dD h) (fun r => r = (some (.int z), ab_SH, ab_dD h)) := by
  intro n
  induction n with
  | zero => intro y1 y2 z hf; cases hf
  | succ n ih =>
    intro y1 y2 z hf
    rw [fX3_allRoads_L4] at hf
    refine ab_Ex.blk (k := 3) (pc' := 9) (lv' := [(0, .ref 1), (1, .int y1), (2, .int y2)]) (st' := [.int ((h.1 1 0)), .int y2]) (sh' := ab_SH) (D' := ab_dD h) (fun n => rfl) ?_
    refine ab_Ex.ifc (c := (h.1 1 0) ≤ y2) (SA := (26, [(0, .ref 1), (1, .int y1), (2, .int y2)], [], ab_dD h)) (SB := (12, [(0, .ref 1), (1, .int y1), (2, .int y2)], [], ab_dD h)) (fun n => rfl) (fun c1 => ?_) (fun c1 => ?_)
    · replace hf := (if_pos c1).symm.trans hf
      refine ab_Ex.blk (k := 1) (pc' := 27) (lv' := [(0, .ref 1), (1, .int y1), (2, .int y2)]) (st' := [.int y1]) (sh' := ab_SH) (D' := ab_dD h) (fun n => rfl) ?_
      obtain rfl := Option.some.inj hf
      exact ab_Ex.ret (fun n => rfl) rfl
    · replace hf := (if_neg c1).symm.trans hf
      refine ab_Ex.blk (k := 3) (pc' := 15) (lv' := [(0, .ref 1), (1, .int y1), (2, .int y2)]) (st' := [.int y2, .ref 1, .int y1]) (sh' := ab_SH) (D' := ab_dD h) (fun n => rfl) ?_
      obtain ⟨r2, hr2, hf⟩ := ab_bind_s hf
      refine ab_Ex.call (d := d + 0) (M2 := 35) (as := [.ref 1, .int y2]) (rest := [.int y1]) (fun n => rfl) rfl (Nat.not_lt.mpr (Nat.le_of_ble_eq_true rfl)) (sX3_roadsOf_1 (d) X y2 h _ hr2) (fun r hr => ?_)
      subst hr
      show ab_Ex X (d + 1) 39 18 [(0, .ref 1), (1, .int y1), (2, .int y2)] [.int r2, .int y1] ab_SH (ab_dD h) _
      refine ab_Ex.blk (k := 4) (pc' := 4) (lv' := [(0, .ref 1), (1, .int ((y1 + r2))), (2, .int ((y2 + 1)))]) (st' := []) (sh' := ab_SH) (D' := ab_dD h) (fun n => rfl) ?_
      exact ih ((y1 + r2)) ((y2 + 1)) _ hf
theorem sX3_allRoads (d : Nat) (X : abX)  (h : abJ) (z : Int32) (hf : fX3_allRoads  h = some z) : ab_Ex X (d + 1) 39 0 [(0, .ref 1)] [] ab_SH (ab_dD h) (fun r => r = (some (.int z), ab_SH, ab_dD h)) := by
  unfold fX3_allRoads at hf
  refine ab_Ex.blk (k := 4) (pc' := 4) (lv' := [(0, .ref 1), (1, .int 0), (2, .int 0)]) (st' := []) (sh' := ab_SH) (D' := ab_dD h) (fun n => rfl) ?_
  exact sX3_allRoads_L4 d X h ab_N 0 0 _ hf
def fX1_allLeadTo_J55  (h : abJ) (k2 : Int32 → Int32 → Int32 → Option Int32) (y1 : Int32) (y2 : Int32) (y3 : Int32) (y4 : Int32) : Option Int32 := if y4 = y1 then k2 y1 y2 ((y3 + 1)) else some 0
def fX1_allLeadTo_L19  (h : abJ) (k2 : Int32 → Int32 → Int32 → Option Int32) : Nat → Int32 → Int32 → Int32 → Int32 → Int32 → Option Int32
  | 0, _, _, _, _, _ => none
  | n + 1, y1, y2, y3, y4, y5 => if 6 ≤ y5 then fX1_allLeadTo_J55 h k2 y1 y2 y3 y4 else if y4 = y1 then fX1_allLeadTo_J55 h k2 y1 y2 y3 y4 else (fX11_armOf y2 y4 h).bind (fun r5 => (fX3_leadsTo y4 r5 h).bind (fun r6 => fX1_allLeadTo_L19 h k2 n y1 y2 y3 r6 ((y5 + 1))))
def fX1_allLeadTo_L2  (h : abJ)  : Nat → Int32 → Int32 → Int32 → Option Int32
  | 0, _, _, _ => none
  | n + 1, y1, y2, y3 => if (h.1 1 0) ≤ y3 then some 1 else fX1_allLeadTo_L19 h (fun y1 y2 y3 => fX1_allLeadTo_L2 h n y1 y2 y3) ab_N y1 y2 y3 y3 0
def fX1_allLeadTo (x0 : Int32) (x1 : Int32) (h : abJ) : Option Int32 := fX1_allLeadTo_L2 h ab_N x0 x1 0
theorem sX1_allLeadTo_J55 (d : Nat) (X : abX) (h : abJ) (k2 : Int32 → Int32 → Int32 → Option Int32) (hk2 : ∀ (y1 : Int32) (y2 : Int32) (y3 : Int32) (z : Int32), k2 y1 y2 y3 = some z → ab_Ex X (d + 2) 15 2 [(0, .ref 39), (1, .int y1), (2, .int y2), (3, .int y3)] [] ab_SH (ab_dD h) (fun r => r = (some (.int z), ab_SH, ab_dD h))) : ∀ (y1 : Int32) (y2 : Int32) (y3 : Int32) (y4 : Int32) (z : Int32), fX1_allLeadTo_J55 h k2 y1 y2 y3 y4 = some z → ab_Ex X (d + 2) 15 55 [(0, .ref 39), (1, .int y1), (2, .int y2), (3, .int y3), (4, .int y4)] [] ab_SH (ab_dD h) (fun r => r = (some (.int z), ab_SH, ab_dD h)) := by
  intro y1 y2 y3 y4 z hf
  unfold fX1_allLeadTo_J55 at hf
  refine ab_Ex.blk (k := 2) (pc' := 58) (lv' := [(0, .ref 39), (1, .int y1), (2, .int y2), (3, .int y3), (4, .int y4)]) (st' := [.int y1, .int y4]) (sh' := ab_SH) (D' := ab_dD h) (fun n => rfl) ?_
  refine ab_Ex.ifc (c := y4 = y1) (SA := (63, [(0, .ref 39), (1, .int y1), (2, .int y2), (3, .int y3), (4, .int y4)], [], ab_dD h)) (SB := (61, [(0, .ref 39), (1, .int y1), (2, .int y2), (3, .int y3), (4, .int y4)], [], ab_dD h)) (fun n => rfl) (fun c3 => ?_) (fun c3 => ?_)
  · replace hf := (if_pos c3).symm.trans hf
    refine ab_Ex.blk (k := 2) (pc' := 2) (lv' := [(0, .ref 39), (1, .int y1), (2, .int y2), (3, .int ((y3 + 1)))]) (st' := []) (sh' := ab_SH) (D' := ab_dD h) (fun n => rfl) ?_
    exact hk2 y1 y2 ((y3 + 1)) _ hf
  · replace hf := (if_neg c3).symm.trans hf
    refine ab_Ex.blk (k := 1) (pc' := 62) (lv' := [(0, .ref 39), (1, .int y1), (2, .int y2), (3, .int y3), (4, .int y4)]) (st' := [.int 0]) (sh' := ab_SH) (D' := ab_dD h) (fun n => rfl) ?_
    obtain rfl := Option.some.inj hf
    exact ab_Ex.ret (fun n => rfl) rfl
theorem sX1_allLeadTo_L19 (d : Nat) (X : abX) (h : abJ) (k2 : Int32 → Int32 → Int32 → Option Int32) (hk2 : ∀ (y1 : Int32) (y2 : Int32) (y3 : Int32) (z : Int32), k2 y1 y2 y3 = some z → ab_Ex X (d + 2) 15 2 [(0, .ref 39), (1, .int y1), (2, .int y2), (3, .int y3)] [] ab_SH (ab_dD h) (fun r => r = (some (.int z), ab_SH, ab_dD h))) : ∀ (n : Nat), ∀ (y1 : Int32) (y2 : Int32) (y3 : Int32) (y4 : Int32) (y5 : Int32) (z : Int32), fX1_allLeadTo_L19 h k2 n y1 y2 y3 y4 y5 = some z → ab_Ex X (d + 2) 15 19 [(0, .ref 39), (1, .int y1), (2, .int y2), (3, .int y3), (4, .int y4), (5, .int y5)] [] ab_SH (ab_dD h) (fun r => r = (some (.int z), ab_SH, ab_dD h)) := by
  intro n
  induction n with
  | zero => intro y1 y2 y3 y4 y5 z hf; cases hf
  | succ n ih =>
    intro y1 y2 y3 y4 y5 z hf
    rw [fX1_allLeadTo_L19] at hf
    refine ab_Ex.blk (k := 2) (pc' := 23) (lv' := [(0, .ref 39), (1, .int y1), (2, .int y2), (3, .int y3), (4, .int y4), (5, .int y5)]) (st' := [.int 6, .int y5]) (sh' := ab_SH) (D' := ab_dD h) (fun n => rfl) ?_
    refine ab_Ex.ifc (c := 6 ≤ y5) (SA := (55, [(0, .ref 39), (1, .int y1), (2, .int y2), (3, .int y3), (4, .int y4), (5, .int y5)], [], ab_dD h)) (SB := (26, [(0, .ref 39), (1, .int y1), (2, .int y2), (3, .int y3), (4, .int y4), (5, .int y5)], [], ab_dD h)) (fun n => rfl) (fun c2 => ?_) (fun c2 => ?_)
    · replace hf := (if_pos c2).symm.trans hf
      exact sX1_allLeadTo_J55 d X h k2 hk2 y1 y2 y3 y4 _ hf
    · replace hf := (if_neg c2).symm.trans hf
      refine ab_Ex.blk (k := 2) (pc' := 29) (lv' := [(0, .ref 39), (1, .int y1), (2, .int y2), (3, .int y3), (4, .int y4), (5, .int y5)]) (st' := [.int y1, .int y4]) (sh' := ab_SH) (D' := ab_dD h) (fun n => rfl) ?_
      refine ab_Ex.ifc (c := y4 = y1) (SA := (55, [(0, .ref 39), (1, .int y1), (2, .int y2), (3, .int y3), (4, .int y4), (5, .int y5)], [], ab_dD h)) (SB := (32, [(0, .ref 39), (1, .int y1), (2, .int y2), (3, .int y3), (4, .int y4), (5, .int y5)], [], ab_dD h)) (fun n => rfl) (fun c4 => ?_) (fun c4 => ?_)
      · replace hf := (if_pos c4).symm.trans hf
        exact sX1_allLeadTo_J55 d X h k2 hk2 y1 y2 y3 y4 _ hf
      · replace hf := (if_neg c4).symm.trans hf
        refine ab_Ex.blk (k := 5) (pc' := 41) (lv' := [(0, .ref 39), (1, .int y1), (2, .int y2), (3, .int y3), (4, .int y4), (5, .int y5)]) (st' := [.int y4, .int y2, .int y4, .ref 1]) (sh' := ab_SH) (D' := ab_dD h) (fun n => rfl) ?_
        obtain ⟨r5, hr5, hf⟩ := ab_bind_s hf
        refine ab_Ex.call (d := d + 1) (M2 := 172) (as := [.int y2, .int y4]) (rest := [.int y4, .ref 1]) (fun n => rfl) rfl (Nat.not_lt.mpr (Nat.le_of_ble_eq_true rfl)) (sX11_armOf (d + 1) X y2 y4 h _ hr5) (fun r hr => ?_)
        subst hr
        show ab_Ex X (d + 2) 15 44 [(0, .ref 39), (1, .int y1), (2, .int y2), (3, .int y3), (4, .int y4), (5, .int y5)] [.int r5, .int y4, .ref 1] ab_SH (ab_dD h) _
        obtain ⟨r6, hr6, hf⟩ := ab_bind_s hf
        refine ab_Ex.call (d := d + 1) (M2 := 36) (as := [.ref 1, .int y4, .int r5]) (rest := []) (fun n => rfl) rfl (Nat.not_lt.mpr (Nat.le_of_ble_eq_true rfl)) (sX3_leadsTo (d) X y4 r5 h _ hr6) (fun r hr => ?_)
        subst hr
        show ab_Ex X (d + 2) 15 47 [(0, .ref 39), (1, .int y1), (2, .int y2), (3, .int y3), (4, .int y4), (5, .int y5)] [.int r6] ab_SH (ab_dD h) _
        refine ab_Ex.blk (k := 3) (pc' := 19) (lv' := [(0, .ref 39), (1, .int y1), (2, .int y2), (3, .int y3), (4, .int r6), (5, .int ((y5 + 1)))]) (st' := []) (sh' := ab_SH) (D' := ab_dD h) (fun n => rfl) ?_
        exact ih y1 y2 y3 r6 ((y5 + 1)) _ hf
theorem sX1_allLeadTo_L2 (d : Nat) (X : abX) (h : abJ)   : ∀ (n : Nat), ∀ (y1 : Int32) (y2 : Int32) (y3 : Int32) (z : Int32), fX1_allLeadTo_L2 h n y1 y2 y3 = some z → ab_Ex X (d + 2) 15 2 [(0, .ref 39), (1, .int y1), (2, .int y2), (3, .int y3)] [] ab_SH (ab_dD h) (fun r => r = (some (.int z), ab_SH, ab_dD h)) := by
  intro n
  induction n with
  | zero => intro y1 y2 y3 z hf; cases hf
  | succ n ih =>
    intro y1 y2 y3 z hf
    rw [fX1_allLeadTo_L2] at hf
    refine ab_Ex.blk (k := 4) (pc' := 10) (lv' := [(0, .ref 39), (1, .int y1), (2, .int y2), (3, .int y3)]) (st' := [.int ((h.1 1 0)), .int y3]) (sh' := ab_SH) (D' := ab_dD h) (fun n => rfl) ?_
    refine ab_Ex.ifc (c := (h.1 1 0) ≤ y3) (SA := (69, [(0, .ref 39), (1, .int y1), (2, .int y2), (3, .int y3)], [], ab_dD h)) (SB := (13, [(0, .ref 39), (1, .int y1), (2, .int y2), (3, .int y3)], [], ab_dD h)) (fun n => rfl) (fun c1 => ?_) (fun c1 => ?_)
    · replace hf := (if_pos c1).symm.trans hf
      refine ab_Ex.blk (k := 1) (pc' := 70) (lv' := [(0, .ref 39), (1, .int y1), (2, .int y2), (3, .int y3)]) (st' := [.int 1]) (sh' := ab_SH) (D' := ab_dD h) (fun n => rfl) ?_
      obtain rfl := Option.some.inj hf
      exact ab_Ex.ret (fun n => rfl) rfl
    · replace hf := (if_neg c1).symm.trans hf
      refine ab_Ex.blk (k := 4) (pc' := 19) (lv' := [(0, .ref 39), (1, .int y1), (2, .int y2), (3, .int y3), (4, .int y3), (5, .int 0)]) (st' := []) (sh' := ab_SH) (D' := ab_dD h) (fun n => rfl) ?_
      exact sX1_allLeadTo_L19 d X h (fun y1 y2 y3 => fX1_allLeadTo_L2 h n y1 y2 y3) (fun y1 y2 y3 z hz => ih y1 y2 y3 z hz) ab_N y1 y2 y3 y3 0 _ hf
theorem sX1_allLeadTo (d : Nat) (X : abX) (x0 : Int32) (x1 : Int32) (h : abJ) (z : Int32) (hf : fX1_allLeadTo x0 x1 h = some z) : ab_Ex X (d + 2) 15 0 [(0, .ref 39), (1, .int x0), (2, .int x1)] [] ab_SH (ab_dD h) (fun r => r = (some (.int z), ab_SH, ab_dD h)) := by
  unfold fX1_allLeadTo at hf
  refine ab_Ex.blk (k := 2) (pc' := 2) (lv' := [(0, .ref 39), (1, .int x0), (2, .int x1), (3, .int 0)]) (st' := []) (sh' := ab_SH) (D' := ab_dD h) (fun n => rfl) ?_
  exact sX1_allLeadTo_L2 d X h ab_N x0 x1 0 _ hf
def fX12_roadOf (x0 : Int32) (x1 : Int32) (h : abJ) : Option Int32 := ab_ask (((15 + (3 * x0)) + x1) < 0 ∨ 3102 ≤ (((15 + (3 * x0)) + x1) : Int32).toNatClampNeg) (some (h.1 65 (((15 + (3 * x0)) + x1) : Int32).toNatClampNeg))
theorem sX12_roadOf (d : Nat) (X : abX) (x0 : Int32) (x1 : Int32) (h : abJ) (z : Int32) (hf : fX12_roadOf x0 x1 h = some z) : ab_Ex X (d + 0) 218 0 [(0, .ref 64), (1, .int x0), (2, .int x1)] [] ab_SH (ab_dD h) (fun r => r = (some (.int z), ab_SH, ab_dD h)) := by
  unfold fX12_roadOf at hf
  refine ab_Ex.blk (k := 9) (pc' := 12) (lv' := [(0, .ref 64), (1, .int x0), (2, .int x1)]) (st' := [.int (((15 + (3 * x0)) + x1)), .ref 65]) (sh' := ab_SH) (D' := ab_dD h) (fun n => rfl) ?_
  obtain ⟨c2, hf⟩ := ab_ask_s hf
  refine ab_Ex.grd (c := ((15 + (3 * x0)) + x1) < 0 ∨ 3102 ≤ (((15 + (3 * x0)) + x1) : Int32).toNatClampNeg) (S := (13, [(0, .ref 64), (1, .int x0), (2, .int x1)], [.int ((h.1 65 (((15 + (3 * x0)) + x1) : Int32).toNatClampNeg))], ab_dD h)) (fun n => rfl) c2 ?_
  obtain rfl := Option.some.inj hf
  exact ab_Ex.ret (fun n => rfl) rfl
def fX12_isTree_J51  (h : abJ) (k2 : Int32 → Int32 → Int32 → Option Int32) (y1 : Int32) (y2 : Int32) (y3 : Int32) (y4 : Int32) : Option Int32 := if y4 = y1 then k2 y1 y2 ((y3 + 1)) else some 0
def fX12_isTree_L18  (h : abJ) (k2 : Int32 → Int32 → Int32 → Option Int32) : Nat → Int32 → Int32 → Int32 → Int32 → Int32 → Option Int32
  | 0, _, _, _, _, _ => none
  | n + 1, y1, y2, y3, y4, y5 => if 6 ≤ y5 then fX12_isTree_J51 h k2 y1 y2 y3 y4 else if y4 = y1 then fX12_isTree_J51 h k2 y1 y2 y3 y4 else (fX12_armIn y2 y4 h).bind (fun r7 => (fX12_roadOf y4 r7 h).bind (fun r8 => fX12_isTree_L18 h k2 n y1 y2 y3 r8 ((y5 + 1))))
def fX12_isTree_L2  (h : abJ)  : Nat → Int32 → Int32 → Int32 → Option Int32
  | 0, _, _, _ => none
  | n + 1, y1, y2, y3 => ab_ask (1 < 0 ∨ 3102 ≤ (1 : Int32).toNatClampNeg) (if (h.1 65 (1 : Int32).toNatClampNeg) ≤ y3 then some 1 else fX12_isTree_L18 h (fun y1 y2 y3 => fX12_isTree_L2 h n y1 y2 y3) ab_N y1 y2 y3 y3 0)
def fX12_isTree (x0 : Int32) (x1 : Int32) (h : abJ) : Option Int32 := fX12_isTree_L2 h ab_N x0 x1 0
theorem sX12_isTree_J51 (d : Nat) (X : abX) (h : abJ) (k2 : Int32 → Int32 → Int32 → Option Int32) (hk2 : ∀ (y1 : Int32) (y2 : Int32) (y3 : Int32) (z : Int32), k2 y1 y2 y3 = some z → ab_Ex X (d + 2) 275 2 [(0, .ref 64), (1, .int y1), (2, .int y2), (3, .int y3)] [] ab_SH (ab_dD h) (fun r => r = (some (.int z), ab_SH, ab_dD h))) : ∀ (y1 : Int32) (y2 : Int32) (y3 : Int32) (y4 : Int32) (z : Int32), fX12_isTree_J51 h k2 y1 y2 y3 y4 = some z → ab_Ex X (d + 2) 275 51 [(0, .ref 64), (1, .int y1), (2, .int y2), (3, .int y3), (4, .int y4)] [] ab_SH (ab_dD h) (fun r => r = (some (.int z), ab_SH, ab_dD h)) := by
  intro y1 y2 y3 y4 z hf
  unfold fX12_isTree_J51 at hf
  refine ab_Ex.blk (k := 2) (pc' := 54) (lv' := [(0, .ref 64), (1, .int y1), (2, .int y2), (3, .int y3), (4, .int y4)]) (st' := [.int y1, .int y4]) (sh' := ab_SH) (D' := ab_dD h) (fun n => rfl) ?_
  refine ab_Ex.ifc (c := y4 = y1) (SA := (59, [(0, .ref 64), (1, .int y1), (2, .int y2), (3, .int y3), (4, .int y4)], [], ab_dD h)) (SB := (57, [(0, .ref 64), (1, .int y1), (2, .int y2), (3, .int y3), (4, .int y4)], [], ab_dD h)) (fun n => rfl) (fun c5 => ?_) (fun c5 => ?_)
  · replace hf := (if_pos c5).symm.trans hf
    refine ab_Ex.blk (k := 2) (pc' := 2) (lv' := [(0, .ref 64), (1, .int y1), (2, .int y2), (3, .int ((y3 + 1)))]) (st' := []) (sh' := ab_SH) (D' := ab_dD h) (fun n => rfl) ?_
    exact hk2 y1 y2 ((y3 + 1)) _ hf
  · replace hf := (if_neg c5).symm.trans hf
    refine ab_Ex.blk (k := 1) (pc' := 58) (lv' := [(0, .ref 64), (1, .int y1), (2, .int y2), (3, .int y3), (4, .int y4)]) (st' := [.int 0]) (sh' := ab_SH) (D' := ab_dD h) (fun n => rfl) ?_
    obtain rfl := Option.some.inj hf
    exact ab_Ex.ret (fun n => rfl) rfl
theorem sX12_isTree_L18 (d : Nat) (X : abX) (h : abJ) (k2 : Int32 → Int32 → Int32 → Option Int32) (hk2 : ∀ (y1 : Int32) (y2 : Int32) (y3 : Int32) (z : Int32), k2 y1 y2 y3 = some z → ab_Ex X (d + 2) 275 2 [(0, .ref 64), (1, .int y1), (2, .int y2), (3, .int y3)] [] ab_SH (ab_dD h) (fun r => r = (some (.int z), ab_SH, ab_dD h))) : ∀ (n : Nat), ∀ (y1 : Int32) (y2 : Int32) (y3 : Int32) (y4 : Int32) (y5 : Int32) (z : Int32), fX12_isTree_L18 h k2 n y1 y2 y3 y4 y5 = some z → ab_Ex X (d + 2) 275 18 [(0, .ref 64), (1, .int y1), (2, .int y2), (3, .int y3), (4, .int y4), (5, .int y5)] [] ab_SH (ab_dD h) (fun r => r = (some (.int z), ab_SH, ab_dD h)) := by
  intro n
  induction n with
  | zero => intro y1 y2 y3 y4 y5 z hf; cases hf
  | succ n ih =>
    intro y1 y2 y3 y4 y5 z hf
    rw [fX12_isTree_L18] at hf
    refine ab_Ex.blk (k := 2) (pc' := 22) (lv' := [(0, .ref 64), (1, .int y1), (2, .int y2), (3, .int y3), (4, .int y4), (5, .int y5)]) (st' := [.int 6, .int y5]) (sh' := ab_SH) (D' := ab_dD h) (fun n => rfl) ?_
    refine ab_Ex.ifc (c := 6 ≤ y5) (SA := (51, [(0, .ref 64), (1, .int y1), (2, .int y2), (3, .int y3), (4, .int y4), (5, .int y5)], [], ab_dD h)) (SB := (25, [(0, .ref 64), (1, .int y1), (2, .int y2), (3, .int y3), (4, .int y4), (5, .int y5)], [], ab_dD h)) (fun n => rfl) (fun c4 => ?_) (fun c4 => ?_)
    · replace hf := (if_pos c4).symm.trans hf
      exact sX12_isTree_J51 d X h k2 hk2 y1 y2 y3 y4 _ hf
    · replace hf := (if_neg c4).symm.trans hf
      refine ab_Ex.blk (k := 2) (pc' := 28) (lv' := [(0, .ref 64), (1, .int y1), (2, .int y2), (3, .int y3), (4, .int y4), (5, .int y5)]) (st' := [.int y1, .int y4]) (sh' := ab_SH) (D' := ab_dD h) (fun n => rfl) ?_
      refine ab_Ex.ifc (c := y4 = y1) (SA := (51, [(0, .ref 64), (1, .int y1), (2, .int y2), (3, .int y3), (4, .int y4), (5, .int y5)], [], ab_dD h)) (SB := (31, [(0, .ref 64), (1, .int y1), (2, .int y2), (3, .int y3), (4, .int y4), (5, .int y5)], [], ab_dD h)) (fun n => rfl) (fun c6 => ?_) (fun c6 => ?_)
      · replace hf := (if_pos c6).symm.trans hf
        exact sX12_isTree_J51 d X h k2 hk2 y1 y2 y3 y4 _ hf
      · replace hf := (if_neg c6).symm.trans hf
        refine ab_Ex.blk (k := 4) (pc' := 37) (lv' := [(0, .ref 64), (1, .int y1), (2, .int y2), (3, .int y3), (4, .int y4), (5, .int y5)]) (st' := [.int y4, .int y2, .int y4, .ref 64]) (sh' := ab_SH) (D' := ab_dD h) (fun n => rfl) ?_
        obtain ⟨r7, hr7, hf⟩ := ab_bind_s hf
        refine ab_Ex.call (d := d + 1) (M2 := 212) (as := [.int y2, .int y4]) (rest := [.int y4, .ref 64]) (fun n => rfl) rfl (Nat.not_lt.mpr (Nat.le_of_ble_eq_true rfl)) (sX12_armIn (d) X y2 y4 h _ hr7) (fun r hr => ?_)
        subst hr
        show ab_Ex X (d + 2) 275 40 [(0, .ref 64), (1, .int y1), (2, .int y2), (3, .int y3), (4, .int y4), (5, .int y5)] [.int r7, .int y4, .ref 64] ab_SH (ab_dD h) _
        obtain ⟨r8, hr8, hf⟩ := ab_bind_s hf
        refine ab_Ex.call (d := d + 1) (M2 := 218) (as := [.ref 64, .int y4, .int r7]) (rest := []) (fun n => rfl) rfl (Nat.not_lt.mpr (Nat.le_of_ble_eq_true rfl)) (sX12_roadOf (d + 1) X y4 r7 h _ hr8) (fun r hr => ?_)
        subst hr
        show ab_Ex X (d + 2) 275 43 [(0, .ref 64), (1, .int y1), (2, .int y2), (3, .int y3), (4, .int y4), (5, .int y5)] [.int r8] ab_SH (ab_dD h) _
        refine ab_Ex.blk (k := 3) (pc' := 18) (lv' := [(0, .ref 64), (1, .int y1), (2, .int y2), (3, .int y3), (4, .int r8), (5, .int ((y5 + 1)))]) (st' := []) (sh' := ab_SH) (D' := ab_dD h) (fun n => rfl) ?_
        exact ih y1 y2 y3 r8 ((y5 + 1)) _ hf
theorem sX12_isTree_L2 (d : Nat) (X : abX) (h : abJ)   : ∀ (n : Nat), ∀ (y1 : Int32) (y2 : Int32) (y3 : Int32) (z : Int32), fX12_isTree_L2 h n y1 y2 y3 = some z → ab_Ex X (d + 2) 275 2 [(0, .ref 64), (1, .int y1), (2, .int y2), (3, .int y3)] [] ab_SH (ab_dD h) (fun r => r = (some (.int z), ab_SH, ab_dD h)) := by
  intro n
  induction n with
  | zero => intro y1 y2 y3 z hf; cases hf
  | succ n ih =>
    intro y1 y2 y3 z hf
    rw [fX12_isTree_L2] at hf
    refine ab_Ex.blk (k := 4) (pc' := 8) (lv' := [(0, .ref 64), (1, .int y1), (2, .int y2), (3, .int y3)]) (st' := [.int 1, .ref 65, .int y3]) (sh' := ab_SH) (D' := ab_dD h) (fun n => rfl) ?_
    obtain ⟨c2, hf⟩ := ab_ask_s hf
    refine ab_Ex.grd (c := 1 < 0 ∨ 3102 ≤ (1 : Int32).toNatClampNeg) (S := (9, [(0, .ref 64), (1, .int y1), (2, .int y2), (3, .int y3)], [.int ((h.1 65 (1 : Int32).toNatClampNeg)), .int y3], ab_dD h)) (fun n => rfl) c2 ?_
    refine ab_Ex.ifc (c := (h.1 65 (1 : Int32).toNatClampNeg) ≤ y3) (SA := (65, [(0, .ref 64), (1, .int y1), (2, .int y2), (3, .int y3)], [], ab_dD h)) (SB := (12, [(0, .ref 64), (1, .int y1), (2, .int y2), (3, .int y3)], [], ab_dD h)) (fun n => rfl) (fun c3 => ?_) (fun c3 => ?_)
    · replace hf := (if_pos c3).symm.trans hf
      refine ab_Ex.blk (k := 1) (pc' := 66) (lv' := [(0, .ref 64), (1, .int y1), (2, .int y2), (3, .int y3)]) (st' := [.int 1]) (sh' := ab_SH) (D' := ab_dD h) (fun n => rfl) ?_
      obtain rfl := Option.some.inj hf
      exact ab_Ex.ret (fun n => rfl) rfl
    · replace hf := (if_neg c3).symm.trans hf
      refine ab_Ex.blk (k := 4) (pc' := 18) (lv' := [(0, .ref 64), (1, .int y1), (2, .int y2), (3, .int y3), (4, .int y3), (5, .int 0)]) (st' := []) (sh' := ab_SH) (D' := ab_dD h) (fun n => rfl) ?_
      exact sX12_isTree_L18 d X h (fun y1 y2 y3 => fX12_isTree_L2 h n y1 y2 y3) (fun y1 y2 y3 z hz => ih y1 y2 y3 z hz) ab_N y1 y2 y3 y3 0 _ hf
theorem sX12_isTree (d : Nat) (X : abX) (x0 : Int32) (x1 : Int32) (h : abJ) (z : Int32) (hf : fX12_isTree x0 x1 h = some z) : ab_Ex X (d + 2) 275 0 [(0, .ref 64), (1, .int x0), (2, .int x1)] [] ab_SH (ab_dD h) (fun r => r = (some (.int z), ab_SH, ab_dD h)) := by
  unfold fX12_isTree at hf
  refine ab_Ex.blk (k := 2) (pc' := 2) (lv' := [(0, .ref 64), (1, .int x0), (2, .int x1), (3, .int 0)]) (st' := []) (sh' := ab_SH) (D' := ab_dD h) (fun n => rfl) ?_
  exact sX12_isTree_L2 d X h ab_N x0 x1 0 _ hf
def fJ7_fill_53178_L5 (x0 : Nat)  : Nat → Int32 → Int32 → Int32 → abJ → Option abJ
  | 0, _, _, _, _ => none
  | n + 1, y1, y2, y3, h => if y3 ≤ y2 then some h else ab_ask (y2 < 0 ∨ (ab_ln x0) ≤ (y2 : Int32).toNatClampNeg) (fJ7_fill_53178_L5 x0 n y1 ((y2 + 1)) y3 (ab_wI h x0 (y2 : Int32).toNatClampNeg y1))
def fJ7_fill_53178 (x0 : Nat) (x1 : Int32) (h : abJ) : Option abJ := fJ7_fill_53178_L5 x0 ab_N x1 0 ((Int32.ofNat (ab_ln x0))) h
theorem sJ7_fill_53178_L5_14 (d : Nat) (X : abX)   : ∀ (n : Nat), ∀ (y1 : Int32) (y2 : Int32) (y3 : Int32) (h : abJ) (z : abJ), fJ7_fill_53178_L5 14 n y1 y2 y3 h = some z → ab_Ex X (d + 0) 317 5 [(0, .ref 14), (1, .int y1), (2, .int y2), (3, .int y3)] [] ab_SH (ab_dD h) (fun r => r = (none, ab_SH, ab_dD z)) := by
  intro n
  induction n with
  | zero => intro y1 y2 y3 h z hf; cases hf
  | succ n ih =>
    intro y1 y2 y3 h z hf
    rw [fJ7_fill_53178_L5] at hf
    try simp only [Nat.reduceAdd] at hf
    refine ab_Ex.blk (k := 2) (pc' := 7) (lv' := [(0, .ref 14), (1, .int y1), (2, .int y2), (3, .int y3)]) (st' := [.int y3, .int y2]) (sh' := ab_SH) (D' := ab_dD h) (fun n => rfl) ?_
    refine ab_Ex.ifc (c := y3 ≤ y2) (SA := (20, [(0, .ref 14), (1, .int y1), (2, .int y2), (3, .int y3)], [], ab_dD h)) (SB := (10, [(0, .ref 14), (1, .int y1), (2, .int y2), (3, .int y3)], [], ab_dD h)) (fun n => rfl) (fun c1 => ?_) (fun c1 => ?_)
    · replace hf := (if_pos c1).symm.trans hf
      obtain rfl := Option.some.inj hf
      exact ab_Ex.ret (fun n => rfl) rfl
    · replace hf := (if_neg c1).symm.trans hf
      refine ab_Ex.blk (k := 3) (pc' := 13) (lv' := [(0, .ref 14), (1, .int y1), (2, .int y2), (3, .int y3)]) (st' := [.int y1, .int y2, .ref 14]) (sh' := ab_SH) (D' := ab_dD h) (fun n => rfl) ?_
      obtain ⟨c2, hf⟩ := ab_ask_s hf
      refine ab_Ex.grd (c := y2 < 0 ∨ 180 ≤ (y2 : Int32).toNatClampNeg) (S := (14, [(0, .ref 14), (1, .int y1), (2, .int y2), (3, .int y3)], [], ab_dD (ab_wI h 14 (y2 : Int32).toNatClampNeg y1))) (fun n => rfl) c2 ?_
      refine ab_Ex.blk (k := 2) (pc' := 5) (lv' := [(0, .ref 14), (1, .int y1), (2, .int ((y2 + 1))), (3, .int y3)]) (st' := []) (sh' := ab_SH) (D' := ab_dD (ab_wI h 14 (y2 : Int32).toNatClampNeg y1)) (fun n => rfl) ?_
      exact ih y1 ((y2 + 1)) y3 (ab_wI h 14 (y2 : Int32).toNatClampNeg y1) _ hf
theorem sJ7_fill_53178_14 (d : Nat) (X : abX) (x1 : Int32) (h : abJ) (z : abJ) (hf : fJ7_fill_53178 14 x1 h = some z) : ab_Ex X (d + 0) 317 0 [(0, .ref 14), (1, .int x1)] [] ab_SH (ab_dD h) (fun r => r = (none, ab_SH, ab_dD z)) := by
  unfold fJ7_fill_53178 at hf
  try simp only [Nat.reduceAdd] at hf
  refine ab_Ex.blk (k := 5) (pc' := 5) (lv' := [(0, .ref 14), (1, .int x1), (2, .int 0), (3, .int ((Int32.ofNat 180)))]) (st' := []) (sh' := ab_SH) (D' := ab_dD h) (fun n => rfl) ?_
  exact sJ7_fill_53178_L5_14 d X  ab_N x1 0 ((Int32.ofNat 180)) h _ hf
theorem sJ7_fill_53178_L5_38 (d : Nat) (X : abX)   : ∀ (n : Nat), ∀ (y1 : Int32) (y2 : Int32) (y3 : Int32) (h : abJ) (z : abJ), fJ7_fill_53178_L5 38 n y1 y2 y3 h = some z → ab_Ex X (d + 0) 317 5 [(0, .ref 38), (1, .int y1), (2, .int y2), (3, .int y3)] [] ab_SH (ab_dD h) (fun r => r = (none, ab_SH, ab_dD z)) := by
  intro n
  induction n with
  | zero => intro y1 y2 y3 h z hf; cases hf
  | succ n ih =>
    intro y1 y2 y3 h z hf
    rw [fJ7_fill_53178_L5] at hf
    try simp only [Nat.reduceAdd] at hf
    refine ab_Ex.blk (k := 2) (pc' := 7) (lv' := [(0, .ref 38), (1, .int y1), (2, .int y2), (3, .int y3)]) (st' := [.int y3, .int y2]) (sh' := ab_SH) (D' := ab_dD h) (fun n => rfl) ?_
    refine ab_Ex.ifc (c := y3 ≤ y2) (SA := (20, [(0, .ref 38), (1, .int y1), (2, .int y2), (3, .int y3)], [], ab_dD h)) (SB := (10, [(0, .ref 38), (1, .int y1), (2, .int y2), (3, .int y3)], [], ab_dD h)) (fun n => rfl) (fun c1 => ?_) (fun c1 => ?_)
    · replace hf := (if_pos c1).symm.trans hf
      obtain rfl := Option.some.inj hf
      exact ab_Ex.ret (fun n => rfl) rfl
    · replace hf := (if_neg c1).symm.trans hf
      refine ab_Ex.blk (k := 3) (pc' := 13) (lv' := [(0, .ref 38), (1, .int y1), (2, .int y2), (3, .int y3)]) (st' := [.int y1, .int y2, .ref 38]) (sh' := ab_SH) (D' := ab_dD h) (fun n => rfl) ?_
      obtain ⟨c2, hf⟩ := ab_ask_s hf
      refine ab_Ex.grd (c := y2 < 0 ∨ 18 ≤ (y2 : Int32).toNatClampNeg) (S := (14, [(0, .ref 38), (1, .int y1), (2, .int y2), (3, .int y3)], [], ab_dD (ab_wI h 38 (y2 : Int32).toNatClampNeg y1))) (fun n => rfl) c2 ?_
      refine ab_Ex.blk (k := 2) (pc' := 5) (lv' := [(0, .ref 38), (1, .int y1), (2, .int ((y2 + 1))), (3, .int y3)]) (st' := []) (sh' := ab_SH) (D' := ab_dD (ab_wI h 38 (y2 : Int32).toNatClampNeg y1)) (fun n => rfl) ?_
      exact ih y1 ((y2 + 1)) y3 (ab_wI h 38 (y2 : Int32).toNatClampNeg y1) _ hf
theorem sJ7_fill_53178_38 (d : Nat) (X : abX) (x1 : Int32) (h : abJ) (z : abJ) (hf : fJ7_fill_53178 38 x1 h = some z) : ab_Ex X (d + 0) 317 0 [(0, .ref 38), (1, .int x1)] [] ab_SH (ab_dD h) (fun r => r = (none, ab_SH, ab_dD z)) := by
  unfold fJ7_fill_53178 at hf
  try simp only [Nat.reduceAdd] at hf
  refine ab_Ex.blk (k := 5) (pc' := 5) (lv' := [(0, .ref 38), (1, .int x1), (2, .int 0), (3, .int ((Int32.ofNat 18)))]) (st' := []) (sh' := ab_SH) (D' := ab_dD h) (fun n => rfl) ?_
  exact sJ7_fill_53178_L5_38 d X  ab_N x1 0 ((Int32.ofNat 18)) h _ hf
theorem sJ7_fill_53178_L5_34 (d : Nat) (X : abX)   : ∀ (n : Nat), ∀ (y1 : Int32) (y2 : Int32) (y3 : Int32) (h : abJ) (z : abJ), fJ7_fill_53178_L5 34 n y1 y2 y3 h = some z → ab_Ex X (d + 0) 317 5 [(0, .ref 34), (1, .int y1), (2, .int y2), (3, .int y3)] [] ab_SH (ab_dD h) (fun r => r = (none, ab_SH, ab_dD z)) := by
  intro n
  induction n with
  | zero => intro y1 y2 y3 h z hf; cases hf
  | succ n ih =>
    intro y1 y2 y3 h z hf
    rw [fJ7_fill_53178_L5] at hf
    try simp only [Nat.reduceAdd] at hf
    refine ab_Ex.blk (k := 2) (pc' := 7) (lv' := [(0, .ref 34), (1, .int y1), (2, .int y2), (3, .int y3)]) (st' := [.int y3, .int y2]) (sh' := ab_SH) (D' := ab_dD h) (fun n => rfl) ?_
    refine ab_Ex.ifc (c := y3 ≤ y2) (SA := (20, [(0, .ref 34), (1, .int y1), (2, .int y2), (3, .int y3)], [], ab_dD h)) (SB := (10, [(0, .ref 34), (1, .int y1), (2, .int y2), (3, .int y3)], [], ab_dD h)) (fun n => rfl) (fun c1 => ?_) (fun c1 => ?_)
    · replace hf := (if_pos c1).symm.trans hf
      obtain rfl := Option.some.inj hf
      exact ab_Ex.ret (fun n => rfl) rfl
    · replace hf := (if_neg c1).symm.trans hf
      refine ab_Ex.blk (k := 3) (pc' := 13) (lv' := [(0, .ref 34), (1, .int y1), (2, .int y2), (3, .int y3)]) (st' := [.int y1, .int y2, .ref 34]) (sh' := ab_SH) (D' := ab_dD h) (fun n => rfl) ?_
      obtain ⟨c2, hf⟩ := ab_ask_s hf
      refine ab_Ex.grd (c := y2 < 0 ∨ 729 ≤ (y2 : Int32).toNatClampNeg) (S := (14, [(0, .ref 34), (1, .int y1), (2, .int y2), (3, .int y3)], [], ab_dD (ab_wI h 34 (y2 : Int32).toNatClampNeg y1))) (fun n => rfl) c2 ?_
      refine ab_Ex.blk (k := 2) (pc' := 5) (lv' := [(0, .ref 34), (1, .int y1), (2, .int ((y2 + 1))), (3, .int y3)]) (st' := []) (sh' := ab_SH) (D' := ab_dD (ab_wI h 34 (y2 : Int32).toNatClampNeg y1)) (fun n => rfl) ?_
      exact ih y1 ((y2 + 1)) y3 (ab_wI h 34 (y2 : Int32).toNatClampNeg y1) _ hf
theorem sJ7_fill_53178_34 (d : Nat) (X : abX) (x1 : Int32) (h : abJ) (z : abJ) (hf : fJ7_fill_53178 34 x1 h = some z) : ab_Ex X (d + 0) 317 0 [(0, .ref 34), (1, .int x1)] [] ab_SH (ab_dD h) (fun r => r = (none, ab_SH, ab_dD z)) := by
  unfold fJ7_fill_53178 at hf
  try simp only [Nat.reduceAdd] at hf
  refine ab_Ex.blk (k := 5) (pc' := 5) (lv' := [(0, .ref 34), (1, .int x1), (2, .int 0), (3, .int ((Int32.ofNat 729)))]) (st' := []) (sh' := ab_SH) (D' := ab_dD h) (fun n => rfl) ?_
  exact sJ7_fill_53178_L5_34 d X  ab_N x1 0 ((Int32.ofNat 729)) h _ hf
theorem sJ7_fill_53178_L5_6 (d : Nat) (X : abX)   : ∀ (n : Nat), ∀ (y1 : Int32) (y2 : Int32) (y3 : Int32) (h : abJ) (z : abJ), fJ7_fill_53178_L5 6 n y1 y2 y3 h = some z → ab_Ex X (d + 0) 317 5 [(0, .ref 6), (1, .int y1), (2, .int y2), (3, .int y3)] [] ab_SH (ab_dD h) (fun r => r = (none, ab_SH, ab_dD z)) := by
  intro n
  induction n with
  | zero => intro y1 y2 y3 h z hf; cases hf
  | succ n ih =>
    intro y1 y2 y3 h z hf
    rw [fJ7_fill_53178_L5] at hf
    try simp only [Nat.reduceAdd] at hf
    refine ab_Ex.blk (k := 2) (pc' := 7) (lv' := [(0, .ref 6), (1, .int y1), (2, .int y2), (3, .int y3)]) (st' := [.int y3, .int y2]) (sh' := ab_SH) (D' := ab_dD h) (fun n => rfl) ?_
    refine ab_Ex.ifc (c := y3 ≤ y2) (SA := (20, [(0, .ref 6), (1, .int y1), (2, .int y2), (3, .int y3)], [], ab_dD h)) (SB := (10, [(0, .ref 6), (1, .int y1), (2, .int y2), (3, .int y3)], [], ab_dD h)) (fun n => rfl) (fun c1 => ?_) (fun c1 => ?_)
    · replace hf := (if_pos c1).symm.trans hf
      obtain rfl := Option.some.inj hf
      exact ab_Ex.ret (fun n => rfl) rfl
    · replace hf := (if_neg c1).symm.trans hf
      refine ab_Ex.blk (k := 3) (pc' := 13) (lv' := [(0, .ref 6), (1, .int y1), (2, .int y2), (3, .int y3)]) (st' := [.int y1, .int y2, .ref 6]) (sh' := ab_SH) (D' := ab_dD h) (fun n => rfl) ?_
      obtain ⟨c2, hf⟩ := ab_ask_s hf
      refine ab_Ex.grd (c := y2 < 0 ∨ 6 ≤ (y2 : Int32).toNatClampNeg) (S := (14, [(0, .ref 6), (1, .int y1), (2, .int y2), (3, .int y3)], [], ab_dD (ab_wI h 6 (y2 : Int32).toNatClampNeg y1))) (fun n => rfl) c2 ?_
      refine ab_Ex.blk (k := 2) (pc' := 5) (lv' := [(0, .ref 6), (1, .int y1), (2, .int ((y2 + 1))), (3, .int y3)]) (st' := []) (sh' := ab_SH) (D' := ab_dD (ab_wI h 6 (y2 : Int32).toNatClampNeg y1)) (fun n => rfl) ?_
      exact ih y1 ((y2 + 1)) y3 (ab_wI h 6 (y2 : Int32).toNatClampNeg y1) _ hf
theorem sJ7_fill_53178_6 (d : Nat) (X : abX) (x1 : Int32) (h : abJ) (z : abJ) (hf : fJ7_fill_53178 6 x1 h = some z) : ab_Ex X (d + 0) 317 0 [(0, .ref 6), (1, .int x1)] [] ab_SH (ab_dD h) (fun r => r = (none, ab_SH, ab_dD z)) := by
  unfold fJ7_fill_53178 at hf
  try simp only [Nat.reduceAdd] at hf
  refine ab_Ex.blk (k := 5) (pc' := 5) (lv' := [(0, .ref 6), (1, .int x1), (2, .int 0), (3, .int ((Int32.ofNat 6)))]) (st' := []) (sh' := ab_SH) (D' := ab_dD h) (fun n => rfl) ?_
  exact sJ7_fill_53178_L5_6 d X  ab_N x1 0 ((Int32.ofNat 6)) h _ hf
