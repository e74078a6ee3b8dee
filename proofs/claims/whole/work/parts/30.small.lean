def fX3_roadsOf (o : Nat) (x0 : Int32) (h : abJ) : Option Int32 := if x0 < 0 then some 0 else if (h.1 o 0) ≤ x0 then some 0 else if x0 < 6 then ab_ask (x0 < 0 ∨ 6 ≤ (x0 : Int32).toNatClampNeg) (some (h.1 (o + 1) (x0 : Int32).toNatClampNeg)) else some 0
theorem cX3_roadsOf_1 (d : Nat) (X : abX) (x0 : Int32) (h : abJ) (z : Int32) (hf : fX3_roadsOf 1 x0 h = some z) : ab_Ex X (d + 0) 35 0 [(0, .ref 1), (1, .int x0)] [] ab_SH (ab_dD h) (fun r => r = (some (.int z), ab_SH, ab_dD h)) := by
  unfold fX3_roadsOf at hf
  try simp only [Nat.reduceAdd] at hf
  refine ab_Ex.blk (k := 1) (pc' := 1) (lv' := [(0, .ref 1), (1, .int x0)]) (st' := [.int x0]) (sh' := ab_SH) (D' := ab_dD h) (fun n => rfl) ?_
  refine ab_Ex.ifc (c := x0 < 0) (SA := (18, [(0, .ref 1), (1, .int x0)], [], ab_dD h)) (SB := (4, [(0, .ref 1), (1, .int x0)], [], ab_dD h)) (fun n => rfl) (fun c1 => ?_) (fun c1 => ?_)
  · rw [if_pos c1] at hf
    refine ab_Ex.blk (k := 2) (pc' := 28) (lv' := []) (st' := [.int 0]) (sh' := ab_SH) (D' := ab_dD h) (fun n => rfl) ?_
    obtain rfl := Option.some.inj hf
    exact ab_Ex.ret (fun n => rfl) rfl
  · rw [if_neg c1] at hf
    refine ab_Ex.blk (k := 3) (pc' := 9) (lv' := [(0, .ref 1), (1, .int x0)]) (st' := [.int ((h.1 1 0)), .int x0]) (sh' := ab_SH) (D' := ab_dD h) (fun n => rfl) ?_
    refine ab_Ex.ifc (c := (h.1 1 0) ≤ x0) (SA := (18, [(0, .ref 1), (1, .int x0)], [], ab_dD h)) (SB := (12, [(0, .ref 1), (1, .int x0)], [], ab_dD h)) (fun n => rfl) (fun c2 => ?_) (fun c2 => ?_)
    · rw [if_pos c2] at hf
      refine ab_Ex.blk (k := 2) (pc' := 28) (lv' := []) (st' := [.int 0]) (sh' := ab_SH) (D' := ab_dD h) (fun n => rfl) ?_
      obtain rfl := Option.some.inj hf
      exact ab_Ex.ret (fun n => rfl) rfl
    · rw [if_neg c2] at hf
      refine ab_Ex.blk (k := 2) (pc' := 15) (lv' := [(0, .ref 1), (1, .int x0)]) (st' := [.int 6, .int x0]) (sh' := ab_SH) (D' := ab_dD h) (fun n => rfl) ?_
      refine ab_Ex.ifc (c := x0 < 6) (SA := (22, [(0, .ref 1), (1, .int x0)], [], ab_dD h)) (SB := (18, [(0, .ref 1), (1, .int x0)], [], ab_dD h)) (fun n => rfl) (fun c3 => ?_) (fun c3 => ?_)
      · rw [if_pos c3] at hf
        refine ab_Ex.blk (k := 3) (pc' := 27) (lv' := [(0, .ref 1), (1, .int x0)]) (st' := [.int x0, .ref 2]) (sh' := ab_SH) (D' := ab_dD h) (fun n => rfl) ?_
        obtain ⟨c5, hf⟩ := ab_ask_s hf
        refine ab_Ex.grd (c := x0 < 0 ∨ 6 ≤ (x0 : Int32).toNatClampNeg) (S := (28, [(0, .ref 1), (1, .int x0)], [.int ((h.1 2 (x0 : Int32).toNatClampNeg))], ab_dD h)) (fun n => rfl) c5 ?_
        obtain rfl := Option.some.inj hf
        exact ab_Ex.ret (fun n => rfl) rfl
      · rw [if_neg c3] at hf
        refine ab_Ex.blk (k := 2) (pc' := 28) (lv' := []) (st' := [.int 0]) (sh' := ab_SH) (D' := ab_dD h) (fun n => rfl) ?_
        obtain rfl := Option.some.inj hf
        exact ab_Ex.ret (fun n => rfl) rfl
theorem cX3_roadsOf_5 (d : Nat) (X : abX) (x0 : Int32) (h : abJ) (z : Int32) (hf : fX3_roadsOf 5 x0 h = some z) : ab_Ex X (d + 0) 35 0 [(0, .ref 5), (1, .int x0)] [] ab_SH (ab_dD h) (fun r => r = (some (.int z), ab_SH, ab_dD h)) := by
  unfold fX3_roadsOf at hf
  try simp only [Nat.reduceAdd] at hf
  refine ab_Ex.blk (k := 1) (pc' := 1) (lv' := [(0, .ref 5), (1, .int x0)]) (st' := [.int x0]) (sh' := ab_SH) (D' := ab_dD h) (fun n => rfl) ?_
  refine ab_Ex.ifc (c := x0 < 0) (SA := (18, [(0, .ref 5), (1, .int x0)], [], ab_dD h)) (SB := (4, [(0, .ref 5), (1, .int x0)], [], ab_dD h)) (fun n => rfl) (fun c1 => ?_) (fun c1 => ?_)
  · rw [if_pos c1] at hf
    refine ab_Ex.blk (k := 2) (pc' := 28) (lv' := []) (st' := [.int 0]) (sh' := ab_SH) (D' := ab_dD h) (fun n => rfl) ?_
    obtain rfl := Option.some.inj hf
    exact ab_Ex.ret (fun n => rfl) rfl
  · rw [if_neg c1] at hf
    refine ab_Ex.blk (k := 3) (pc' := 9) (lv' := [(0, .ref 5), (1, .int x0)]) (st' := [.int ((h.1 5 0)), .int x0]) (sh' := ab_SH) (D' := ab_dD h) (fun n => rfl) ?_
    refine ab_Ex.ifc (c := (h.1 5 0) ≤ x0) (SA := (18, [(0, .ref 5), (1, .int x0)], [], ab_dD h)) (SB := (12, [(0, .ref 5), (1, .int x0)], [], ab_dD h)) (fun n => rfl) (fun c2 => ?_) (fun c2 => ?_)
    · rw [if_pos c2] at hf
      refine ab_Ex.blk (k := 2) (pc' := 28) (lv' := []) (st' := [.int 0]) (sh' := ab_SH) (D' := ab_dD h) (fun n => rfl) ?_
      obtain rfl := Option.some.inj hf
      exact ab_Ex.ret (fun n => rfl) rfl
    · rw [if_neg c2] at hf
      refine ab_Ex.blk (k := 2) (pc' := 15) (lv' := [(0, .ref 5), (1, .int x0)]) (st' := [.int 6, .int x0]) (sh' := ab_SH) (D' := ab_dD h) (fun n => rfl) ?_
      refine ab_Ex.ifc (c := x0 < 6) (SA := (22, [(0, .ref 5), (1, .int x0)], [], ab_dD h)) (SB := (18, [(0, .ref 5), (1, .int x0)], [], ab_dD h)) (fun n => rfl) (fun c3 => ?_) (fun c3 => ?_)
      · rw [if_pos c3] at hf
        refine ab_Ex.blk (k := 3) (pc' := 27) (lv' := [(0, .ref 5), (1, .int x0)]) (st' := [.int x0, .ref 6]) (sh' := ab_SH) (D' := ab_dD h) (fun n => rfl) ?_
        obtain ⟨c5, hf⟩ := ab_ask_s hf
        refine ab_Ex.grd (c := x0 < 0 ∨ 6 ≤ (x0 : Int32).toNatClampNeg) (S := (28, [(0, .ref 5), (1, .int x0)], [.int ((h.1 6 (x0 : Int32).toNatClampNeg))], ab_dD h)) (fun n => rfl) c5 ?_
        obtain rfl := Option.some.inj hf
        exact ab_Ex.ret (fun n => rfl) rfl
      · rw [if_neg c3] at hf
        refine ab_Ex.blk (k := 2) (pc' := 28) (lv' := []) (st' := [.int 0]) (sh' := ab_SH) (D' := ab_dD h) (fun n => rfl) ?_
        obtain rfl := Option.some.inj hf
        exact ab_Ex.ret (fun n => rfl) rfl
def fX3_has (o : Nat) (x0 : Int32) (h : abJ) : Option Int32 := if x0 < 0 then some 0 else if (h.1 o 0) ≤ x0 then some 0 else if 6 ≤ x0 then some 0 else some 1
theorem cX3_has_1 (d : Nat) (X : abX) (x0 : Int32) (h : abJ) (z : Int32) (hf : fX3_has 1 x0 h = some z) : ab_Ex X (d + 0) 34 0 [(0, .ref 1), (1, .int x0)] [] ab_SH (ab_dD h) (fun r => r = (some (.int z), ab_SH, ab_dD h)) := by
  unfold fX3_has at hf
  try simp only [Nat.reduceAdd] at hf
  refine ab_Ex.blk (k := 1) (pc' := 1) (lv' := [(0, .ref 1), (1, .int x0)]) (st' := [.int x0]) (sh' := ab_SH) (D' := ab_dD h) (fun n => rfl) ?_
  refine ab_Ex.ifc (c := x0 < 0) (SA := (22, [(0, .ref 1), (1, .int x0)], [], ab_dD h)) (SB := (4, [(0, .ref 1), (1, .int x0)], [], ab_dD h)) (fun n => rfl) (fun c1 => ?_) (fun c1 => ?_)
  · rw [if_pos c1] at hf
    refine ab_Ex.blk (k := 1) (pc' := 23) (lv' := []) (st' := [.int 0]) (sh' := ab_SH) (D' := ab_dD h) (fun n => rfl) ?_
    obtain rfl := Option.some.inj hf
    exact ab_Ex.ret (fun n => rfl) rfl
  · rw [if_neg c1] at hf
    refine ab_Ex.blk (k := 3) (pc' := 9) (lv' := [(0, .ref 1), (1, .int x0)]) (st' := [.int ((h.1 1 0)), .int x0]) (sh' := ab_SH) (D' := ab_dD h) (fun n => rfl) ?_
    refine ab_Ex.ifc (c := (h.1 1 0) ≤ x0) (SA := (22, [(0, .ref 1), (1, .int x0)], [], ab_dD h)) (SB := (12, [(0, .ref 1), (1, .int x0)], [], ab_dD h)) (fun n => rfl) (fun c2 => ?_) (fun c2 => ?_)
    · rw [if_pos c2] at hf
      refine ab_Ex.blk (k := 1) (pc' := 23) (lv' := []) (st' := [.int 0]) (sh' := ab_SH) (D' := ab_dD h) (fun n => rfl) ?_
      obtain rfl := Option.some.inj hf
      exact ab_Ex.ret (fun n => rfl) rfl
    · rw [if_neg c2] at hf
      refine ab_Ex.blk (k := 2) (pc' := 15) (lv' := [(0, .ref 1), (1, .int x0)]) (st' := [.int 6, .int x0]) (sh' := ab_SH) (D' := ab_dD h) (fun n => rfl) ?_
      refine ab_Ex.ifc (c := 6 ≤ x0) (SA := (22, [(0, .ref 1), (1, .int x0)], [], ab_dD h)) (SB := (18, [(0, .ref 1), (1, .int x0)], [], ab_dD h)) (fun n => rfl) (fun c3 => ?_) (fun c3 => ?_)
      · rw [if_pos c3] at hf
        refine ab_Ex.blk (k := 1) (pc' := 23) (lv' := []) (st' := [.int 0]) (sh' := ab_SH) (D' := ab_dD h) (fun n => rfl) ?_
        obtain rfl := Option.some.inj hf
        exact ab_Ex.ret (fun n => rfl) rfl
      · rw [if_neg c3] at hf
        refine ab_Ex.blk (k := 2) (pc' := 23) (lv' := []) (st' := [.int 1]) (sh' := ab_SH) (D' := ab_dD h) (fun n => rfl) ?_
        obtain rfl := Option.some.inj hf
        exact ab_Ex.ret (fun n => rfl) rfl
theorem cX3_has_5 (d : Nat) (X : abX) (x0 : Int32) (h : abJ) (z : Int32) (hf : fX3_has 5 x0 h = some z) : ab_Ex X (d + 0) 34 0 [(0, .ref 5), (1, .int x0)] [] ab_SH (ab_dD h) (fun r => r = (some (.int z), ab_SH, ab_dD h)) := by
  unfold fX3_has at hf
  try simp only [Nat.reduceAdd] at hf
  refine ab_Ex.blk (k := 1) (pc' := 1) (lv' := [(0, .ref 5), (1, .int x0)]) (st' := [.int x0]) (sh' := ab_SH) (D' := ab_dD h) (fun n => rfl) ?_
  refine ab_Ex.ifc (c := x0 < 0) (SA := (22, [(0, .ref 5), (1, .int x0)], [], ab_dD h)) (SB := (4, [(0, .ref 5), (1, .int x0)], [], ab_dD h)) (fun n => rfl) (fun c1 => ?_) (fun c1 => ?_)
  · rw [if_pos c1] at hf
    refine ab_Ex.blk (k := 1) (pc' := 23) (lv' := []) (st' := [.int 0]) (sh' := ab_SH) (D' := ab_dD h) (fun n => rfl) ?_
    obtain rfl := Option.some.inj hf
    exact ab_Ex.ret (fun n => rfl) rfl
  · rw [if_neg c1] at hf
    refine ab_Ex.blk (k := 3) (pc' := 9) (lv' := [(0, .ref 5), (1, .int x0)]) (st' := [.int ((h.1 5 0)), .int x0]) (sh' := ab_SH) (D' := ab_dD h) (fun n => rfl) ?_
    refine ab_Ex.ifc (c := (h.1 5 0) ≤ x0) (SA := (22, [(0, .ref 5), (1, .int x0)], [], ab_dD h)) (SB := (12, [(0, .ref 5), (1, .int x0)], [], ab_dD h)) (fun n => rfl) (fun c2 => ?_) (fun c2 => ?_)
    · rw [if_pos c2] at hf
      refine ab_Ex.blk (k := 1) (pc' := 23) (lv' := []) (st' := [.int 0]) (sh' := ab_SH) (D' := ab_dD h) (fun n => rfl) ?_
      obtain rfl := Option.some.inj hf
      exact ab_Ex.ret (fun n => rfl) rfl
    · rw [if_neg c2] at hf
      refine ab_Ex.blk (k := 2) (pc' := 15) (lv' := [(0, .ref 5), (1, .int x0)]) (st' := [.int 6, .int x0]) (sh' := ab_SH) (D' := ab_dD h) (fun n => rfl) ?_
      refine ab_Ex.ifc (c := 6 ≤ x0) (SA := (22, [(0, .ref 5), (1, .int x0)], [], ab_dD h)) (SB := (18, [(0, .ref 5), (1, .int x0)], [], ab_dD h)) (fun n => rfl) (fun c3 => ?_) (fun c3 => ?_)
      · rw [if_pos c3] at hf
        refine ab_Ex.blk (k := 1) (pc' := 23) (lv' := []) (st' := [.int 0]) (sh' := ab_SH) (D' := ab_dD h) (fun n => rfl) ?_
        obtain rfl := Option.some.inj hf
        exact ab_Ex.ret (fun n => rfl) rfl
      · rw [if_neg c3] at hf
        refine ab_Ex.blk (k := 2) (pc' := 23) (lv' := []) (st' := [.int 1]) (sh' := ab_SH) (D' := ab_dD h) (fun n => rfl) ?_
        obtain rfl := Option.some.inj hf
        exact ab_Ex.ret (fun n => rfl) rfl
def fX3_leadsTo (o : Nat) (x0 : Int32) (x1 : Int32) (h : abJ) : Option Int32 := if x1 < 0 then some (-1) else (fX3_roadsOf o x0 h).bind (fun r2 => if x1 < r2 then ab_ask (((x0 * 3) + x1) < 0 ∨ 18 ≤ (((x0 * 3) + x1) : Int32).toNatClampNeg) (some (h.1 (o + 2) (((x0 * 3) + x1) : Int32).toNatClampNeg)) else some (-1))
theorem cX3_leadsTo_1 (d : Nat) (X : abX) (x0 : Int32) (x1 : Int32) (h : abJ) (z : Int32) (hf : fX3_leadsTo 1 x0 x1 h = some z) : ab_Ex X (d + 1) 36 0 [(0, .ref 1), (1, .int x0), (2, .int x1)] [] ab_SH (ab_dD h) (fun r => r = (some (.int z), ab_SH, ab_dD h)) := by
  unfold fX3_leadsTo at hf
  try simp only [Nat.reduceAdd] at hf
  refine ab_Ex.blk (k := 1) (pc' := 1) (lv' := [(0, .ref 1), (1, .int x0), (2, .int x1)]) (st' := [.int x1]) (sh' := ab_SH) (D' := ab_dD h) (fun n => rfl) ?_
  refine ab_Ex.ifc (c := x1 < 0) (SA := (13, [(0, .ref 1), (1, .int x0), (2, .int x1)], [], ab_dD h)) (SB := (4, [(0, .ref 1), (1, .int x0), (2, .int x1)], [], ab_dD h)) (fun n => rfl) (fun c1 => ?_) (fun c1 => ?_)
  · rw [if_pos c1] at hf
    refine ab_Ex.blk (k := 2) (pc' := 27) (lv' := []) (st' := [.int ((-1))]) (sh' := ab_SH) (D' := ab_dD h) (fun n => rfl) ?_
    obtain rfl := Option.some.inj hf
    exact ab_Ex.ret (fun n => rfl) rfl
  · rw [if_neg c1] at hf
    refine ab_Ex.blk (k := 3) (pc' := 7) (lv' := [(0, .ref 1), (1, .int x0), (2, .int x1)]) (st' := [.int x0, .ref 1, .int x1]) (sh' := ab_SH) (D' := ab_dD h) (fun n => rfl) ?_
    obtain ⟨r2, hr2, hf⟩ := ab_bind_s hf
    refine ab_Ex.call (d := d + 0) (M2 := 35) (as := [.ref 1, .int x0]) (rest := [.int x1]) (fun n => rfl) rfl (by decide) (cX3_roadsOf_1 (d) X x0 h _ hr2) (fun r hr => ?_)
    subst hr
    show ab_Ex X (d + 1) 36 10 [(0, .ref 1), (1, .int x0), (2, .int x1)] [.int r2, .int x1] ab_SH (ab_dD h) _
    refine ab_Ex.ifc (c := x1 < r2) (SA := (17, [(0, .ref 1), (1, .int x0), (2, .int x1)], [], ab_dD h)) (SB := (13, [(0, .ref 1), (1, .int x0), (2, .int x1)], [], ab_dD h)) (fun n => rfl) (fun c3 => ?_) (fun c3 => ?_)
    · rw [if_pos c3] at hf
      refine ab_Ex.blk (k := 7) (pc' := 26) (lv' := [(0, .ref 1), (1, .int x0), (2, .int x1)]) (st' := [.int (((x0 * 3) + x1)), .ref 3]) (sh' := ab_SH) (D' := ab_dD h) (fun n => rfl) ?_
      obtain ⟨c5, hf⟩ := ab_ask_s hf
      refine ab_Ex.grd (c := ((x0 * 3) + x1) < 0 ∨ 18 ≤ (((x0 * 3) + x1) : Int32).toNatClampNeg) (S := (27, [(0, .ref 1), (1, .int x0), (2, .int x1)], [.int ((h.1 3 (((x0 * 3) + x1) : Int32).toNatClampNeg))], ab_dD h)) (fun n => rfl) c5 ?_
      obtain rfl := Option.some.inj hf
      exact ab_Ex.ret (fun n => rfl) rfl
    · rw [if_neg c3] at hf
      refine ab_Ex.blk (k := 2) (pc' := 27) (lv' := []) (st' := [.int ((-1))]) (sh' := ab_SH) (D' := ab_dD h) (fun n => rfl) ?_
      obtain rfl := Option.some.inj hf
      exact ab_Ex.ret (fun n => rfl) rfl
def fX11_isIn (x0 : Int32) (x1 : Int32) (h : abJ) : Option Int32 := if x1 < 0 then some 0 else if 6 ≤ x1 then some 0 else if ((x0 >>> (x1 &&& 31)) &&& 1) = 0 then some 0 else some 1
theorem cX11_isIn (d : Nat) (X : abX) (x0 : Int32) (x1 : Int32) (h : abJ) (z : Int32) (hf : fX11_isIn x0 x1 h = some z) : ab_Ex X (d + 0) 174 0 [(0, .int x0), (1, .int x1)] [] ab_SH (ab_dD h) (fun r => r = (some (.int z), ab_SH, ab_dD h)) := by
  unfold fX11_isIn at hf
  refine ab_Ex.blk (k := 1) (pc' := 1) (lv' := [(0, .int x0), (1, .int x1)]) (st' := [.int x1]) (sh' := ab_SH) (D' := ab_dD h) (fun n => rfl) ?_
  refine ab_Ex.ifc (c := x1 < 0) (SA := (22, [(0, .int x0), (1, .int x1)], [], ab_dD h)) (SB := (4, [(0, .int x0), (1, .int x1)], [], ab_dD h)) (fun n => rfl) (fun c1 => ?_) (fun c1 => ?_)
  · rw [if_pos c1] at hf
    refine ab_Ex.blk (k := 1) (pc' := 23) (lv' := []) (st' := [.int 0]) (sh' := ab_SH) (D' := ab_dD h) (fun n => rfl) ?_
    obtain rfl := Option.some.inj hf
    exact ab_Ex.ret (fun n => rfl) rfl
  · rw [if_neg c1] at hf
    refine ab_Ex.blk (k := 2) (pc' := 7) (lv' := [(0, .int x0), (1, .int x1)]) (st' := [.int 6, .int x1]) (sh' := ab_SH) (D' := ab_dD h) (fun n => rfl) ?_
    refine ab_Ex.ifc (c := 6 ≤ x1) (SA := (22, [(0, .int x0), (1, .int x1)], [], ab_dD h)) (SB := (10, [(0, .int x0), (1, .int x1)], [], ab_dD h)) (fun n => rfl) (fun c2 => ?_) (fun c2 => ?_)
    · rw [if_pos c2] at hf
      refine ab_Ex.blk (k := 1) (pc' := 23) (lv' := []) (st' := [.int 0]) (sh' := ab_SH) (D' := ab_dD h) (fun n => rfl) ?_
      obtain rfl := Option.some.inj hf
      exact ab_Ex.ret (fun n => rfl) rfl
    · rw [if_neg c2] at hf
      refine ab_Ex.blk (k := 5) (pc' := 15) (lv' := [(0, .int x0), (1, .int x1)]) (st' := [.int (((x0 >>> (x1 &&& 31)) &&& 1))]) (sh' := ab_SH) (D' := ab_dD h) (fun n => rfl) ?_
      refine ab_Ex.ifc (c := ((x0 >>> (x1 &&& 31)) &&& 1) = 0) (SA := (22, [(0, .int x0), (1, .int x1)], [], ab_dD h)) (SB := (18, [(0, .int x0), (1, .int x1)], [], ab_dD h)) (fun n => rfl) (fun c3 => ?_) (fun c3 => ?_)
      · rw [if_pos c3] at hf
        refine ab_Ex.blk (k := 1) (pc' := 23) (lv' := []) (st' := [.int 0]) (sh' := ab_SH) (D' := ab_dD h) (fun n => rfl) ?_
        obtain rfl := Option.some.inj hf
        exact ab_Ex.ret (fun n => rfl) rfl
      · rw [if_neg c3] at hf
        refine ab_Ex.blk (k := 2) (pc' := 23) (lv' := []) (st' := [.int 1]) (sh' := ab_SH) (D' := ab_dD h) (fun n => rfl) ?_
        obtain rfl := Option.some.inj hf
        exact ab_Ex.ret (fun n => rfl) rfl
def fX11_armOf (x0 : Int32) (x1 : Int32) (h : abJ) : Option Int32 := if x1 < 0 then some 0 else if x1 < 6 then ab_ask (x1 < 0 ∨ 7 ≤ (x1 : Int32).toNatClampNeg) (ab_ask ((ab_wt.getD (x1 : Int32).toNatClampNeg 0) = 0) (some ((x0 / (ab_wt.getD (x1 : Int32).toNatClampNeg 0)) - (x0 / (ab_wt.getD (x1 : Int32).toNatClampNeg 0)) / 3 * 3))) else some 0
theorem cX11_armOf (d : Nat) (X : abX) (x0 : Int32) (x1 : Int32) (h : abJ) (z : Int32) (hf : fX11_armOf x0 x1 h = some z) : ab_Ex X (d + 0) 172 0 [(0, .int x0), (1, .int x1)] [] ab_SH (ab_dD h) (fun r => r = (some (.int z), ab_SH, ab_dD h)) := by
  unfold fX11_armOf at hf
  refine ab_Ex.blk (k := 1) (pc' := 1) (lv' := [(0, .int x0), (1, .int x1)]) (st' := [.int x1]) (sh' := ab_SH) (D' := ab_dD h) (fun n => rfl) ?_
  refine ab_Ex.ifc (c := x1 < 0) (SA := (10, [(0, .int x0), (1, .int x1)], [], ab_dD h)) (SB := (4, [(0, .int x0), (1, .int x1)], [], ab_dD h)) (fun n => rfl) (fun c1 => ?_) (fun c1 => ?_)
  · rw [if_pos c1] at hf
    refine ab_Ex.blk (k := 2) (pc' := 23) (lv' := []) (st' := [.int 0]) (sh' := ab_SH) (D' := ab_dD h) (fun n => rfl) ?_
    obtain rfl := Option.some.inj hf
    exact ab_Ex.ret (fun n => rfl) rfl
  · rw [if_neg c1] at hf
    refine ab_Ex.blk (k := 2) (pc' := 7) (lv' := [(0, .int x0), (1, .int x1)]) (st' := [.int 6, .int x1]) (sh' := ab_SH) (D' := ab_dD h) (fun n => rfl) ?_
    refine ab_Ex.ifc (c := x1 < 6) (SA := (14, [(0, .int x0), (1, .int x1)], [], ab_dD h)) (SB := (10, [(0, .int x0), (1, .int x1)], [], ab_dD h)) (fun n => rfl) (fun c2 => ?_) (fun c2 => ?_)
    · rw [if_pos c2] at hf
      refine ab_Ex.blk (k := 3) (pc' := 19) (lv' := [(0, .int x0), (1, .int x1)]) (st' := [.int x1, .ref 3000000, .int x0]) (sh' := ab_SH) (D' := ab_dD h) (fun n => rfl) ?_
      obtain ⟨c4, hf⟩ := ab_ask_s hf
      refine ab_Ex.grd (c := x1 < 0 ∨ 7 ≤ (x1 : Int32).toNatClampNeg) (S := (20, [(0, .int x0), (1, .int x1)], [.int ((ab_wt.getD (x1 : Int32).toNatClampNeg 0)), .int x0], ab_dD h)) (fun n => rfl) c4 ?_
      obtain ⟨c5, hf⟩ := ab_ask_s hf
      refine ab_Ex.grd (c := (ab_wt.getD (x1 : Int32).toNatClampNeg 0) = 0) (S := (21, [(0, .int x0), (1, .int x1)], [.int ((x0 / (ab_wt.getD (x1 : Int32).toNatClampNeg 0)))], ab_dD h)) (fun n => rfl) c5 ?_
      refine ab_Ex.blk (k := 1) (pc' := 22) (lv' := [(0, .int x0), (1, .int x1)]) (st' := [.int 3, .int ((x0 / (ab_wt.getD (x1 : Int32).toNatClampNeg 0)))]) (sh' := ab_SH) (D' := ab_dD h) (fun n => rfl) ?_
      refine ab_Ex.blk (k := 1) (pc' := 23) (lv' := []) (st' := [.int (((x0 / (ab_wt.getD (x1 : Int32).toNatClampNeg 0)) - (x0 / (ab_wt.getD (x1 : Int32).toNatClampNeg 0)) / 3 * 3))]) (sh' := ab_SH) (D' := ab_dD h) (fun n => rfl) ?_
      obtain rfl := Option.some.inj hf
      exact ab_Ex.ret (fun n => rfl) rfl
    · rw [if_neg c2] at hf
      refine ab_Ex.blk (k := 2) (pc' := 23) (lv' := []) (st' := [.int 0]) (sh' := ab_SH) (D' := ab_dD h) (fun n => rfl) ?_
      obtain rfl := Option.some.inj hf
      exact ab_Ex.ret (fun n => rfl) rfl
