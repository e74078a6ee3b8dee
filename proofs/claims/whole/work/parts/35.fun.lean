def fJ1_canEncode_9a6ad (x0 : Int32) (h : abJ) : Option Int32 := if x0 < 0 then some 0 else if 255 < x0 then some 0 else some 1
set_option maxRecDepth 20000 in
theorem sJ1_canEncode_9a6ad (d : Nat) (X : abX) (x0 : Int32) (h : abJ) (z : Int32) (hf : fJ1_canEncode_9a6ad x0 h = some z) : ab_Ex X (d + 0) 312 0 [(0, .int x0)] [] ab_SH (ab_dD h) (fun r => r = (some (.int z), ab_SH, ab_dD h)) := by
  unfold fJ1_canEncode_9a6ad at hf
  refine ab_Ex.blk (k := 1) (pc' := 1) (lv' := [(0, .int x0)]) (st' := [.int x0]) (sh' := ab_SH) (D' := ab_dD h) (fun n => rfl) ?_
  refine ab_Ex.ifc (c := x0 < 0) (SA := (15, [(0, .int x0)], [], ab_dD h)) (SB := (4, [(0, .int x0)], [], ab_dD h)) (fun n => rfl) (fun c1 => ?_) (fun c1 => ?_)
  · replace hf := (if_pos c1).symm.trans hf
    refine ab_Ex.blk (k := 1) (pc' := 16) (lv' := []) (st' := [.int 0]) (sh' := ab_SH) (D' := ab_dD h) (fun n => rfl) ?_
    obtain rfl := Option.some.inj hf
    exact ab_Ex.ret (fun n => rfl) rfl
  · replace hf := (if_neg c1).symm.trans hf
    refine ab_Ex.blk (k := 2) (pc' := 8) (lv' := [(0, .int x0)]) (st' := [.int 255, .int x0]) (sh' := ab_SH) (D' := ab_dD h) (fun n => rfl) ?_
    refine ab_Ex.ifc (c := 255 < x0) (SA := (15, [(0, .int x0)], [], ab_dD h)) (SB := (11, [(0, .int x0)], [], ab_dD h)) (fun n => rfl) (fun c2 => ?_) (fun c2 => ?_)
    · replace hf := (if_pos c2).symm.trans hf
      refine ab_Ex.blk (k := 1) (pc' := 16) (lv' := []) (st' := [.int 0]) (sh' := ab_SH) (D' := ab_dD h) (fun n => rfl) ?_
      obtain rfl := Option.some.inj hf
      exact ab_Ex.ret (fun n => rfl) rfl
    · replace hf := (if_neg c2).symm.trans hf
      refine ab_Ex.blk (k := 2) (pc' := 16) (lv' := []) (st' := [.int 1]) (sh' := ab_SH) (D' := ab_dD h) (fun n => rfl) ?_
      obtain rfl := Option.some.inj hf
      exact ab_Ex.ret (fun n => rfl) rfl
def fJ1_indexOfChar_4cfef_L7  (h : abJ)  : Nat → Int32 → Int32 → Int32 → Option Int32
  | 0, _, _, _ => none
  | n + 1, y3, y4, y5 => if y3 ≤ y5 then some (-1) else ab_ask (y5 < 0 ∨ 12 ≤ (y5 : Int32).toNatClampNeg) (if ((ab_sb.getD 0 []).getD (y5 : Int32).toNatClampNeg 0) = y4 then some y5 else fJ1_indexOfChar_4cfef_L7 h n y3 y4 ((y5 + 1)))
def fJ1_indexOfChar_4cfef (x1 : Int32) (x2 : Int32) (x3 : Int32) (h : abJ) : Option Int32 := fJ1_indexOfChar_4cfef_L7 h ab_N x3 ((x1 : Int32).toInt8.toInt32) x2
set_option maxRecDepth 20000 in
theorem sJ1_indexOfChar_4cfef_L7 (d : Nat) (X : abX) (h : abJ)   : ∀ (n : Nat), ∀ (y3 : Int32) (y4 : Int32) (y5 : Int32) (z : Int32), fJ1_indexOfChar_4cfef_L7 h n y3 y4 y5 = some z → ab_Ex X (d + 0) 314 7 [(0, .ref 2000000), (3, .int y3), (4, .int y4), (5, .int y5)] [] ab_SH (ab_dD h) (fun r => r = (some (.int z), ab_SH, ab_dD h)) := by
  intro n
  induction n with
  | zero => intro y3 y4 y5 z hf; cases hf
  | succ n ih =>
    intro y3 y4 y5 z hf
    rw [fJ1_indexOfChar_4cfef_L7] at hf
    refine ab_Ex.blk (k := 2) (pc' := 10) (lv' := [(0, .ref 2000000), (3, .int y3), (4, .int y4), (5, .int y5)]) (st' := [.int y3, .int y5]) (sh' := ab_SH) (D' := ab_dD h) (fun n => rfl) ?_
    refine ab_Ex.ifc (c := y3 ≤ y5) (SA := (31, [(0, .ref 2000000), (3, .int y3), (4, .int y4), (5, .int y5)], [], ab_dD h)) (SB := (13, [(0, .ref 2000000), (3, .int y3), (4, .int y4), (5, .int y5)], [], ab_dD h)) (fun n => rfl) (fun c1 => ?_) (fun c1 => ?_)
    · replace hf := (if_pos c1).symm.trans hf
      refine ab_Ex.blk (k := 1) (pc' := 32) (lv' := [(0, .ref 2000000), (3, .int y3), (4, .int y4), (5, .int y5)]) (st' := [.int ((-1))]) (sh' := ab_SH) (D' := ab_dD h) (fun n => rfl) ?_
      obtain rfl := Option.some.inj hf
      exact ab_Ex.ret (fun n => rfl) rfl
    · replace hf := (if_neg c1).symm.trans hf
      refine ab_Ex.blk (k := 2) (pc' := 16) (lv' := [(0, .ref 2000000), (3, .int y3), (4, .int y4), (5, .int y5)]) (st' := [.int y5, .ref 2000000]) (sh' := ab_SH) (D' := ab_dD h) (fun n => rfl) ?_
      obtain ⟨c2, hf⟩ := ab_ask_s hf
      refine ab_Ex.grd (c := y5 < 0 ∨ 12 ≤ (y5 : Int32).toNatClampNeg) (S := (17, [(0, .ref 2000000), (3, .int y3), (4, .int y4), (5, .int y5)], [.int (((ab_sb.getD 0 []).getD (y5 : Int32).toNatClampNeg 0))], ab_dD h)) (fun n => rfl) c2 ?_
      refine ab_Ex.blk (k := 1) (pc' := 19) (lv' := [(0, .ref 2000000), (3, .int y3), (4, .int y4), (5, .int y5)]) (st' := [.int y4, .int (((ab_sb.getD 0 []).getD (y5 : Int32).toNatClampNeg 0))]) (sh' := ab_SH) (D' := ab_dD h) (fun n => rfl) ?_
      refine ab_Ex.ifc (c := ((ab_sb.getD 0 []).getD (y5 : Int32).toNatClampNeg 0) = y4) (SA := (22, [(0, .ref 2000000), (3, .int y3), (4, .int y4), (5, .int y5)], [], ab_dD h)) (SB := (25, [(0, .ref 2000000), (3, .int y3), (4, .int y4), (5, .int y5)], [], ab_dD h)) (fun n => rfl) (fun c3 => ?_) (fun c3 => ?_)
      · replace hf := (if_pos c3).symm.trans hf
        refine ab_Ex.blk (k := 1) (pc' := 24) (lv' := [(0, .ref 2000000), (3, .int y3), (4, .int y4), (5, .int y5)]) (st' := [.int y5]) (sh' := ab_SH) (D' := ab_dD h) (fun n => rfl) ?_
        obtain rfl := Option.some.inj hf
        exact ab_Ex.ret (fun n => rfl) rfl
      · replace hf := (if_neg c3).symm.trans hf
        refine ab_Ex.blk (k := 2) (pc' := 7) (lv' := [(0, .ref 2000000), (3, .int y3), (4, .int y4), (5, .int ((y5 + 1)))]) (st' := []) (sh' := ab_SH) (D' := ab_dD h) (fun n => rfl) ?_
        exact ih y3 y4 ((y5 + 1)) _ hf
set_option maxRecDepth 20000 in
theorem sJ1_indexOfChar_4cfef (d : Nat) (X : abX) (x1 : Int32) (x2 : Int32) (x3 : Int32) (h : abJ) (z : Int32) (hf : fJ1_indexOfChar_4cfef x1 x2 x3 h = some z) : ab_Ex X (d + 0) 314 0 [(0, .ref 2000000), (1, .int x1), (2, .int x2), (3, .int x3)] [] ab_SH (ab_dD h) (fun r => r = (some (.int z), ab_SH, ab_dD h)) := by
  unfold fJ1_indexOfChar_4cfef at hf
  refine ab_Ex.blk (k := 5) (pc' := 7) (lv' := [(0, .ref 2000000), (3, .int x3), (4, .int ((x1 : Int32).toInt8.toInt32)), (5, .int x2)]) (st' := []) (sh' := ab_SH) (D' := ab_dD h) (fun n => rfl) ?_
  exact sJ1_indexOfChar_4cfef_L7 d X h ab_N x3 ((x1 : Int32).toInt8.toInt32) x2 _ hf
def fJ1_indexOf_4cfef (x1 : Int32) (x2 : Int32) (x3 : Int32) (h : abJ) : Option Int32 := (fJ1_canEncode_9a6ad x1 h).bind (fun r1 => if r1 = 0 then some (-1) else (fJ9_max_7cf53 x2 0 h).bind (fun r3 => (fJ9_min_7cf53 x3 ((Int32.ofNat 12)) h).bind (fun r4 => if r3 < r4 then (fJ1_indexOfChar_4cfef x1 r3 r4 h).bind (fun r6 => some r6) else some (-1))))
set_option maxRecDepth 20000 in
theorem sJ1_indexOf_4cfef (d : Nat) (X : abX) (x1 : Int32) (x2 : Int32) (x3 : Int32) (h : abJ) (z : Int32) (hf : fJ1_indexOf_4cfef x1 x2 x3 h = some z) : ab_Ex X (d + 1) 313 0 [(0, .ref 2000000), (1, .int x1), (2, .int x2), (3, .int x3)] [] ab_SH (ab_dD h) (fun r => r = (some (.int z), ab_SH, ab_dD h)) := by
  unfold fJ1_indexOf_4cfef at hf
  refine ab_Ex.blk (k := 1) (pc' := 1) (lv' := [(0, .ref 2000000), (1, .int x1), (2, .int x2), (3, .int x3)]) (st' := [.int x1]) (sh' := ab_SH) (D' := ab_dD h) (fun n => rfl) ?_
  obtain ⟨r1, hr1, hf⟩ := ab_bind_s hf
  refine ab_Ex.call (d := d + 0) (M2 := 312) (as := [.int x1]) (rest := []) (fun n => rfl) rfl (Nat.not_lt.mpr (Nat.le_of_ble_eq_true rfl)) (sJ1_canEncode_9a6ad (d) X x1 h _ hr1) (fun r hr => ?_)
  subst hr
  show ab_Ex X (d + 1) 313 4 [(0, .ref 2000000), (1, .int x1), (2, .int x2), (3, .int x3)] [.int r1] ab_SH (ab_dD h) _
  refine ab_Ex.ifc (c := r1 = 0) (SA := (7, [(0, .ref 2000000), (1, .int x1), (2, .int x2), (3, .int x3)], [], ab_dD h)) (SB := (9, [(0, .ref 2000000), (1, .int x1), (2, .int x2), (3, .int x3)], [], ab_dD h)) (fun n => rfl) (fun c2 => ?_) (fun c2 => ?_)
  · replace hf := (if_pos c2).symm.trans hf
    refine ab_Ex.blk (k := 1) (pc' := 8) (lv' := [(0, .ref 2000000), (1, .int x1), (2, .int x2), (3, .int x3)]) (st' := [.int ((-1))]) (sh' := ab_SH) (D' := ab_dD h) (fun n => rfl) ?_
    obtain rfl := Option.some.inj hf
    exact ab_Ex.ret (fun n => rfl) rfl
  · replace hf := (if_neg c2).symm.trans hf
    refine ab_Ex.blk (k := 2) (pc' := 11) (lv' := [(0, .ref 2000000), (1, .int x1), (2, .int x2), (3, .int x3)]) (st' := [.int 0, .int x2]) (sh' := ab_SH) (D' := ab_dD h) (fun n => rfl) ?_
    obtain ⟨r3, hr3, hf⟩ := ab_bind_s hf
    refine ab_Ex.call (d := d + 0) (M2 := 302) (as := [.int x2, .int 0]) (rest := []) (fun n => rfl) rfl (Nat.not_lt.mpr (Nat.le_of_ble_eq_true rfl)) (sJ9_max_7cf53 (d) X x2 0 h _ hr3) (fun r hr => ?_)
    subst hr
    show ab_Ex X (d + 1) 313 14 [(0, .ref 2000000), (1, .int x1), (2, .int x2), (3, .int x3)] [.int r3] ab_SH (ab_dD h) _
    refine ab_Ex.blk (k := 4) (pc' := 18) (lv' := [(2, .int r3), (0, .ref 2000000), (1, .int x1), (3, .int x3)]) (st' := [.int ((Int32.ofNat 12)), .int x3]) (sh' := ab_SH) (D' := ab_dD h) (fun n => rfl) ?_
    obtain ⟨r4, hr4, hf⟩ := ab_bind_s hf
    refine ab_Ex.call (d := d + 0) (M2 := 303) (as := [.int x3, .int ((Int32.ofNat 12))]) (rest := []) (fun n => rfl) rfl (Nat.not_lt.mpr (Nat.le_of_ble_eq_true rfl)) (sJ9_min_7cf53 (d) X x3 ((Int32.ofNat 12)) h _ hr4) (fun r hr => ?_)
    subst hr
    show ab_Ex X (d + 1) 313 21 [(2, .int r3), (0, .ref 2000000), (1, .int x1), (3, .int x3)] [.int r4] ab_SH (ab_dD h) _
    refine ab_Ex.blk (k := 3) (pc' := 24) (lv' := [(3, .int r4), (2, .int r3), (0, .ref 2000000), (1, .int x1)]) (st' := [.int r4, .int r3]) (sh' := ab_SH) (D' := ab_dD h) (fun n => rfl) ?_
    refine ab_Ex.ifc (c := r3 < r4) (SA := (29, [(3, .int r4), (2, .int r3), (0, .ref 2000000), (1, .int x1)], [], ab_dD h)) (SB := (27, [(3, .int r4), (2, .int r3), (0, .ref 2000000), (1, .int x1)], [], ab_dD h)) (fun n => rfl) (fun c5 => ?_) (fun c5 => ?_)
    · replace hf := (if_pos c5).symm.trans hf
      refine ab_Ex.blk (k := 4) (pc' := 33) (lv' := [(3, .int r4), (2, .int r3), (0, .ref 2000000), (1, .int x1)]) (st' := [.int r4, .int r3, .int x1, .ref 2000000]) (sh' := ab_SH) (D' := ab_dD h) (fun n => rfl) ?_
      obtain ⟨r6, hr6, hf⟩ := ab_bind_s hf
      refine ab_Ex.call (d := d + 0) (M2 := 314) (as := [.ref 2000000, .int x1, .int r3, .int r4]) (rest := []) (fun n => rfl) rfl (Nat.not_lt.mpr (Nat.le_of_ble_eq_true rfl)) (sJ1_indexOfChar_4cfef (d) X x1 r3 r4 h _ hr6) (fun r hr => ?_)
      subst hr
      show ab_Ex X (d + 1) 313 36 [(3, .int r4), (2, .int r3), (0, .ref 2000000), (1, .int x1)] [.int r6] ab_SH (ab_dD h) _
      obtain rfl := Option.some.inj hf
      exact ab_Ex.ret (fun n => rfl) rfl
    · replace hf := (if_neg c5).symm.trans hf
      refine ab_Ex.blk (k := 1) (pc' := 28) (lv' := [(3, .int r4), (2, .int r3), (0, .ref 2000000), (1, .int x1)]) (st' := [.int ((-1))]) (sh' := ab_SH) (D' := ab_dD h) (fun n => rfl) ?_
      obtain rfl := Option.some.inj hf
      exact ab_Ex.ret (fun n => rfl) rfl
def fJ0_indexOf_7cf53 (x0 : Int32) (x1 : Int32) (h : abJ) : Option Int32 := (fJ0_isLatin1_aae02 1000000 h).bind (fun r1 => if r1 = 0 then (fJ0_length_8abf5 1000000 h).bind (fun r3 => none) else (fJ0_length_8abf5 1000000 h).bind (fun r4 => (fJ1_indexOf_4cfef x0 x1 r4 h).bind (fun r5 => some r5)))
set_option maxRecDepth 20000 in
theorem sJ0_indexOf_7cf53 (d : Nat) (X : abX) (x0 : Int32) (x1 : Int32) (h : abJ) (z : Int32) (hf : fJ0_indexOf_7cf53 x0 x1 h = some z) : ab_Ex X (d + 2) 307 0 [(0, .ref 1000000), (1, .int x0), (2, .int x1)] [] ab_SH (ab_dD h) (fun r => r = (some (.int z), ab_SH, ab_dD h)) := by
  unfold fJ0_indexOf_7cf53 at hf
  refine ab_Ex.blk (k := 1) (pc' := 1) (lv' := [(0, .ref 1000000), (1, .int x0), (2, .int x1)]) (st' := [.ref 1000000]) (sh' := ab_SH) (D' := ab_dD h) (fun n => rfl) ?_
  obtain ⟨r1, hr1, hf⟩ := ab_bind_s hf
  refine ab_Ex.call (d := d + 1) (M2 := 309) (as := [.ref 1000000]) (rest := []) (fun n => rfl) rfl (Nat.not_lt.mpr (Nat.le_of_ble_eq_true rfl)) (sJ0_isLatin1_aae02_1000000 (d + 1) X  h _ hr1) (fun r hr => ?_)
  subst hr
  show ab_Ex X (d + 2) 307 4 [(0, .ref 1000000), (1, .int x0), (2, .int x1)] [.int r1] ab_SH (ab_dD h) _
  refine ab_Ex.ifc (c := r1 = 0) (SA := (23, [(0, .ref 1000000), (1, .int x0), (2, .int x1)], [], ab_dD h)) (SB := (7, [(0, .ref 1000000), (1, .int x0), (2, .int x1)], [], ab_dD h)) (fun n => rfl) (fun c2 => ?_) (fun c2 => ?_)
  · replace hf := (if_pos c2).symm.trans hf
    refine ab_Ex.blk (k := 5) (pc' := 30) (lv' := [(0, .ref 1000000), (1, .int x0), (2, .int x1)]) (st' := [.ref 1000000, .int x1, .int x0, .ref 2000000]) (sh' := ab_SH) (D' := ab_dD h) (fun n => rfl) ?_
    obtain ⟨r3, hr3, hf⟩ := ab_bind_s hf
    refine ab_Ex.call (d := d + 1) (M2 := 304) (as := [.ref 1000000]) (rest := [.int x1, .int x0, .ref 2000000]) (fun n => rfl) rfl (Nat.not_lt.mpr (Nat.le_of_ble_eq_true rfl)) (sJ0_length_8abf5_1000000 (d) X  h _ hr3) (fun r hr => ?_)
    subst hr
    show ab_Ex X (d + 2) 307 33 [(0, .ref 1000000), (1, .int x0), (2, .int x1)] [.int r3, .int x1, .int x0, .ref 2000000] ab_SH (ab_dD h) _
    cases hf
  · replace hf := (if_neg c2).symm.trans hf
    refine ab_Ex.blk (k := 5) (pc' := 14) (lv' := [(0, .ref 1000000), (1, .int x0), (2, .int x1)]) (st' := [.ref 1000000, .int x1, .int x0, .ref 2000000]) (sh' := ab_SH) (D' := ab_dD h) (fun n => rfl) ?_
    obtain ⟨r4, hr4, hf⟩ := ab_bind_s hf
    refine ab_Ex.call (d := d + 1) (M2 := 304) (as := [.ref 1000000]) (rest := [.int x1, .int x0, .ref 2000000]) (fun n => rfl) rfl (Nat.not_lt.mpr (Nat.le_of_ble_eq_true rfl)) (sJ0_length_8abf5_1000000 (d) X  h _ hr4) (fun r hr => ?_)
    subst hr
    show ab_Ex X (d + 2) 307 17 [(0, .ref 1000000), (1, .int x0), (2, .int x1)] [.int r4, .int x1, .int x0, .ref 2000000] ab_SH (ab_dD h) _
    obtain ⟨r5, hr5, hf⟩ := ab_bind_s hf
    refine ab_Ex.call (d := d + 1) (M2 := 313) (as := [.ref 2000000, .int x0, .int x1, .int r4]) (rest := []) (fun n => rfl) rfl (Nat.not_lt.mpr (Nat.le_of_ble_eq_true rfl)) (sJ1_indexOf_4cfef (d) X x0 x1 r4 h _ hr5) (fun r hr => ?_)
    subst hr
    show ab_Ex X (d + 2) 307 20 [(0, .ref 1000000), (1, .int x0), (2, .int x1)] [.int r5] ab_SH (ab_dD h) _
    refine ab_Ex.blk (k := 1) (pc' := 36) (lv' := []) (st' := [.int r5]) (sh' := ab_SH) (D' := ab_dD h) (fun n => rfl) ?_
    obtain rfl := Option.some.inj hf
    exact ab_Ex.ret (fun n => rfl) rfl
def fJ0_indexOf_0f7a4 (x0 : Int32) (h : abJ) : Option Int32 := (fJ0_indexOf_7cf53 x0 0 h).bind (fun r1 => some r1)
set_option maxRecDepth 20000 in
theorem sJ0_indexOf_0f7a4 (d : Nat) (X : abX) (x0 : Int32) (h : abJ) (z : Int32) (hf : fJ0_indexOf_0f7a4 x0 h = some z) : ab_Ex X (d + 3) 306 0 [(0, .ref 1000000), (1, .int x0)] [] ab_SH (ab_dD h) (fun r => r = (some (.int z), ab_SH, ab_dD h)) := by
  unfold fJ0_indexOf_0f7a4 at hf
  refine ab_Ex.blk (k := 3) (pc' := 3) (lv' := [(0, .ref 1000000), (1, .int x0)]) (st' := [.int 0, .int x0, .ref 1000000]) (sh' := ab_SH) (D' := ab_dD h) (fun n => rfl) ?_
  obtain ⟨r1, hr1, hf⟩ := ab_bind_s hf
  refine ab_Ex.call (d := d + 2) (M2 := 307) (as := [.ref 1000000, .int x0, .int 0]) (rest := []) (fun n => rfl) rfl (Nat.not_lt.mpr (Nat.le_of_ble_eq_true rfl)) (sJ0_indexOf_7cf53 (d) X x0 0 h _ hr1) (fun r hr => ?_)
  subst hr
  show ab_Ex X (d + 3) 306 6 [(0, .ref 1000000), (1, .int x0)] [.int r1] ab_SH (ab_dD h) _
  obtain rfl := Option.some.inj hf
  exact ab_Ex.ret (fun n => rfl) rfl
def fX6_advance_L194   : Nat → abJ → Option abJ
  | 0, _ => none
  | n + 1, h => if (h.1 9 5) ≤ (h.1 9 8) then if ((h.1 9 8) - (h.1 9 7)) ≤ 3 then some (ab_wI h 9 6 2) else some (ab_wI h 9 6 1) else ab_ask ((h.1 9 8) < 0 ∨ 900 ≤ ((h.1 9 8) : Int32).toNatClampNeg) (if (h.1 11 ((h.1 9 8) : Int32).toNatClampNeg) < 48 then if ((h.1 9 8) - (h.1 9 7)) ≤ 3 then some (ab_wI h 9 6 2) else some (ab_wI h 9 6 1) else ab_ask ((h.1 9 8) < 0 ∨ 900 ≤ ((h.1 9 8) : Int32).toNatClampNeg) (if 57 < (h.1 11 ((h.1 9 8) : Int32).toNatClampNeg) then if ((h.1 9 8) - (h.1 9 7)) ≤ 3 then some (ab_wI h 9 6 2) else some (ab_wI h 9 6 1) else ab_ask ((h.1 9 8) < 0 ∨ 900 ≤ ((h.1 9 8) : Int32).toNatClampNeg) (fX6_advance_L194 n (ab_wI (ab_wI h 9 9 ((((h.1 9 9) * 10) + (h.1 11 ((h.1 9 8) : Int32).toNatClampNeg)) - 48)) 9 8 ((((ab_wI h 9 9 ((((h.1 9 9) * 10) + (h.1 11 ((h.1 9 8) : Int32).toNatClampNeg)) - 48))).1 9 8) + 1)))))
def fX6_advance_J174   (y1 : Int32) (h : abJ) : Option abJ := if y1 < 48 then (fJ0_indexOf_0f7a4 (((y1 : Int32).toUInt32 % 65536).toInt32) h).bind (fun r7 => if r7 < 0 then some (ab_wI h 9 6 1) else some (ab_wI h 9 6 3)) else if 57 < y1 then (fJ0_indexOf_0f7a4 (((y1 : Int32).toUInt32 % 65536).toInt32) h).bind (fun r10 => if r10 < 0 then some (ab_wI h 9 6 1) else some (ab_wI h 9 6 3)) else fX6_advance_L194 ab_N (ab_wI h 9 9 (y1 - 48))
def fX6_advance_L122   : Nat → abJ → Option abJ
  | 0, _ => none
  | n + 1, h => if (h.1 9 5) ≤ (h.1 9 8) then some h else ab_ask ((h.1 9 8) < 0 ∨ 900 ≤ ((h.1 9 8) : Int32).toNatClampNeg) (if (h.1 11 ((h.1 9 8) : Int32).toNatClampNeg) < 97 then some h else ab_ask ((h.1 9 8) < 0 ∨ 900 ≤ ((h.1 9 8) : Int32).toNatClampNeg) (if 122 < (h.1 11 ((h.1 9 8) : Int32).toNatClampNeg) then some h else fX6_advance_L122 n (ab_wI h 9 8 ((h.1 9 8) + 1))))
def fX6_advance_J60   (h : abJ) : Option abJ := if (h.1 9 7) < (h.1 9 5) then ab_ask ((h.1 9 7) < 0 ∨ 900 ≤ ((h.1 9 7) : Int32).toNatClampNeg) (if (h.1 11 ((h.1 9 7) : Int32).toNatClampNeg) < 97 then fX6_advance_J174 ((h.1 11 ((h.1 9 7) : Int32).toNatClampNeg)) (ab_wI h 9 8 ((h.1 9 7) + 1)) else if 122 < (h.1 11 ((h.1 9 7) : Int32).toNatClampNeg) then fX6_advance_J174 ((h.1 11 ((h.1 9 7) : Int32).toNatClampNeg)) (ab_wI h 9 8 ((h.1 9 7) + 1)) else fX6_advance_L122 ab_N (ab_wI (ab_wI h 9 8 ((h.1 9 7) + 1)) 9 6 3)) else some (ab_wI (ab_wI h 9 6 0) 9 8 (((ab_wI h 9 6 0)).1 9 5))
def fX6_advance_J47  (k8 : abJ → Option abJ) (h : abJ) : Option abJ := k8 (ab_wI h 9 7 ((h.1 9 7) + 1))
def fX6_advance_L8   : Nat → abJ → Option abJ
  | 0, _ => none
  | n + 1, h => if (h.1 9 5) ≤ (h.1 9 7) then fX6_advance_J60 h else ab_ask ((h.1 9 7) < 0 ∨ 900 ≤ ((h.1 9 7) : Int32).toNatClampNeg) (if (h.1 11 ((h.1 9 7) : Int32).toNatClampNeg) = 32 then fX6_advance_J47 (fun h => fX6_advance_L8 n h) h else ab_ask ((h.1 9 7) < 0 ∨ 900 ≤ ((h.1 9 7) : Int32).toNatClampNeg) (if (h.1 11 ((h.1 9 7) : Int32).toNatClampNeg) = 10 then fX6_advance_J47 (fun h => fX6_advance_L8 n h) h else fX6_advance_J60 h))
def fX6_advance  (h : abJ) : Option abJ := fX6_advance_L8 ab_N (ab_wI h 9 7 (h.1 9 8))
set_option maxRecDepth 20000 in
theorem sX6_advance_L194 (d : Nat) (X : abX)   : ∀ (n : Nat), ∀ (h : abJ) (z : abJ), fX6_advance_L194 n h = some z → ab_Ex X (d + 4) 94 194 [(0, .ref 9)] [] ab_SH (ab_dD h) (fun r => r = (none, ab_SH, ab_dD z)) := by
  intro n
  induction n with
  | zero => intro h z hf; cases hf
  | succ n ih =>
    intro h z hf
    rw [fX6_advance_L194] at hf
    refine ab_Ex.blk (k := 4) (pc' := 202) (lv' := [(0, .ref 9)]) (st' := [.int ((h.1 9 5)), .int ((h.1 9 8))]) (sh' := ab_SH) (D' := ab_dD h) (fun n => rfl) ?_
    refine ab_Ex.ifc (c := (h.1 9 5) ≤ (h.1 9 8)) (SA := (270, [(0, .ref 9)], [], ab_dD h)) (SB := (205, [(0, .ref 9)], [], ab_dD h)) (fun n => rfl) (fun c12 => ?_) (fun c12 => ?_)
    · replace hf := (if_pos c12).symm.trans hf
      refine ab_Ex.blk (k := 7) (pc' := 281) (lv' := [(0, .ref 9)]) (st' := [.int 3, .int (((h.1 9 8) - (h.1 9 7))), .ref 9]) (sh' := ab_SH) (D' := ab_dD h) (fun n => rfl) ?_
      refine ab_Ex.ifc (c := ((h.1 9 8) - (h.1 9 7)) ≤ 3) (SA := (288, [(0, .ref 9)], [.ref 9], ab_dD h)) (SB := (284, [(0, .ref 9)], [.ref 9], ab_dD h)) (fun n => rfl) (fun c13 => ?_) (fun c13 => ?_)
      · replace hf := (if_pos c13).symm.trans hf
        refine ab_Ex.blk (k := 3) (pc' := 315) (lv' := []) (st' := []) (sh' := ab_SH) (D' := ab_dD (ab_wI h 9 6 2)) (fun n => rfl) ?_
        obtain rfl := Option.some.inj hf
        exact ab_Ex.ret (fun n => rfl) rfl
      · replace hf := (if_neg c13).symm.trans hf
        refine ab_Ex.blk (k := 4) (pc' := 315) (lv' := []) (st' := []) (sh' := ab_SH) (D' := ab_dD (ab_wI h 9 6 1)) (fun n => rfl) ?_
        obtain rfl := Option.some.inj hf
        exact ab_Ex.ret (fun n => rfl) rfl
    · replace hf := (if_neg c12).symm.trans hf
      refine ab_Ex.blk (k := 4) (pc' := 213) (lv' := [(0, .ref 9)]) (st' := [.int ((h.1 9 8)), .ref 11]) (sh' := ab_SH) (D' := ab_dD h) (fun n => rfl) ?_
      obtain ⟨c15, hf⟩ := ab_ask_s hf
      refine ab_Ex.grd (c := (h.1 9 8) < 0 ∨ 900 ≤ ((h.1 9 8) : Int32).toNatClampNeg) (S := (214, [(0, .ref 9)], [.int ((h.1 11 ((h.1 9 8) : Int32).toNatClampNeg))], ab_dD h)) (fun n => rfl) c15 ?_
      refine ab_Ex.blk (k := 1) (pc' := 216) (lv' := [(0, .ref 9)]) (st' := [.int 48, .int ((h.1 11 ((h.1 9 8) : Int32).toNatClampNeg))]) (sh' := ab_SH) (D' := ab_dD h) (fun n => rfl) ?_
      refine ab_Ex.ifc (c := (h.1 11 ((h.1 9 8) : Int32).toNatClampNeg) < 48) (SA := (270, [(0, .ref 9)], [], ab_dD h)) (SB := (219, [(0, .ref 9)], [], ab_dD h)) (fun n => rfl) (fun c16 => ?_) (fun c16 => ?_)
      · replace hf := (if_pos c16).symm.trans hf
        refine ab_Ex.blk (k := 7) (pc' := 281) (lv' := [(0, .ref 9)]) (st' := [.int 3, .int (((h.1 9 8) - (h.1 9 7))), .ref 9]) (sh' := ab_SH) (D' := ab_dD h) (fun n => rfl) ?_
        refine ab_Ex.ifc (c := ((h.1 9 8) - (h.1 9 7)) ≤ 3) (SA := (288, [(0, .ref 9)], [.ref 9], ab_dD h)) (SB := (284, [(0, .ref 9)], [.ref 9], ab_dD h)) (fun n => rfl) (fun c17 => ?_) (fun c17 => ?_)
        · replace hf := (if_pos c17).symm.trans hf
          refine ab_Ex.blk (k := 3) (pc' := 315) (lv' := []) (st' := []) (sh' := ab_SH) (D' := ab_dD (ab_wI h 9 6 2)) (fun n => rfl) ?_
          obtain rfl := Option.some.inj hf
          exact ab_Ex.ret (fun n => rfl) rfl
        · replace hf := (if_neg c17).symm.trans hf
          refine ab_Ex.blk (k := 4) (pc' := 315) (lv' := []) (st' := []) (sh' := ab_SH) (D' := ab_dD (ab_wI h 9 6 1)) (fun n => rfl) ?_
          obtain rfl := Option.some.inj hf
          exact ab_Ex.ret (fun n => rfl) rfl
      · replace hf := (if_neg c16).symm.trans hf
        refine ab_Ex.blk (k := 4) (pc' := 227) (lv' := [(0, .ref 9)]) (st' := [.int ((h.1 9 8)), .ref 11]) (sh' := ab_SH) (D' := ab_dD h) (fun n => rfl) ?_
        obtain ⟨c19, hf⟩ := ab_ask_s hf
        refine ab_Ex.grd (c := (h.1 9 8) < 0 ∨ 900 ≤ ((h.1 9 8) : Int32).toNatClampNeg) (S := (228, [(0, .ref 9)], [.int ((h.1 11 ((h.1 9 8) : Int32).toNatClampNeg))], ab_dD h)) (fun n => rfl) c19 ?_
        refine ab_Ex.blk (k := 1) (pc' := 230) (lv' := [(0, .ref 9)]) (st' := [.int 57, .int ((h.1 11 ((h.1 9 8) : Int32).toNatClampNeg))]) (sh' := ab_SH) (D' := ab_dD h) (fun n => rfl) ?_
        refine ab_Ex.ifc (c := 57 < (h.1 11 ((h.1 9 8) : Int32).toNatClampNeg)) (SA := (270, [(0, .ref 9)], [], ab_dD h)) (SB := (233, [(0, .ref 9)], [], ab_dD h)) (fun n => rfl) (fun c20 => ?_) (fun c20 => ?_)
        · replace hf := (if_pos c20).symm.trans hf
          refine ab_Ex.blk (k := 7) (pc' := 281) (lv' := [(0, .ref 9)]) (st' := [.int 3, .int (((h.1 9 8) - (h.1 9 7))), .ref 9]) (sh' := ab_SH) (D' := ab_dD h) (fun n => rfl) ?_
          refine ab_Ex.ifc (c := ((h.1 9 8) - (h.1 9 7)) ≤ 3) (SA := (288, [(0, .ref 9)], [.ref 9], ab_dD h)) (SB := (284, [(0, .ref 9)], [.ref 9], ab_dD h)) (fun n => rfl) (fun c21 => ?_) (fun c21 => ?_)
          · replace hf := (if_pos c21).symm.trans hf
            refine ab_Ex.blk (k := 3) (pc' := 315) (lv' := []) (st' := []) (sh' := ab_SH) (D' := ab_dD (ab_wI h 9 6 2)) (fun n => rfl) ?_
            obtain rfl := Option.some.inj hf
            exact ab_Ex.ret (fun n => rfl) rfl
          · replace hf := (if_neg c21).symm.trans hf
            refine ab_Ex.blk (k := 4) (pc' := 315) (lv' := []) (st' := []) (sh' := ab_SH) (D' := ab_dD (ab_wI h 9 6 1)) (fun n => rfl) ?_
            obtain rfl := Option.some.inj hf
            exact ab_Ex.ret (fun n => rfl) rfl
        · replace hf := (if_neg c20).symm.trans hf
          refine ab_Ex.blk (k := 9) (pc' := 249) (lv' := [(0, .ref 9)]) (st' := [.int ((h.1 9 8)), .ref 11, .int (((h.1 9 9) * 10)), .ref 9]) (sh' := ab_SH) (D' := ab_dD h) (fun n => rfl) ?_
          obtain ⟨c23, hf⟩ := ab_ask_s hf
          refine ab_Ex.grd (c := (h.1 9 8) < 0 ∨ 900 ≤ ((h.1 9 8) : Int32).toNatClampNeg) (S := (250, [(0, .ref 9)], [.int ((h.1 11 ((h.1 9 8) : Int32).toNatClampNeg)), .int (((h.1 9 9) * 10)), .ref 9], ab_dD h)) (fun n => rfl) c23 ?_
          refine ab_Ex.blk (k := 11) (pc' := 194) (lv' := [(0, .ref 9)]) (st' := []) (sh' := ab_SH) (D' := ab_dD (ab_wI (ab_wI h 9 9 ((((h.1 9 9) * 10) + (h.1 11 ((h.1 9 8) : Int32).toNatClampNeg)) - 48)) 9 8 ((((ab_wI h 9 9 ((((h.1 9 9) * 10) + (h.1 11 ((h.1 9 8) : Int32).toNatClampNeg)) - 48))).1 9 8) + 1))) (fun n => rfl) ?_
          exact ih (ab_wI (ab_wI h 9 9 ((((h.1 9 9) * 10) + (h.1 11 ((h.1 9 8) : Int32).toNatClampNeg)) - 48)) 9 8 ((((ab_wI h 9 9 ((((h.1 9 9) * 10) + (h.1 11 ((h.1 9 8) : Int32).toNatClampNeg)) - 48))).1 9 8) + 1)) _ hf
set_option maxRecDepth 20000 in
theorem sX6_advance_J174 (d : Nat) (X : abX)   : ∀ (y1 : Int32) (h : abJ) (z : abJ), fX6_advance_J174 y1 h = some z → ab_Ex X (d + 4) 94 174 [(0, .ref 9), (1, .int y1)] [] ab_SH (ab_dD h) (fun r => r = (none, ab_SH, ab_dD z)) := by
  intro y1 h z hf
  unfold fX6_advance_J174 at hf
  refine ab_Ex.blk (k := 2) (pc' := 177) (lv' := [(0, .ref 9), (1, .int y1)]) (st' := [.int 48, .int y1]) (sh' := ab_SH) (D' := ab_dD h) (fun n => rfl) ?_
  refine ab_Ex.ifc (c := y1 < 48) (SA := (295, [(0, .ref 9), (1, .int y1)], [], ab_dD h)) (SB := (180, [(0, .ref 9), (1, .int y1)], [], ab_dD h)) (fun n => rfl) (fun c6 => ?_) (fun c6 => ?_)
  · replace hf := (if_pos c6).symm.trans hf
    refine ab_Ex.blk (k := 4) (pc' := 301) (lv' := [(0, .ref 9), (1, .int y1)]) (st' := [.int (((y1 : Int32).toUInt32 % 65536).toInt32), .ref 1000000, .ref 9]) (sh' := ab_SH) (D' := ab_dD h) (fun n => rfl) ?_
    obtain ⟨r7, hr7, hf⟩ := ab_bind_s hf
    refine ab_Ex.call (d := d + 3) (M2 := 306) (as := [.ref 1000000, .int (((y1 : Int32).toUInt32 % 65536).toInt32)]) (rest := [.ref 9]) (fun n => rfl) rfl (Nat.not_lt.mpr (Nat.le_of_ble_eq_true rfl)) (sJ0_indexOf_0f7a4 (d) X (((y1 : Int32).toUInt32 % 65536).toInt32) h _ hr7) (fun r hr => ?_)
    subst hr
    show ab_Ex X (d + 4) 94 304 [(0, .ref 9), (1, .int y1)] [.int r7, .ref 9] ab_SH (ab_dD h) _
    refine ab_Ex.ifc (c := r7 < 0) (SA := (311, [(0, .ref 9), (1, .int y1)], [.ref 9], ab_dD h)) (SB := (307, [(0, .ref 9), (1, .int y1)], [.ref 9], ab_dD h)) (fun n => rfl) (fun c8 => ?_) (fun c8 => ?_)
    · replace hf := (if_pos c8).symm.trans hf
      refine ab_Ex.blk (k := 2) (pc' := 315) (lv' := []) (st' := []) (sh' := ab_SH) (D' := ab_dD (ab_wI h 9 6 1)) (fun n => rfl) ?_
      obtain rfl := Option.some.inj hf
      exact ab_Ex.ret (fun n => rfl) rfl
    · replace hf := (if_neg c8).symm.trans hf
      refine ab_Ex.blk (k := 3) (pc' := 315) (lv' := []) (st' := []) (sh' := ab_SH) (D' := ab_dD (ab_wI h 9 6 3)) (fun n => rfl) ?_
      obtain rfl := Option.some.inj hf
      exact ab_Ex.ret (fun n => rfl) rfl
  · replace hf := (if_neg c6).symm.trans hf
    refine ab_Ex.blk (k := 2) (pc' := 183) (lv' := [(0, .ref 9), (1, .int y1)]) (st' := [.int 57, .int y1]) (sh' := ab_SH) (D' := ab_dD h) (fun n => rfl) ?_
    refine ab_Ex.ifc (c := 57 < y1) (SA := (295, [(0, .ref 9), (1, .int y1)], [], ab_dD h)) (SB := (186, [(0, .ref 9), (1, .int y1)], [], ab_dD h)) (fun n => rfl) (fun c9 => ?_) (fun c9 => ?_)
    · replace hf := (if_pos c9).symm.trans hf
      refine ab_Ex.blk (k := 4) (pc' := 301) (lv' := [(0, .ref 9), (1, .int y1)]) (st' := [.int (((y1 : Int32).toUInt32 % 65536).toInt32), .ref 1000000, .ref 9]) (sh' := ab_SH) (D' := ab_dD h) (fun n => rfl) ?_
      obtain ⟨r10, hr10, hf⟩ := ab_bind_s hf
      refine ab_Ex.call (d := d + 3) (M2 := 306) (as := [.ref 1000000, .int (((y1 : Int32).toUInt32 % 65536).toInt32)]) (rest := [.ref 9]) (fun n => rfl) rfl (Nat.not_lt.mpr (Nat.le_of_ble_eq_true rfl)) (sJ0_indexOf_0f7a4 (d) X (((y1 : Int32).toUInt32 % 65536).toInt32) h _ hr10) (fun r hr => ?_)
      subst hr
      show ab_Ex X (d + 4) 94 304 [(0, .ref 9), (1, .int y1)] [.int r10, .ref 9] ab_SH (ab_dD h) _
      refine ab_Ex.ifc (c := r10 < 0) (SA := (311, [(0, .ref 9), (1, .int y1)], [.ref 9], ab_dD h)) (SB := (307, [(0, .ref 9), (1, .int y1)], [.ref 9], ab_dD h)) (fun n => rfl) (fun c11 => ?_) (fun c11 => ?_)
      · replace hf := (if_pos c11).symm.trans hf
        refine ab_Ex.blk (k := 2) (pc' := 315) (lv' := []) (st' := []) (sh' := ab_SH) (D' := ab_dD (ab_wI h 9 6 1)) (fun n => rfl) ?_
        obtain rfl := Option.some.inj hf
        exact ab_Ex.ret (fun n => rfl) rfl
      · replace hf := (if_neg c11).symm.trans hf
        refine ab_Ex.blk (k := 3) (pc' := 315) (lv' := []) (st' := []) (sh' := ab_SH) (D' := ab_dD (ab_wI h 9 6 3)) (fun n => rfl) ?_
        obtain rfl := Option.some.inj hf
        exact ab_Ex.ret (fun n => rfl) rfl
    · replace hf := (if_neg c9).symm.trans hf
      refine ab_Ex.blk (k := 5) (pc' := 194) (lv' := [(0, .ref 9)]) (st' := []) (sh' := ab_SH) (D' := ab_dD (ab_wI h 9 9 (y1 - 48))) (fun n => rfl) ?_
      exact sX6_advance_L194 d X  ab_N (ab_wI h 9 9 (y1 - 48)) _ hf
set_option maxRecDepth 20000 in
theorem sX6_advance_L122 (d : Nat) (X : abX)   : ∀ (n : Nat), ∀ (h : abJ) (z : abJ), fX6_advance_L122 n h = some z → ab_Ex X (d + 4) 94 122 [(0, .ref 9)] [] ab_SH (ab_dD h) (fun r => r = (none, ab_SH, ab_dD z)) := by
  intro n
  induction n with
  | zero => intro h z hf; cases hf
  | succ n ih =>
    intro h z hf
    rw [fX6_advance_L122] at hf
    refine ab_Ex.blk (k := 4) (pc' := 130) (lv' := [(0, .ref 9)]) (st' := [.int ((h.1 9 5)), .int ((h.1 9 8))]) (sh' := ab_SH) (D' := ab_dD h) (fun n => rfl) ?_
    refine ab_Ex.ifc (c := (h.1 9 5) ≤ (h.1 9 8)) (SA := (315, [(0, .ref 9)], [], ab_dD h)) (SB := (133, [(0, .ref 9)], [], ab_dD h)) (fun n => rfl) (fun c25 => ?_) (fun c25 => ?_)
    · replace hf := (if_pos c25).symm.trans hf
      obtain rfl := Option.some.inj hf
      exact ab_Ex.ret (fun n => rfl) rfl
    · replace hf := (if_neg c25).symm.trans hf
      refine ab_Ex.blk (k := 4) (pc' := 141) (lv' := [(0, .ref 9)]) (st' := [.int ((h.1 9 8)), .ref 11]) (sh' := ab_SH) (D' := ab_dD h) (fun n => rfl) ?_
      obtain ⟨c27, hf⟩ := ab_ask_s hf
      refine ab_Ex.grd (c := (h.1 9 8) < 0 ∨ 900 ≤ ((h.1 9 8) : Int32).toNatClampNeg) (S := (142, [(0, .ref 9)], [.int ((h.1 11 ((h.1 9 8) : Int32).toNatClampNeg))], ab_dD h)) (fun n => rfl) c27 ?_
      refine ab_Ex.blk (k := 1) (pc' := 144) (lv' := [(0, .ref 9)]) (st' := [.int 97, .int ((h.1 11 ((h.1 9 8) : Int32).toNatClampNeg))]) (sh' := ab_SH) (D' := ab_dD h) (fun n => rfl) ?_
      refine ab_Ex.ifc (c := (h.1 11 ((h.1 9 8) : Int32).toNatClampNeg) < 97) (SA := (315, [(0, .ref 9)], [], ab_dD h)) (SB := (147, [(0, .ref 9)], [], ab_dD h)) (fun n => rfl) (fun c28 => ?_) (fun c28 => ?_)
      · replace hf := (if_pos c28).symm.trans hf
        obtain rfl := Option.some.inj hf
        exact ab_Ex.ret (fun n => rfl) rfl
      · replace hf := (if_neg c28).symm.trans hf
        refine ab_Ex.blk (k := 4) (pc' := 155) (lv' := [(0, .ref 9)]) (st' := [.int ((h.1 9 8)), .ref 11]) (sh' := ab_SH) (D' := ab_dD h) (fun n => rfl) ?_
        obtain ⟨c30, hf⟩ := ab_ask_s hf
        refine ab_Ex.grd (c := (h.1 9 8) < 0 ∨ 900 ≤ ((h.1 9 8) : Int32).toNatClampNeg) (S := (156, [(0, .ref 9)], [.int ((h.1 11 ((h.1 9 8) : Int32).toNatClampNeg))], ab_dD h)) (fun n => rfl) c30 ?_
        refine ab_Ex.blk (k := 1) (pc' := 158) (lv' := [(0, .ref 9)]) (st' := [.int 122, .int ((h.1 11 ((h.1 9 8) : Int32).toNatClampNeg))]) (sh' := ab_SH) (D' := ab_dD h) (fun n => rfl) ?_
        refine ab_Ex.ifc (c := 122 < (h.1 11 ((h.1 9 8) : Int32).toNatClampNeg)) (SA := (315, [(0, .ref 9)], [], ab_dD h)) (SB := (161, [(0, .ref 9)], [], ab_dD h)) (fun n => rfl) (fun c31 => ?_) (fun c31 => ?_)
        · replace hf := (if_pos c31).symm.trans hf
          obtain rfl := Option.some.inj hf
          exact ab_Ex.ret (fun n => rfl) rfl
        · replace hf := (if_neg c31).symm.trans hf
          refine ab_Ex.blk (k := 7) (pc' := 122) (lv' := [(0, .ref 9)]) (st' := []) (sh' := ab_SH) (D' := ab_dD (ab_wI h 9 8 ((h.1 9 8) + 1))) (fun n => rfl) ?_
          exact ih (ab_wI h 9 8 ((h.1 9 8) + 1)) _ hf
set_option maxRecDepth 20000 in
theorem sX6_advance_J60 (d : Nat) (X : abX)   : ∀ (h : abJ) (z : abJ), fX6_advance_J60 h = some z → ab_Ex X (d + 4) 94 60 [(0, .ref 9)] [] ab_SH (ab_dD h) (fun r => r = (none, ab_SH, ab_dD z)) := by
  intro h z hf
  unfold fX6_advance_J60 at hf
  refine ab_Ex.blk (k := 4) (pc' := 68) (lv' := [(0, .ref 9)]) (st' := [.int ((h.1 9 5)), .int ((h.1 9 7))]) (sh' := ab_SH) (D' := ab_dD h) (fun n => rfl) ?_
  refine ab_Ex.ifc (c := (h.1 9 7) < (h.1 9 5)) (SA := (85, [(0, .ref 9)], [], ab_dD h)) (SB := (71, [(0, .ref 9)], [], ab_dD h)) (fun n => rfl) (fun c2 => ?_) (fun c2 => ?_)
  · replace hf := (if_pos c2).symm.trans hf
    refine ab_Ex.blk (k := 4) (pc' := 93) (lv' := [(0, .ref 9)]) (st' := [.int ((h.1 9 7)), .ref 11]) (sh' := ab_SH) (D' := ab_dD h) (fun n => rfl) ?_
    obtain ⟨c4, hf⟩ := ab_ask_s hf
    refine ab_Ex.grd (c := (h.1 9 7) < 0 ∨ 900 ≤ ((h.1 9 7) : Int32).toNatClampNeg) (S := (94, [(0, .ref 9)], [.int ((h.1 11 ((h.1 9 7) : Int32).toNatClampNeg))], ab_dD h)) (fun n => rfl) c4 ?_
    refine ab_Ex.blk (k := 9) (pc' := 108) (lv' := [(1, .int ((h.1 11 ((h.1 9 7) : Int32).toNatClampNeg))), (0, .ref 9)]) (st' := [.int 97, .int ((h.1 11 ((h.1 9 7) : Int32).toNatClampNeg))]) (sh' := ab_SH) (D' := ab_dD (ab_wI h 9 8 ((h.1 9 7) + 1))) (fun n => rfl) ?_
    refine ab_Ex.ifc (c := (h.1 11 ((h.1 9 7) : Int32).toNatClampNeg) < 97) (SA := (174, [(1, .int ((h.1 11 ((h.1 9 7) : Int32).toNatClampNeg))), (0, .ref 9)], [], ab_dD (ab_wI h 9 8 ((h.1 9 7) + 1)))) (SB := (111, [(1, .int ((h.1 11 ((h.1 9 7) : Int32).toNatClampNeg))), (0, .ref 9)], [], ab_dD (ab_wI h 9 8 ((h.1 9 7) + 1)))) (fun n => rfl) (fun c5 => ?_) (fun c5 => ?_)
    · replace hf := (if_pos c5).symm.trans hf
      exact sX6_advance_J174 d X  ((h.1 11 ((h.1 9 7) : Int32).toNatClampNeg)) (ab_wI h 9 8 ((h.1 9 7) + 1)) _ hf
    · replace hf := (if_neg c5).symm.trans hf
      refine ab_Ex.blk (k := 2) (pc' := 114) (lv' := [(1, .int ((h.1 11 ((h.1 9 7) : Int32).toNatClampNeg))), (0, .ref 9)]) (st' := [.int 122, .int ((h.1 11 ((h.1 9 7) : Int32).toNatClampNeg))]) (sh' := ab_SH) (D' := ab_dD (ab_wI h 9 8 ((h.1 9 7) + 1))) (fun n => rfl) ?_
      refine ab_Ex.ifc (c := 122 < (h.1 11 ((h.1 9 7) : Int32).toNatClampNeg)) (SA := (174, [(1, .int ((h.1 11 ((h.1 9 7) : Int32).toNatClampNeg))), (0, .ref 9)], [], ab_dD (ab_wI h 9 8 ((h.1 9 7) + 1)))) (SB := (117, [(1, .int ((h.1 11 ((h.1 9 7) : Int32).toNatClampNeg))), (0, .ref 9)], [], ab_dD (ab_wI h 9 8 ((h.1 9 7) + 1)))) (fun n => rfl) (fun c24 => ?_) (fun c24 => ?_)
      · replace hf := (if_pos c24).symm.trans hf
        exact sX6_advance_J174 d X  ((h.1 11 ((h.1 9 7) : Int32).toNatClampNeg)) (ab_wI h 9 8 ((h.1 9 7) + 1)) _ hf
      · replace hf := (if_neg c24).symm.trans hf
        refine ab_Ex.blk (k := 3) (pc' := 122) (lv' := [(0, .ref 9)]) (st' := []) (sh' := ab_SH) (D' := ab_dD (ab_wI (ab_wI h 9 8 ((h.1 9 7) + 1)) 9 6 3)) (fun n => rfl) ?_
        exact sX6_advance_L122 d X  ab_N (ab_wI (ab_wI h 9 8 ((h.1 9 7) + 1)) 9 6 3) _ hf
  · replace hf := (if_neg c2).symm.trans hf
    refine ab_Ex.blk (k := 7) (pc' := 84) (lv' := [(0, .ref 9)]) (st' := []) (sh' := ab_SH) (D' := ab_dD (ab_wI (ab_wI h 9 6 0) 9 8 (((ab_wI h 9 6 0)).1 9 5))) (fun n => rfl) ?_
    obtain rfl := Option.some.inj hf
    exact ab_Ex.ret (fun n => rfl) rfl
set_option maxRecDepth 20000 in
theorem sX6_advance_J47 (d : Nat) (X : abX) (k8 : abJ → Option abJ) (hk8 : ∀ (h : abJ) (z : abJ), k8 h = some z → ab_Ex X (d + 4) 94 8 [(0, .ref 9)] [] ab_SH (ab_dD h) (fun r => r = (none, ab_SH, ab_dD z))) : ∀ (h : abJ) (z : abJ), fX6_advance_J47 k8 h = some z → ab_Ex X (d + 4) 94 47 [(0, .ref 9)] [] ab_SH (ab_dD h) (fun r => r = (none, ab_SH, ab_dD z)) := by
  intro h z hf
  unfold fX6_advance_J47 at hf
  refine ab_Ex.blk (k := 7) (pc' := 8) (lv' := [(0, .ref 9)]) (st' := []) (sh' := ab_SH) (D' := ab_dD (ab_wI h 9 7 ((h.1 9 7) + 1))) (fun n => rfl) ?_
  exact hk8 (ab_wI h 9 7 ((h.1 9 7) + 1)) _ hf
set_option maxRecDepth 20000 in
theorem sX6_advance_L8 (d : Nat) (X : abX)   : ∀ (n : Nat), ∀ (h : abJ) (z : abJ), fX6_advance_L8 n h = some z → ab_Ex X (d + 4) 94 8 [(0, .ref 9)] [] ab_SH (ab_dD h) (fun r => r = (none, ab_SH, ab_dD z)) := by
  intro n
  induction n with
  | zero => intro h z hf; cases hf
  | succ n ih =>
    intro h z hf
    rw [fX6_advance_L8] at hf
    refine ab_Ex.blk (k := 4) (pc' := 16) (lv' := [(0, .ref 9)]) (st' := [.int ((h.1 9 5)), .int ((h.1 9 7))]) (sh' := ab_SH) (D' := ab_dD h) (fun n => rfl) ?_
    refine ab_Ex.ifc (c := (h.1 9 5) ≤ (h.1 9 7)) (SA := (60, [(0, .ref 9)], [], ab_dD h)) (SB := (19, [(0, .ref 9)], [], ab_dD h)) (fun n => rfl) (fun c1 => ?_) (fun c1 => ?_)
    · replace hf := (if_pos c1).symm.trans hf
      exact sX6_advance_J60 d X  h _ hf
    · replace hf := (if_neg c1).symm.trans hf
      refine ab_Ex.blk (k := 4) (pc' := 27) (lv' := [(0, .ref 9)]) (st' := [.int ((h.1 9 7)), .ref 11]) (sh' := ab_SH) (D' := ab_dD h) (fun n => rfl) ?_
      obtain ⟨c33, hf⟩ := ab_ask_s hf
      refine ab_Ex.grd (c := (h.1 9 7) < 0 ∨ 900 ≤ ((h.1 9 7) : Int32).toNatClampNeg) (S := (28, [(0, .ref 9)], [.int ((h.1 11 ((h.1 9 7) : Int32).toNatClampNeg))], ab_dD h)) (fun n => rfl) c33 ?_
      refine ab_Ex.blk (k := 1) (pc' := 30) (lv' := [(0, .ref 9)]) (st' := [.int 32, .int ((h.1 11 ((h.1 9 7) : Int32).toNatClampNeg))]) (sh' := ab_SH) (D' := ab_dD h) (fun n => rfl) ?_
      refine ab_Ex.ifc (c := (h.1 11 ((h.1 9 7) : Int32).toNatClampNeg) = 32) (SA := (47, [(0, .ref 9)], [], ab_dD h)) (SB := (33, [(0, .ref 9)], [], ab_dD h)) (fun n => rfl) (fun c34 => ?_) (fun c34 => ?_)
      · replace hf := (if_pos c34).symm.trans hf
        exact sX6_advance_J47 d X (fun h => fX6_advance_L8 n h) (fun h z hz => ih h z hz) h _ hf
      · replace hf := (if_neg c34).symm.trans hf
        refine ab_Ex.blk (k := 4) (pc' := 41) (lv' := [(0, .ref 9)]) (st' := [.int ((h.1 9 7)), .ref 11]) (sh' := ab_SH) (D' := ab_dD h) (fun n => rfl) ?_
        obtain ⟨c36, hf⟩ := ab_ask_s hf
        refine ab_Ex.grd (c := (h.1 9 7) < 0 ∨ 900 ≤ ((h.1 9 7) : Int32).toNatClampNeg) (S := (42, [(0, .ref 9)], [.int ((h.1 11 ((h.1 9 7) : Int32).toNatClampNeg))], ab_dD h)) (fun n => rfl) c36 ?_
        refine ab_Ex.blk (k := 1) (pc' := 44) (lv' := [(0, .ref 9)]) (st' := [.int 10, .int ((h.1 11 ((h.1 9 7) : Int32).toNatClampNeg))]) (sh' := ab_SH) (D' := ab_dD h) (fun n => rfl) ?_
        refine ab_Ex.ifc (c := (h.1 11 ((h.1 9 7) : Int32).toNatClampNeg) = 10) (SA := (47, [(0, .ref 9)], [], ab_dD h)) (SB := (60, [(0, .ref 9)], [], ab_dD h)) (fun n => rfl) (fun c37 => ?_) (fun c37 => ?_)
        · replace hf := (if_pos c37).symm.trans hf
          exact sX6_advance_J47 d X (fun h => fX6_advance_L8 n h) (fun h z hz => ih h z hz) h _ hf
        · replace hf := (if_neg c37).symm.trans hf
          exact sX6_advance_J60 d X  h _ hf
set_option maxRecDepth 20000 in
theorem sX6_advance (d : Nat) (X : abX)  (h : abJ) (z : abJ) (hf : fX6_advance  h = some z) : ab_Ex X (d + 4) 94 0 [(0, .ref 9)] [] ab_SH (ab_dD h) (fun r => r = (none, ab_SH, ab_dD z)) := by
  unfold fX6_advance at hf
  refine ab_Ex.blk (k := 4) (pc' := 8) (lv' := [(0, .ref 9)]) (st' := []) (sh' := ab_SH) (D' := ab_dD (ab_wI h 9 7 (h.1 9 8))) (fun n => rfl) ?_
  exact sX6_advance_L8 d X  ab_N (ab_wI h 9 7 (h.1 9 8)) _ hf
def fJ3_checkIndex_8e157 (x0 : Int32) (x1 : Int32) (h : abJ) : Option Int32 := if x0 < 0 then none else if x0 < x1 then some x0 else none
set_option maxRecDepth 20000 in
theorem sJ3_checkIndex_8e157 (d : Nat) (X : abX) (x0 : Int32) (x1 : Int32) (h : abJ) (z : Int32) (hf : fJ3_checkIndex_8e157 x0 x1 h = some z) : ab_Ex X (d + 0) 319 0 [(0, .int x0), (1, .int x1), (2, .ref 3000002)] [] ab_SH (ab_dD h) (fun r => r = (some (.int z), ab_SH, ab_dD h)) := by
  unfold fJ3_checkIndex_8e157 at hf
  refine ab_Ex.blk (k := 1) (pc' := 1) (lv' := [(0, .int x0), (1, .int x1), (2, .ref 3000002)]) (st' := [.int x0]) (sh' := ab_SH) (D' := ab_dD h) (fun n => rfl) ?_
  refine ab_Ex.ifc (c := x0 < 0) (SA := (9, [(0, .int x0), (1, .int x1), (2, .ref 3000002)], [], ab_dD h)) (SB := (4, [(0, .int x0), (1, .int x1), (2, .ref 3000002)], [], ab_dD h)) (fun n => rfl) (fun c1 => ?_) (fun c1 => ?_)
  · replace hf := (if_pos c1).symm.trans hf
    refine ab_Ex.blk (k := 3) (pc' := 12) (lv' := [(0, .int x0), (1, .int x1), (2, .ref 3000002)]) (st' := [.int x1, .int x0, .ref 3000002]) (sh' := ab_SH) (D' := ab_dD h) (fun n => rfl) ?_
    cases hf
  · replace hf := (if_neg c1).symm.trans hf
    refine ab_Ex.blk (k := 2) (pc' := 6) (lv' := [(0, .int x0), (1, .int x1), (2, .ref 3000002)]) (st' := [.int x1, .int x0]) (sh' := ab_SH) (D' := ab_dD h) (fun n => rfl) ?_
    refine ab_Ex.ifc (c := x0 < x1) (SA := (16, [(0, .int x0), (1, .int x1), (2, .ref 3000002)], [], ab_dD h)) (SB := (9, [(0, .int x0), (1, .int x1), (2, .ref 3000002)], [], ab_dD h)) (fun n => rfl) (fun c2 => ?_) (fun c2 => ?_)
    · replace hf := (if_pos c2).symm.trans hf
      refine ab_Ex.blk (k := 1) (pc' := 17) (lv' := [(0, .int x0), (1, .int x1), (2, .ref 3000002)]) (st' := [.int x0]) (sh' := ab_SH) (D' := ab_dD h) (fun n => rfl) ?_
      obtain rfl := Option.some.inj hf
      exact ab_Ex.ret (fun n => rfl) rfl
    · replace hf := (if_neg c2).symm.trans hf
      refine ab_Ex.blk (k := 3) (pc' := 12) (lv' := [(0, .int x0), (1, .int x1), (2, .ref 3000002)]) (st' := [.int x1, .int x0, .ref 3000002]) (sh' := ab_SH) (D' := ab_dD h) (fun n => rfl) ?_
      cases hf
def fJ0_checkIndex_df160 (x0 : Int32) (x1 : Int32) (h : abJ) : Option abJ := (fJ3_checkIndex_8e157 x0 x1 h).bind (fun r1 => some h)
set_option maxRecDepth 20000 in
theorem sJ0_checkIndex_df160 (d : Nat) (X : abX) (x0 : Int32) (x1 : Int32) (h : abJ) (z : abJ) (hf : fJ0_checkIndex_df160 x0 x1 h = some z) : ab_Ex X (d + 1) 310 0 [(0, .int x0), (1, .int x1)] [] ab_SH (ab_dD h) (fun r => r = (none, ab_SH, ab_dD h)) := by
  unfold fJ0_checkIndex_df160 at hf
  refine ab_Ex.blk (k := 3) (pc' := 5) (lv' := [(0, .int x0), (1, .int x1)]) (st' := [.ref 3000002, .int x1, .int x0]) (sh' := ab_SH) (D' := ab_dD h) (fun n => rfl) ?_
  obtain ⟨r1, hr1, hf⟩ := ab_bind_s hf
  refine ab_Ex.call (d := d + 0) (M2 := 319) (as := [.int x0, .int x1, .ref 3000002]) (rest := []) (fun n => rfl) rfl (Nat.not_lt.mpr (Nat.le_of_ble_eq_true rfl)) (sJ3_checkIndex_8e157 (d) X x0 x1 h _ hr1) (fun r hr => ?_)
  subst hr
  show ab_Ex X (d + 1) 310 8 [(0, .int x0), (1, .int x1)] [.int r1] ab_SH (ab_dD h) _
  refine ab_Ex.blk (k := 1) (pc' := 9) (lv' := [(0, .int x0), (1, .int x1)]) (st' := []) (sh' := ab_SH) (D' := ab_dD h) (fun n => rfl) ?_
  obtain rfl := Option.some.inj hf
  exact ab_Ex.ret (fun n => rfl) rfl
def fJ1_charAt_3b067 (x0 : Nat) (x1 : Int32) (h : abJ) : Option Int32 := (fJ0_checkIndex_df160 x1 ((Int32.ofNat (ab_sl.getD (x0 - 2000000) 0))) h).bind (fun r1 => ab_ask (x1 < 0 ∨ (ab_sl.getD (x0 - 2000000) 0) ≤ (x1 : Int32).toNatClampNeg) (ab_ask (¬ (narrow .char (.int (((((ab_sb.getD (x0 - 2000000) []).getD (x1 : Int32).toNatClampNeg 0) &&& 255) : Int32).toUInt32 % 65536).toInt32) = .int (((((ab_sb.getD (x0 - 2000000) []).getD (x1 : Int32).toNatClampNeg 0) &&& 255) : Int32).toUInt32 % 65536).toInt32)) (some (((((ab_sb.getD (x0 - 2000000) []).getD (x1 : Int32).toNatClampNeg 0) &&& 255) : Int32).toUInt32 % 65536).toInt32)))
set_option maxRecDepth 20000 in
theorem sJ1_charAt_3b067_2000000 (d : Nat) (X : abX) (x1 : Int32) (h : abJ) (z : Int32) (hf : fJ1_charAt_3b067 2000000 x1 h = some z) : ab_Ex X (d + 2) 311 0 [(0, .ref 2000000), (1, .int x1)] [] ab_SH (ab_dD h) (fun r => r = (some (.int z), ab_SH, ab_dD h)) := by
  unfold fJ1_charAt_3b067 at hf
  try simp only [Nat.reduceAdd] at hf
  refine ab_Ex.blk (k := 3) (pc' := 3) (lv' := [(0, .ref 2000000), (1, .int x1)]) (st' := [.int ((Int32.ofNat 12)), .int x1]) (sh' := ab_SH) (D' := ab_dD h) (fun n => rfl) ?_
  obtain ⟨r1, hr1, hf⟩ := ab_bind_s hf
  refine ab_Ex.call (d := d + 1) (M2 := 310) (as := [.int x1, .int ((Int32.ofNat 12))]) (rest := []) (fun n => rfl) rfl (Nat.not_lt.mpr (Nat.le_of_ble_eq_true rfl)) (sJ0_checkIndex_df160 (d) X x1 ((Int32.ofNat 12)) h _ hr1) (fun r hr => ?_)
  subst hr
  show ab_Ex X (d + 2) 311 6 [(0, .ref 2000000), (1, .int x1)] [] ab_SH (ab_dD h) _
  refine ab_Ex.blk (k := 2) (pc' := 8) (lv' := [(0, .ref 2000000), (1, .int x1)]) (st' := [.int x1, .ref 2000000]) (sh' := ab_SH) (D' := ab_dD h) (fun n => rfl) ?_
  obtain ⟨c2, hf⟩ := ab_ask_s hf
  refine ab_Ex.grd (c := x1 < 0 ∨ 12 ≤ (x1 : Int32).toNatClampNeg) (S := (9, [(0, .ref 2000000), (1, .int x1)], [.int (((ab_sb.getD 0 []).getD (x1 : Int32).toNatClampNeg 0))], ab_dD h)) (fun n => rfl) c2 ?_
  refine ab_Ex.blk (k := 3) (pc' := 14) (lv' := [(0, .ref 2000000), (1, .int x1)]) (st' := [.int ((((((ab_sb.getD 0 []).getD (x1 : Int32).toNatClampNeg 0) &&& 255) : Int32).toUInt32 % 65536).toInt32)]) (sh' := ab_SH) (D' := ab_dD h) (fun n => rfl) ?_
  obtain ⟨c9, hf⟩ := ab_ask_s hf
  obtain rfl := Option.some.inj hf
  exact ab_Ex.retc (fun n => rfl) (Decidable.not_not.mp c9) rfl
set_option maxRecDepth 20000 in
theorem sJ1_charAt_3b067_2000001 (d : Nat) (X : abX) (x1 : Int32) (h : abJ) (z : Int32) (hf : fJ1_charAt_3b067 2000001 x1 h = some z) : ab_Ex X (d + 2) 311 0 [(0, .ref 2000001), (1, .int x1)] [] ab_SH (ab_dD h) (fun r => r = (some (.int z), ab_SH, ab_dD h)) := by
  unfold fJ1_charAt_3b067 at hf
  try simp only [Nat.reduceAdd] at hf
  refine ab_Ex.blk (k := 3) (pc' := 3) (lv' := [(0, .ref 2000001), (1, .int x1)]) (st' := [.int ((Int32.ofNat 4)), .int x1]) (sh' := ab_SH) (D' := ab_dD h) (fun n => rfl) ?_
  obtain ⟨r1, hr1, hf⟩ := ab_bind_s hf
  refine ab_Ex.call (d := d + 1) (M2 := 310) (as := [.int x1, .int ((Int32.ofNat 4))]) (rest := []) (fun n => rfl) rfl (Nat.not_lt.mpr (Nat.le_of_ble_eq_true rfl)) (sJ0_checkIndex_df160 (d) X x1 ((Int32.ofNat 4)) h _ hr1) (fun r hr => ?_)
  subst hr
  show ab_Ex X (d + 2) 311 6 [(0, .ref 2000001), (1, .int x1)] [] ab_SH (ab_dD h) _
  refine ab_Ex.blk (k := 2) (pc' := 8) (lv' := [(0, .ref 2000001), (1, .int x1)]) (st' := [.int x1, .ref 2000001]) (sh' := ab_SH) (D' := ab_dD h) (fun n => rfl) ?_
  obtain ⟨c2, hf⟩ := ab_ask_s hf
  refine ab_Ex.grd (c := x1 < 0 ∨ 4 ≤ (x1 : Int32).toNatClampNeg) (S := (9, [(0, .ref 2000001), (1, .int x1)], [.int (((ab_sb.getD 1 []).getD (x1 : Int32).toNatClampNeg 0))], ab_dD h)) (fun n => rfl) c2 ?_
  refine ab_Ex.blk (k := 3) (pc' := 14) (lv' := [(0, .ref 2000001), (1, .int x1)]) (st' := [.int ((((((ab_sb.getD 1 []).getD (x1 : Int32).toNatClampNeg 0) &&& 255) : Int32).toUInt32 % 65536).toInt32)]) (sh' := ab_SH) (D' := ab_dD h) (fun n => rfl) ?_
  obtain ⟨c9, hf⟩ := ab_ask_s hf
  obtain rfl := Option.some.inj hf
  exact ab_Ex.retc (fun n => rfl) (Decidable.not_not.mp c9) rfl
set_option maxRecDepth 20000 in
theorem sJ1_charAt_3b067_2000002 (d : Nat) (X : abX) (x1 : Int32) (h : abJ) (z : Int32) (hf : fJ1_charAt_3b067 2000002 x1 h = some z) : ab_Ex X (d + 2) 311 0 [(0, .ref 2000002), (1, .int x1)] [] ab_SH (ab_dD h) (fun r => r = (some (.int z), ab_SH, ab_dD h)) := by
  unfold fJ1_charAt_3b067 at hf
  try simp only [Nat.reduceAdd] at hf
  refine ab_Ex.blk (k := 3) (pc' := 3) (lv' := [(0, .ref 2000002), (1, .int x1)]) (st' := [.int ((Int32.ofNat 5)), .int x1]) (sh' := ab_SH) (D' := ab_dD h) (fun n => rfl) ?_
  obtain ⟨r1, hr1, hf⟩ := ab_bind_s hf
  refine ab_Ex.call (d := d + 1) (M2 := 310) (as := [.int x1, .int ((Int32.ofNat 5))]) (rest := []) (fun n => rfl) rfl (Nat.not_lt.mpr (Nat.le_of_ble_eq_true rfl)) (sJ0_checkIndex_df160 (d) X x1 ((Int32.ofNat 5)) h _ hr1) (fun r hr => ?_)
  subst hr
  show ab_Ex X (d + 2) 311 6 [(0, .ref 2000002), (1, .int x1)] [] ab_SH (ab_dD h) _
  refine ab_Ex.blk (k := 2) (pc' := 8) (lv' := [(0, .ref 2000002), (1, .int x1)]) (st' := [.int x1, .ref 2000002]) (sh' := ab_SH) (D' := ab_dD h) (fun n => rfl) ?_
  obtain ⟨c2, hf⟩ := ab_ask_s hf
  refine ab_Ex.grd (c := x1 < 0 ∨ 5 ≤ (x1 : Int32).toNatClampNeg) (S := (9, [(0, .ref 2000002), (1, .int x1)], [.int (((ab_sb.getD 2 []).getD (x1 : Int32).toNatClampNeg 0))], ab_dD h)) (fun n => rfl) c2 ?_
  refine ab_Ex.blk (k := 3) (pc' := 14) (lv' := [(0, .ref 2000002), (1, .int x1)]) (st' := [.int ((((((ab_sb.getD 2 []).getD (x1 : Int32).toNatClampNeg 0) &&& 255) : Int32).toUInt32 % 65536).toInt32)]) (sh' := ab_SH) (D' := ab_dD h) (fun n => rfl) ?_
  obtain ⟨c9, hf⟩ := ab_ask_s hf
  obtain rfl := Option.some.inj hf
  exact ab_Ex.retc (fun n => rfl) (Decidable.not_not.mp c9) rfl
set_option maxRecDepth 20000 in
theorem sJ1_charAt_3b067_2000003 (d : Nat) (X : abX) (x1 : Int32) (h : abJ) (z : Int32) (hf : fJ1_charAt_3b067 2000003 x1 h = some z) : ab_Ex X (d + 2) 311 0 [(0, .ref 2000003), (1, .int x1)] [] ab_SH (ab_dD h) (fun r => r = (some (.int z), ab_SH, ab_dD h)) := by
  unfold fJ1_charAt_3b067 at hf
  try simp only [Nat.reduceAdd] at hf
  refine ab_Ex.blk (k := 3) (pc' := 3) (lv' := [(0, .ref 2000003), (1, .int x1)]) (st' := [.int ((Int32.ofNat 1)), .int x1]) (sh' := ab_SH) (D' := ab_dD h) (fun n => rfl) ?_
  obtain ⟨r1, hr1, hf⟩ := ab_bind_s hf
  refine ab_Ex.call (d := d + 1) (M2 := 310) (as := [.int x1, .int ((Int32.ofNat 1))]) (rest := []) (fun n => rfl) rfl (Nat.not_lt.mpr (Nat.le_of_ble_eq_true rfl)) (sJ0_checkIndex_df160 (d) X x1 ((Int32.ofNat 1)) h _ hr1) (fun r hr => ?_)
  subst hr
  show ab_Ex X (d + 2) 311 6 [(0, .ref 2000003), (1, .int x1)] [] ab_SH (ab_dD h) _
  refine ab_Ex.blk (k := 2) (pc' := 8) (lv' := [(0, .ref 2000003), (1, .int x1)]) (st' := [.int x1, .ref 2000003]) (sh' := ab_SH) (D' := ab_dD h) (fun n => rfl) ?_
  obtain ⟨c2, hf⟩ := ab_ask_s hf
  refine ab_Ex.grd (c := x1 < 0 ∨ 1 ≤ (x1 : Int32).toNatClampNeg) (S := (9, [(0, .ref 2000003), (1, .int x1)], [.int (((ab_sb.getD 3 []).getD (x1 : Int32).toNatClampNeg 0))], ab_dD h)) (fun n => rfl) c2 ?_
  refine ab_Ex.blk (k := 3) (pc' := 14) (lv' := [(0, .ref 2000003), (1, .int x1)]) (st' := [.int ((((((ab_sb.getD 3 []).getD (x1 : Int32).toNatClampNeg 0) &&& 255) : Int32).toUInt32 % 65536).toInt32)]) (sh' := ab_SH) (D' := ab_dD h) (fun n => rfl) ?_
  obtain ⟨c9, hf⟩ := ab_ask_s hf
  obtain rfl := Option.some.inj hf
  exact ab_Ex.retc (fun n => rfl) (Decidable.not_not.mp c9) rfl
set_option maxRecDepth 20000 in
theorem sJ1_charAt_3b067_2000004 (d : Nat) (X : abX) (x1 : Int32) (h : abJ) (z : Int32) (hf : fJ1_charAt_3b067 2000004 x1 h = some z) : ab_Ex X (d + 2) 311 0 [(0, .ref 2000004), (1, .int x1)] [] ab_SH (ab_dD h) (fun r => r = (some (.int z), ab_SH, ab_dD h)) := by
  unfold fJ1_charAt_3b067 at hf
  try simp only [Nat.reduceAdd] at hf
  refine ab_Ex.blk (k := 3) (pc' := 3) (lv' := [(0, .ref 2000004), (1, .int x1)]) (st' := [.int ((Int32.ofNat 4)), .int x1]) (sh' := ab_SH) (D' := ab_dD h) (fun n => rfl) ?_
  obtain ⟨r1, hr1, hf⟩ := ab_bind_s hf
  refine ab_Ex.call (d := d + 1) (M2 := 310) (as := [.int x1, .int ((Int32.ofNat 4))]) (rest := []) (fun n => rfl) rfl (Nat.not_lt.mpr (Nat.le_of_ble_eq_true rfl)) (sJ0_checkIndex_df160 (d) X x1 ((Int32.ofNat 4)) h _ hr1) (fun r hr => ?_)
  subst hr
  show ab_Ex X (d + 2) 311 6 [(0, .ref 2000004), (1, .int x1)] [] ab_SH (ab_dD h) _
  refine ab_Ex.blk (k := 2) (pc' := 8) (lv' := [(0, .ref 2000004), (1, .int x1)]) (st' := [.int x1, .ref 2000004]) (sh' := ab_SH) (D' := ab_dD h) (fun n => rfl) ?_
  obtain ⟨c2, hf⟩ := ab_ask_s hf
  refine ab_Ex.grd (c := x1 < 0 ∨ 4 ≤ (x1 : Int32).toNatClampNeg) (S := (9, [(0, .ref 2000004), (1, .int x1)], [.int (((ab_sb.getD 4 []).getD (x1 : Int32).toNatClampNeg 0))], ab_dD h)) (fun n => rfl) c2 ?_
  refine ab_Ex.blk (k := 3) (pc' := 14) (lv' := [(0, .ref 2000004), (1, .int x1)]) (st' := [.int ((((((ab_sb.getD 4 []).getD (x1 : Int32).toNatClampNeg 0) &&& 255) : Int32).toUInt32 % 65536).toInt32)]) (sh' := ab_SH) (D' := ab_dD h) (fun n => rfl) ?_
  obtain ⟨c9, hf⟩ := ab_ask_s hf
  obtain rfl := Option.some.inj hf
  exact ab_Ex.retc (fun n => rfl) (Decidable.not_not.mp c9) rfl
set_option maxRecDepth 20000 in
theorem sJ1_charAt_3b067_2000005 (d : Nat) (X : abX) (x1 : Int32) (h : abJ) (z : Int32) (hf : fJ1_charAt_3b067 2000005 x1 h = some z) : ab_Ex X (d + 2) 311 0 [(0, .ref 2000005), (1, .int x1)] [] ab_SH (ab_dD h) (fun r => r = (some (.int z), ab_SH, ab_dD h)) := by
  unfold fJ1_charAt_3b067 at hf
  try simp only [Nat.reduceAdd] at hf
  refine ab_Ex.blk (k := 3) (pc' := 3) (lv' := [(0, .ref 2000005), (1, .int x1)]) (st' := [.int ((Int32.ofNat 3)), .int x1]) (sh' := ab_SH) (D' := ab_dD h) (fun n => rfl) ?_
  obtain ⟨r1, hr1, hf⟩ := ab_bind_s hf
  refine ab_Ex.call (d := d + 1) (M2 := 310) (as := [.int x1, .int ((Int32.ofNat 3))]) (rest := []) (fun n => rfl) rfl (Nat.not_lt.mpr (Nat.le_of_ble_eq_true rfl)) (sJ0_checkIndex_df160 (d) X x1 ((Int32.ofNat 3)) h _ hr1) (fun r hr => ?_)
  subst hr
  show ab_Ex X (d + 2) 311 6 [(0, .ref 2000005), (1, .int x1)] [] ab_SH (ab_dD h) _
  refine ab_Ex.blk (k := 2) (pc' := 8) (lv' := [(0, .ref 2000005), (1, .int x1)]) (st' := [.int x1, .ref 2000005]) (sh' := ab_SH) (D' := ab_dD h) (fun n => rfl) ?_
  obtain ⟨c2, hf⟩ := ab_ask_s hf
  refine ab_Ex.grd (c := x1 < 0 ∨ 3 ≤ (x1 : Int32).toNatClampNeg) (S := (9, [(0, .ref 2000005), (1, .int x1)], [.int (((ab_sb.getD 5 []).getD (x1 : Int32).toNatClampNeg 0))], ab_dD h)) (fun n => rfl) c2 ?_
  refine ab_Ex.blk (k := 3) (pc' := 14) (lv' := [(0, .ref 2000005), (1, .int x1)]) (st' := [.int ((((((ab_sb.getD 5 []).getD (x1 : Int32).toNatClampNeg 0) &&& 255) : Int32).toUInt32 % 65536).toInt32)]) (sh' := ab_SH) (D' := ab_dD h) (fun n => rfl) ?_
  obtain ⟨c9, hf⟩ := ab_ask_s hf
  obtain rfl := Option.some.inj hf
  exact ab_Ex.retc (fun n => rfl) (Decidable.not_not.mp c9) rfl
set_option maxRecDepth 20000 in
theorem sJ1_charAt_3b067_2000006 (d : Nat) (X : abX) (x1 : Int32) (h : abJ) (z : Int32) (hf : fJ1_charAt_3b067 2000006 x1 h = some z) : ab_Ex X (d + 2) 311 0 [(0, .ref 2000006), (1, .int x1)] [] ab_SH (ab_dD h) (fun r => r = (some (.int z), ab_SH, ab_dD h)) := by
  unfold fJ1_charAt_3b067 at hf
  try simp only [Nat.reduceAdd] at hf
  refine ab_Ex.blk (k := 3) (pc' := 3) (lv' := [(0, .ref 2000006), (1, .int x1)]) (st' := [.int ((Int32.ofNat 4)), .int x1]) (sh' := ab_SH) (D' := ab_dD h) (fun n => rfl) ?_
  obtain ⟨r1, hr1, hf⟩ := ab_bind_s hf
  refine ab_Ex.call (d := d + 1) (M2 := 310) (as := [.int x1, .int ((Int32.ofNat 4))]) (rest := []) (fun n => rfl) rfl (Nat.not_lt.mpr (Nat.le_of_ble_eq_true rfl)) (sJ0_checkIndex_df160 (d) X x1 ((Int32.ofNat 4)) h _ hr1) (fun r hr => ?_)
  subst hr
  show ab_Ex X (d + 2) 311 6 [(0, .ref 2000006), (1, .int x1)] [] ab_SH (ab_dD h) _
  refine ab_Ex.blk (k := 2) (pc' := 8) (lv' := [(0, .ref 2000006), (1, .int x1)]) (st' := [.int x1, .ref 2000006]) (sh' := ab_SH) (D' := ab_dD h) (fun n => rfl) ?_
  obtain ⟨c2, hf⟩ := ab_ask_s hf
  refine ab_Ex.grd (c := x1 < 0 ∨ 4 ≤ (x1 : Int32).toNatClampNeg) (S := (9, [(0, .ref 2000006), (1, .int x1)], [.int (((ab_sb.getD 6 []).getD (x1 : Int32).toNatClampNeg 0))], ab_dD h)) (fun n => rfl) c2 ?_
  refine ab_Ex.blk (k := 3) (pc' := 14) (lv' := [(0, .ref 2000006), (1, .int x1)]) (st' := [.int ((((((ab_sb.getD 6 []).getD (x1 : Int32).toNatClampNeg 0) &&& 255) : Int32).toUInt32 % 65536).toInt32)]) (sh' := ab_SH) (D' := ab_dD h) (fun n => rfl) ?_
  obtain ⟨c9, hf⟩ := ab_ask_s hf
  obtain rfl := Option.some.inj hf
  exact ab_Ex.retc (fun n => rfl) (Decidable.not_not.mp c9) rfl
set_option maxRecDepth 20000 in
theorem sJ1_charAt_3b067_2000007 (d : Nat) (X : abX) (x1 : Int32) (h : abJ) (z : Int32) (hf : fJ1_charAt_3b067 2000007 x1 h = some z) : ab_Ex X (d + 2) 311 0 [(0, .ref 2000007), (1, .int x1)] [] ab_SH (ab_dD h) (fun r => r = (some (.int z), ab_SH, ab_dD h)) := by
  unfold fJ1_charAt_3b067 at hf
  try simp only [Nat.reduceAdd] at hf
  refine ab_Ex.blk (k := 3) (pc' := 3) (lv' := [(0, .ref 2000007), (1, .int x1)]) (st' := [.int ((Int32.ofNat 6)), .int x1]) (sh' := ab_SH) (D' := ab_dD h) (fun n => rfl) ?_
  obtain ⟨r1, hr1, hf⟩ := ab_bind_s hf
  refine ab_Ex.call (d := d + 1) (M2 := 310) (as := [.int x1, .int ((Int32.ofNat 6))]) (rest := []) (fun n => rfl) rfl (Nat.not_lt.mpr (Nat.le_of_ble_eq_true rfl)) (sJ0_checkIndex_df160 (d) X x1 ((Int32.ofNat 6)) h _ hr1) (fun r hr => ?_)
  subst hr
  show ab_Ex X (d + 2) 311 6 [(0, .ref 2000007), (1, .int x1)] [] ab_SH (ab_dD h) _
  refine ab_Ex.blk (k := 2) (pc' := 8) (lv' := [(0, .ref 2000007), (1, .int x1)]) (st' := [.int x1, .ref 2000007]) (sh' := ab_SH) (D' := ab_dD h) (fun n => rfl) ?_
  obtain ⟨c2, hf⟩ := ab_ask_s hf
  refine ab_Ex.grd (c := x1 < 0 ∨ 6 ≤ (x1 : Int32).toNatClampNeg) (S := (9, [(0, .ref 2000007), (1, .int x1)], [.int (((ab_sb.getD 7 []).getD (x1 : Int32).toNatClampNeg 0))], ab_dD h)) (fun n => rfl) c2 ?_
  refine ab_Ex.blk (k := 3) (pc' := 14) (lv' := [(0, .ref 2000007), (1, .int x1)]) (st' := [.int ((((((ab_sb.getD 7 []).getD (x1 : Int32).toNatClampNeg 0) &&& 255) : Int32).toUInt32 % 65536).toInt32)]) (sh' := ab_SH) (D' := ab_dD h) (fun n => rfl) ?_
  obtain ⟨c9, hf⟩ := ab_ask_s hf
  obtain rfl := Option.some.inj hf
  exact ab_Ex.retc (fun n => rfl) (Decidable.not_not.mp c9) rfl
set_option maxRecDepth 20000 in
theorem sJ1_charAt_3b067_2000008 (d : Nat) (X : abX) (x1 : Int32) (h : abJ) (z : Int32) (hf : fJ1_charAt_3b067 2000008 x1 h = some z) : ab_Ex X (d + 2) 311 0 [(0, .ref 2000008), (1, .int x1)] [] ab_SH (ab_dD h) (fun r => r = (some (.int z), ab_SH, ab_dD h)) := by
  unfold fJ1_charAt_3b067 at hf
  try simp only [Nat.reduceAdd] at hf
  refine ab_Ex.blk (k := 3) (pc' := 3) (lv' := [(0, .ref 2000008), (1, .int x1)]) (st' := [.int ((Int32.ofNat 3)), .int x1]) (sh' := ab_SH) (D' := ab_dD h) (fun n => rfl) ?_
  obtain ⟨r1, hr1, hf⟩ := ab_bind_s hf
  refine ab_Ex.call (d := d + 1) (M2 := 310) (as := [.int x1, .int ((Int32.ofNat 3))]) (rest := []) (fun n => rfl) rfl (Nat.not_lt.mpr (Nat.le_of_ble_eq_true rfl)) (sJ0_checkIndex_df160 (d) X x1 ((Int32.ofNat 3)) h _ hr1) (fun r hr => ?_)
  subst hr
  show ab_Ex X (d + 2) 311 6 [(0, .ref 2000008), (1, .int x1)] [] ab_SH (ab_dD h) _
  refine ab_Ex.blk (k := 2) (pc' := 8) (lv' := [(0, .ref 2000008), (1, .int x1)]) (st' := [.int x1, .ref 2000008]) (sh' := ab_SH) (D' := ab_dD h) (fun n => rfl) ?_
  obtain ⟨c2, hf⟩ := ab_ask_s hf
  refine ab_Ex.grd (c := x1 < 0 ∨ 3 ≤ (x1 : Int32).toNatClampNeg) (S := (9, [(0, .ref 2000008), (1, .int x1)], [.int (((ab_sb.getD 8 []).getD (x1 : Int32).toNatClampNeg 0))], ab_dD h)) (fun n => rfl) c2 ?_
  refine ab_Ex.blk (k := 3) (pc' := 14) (lv' := [(0, .ref 2000008), (1, .int x1)]) (st' := [.int ((((((ab_sb.getD 8 []).getD (x1 : Int32).toNatClampNeg 0) &&& 255) : Int32).toUInt32 % 65536).toInt32)]) (sh' := ab_SH) (D' := ab_dD h) (fun n => rfl) ?_
  obtain ⟨c9, hf⟩ := ab_ask_s hf
  obtain rfl := Option.some.inj hf
  exact ab_Ex.retc (fun n => rfl) (Decidable.not_not.mp c9) rfl
set_option maxRecDepth 20000 in
theorem sJ1_charAt_3b067_2000009 (d : Nat) (X : abX) (x1 : Int32) (h : abJ) (z : Int32) (hf : fJ1_charAt_3b067 2000009 x1 h = some z) : ab_Ex X (d + 2) 311 0 [(0, .ref 2000009), (1, .int x1)] [] ab_SH (ab_dD h) (fun r => r = (some (.int z), ab_SH, ab_dD h)) := by
  unfold fJ1_charAt_3b067 at hf
  try simp only [Nat.reduceAdd] at hf
  refine ab_Ex.blk (k := 3) (pc' := 3) (lv' := [(0, .ref 2000009), (1, .int x1)]) (st' := [.int ((Int32.ofNat 5)), .int x1]) (sh' := ab_SH) (D' := ab_dD h) (fun n => rfl) ?_
  obtain ⟨r1, hr1, hf⟩ := ab_bind_s hf
  refine ab_Ex.call (d := d + 1) (M2 := 310) (as := [.int x1, .int ((Int32.ofNat 5))]) (rest := []) (fun n => rfl) rfl (Nat.not_lt.mpr (Nat.le_of_ble_eq_true rfl)) (sJ0_checkIndex_df160 (d) X x1 ((Int32.ofNat 5)) h _ hr1) (fun r hr => ?_)
  subst hr
  show ab_Ex X (d + 2) 311 6 [(0, .ref 2000009), (1, .int x1)] [] ab_SH (ab_dD h) _
  refine ab_Ex.blk (k := 2) (pc' := 8) (lv' := [(0, .ref 2000009), (1, .int x1)]) (st' := [.int x1, .ref 2000009]) (sh' := ab_SH) (D' := ab_dD h) (fun n => rfl) ?_
  obtain ⟨c2, hf⟩ := ab_ask_s hf
  refine ab_Ex.grd (c := x1 < 0 ∨ 5 ≤ (x1 : Int32).toNatClampNeg) (S := (9, [(0, .ref 2000009), (1, .int x1)], [.int (((ab_sb.getD 9 []).getD (x1 : Int32).toNatClampNeg 0))], ab_dD h)) (fun n => rfl) c2 ?_
  refine ab_Ex.blk (k := 3) (pc' := 14) (lv' := [(0, .ref 2000009), (1, .int x1)]) (st' := [.int ((((((ab_sb.getD 9 []).getD (x1 : Int32).toNatClampNeg 0) &&& 255) : Int32).toUInt32 % 65536).toInt32)]) (sh' := ab_SH) (D' := ab_dD h) (fun n => rfl) ?_
  obtain ⟨c9, hf⟩ := ab_ask_s hf
  obtain rfl := Option.some.inj hf
  exact ab_Ex.retc (fun n => rfl) (Decidable.not_not.mp c9) rfl
set_option maxRecDepth 20000 in
theorem sJ1_charAt_3b067_2000010 (d : Nat) (X : abX) (x1 : Int32) (h : abJ) (z : Int32) (hf : fJ1_charAt_3b067 2000010 x1 h = some z) : ab_Ex X (d + 2) 311 0 [(0, .ref 2000010), (1, .int x1)] [] ab_SH (ab_dD h) (fun r => r = (some (.int z), ab_SH, ab_dD h)) := by
  unfold fJ1_charAt_3b067 at hf
  try simp only [Nat.reduceAdd] at hf
  refine ab_Ex.blk (k := 3) (pc' := 3) (lv' := [(0, .ref 2000010), (1, .int x1)]) (st' := [.int ((Int32.ofNat 1)), .int x1]) (sh' := ab_SH) (D' := ab_dD h) (fun n => rfl) ?_
  obtain ⟨r1, hr1, hf⟩ := ab_bind_s hf
  refine ab_Ex.call (d := d + 1) (M2 := 310) (as := [.int x1, .int ((Int32.ofNat 1))]) (rest := []) (fun n => rfl) rfl (Nat.not_lt.mpr (Nat.le_of_ble_eq_true rfl)) (sJ0_checkIndex_df160 (d) X x1 ((Int32.ofNat 1)) h _ hr1) (fun r hr => ?_)
  subst hr
  show ab_Ex X (d + 2) 311 6 [(0, .ref 2000010), (1, .int x1)] [] ab_SH (ab_dD h) _
  refine ab_Ex.blk (k := 2) (pc' := 8) (lv' := [(0, .ref 2000010), (1, .int x1)]) (st' := [.int x1, .ref 2000010]) (sh' := ab_SH) (D' := ab_dD h) (fun n => rfl) ?_
  obtain ⟨c2, hf⟩ := ab_ask_s hf
  refine ab_Ex.grd (c := x1 < 0 ∨ 1 ≤ (x1 : Int32).toNatClampNeg) (S := (9, [(0, .ref 2000010), (1, .int x1)], [.int (((ab_sb.getD 10 []).getD (x1 : Int32).toNatClampNeg 0))], ab_dD h)) (fun n => rfl) c2 ?_
  refine ab_Ex.blk (k := 3) (pc' := 14) (lv' := [(0, .ref 2000010), (1, .int x1)]) (st' := [.int ((((((ab_sb.getD 10 []).getD (x1 : Int32).toNatClampNeg 0) &&& 255) : Int32).toUInt32 % 65536).toInt32)]) (sh' := ab_SH) (D' := ab_dD h) (fun n => rfl) ?_
  obtain ⟨c9, hf⟩ := ab_ask_s hf
  obtain rfl := Option.some.inj hf
  exact ab_Ex.retc (fun n => rfl) (Decidable.not_not.mp c9) rfl
set_option maxRecDepth 20000 in
theorem sJ1_charAt_3b067_2000011 (d : Nat) (X : abX) (x1 : Int32) (h : abJ) (z : Int32) (hf : fJ1_charAt_3b067 2000011 x1 h = some z) : ab_Ex X (d + 2) 311 0 [(0, .ref 2000011), (1, .int x1)] [] ab_SH (ab_dD h) (fun r => r = (some (.int z), ab_SH, ab_dD h)) := by
  unfold fJ1_charAt_3b067 at hf
  try simp only [Nat.reduceAdd] at hf
  refine ab_Ex.blk (k := 3) (pc' := 3) (lv' := [(0, .ref 2000011), (1, .int x1)]) (st' := [.int ((Int32.ofNat 4)), .int x1]) (sh' := ab_SH) (D' := ab_dD h) (fun n => rfl) ?_
  obtain ⟨r1, hr1, hf⟩ := ab_bind_s hf
  refine ab_Ex.call (d := d + 1) (M2 := 310) (as := [.int x1, .int ((Int32.ofNat 4))]) (rest := []) (fun n => rfl) rfl (Nat.not_lt.mpr (Nat.le_of_ble_eq_true rfl)) (sJ0_checkIndex_df160 (d) X x1 ((Int32.ofNat 4)) h _ hr1) (fun r hr => ?_)
  subst hr
  show ab_Ex X (d + 2) 311 6 [(0, .ref 2000011), (1, .int x1)] [] ab_SH (ab_dD h) _
  refine ab_Ex.blk (k := 2) (pc' := 8) (lv' := [(0, .ref 2000011), (1, .int x1)]) (st' := [.int x1, .ref 2000011]) (sh' := ab_SH) (D' := ab_dD h) (fun n => rfl) ?_
  obtain ⟨c2, hf⟩ := ab_ask_s hf
  refine ab_Ex.grd (c := x1 < 0 ∨ 4 ≤ (x1 : Int32).toNatClampNeg) (S := (9, [(0, .ref 2000011), (1, .int x1)], [.int (((ab_sb.getD 11 []).getD (x1 : Int32).toNatClampNeg 0))], ab_dD h)) (fun n => rfl) c2 ?_
  refine ab_Ex.blk (k := 3) (pc' := 14) (lv' := [(0, .ref 2000011), (1, .int x1)]) (st' := [.int ((((((ab_sb.getD 11 []).getD (x1 : Int32).toNatClampNeg 0) &&& 255) : Int32).toUInt32 % 65536).toInt32)]) (sh' := ab_SH) (D' := ab_dD h) (fun n => rfl) ?_
  obtain ⟨c9, hf⟩ := ab_ask_s hf
  obtain rfl := Option.some.inj hf
  exact ab_Ex.retc (fun n => rfl) (Decidable.not_not.mp c9) rfl
set_option maxRecDepth 20000 in
theorem sJ1_charAt_3b067_2000012 (d : Nat) (X : abX) (x1 : Int32) (h : abJ) (z : Int32) (hf : fJ1_charAt_3b067 2000012 x1 h = some z) : ab_Ex X (d + 2) 311 0 [(0, .ref 2000012), (1, .int x1)] [] ab_SH (ab_dD h) (fun r => r = (some (.int z), ab_SH, ab_dD h)) := by
  unfold fJ1_charAt_3b067 at hf
  try simp only [Nat.reduceAdd] at hf
  refine ab_Ex.blk (k := 3) (pc' := 3) (lv' := [(0, .ref 2000012), (1, .int x1)]) (st' := [.int ((Int32.ofNat 5)), .int x1]) (sh' := ab_SH) (D' := ab_dD h) (fun n => rfl) ?_
  obtain ⟨r1, hr1, hf⟩ := ab_bind_s hf
  refine ab_Ex.call (d := d + 1) (M2 := 310) (as := [.int x1, .int ((Int32.ofNat 5))]) (rest := []) (fun n => rfl) rfl (Nat.not_lt.mpr (Nat.le_of_ble_eq_true rfl)) (sJ0_checkIndex_df160 (d) X x1 ((Int32.ofNat 5)) h _ hr1) (fun r hr => ?_)
  subst hr
  show ab_Ex X (d + 2) 311 6 [(0, .ref 2000012), (1, .int x1)] [] ab_SH (ab_dD h) _
  refine ab_Ex.blk (k := 2) (pc' := 8) (lv' := [(0, .ref 2000012), (1, .int x1)]) (st' := [.int x1, .ref 2000012]) (sh' := ab_SH) (D' := ab_dD h) (fun n => rfl) ?_
  obtain ⟨c2, hf⟩ := ab_ask_s hf
  refine ab_Ex.grd (c := x1 < 0 ∨ 5 ≤ (x1 : Int32).toNatClampNeg) (S := (9, [(0, .ref 2000012), (1, .int x1)], [.int (((ab_sb.getD 12 []).getD (x1 : Int32).toNatClampNeg 0))], ab_dD h)) (fun n => rfl) c2 ?_
  refine ab_Ex.blk (k := 3) (pc' := 14) (lv' := [(0, .ref 2000012), (1, .int x1)]) (st' := [.int ((((((ab_sb.getD 12 []).getD (x1 : Int32).toNatClampNeg 0) &&& 255) : Int32).toUInt32 % 65536).toInt32)]) (sh' := ab_SH) (D' := ab_dD h) (fun n => rfl) ?_
  obtain ⟨c9, hf⟩ := ab_ask_s hf
  obtain rfl := Option.some.inj hf
  exact ab_Ex.retc (fun n => rfl) (Decidable.not_not.mp c9) rfl
set_option maxRecDepth 20000 in
theorem sJ1_charAt_3b067_2000013 (d : Nat) (X : abX) (x1 : Int32) (h : abJ) (z : Int32) (hf : fJ1_charAt_3b067 2000013 x1 h = some z) : ab_Ex X (d + 2) 311 0 [(0, .ref 2000013), (1, .int x1)] [] ab_SH (ab_dD h) (fun r => r = (some (.int z), ab_SH, ab_dD h)) := by
  unfold fJ1_charAt_3b067 at hf
  try simp only [Nat.reduceAdd] at hf
  refine ab_Ex.blk (k := 3) (pc' := 3) (lv' := [(0, .ref 2000013), (1, .int x1)]) (st' := [.int ((Int32.ofNat 1)), .int x1]) (sh' := ab_SH) (D' := ab_dD h) (fun n => rfl) ?_
  obtain ⟨r1, hr1, hf⟩ := ab_bind_s hf
  refine ab_Ex.call (d := d + 1) (M2 := 310) (as := [.int x1, .int ((Int32.ofNat 1))]) (rest := []) (fun n => rfl) rfl (Nat.not_lt.mpr (Nat.le_of_ble_eq_true rfl)) (sJ0_checkIndex_df160 (d) X x1 ((Int32.ofNat 1)) h _ hr1) (fun r hr => ?_)
  subst hr
  show ab_Ex X (d + 2) 311 6 [(0, .ref 2000013), (1, .int x1)] [] ab_SH (ab_dD h) _
  refine ab_Ex.blk (k := 2) (pc' := 8) (lv' := [(0, .ref 2000013), (1, .int x1)]) (st' := [.int x1, .ref 2000013]) (sh' := ab_SH) (D' := ab_dD h) (fun n => rfl) ?_
  obtain ⟨c2, hf⟩ := ab_ask_s hf
  refine ab_Ex.grd (c := x1 < 0 ∨ 1 ≤ (x1 : Int32).toNatClampNeg) (S := (9, [(0, .ref 2000013), (1, .int x1)], [.int (((ab_sb.getD 13 []).getD (x1 : Int32).toNatClampNeg 0))], ab_dD h)) (fun n => rfl) c2 ?_
  refine ab_Ex.blk (k := 3) (pc' := 14) (lv' := [(0, .ref 2000013), (1, .int x1)]) (st' := [.int ((((((ab_sb.getD 13 []).getD (x1 : Int32).toNatClampNeg 0) &&& 255) : Int32).toUInt32 % 65536).toInt32)]) (sh' := ab_SH) (D' := ab_dD h) (fun n => rfl) ?_
  obtain ⟨c9, hf⟩ := ab_ask_s hf
  obtain rfl := Option.some.inj hf
  exact ab_Ex.retc (fun n => rfl) (Decidable.not_not.mp c9) rfl
set_option maxRecDepth 20000 in
theorem sJ1_charAt_3b067_2000014 (d : Nat) (X : abX) (x1 : Int32) (h : abJ) (z : Int32) (hf : fJ1_charAt_3b067 2000014 x1 h = some z) : ab_Ex X (d + 2) 311 0 [(0, .ref 2000014), (1, .int x1)] [] ab_SH (ab_dD h) (fun r => r = (some (.int z), ab_SH, ab_dD h)) := by
  unfold fJ1_charAt_3b067 at hf
  try simp only [Nat.reduceAdd] at hf
  refine ab_Ex.blk (k := 3) (pc' := 3) (lv' := [(0, .ref 2000014), (1, .int x1)]) (st' := [.int ((Int32.ofNat 1)), .int x1]) (sh' := ab_SH) (D' := ab_dD h) (fun n => rfl) ?_
  obtain ⟨r1, hr1, hf⟩ := ab_bind_s hf
  refine ab_Ex.call (d := d + 1) (M2 := 310) (as := [.int x1, .int ((Int32.ofNat 1))]) (rest := []) (fun n => rfl) rfl (Nat.not_lt.mpr (Nat.le_of_ble_eq_true rfl)) (sJ0_checkIndex_df160 (d) X x1 ((Int32.ofNat 1)) h _ hr1) (fun r hr => ?_)
  subst hr
  show ab_Ex X (d + 2) 311 6 [(0, .ref 2000014), (1, .int x1)] [] ab_SH (ab_dD h) _
  refine ab_Ex.blk (k := 2) (pc' := 8) (lv' := [(0, .ref 2000014), (1, .int x1)]) (st' := [.int x1, .ref 2000014]) (sh' := ab_SH) (D' := ab_dD h) (fun n => rfl) ?_
  obtain ⟨c2, hf⟩ := ab_ask_s hf
  refine ab_Ex.grd (c := x1 < 0 ∨ 1 ≤ (x1 : Int32).toNatClampNeg) (S := (9, [(0, .ref 2000014), (1, .int x1)], [.int (((ab_sb.getD 14 []).getD (x1 : Int32).toNatClampNeg 0))], ab_dD h)) (fun n => rfl) c2 ?_
  refine ab_Ex.blk (k := 3) (pc' := 14) (lv' := [(0, .ref 2000014), (1, .int x1)]) (st' := [.int ((((((ab_sb.getD 14 []).getD (x1 : Int32).toNatClampNeg 0) &&& 255) : Int32).toUInt32 % 65536).toInt32)]) (sh' := ab_SH) (D' := ab_dD h) (fun n => rfl) ?_
  obtain ⟨c9, hf⟩ := ab_ask_s hf
  obtain rfl := Option.some.inj hf
  exact ab_Ex.retc (fun n => rfl) (Decidable.not_not.mp c9) rfl
set_option maxRecDepth 20000 in
theorem sJ1_charAt_3b067_2000015 (d : Nat) (X : abX) (x1 : Int32) (h : abJ) (z : Int32) (hf : fJ1_charAt_3b067 2000015 x1 h = some z) : ab_Ex X (d + 2) 311 0 [(0, .ref 2000015), (1, .int x1)] [] ab_SH (ab_dD h) (fun r => r = (some (.int z), ab_SH, ab_dD h)) := by
  unfold fJ1_charAt_3b067 at hf
  try simp only [Nat.reduceAdd] at hf
  refine ab_Ex.blk (k := 3) (pc' := 3) (lv' := [(0, .ref 2000015), (1, .int x1)]) (st' := [.int ((Int32.ofNat 2)), .int x1]) (sh' := ab_SH) (D' := ab_dD h) (fun n => rfl) ?_
  obtain ⟨r1, hr1, hf⟩ := ab_bind_s hf
  refine ab_Ex.call (d := d + 1) (M2 := 310) (as := [.int x1, .int ((Int32.ofNat 2))]) (rest := []) (fun n => rfl) rfl (Nat.not_lt.mpr (Nat.le_of_ble_eq_true rfl)) (sJ0_checkIndex_df160 (d) X x1 ((Int32.ofNat 2)) h _ hr1) (fun r hr => ?_)
  subst hr
  show ab_Ex X (d + 2) 311 6 [(0, .ref 2000015), (1, .int x1)] [] ab_SH (ab_dD h) _
  refine ab_Ex.blk (k := 2) (pc' := 8) (lv' := [(0, .ref 2000015), (1, .int x1)]) (st' := [.int x1, .ref 2000015]) (sh' := ab_SH) (D' := ab_dD h) (fun n => rfl) ?_
  obtain ⟨c2, hf⟩ := ab_ask_s hf
  refine ab_Ex.grd (c := x1 < 0 ∨ 2 ≤ (x1 : Int32).toNatClampNeg) (S := (9, [(0, .ref 2000015), (1, .int x1)], [.int (((ab_sb.getD 15 []).getD (x1 : Int32).toNatClampNeg 0))], ab_dD h)) (fun n => rfl) c2 ?_
  refine ab_Ex.blk (k := 3) (pc' := 14) (lv' := [(0, .ref 2000015), (1, .int x1)]) (st' := [.int ((((((ab_sb.getD 15 []).getD (x1 : Int32).toNatClampNeg 0) &&& 255) : Int32).toUInt32 % 65536).toInt32)]) (sh' := ab_SH) (D' := ab_dD h) (fun n => rfl) ?_
  obtain ⟨c9, hf⟩ := ab_ask_s hf
  obtain rfl := Option.some.inj hf
  exact ab_Ex.retc (fun n => rfl) (Decidable.not_not.mp c9) rfl
set_option maxRecDepth 20000 in
theorem sJ1_charAt_3b067_2000016 (d : Nat) (X : abX) (x1 : Int32) (h : abJ) (z : Int32) (hf : fJ1_charAt_3b067 2000016 x1 h = some z) : ab_Ex X (d + 2) 311 0 [(0, .ref 2000016), (1, .int x1)] [] ab_SH (ab_dD h) (fun r => r = (some (.int z), ab_SH, ab_dD h)) := by
  unfold fJ1_charAt_3b067 at hf
  try simp only [Nat.reduceAdd] at hf
  refine ab_Ex.blk (k := 3) (pc' := 3) (lv' := [(0, .ref 2000016), (1, .int x1)]) (st' := [.int ((Int32.ofNat 3)), .int x1]) (sh' := ab_SH) (D' := ab_dD h) (fun n => rfl) ?_
  obtain ⟨r1, hr1, hf⟩ := ab_bind_s hf
  refine ab_Ex.call (d := d + 1) (M2 := 310) (as := [.int x1, .int ((Int32.ofNat 3))]) (rest := []) (fun n => rfl) rfl (Nat.not_lt.mpr (Nat.le_of_ble_eq_true rfl)) (sJ0_checkIndex_df160 (d) X x1 ((Int32.ofNat 3)) h _ hr1) (fun r hr => ?_)
  subst hr
  show ab_Ex X (d + 2) 311 6 [(0, .ref 2000016), (1, .int x1)] [] ab_SH (ab_dD h) _
  refine ab_Ex.blk (k := 2) (pc' := 8) (lv' := [(0, .ref 2000016), (1, .int x1)]) (st' := [.int x1, .ref 2000016]) (sh' := ab_SH) (D' := ab_dD h) (fun n => rfl) ?_
  obtain ⟨c2, hf⟩ := ab_ask_s hf
  refine ab_Ex.grd (c := x1 < 0 ∨ 3 ≤ (x1 : Int32).toNatClampNeg) (S := (9, [(0, .ref 2000016), (1, .int x1)], [.int (((ab_sb.getD 16 []).getD (x1 : Int32).toNatClampNeg 0))], ab_dD h)) (fun n => rfl) c2 ?_
  refine ab_Ex.blk (k := 3) (pc' := 14) (lv' := [(0, .ref 2000016), (1, .int x1)]) (st' := [.int ((((((ab_sb.getD 16 []).getD (x1 : Int32).toNatClampNeg 0) &&& 255) : Int32).toUInt32 % 65536).toInt32)]) (sh' := ab_SH) (D' := ab_dD h) (fun n => rfl) ?_
  obtain ⟨c9, hf⟩ := ab_ask_s hf
  obtain rfl := Option.some.inj hf
  exact ab_Ex.retc (fun n => rfl) (Decidable.not_not.mp c9) rfl
set_option maxRecDepth 20000 in
theorem sJ1_charAt_3b067_2000017 (d : Nat) (X : abX) (x1 : Int32) (h : abJ) (z : Int32) (hf : fJ1_charAt_3b067 2000017 x1 h = some z) : ab_Ex X (d + 2) 311 0 [(0, .ref 2000017), (1, .int x1)] [] ab_SH (ab_dD h) (fun r => r = (some (.int z), ab_SH, ab_dD h)) := by
  unfold fJ1_charAt_3b067 at hf
  try simp only [Nat.reduceAdd] at hf
  refine ab_Ex.blk (k := 3) (pc' := 3) (lv' := [(0, .ref 2000017), (1, .int x1)]) (st' := [.int ((Int32.ofNat 1)), .int x1]) (sh' := ab_SH) (D' := ab_dD h) (fun n => rfl) ?_
  obtain ⟨r1, hr1, hf⟩ := ab_bind_s hf
  refine ab_Ex.call (d := d + 1) (M2 := 310) (as := [.int x1, .int ((Int32.ofNat 1))]) (rest := []) (fun n => rfl) rfl (Nat.not_lt.mpr (Nat.le_of_ble_eq_true rfl)) (sJ0_checkIndex_df160 (d) X x1 ((Int32.ofNat 1)) h _ hr1) (fun r hr => ?_)
  subst hr
  show ab_Ex X (d + 2) 311 6 [(0, .ref 2000017), (1, .int x1)] [] ab_SH (ab_dD h) _
  refine ab_Ex.blk (k := 2) (pc' := 8) (lv' := [(0, .ref 2000017), (1, .int x1)]) (st' := [.int x1, .ref 2000017]) (sh' := ab_SH) (D' := ab_dD h) (fun n => rfl) ?_
  obtain ⟨c2, hf⟩ := ab_ask_s hf
  refine ab_Ex.grd (c := x1 < 0 ∨ 1 ≤ (x1 : Int32).toNatClampNeg) (S := (9, [(0, .ref 2000017), (1, .int x1)], [.int (((ab_sb.getD 17 []).getD (x1 : Int32).toNatClampNeg 0))], ab_dD h)) (fun n => rfl) c2 ?_
  refine ab_Ex.blk (k := 3) (pc' := 14) (lv' := [(0, .ref 2000017), (1, .int x1)]) (st' := [.int ((((((ab_sb.getD 17 []).getD (x1 : Int32).toNatClampNeg 0) &&& 255) : Int32).toUInt32 % 65536).toInt32)]) (sh' := ab_SH) (D' := ab_dD h) (fun n => rfl) ?_
  obtain ⟨c9, hf⟩ := ab_ask_s hf
  obtain rfl := Option.some.inj hf
  exact ab_Ex.retc (fun n => rfl) (Decidable.not_not.mp c9) rfl
set_option maxRecDepth 20000 in
theorem sJ1_charAt_3b067_2000018 (d : Nat) (X : abX) (x1 : Int32) (h : abJ) (z : Int32) (hf : fJ1_charAt_3b067 2000018 x1 h = some z) : ab_Ex X (d + 2) 311 0 [(0, .ref 2000018), (1, .int x1)] [] ab_SH (ab_dD h) (fun r => r = (some (.int z), ab_SH, ab_dD h)) := by
  unfold fJ1_charAt_3b067 at hf
  try simp only [Nat.reduceAdd] at hf
  refine ab_Ex.blk (k := 3) (pc' := 3) (lv' := [(0, .ref 2000018), (1, .int x1)]) (st' := [.int ((Int32.ofNat 1)), .int x1]) (sh' := ab_SH) (D' := ab_dD h) (fun n => rfl) ?_
  obtain ⟨r1, hr1, hf⟩ := ab_bind_s hf
  refine ab_Ex.call (d := d + 1) (M2 := 310) (as := [.int x1, .int ((Int32.ofNat 1))]) (rest := []) (fun n => rfl) rfl (Nat.not_lt.mpr (Nat.le_of_ble_eq_true rfl)) (sJ0_checkIndex_df160 (d) X x1 ((Int32.ofNat 1)) h _ hr1) (fun r hr => ?_)
  subst hr
  show ab_Ex X (d + 2) 311 6 [(0, .ref 2000018), (1, .int x1)] [] ab_SH (ab_dD h) _
  refine ab_Ex.blk (k := 2) (pc' := 8) (lv' := [(0, .ref 2000018), (1, .int x1)]) (st' := [.int x1, .ref 2000018]) (sh' := ab_SH) (D' := ab_dD h) (fun n => rfl) ?_
  obtain ⟨c2, hf⟩ := ab_ask_s hf
  refine ab_Ex.grd (c := x1 < 0 ∨ 1 ≤ (x1 : Int32).toNatClampNeg) (S := (9, [(0, .ref 2000018), (1, .int x1)], [.int (((ab_sb.getD 18 []).getD (x1 : Int32).toNatClampNeg 0))], ab_dD h)) (fun n => rfl) c2 ?_
  refine ab_Ex.blk (k := 3) (pc' := 14) (lv' := [(0, .ref 2000018), (1, .int x1)]) (st' := [.int ((((((ab_sb.getD 18 []).getD (x1 : Int32).toNatClampNeg 0) &&& 255) : Int32).toUInt32 % 65536).toInt32)]) (sh' := ab_SH) (D' := ab_dD h) (fun n => rfl) ?_
  obtain ⟨c9, hf⟩ := ab_ask_s hf
  obtain rfl := Option.some.inj hf
  exact ab_Ex.retc (fun n => rfl) (Decidable.not_not.mp c9) rfl
set_option maxRecDepth 20000 in
theorem sJ1_charAt_3b067_2000019 (d : Nat) (X : abX) (x1 : Int32) (h : abJ) (z : Int32) (hf : fJ1_charAt_3b067 2000019 x1 h = some z) : ab_Ex X (d + 2) 311 0 [(0, .ref 2000019), (1, .int x1)] [] ab_SH (ab_dD h) (fun r => r = (some (.int z), ab_SH, ab_dD h)) := by
  unfold fJ1_charAt_3b067 at hf
  try simp only [Nat.reduceAdd] at hf
  refine ab_Ex.blk (k := 3) (pc' := 3) (lv' := [(0, .ref 2000019), (1, .int x1)]) (st' := [.int ((Int32.ofNat 1)), .int x1]) (sh' := ab_SH) (D' := ab_dD h) (fun n => rfl) ?_
  obtain ⟨r1, hr1, hf⟩ := ab_bind_s hf
  refine ab_Ex.call (d := d + 1) (M2 := 310) (as := [.int x1, .int ((Int32.ofNat 1))]) (rest := []) (fun n => rfl) rfl (Nat.not_lt.mpr (Nat.le_of_ble_eq_true rfl)) (sJ0_checkIndex_df160 (d) X x1 ((Int32.ofNat 1)) h _ hr1) (fun r hr => ?_)
  subst hr
  show ab_Ex X (d + 2) 311 6 [(0, .ref 2000019), (1, .int x1)] [] ab_SH (ab_dD h) _
  refine ab_Ex.blk (k := 2) (pc' := 8) (lv' := [(0, .ref 2000019), (1, .int x1)]) (st' := [.int x1, .ref 2000019]) (sh' := ab_SH) (D' := ab_dD h) (fun n => rfl) ?_
  obtain ⟨c2, hf⟩ := ab_ask_s hf
  refine ab_Ex.grd (c := x1 < 0 ∨ 1 ≤ (x1 : Int32).toNatClampNeg) (S := (9, [(0, .ref 2000019), (1, .int x1)], [.int (((ab_sb.getD 19 []).getD (x1 : Int32).toNatClampNeg 0))], ab_dD h)) (fun n => rfl) c2 ?_
  refine ab_Ex.blk (k := 3) (pc' := 14) (lv' := [(0, .ref 2000019), (1, .int x1)]) (st' := [.int ((((((ab_sb.getD 19 []).getD (x1 : Int32).toNatClampNeg 0) &&& 255) : Int32).toUInt32 % 65536).toInt32)]) (sh' := ab_SH) (D' := ab_dD h) (fun n => rfl) ?_
  obtain ⟨c9, hf⟩ := ab_ask_s hf
  obtain rfl := Option.some.inj hf
  exact ab_Ex.retc (fun n => rfl) (Decidable.not_not.mp c9) rfl
set_option maxRecDepth 20000 in
theorem sJ1_charAt_3b067_2000020 (d : Nat) (X : abX) (x1 : Int32) (h : abJ) (z : Int32) (hf : fJ1_charAt_3b067 2000020 x1 h = some z) : ab_Ex X (d + 2) 311 0 [(0, .ref 2000020), (1, .int x1)] [] ab_SH (ab_dD h) (fun r => r = (some (.int z), ab_SH, ab_dD h)) := by
  unfold fJ1_charAt_3b067 at hf
  try simp only [Nat.reduceAdd] at hf
  refine ab_Ex.blk (k := 3) (pc' := 3) (lv' := [(0, .ref 2000020), (1, .int x1)]) (st' := [.int ((Int32.ofNat 1)), .int x1]) (sh' := ab_SH) (D' := ab_dD h) (fun n => rfl) ?_
  obtain ⟨r1, hr1, hf⟩ := ab_bind_s hf
  refine ab_Ex.call (d := d + 1) (M2 := 310) (as := [.int x1, .int ((Int32.ofNat 1))]) (rest := []) (fun n => rfl) rfl (Nat.not_lt.mpr (Nat.le_of_ble_eq_true rfl)) (sJ0_checkIndex_df160 (d) X x1 ((Int32.ofNat 1)) h _ hr1) (fun r hr => ?_)
  subst hr
  show ab_Ex X (d + 2) 311 6 [(0, .ref 2000020), (1, .int x1)] [] ab_SH (ab_dD h) _
  refine ab_Ex.blk (k := 2) (pc' := 8) (lv' := [(0, .ref 2000020), (1, .int x1)]) (st' := [.int x1, .ref 2000020]) (sh' := ab_SH) (D' := ab_dD h) (fun n => rfl) ?_
  obtain ⟨c2, hf⟩ := ab_ask_s hf
  refine ab_Ex.grd (c := x1 < 0 ∨ 1 ≤ (x1 : Int32).toNatClampNeg) (S := (9, [(0, .ref 2000020), (1, .int x1)], [.int (((ab_sb.getD 20 []).getD (x1 : Int32).toNatClampNeg 0))], ab_dD h)) (fun n => rfl) c2 ?_
  refine ab_Ex.blk (k := 3) (pc' := 14) (lv' := [(0, .ref 2000020), (1, .int x1)]) (st' := [.int ((((((ab_sb.getD 20 []).getD (x1 : Int32).toNatClampNeg 0) &&& 255) : Int32).toUInt32 % 65536).toInt32)]) (sh' := ab_SH) (D' := ab_dD h) (fun n => rfl) ?_
  obtain ⟨c9, hf⟩ := ab_ask_s hf
  obtain rfl := Option.some.inj hf
  exact ab_Ex.retc (fun n => rfl) (Decidable.not_not.mp c9) rfl
set_option maxRecDepth 20000 in
theorem sJ1_charAt_3b067_2000021 (d : Nat) (X : abX) (x1 : Int32) (h : abJ) (z : Int32) (hf : fJ1_charAt_3b067 2000021 x1 h = some z) : ab_Ex X (d + 2) 311 0 [(0, .ref 2000021), (1, .int x1)] [] ab_SH (ab_dD h) (fun r => r = (some (.int z), ab_SH, ab_dD h)) := by
  unfold fJ1_charAt_3b067 at hf
  try simp only [Nat.reduceAdd] at hf
  refine ab_Ex.blk (k := 3) (pc' := 3) (lv' := [(0, .ref 2000021), (1, .int x1)]) (st' := [.int ((Int32.ofNat 1)), .int x1]) (sh' := ab_SH) (D' := ab_dD h) (fun n => rfl) ?_
  obtain ⟨r1, hr1, hf⟩ := ab_bind_s hf
  refine ab_Ex.call (d := d + 1) (M2 := 310) (as := [.int x1, .int ((Int32.ofNat 1))]) (rest := []) (fun n => rfl) rfl (Nat.not_lt.mpr (Nat.le_of_ble_eq_true rfl)) (sJ0_checkIndex_df160 (d) X x1 ((Int32.ofNat 1)) h _ hr1) (fun r hr => ?_)
  subst hr
  show ab_Ex X (d + 2) 311 6 [(0, .ref 2000021), (1, .int x1)] [] ab_SH (ab_dD h) _
  refine ab_Ex.blk (k := 2) (pc' := 8) (lv' := [(0, .ref 2000021), (1, .int x1)]) (st' := [.int x1, .ref 2000021]) (sh' := ab_SH) (D' := ab_dD h) (fun n => rfl) ?_
  obtain ⟨c2, hf⟩ := ab_ask_s hf
  refine ab_Ex.grd (c := x1 < 0 ∨ 1 ≤ (x1 : Int32).toNatClampNeg) (S := (9, [(0, .ref 2000021), (1, .int x1)], [.int (((ab_sb.getD 21 []).getD (x1 : Int32).toNatClampNeg 0))], ab_dD h)) (fun n => rfl) c2 ?_
  refine ab_Ex.blk (k := 3) (pc' := 14) (lv' := [(0, .ref 2000021), (1, .int x1)]) (st' := [.int ((((((ab_sb.getD 21 []).getD (x1 : Int32).toNatClampNeg 0) &&& 255) : Int32).toUInt32 % 65536).toInt32)]) (sh' := ab_SH) (D' := ab_dD h) (fun n => rfl) ?_
  obtain ⟨c9, hf⟩ := ab_ask_s hf
  obtain rfl := Option.some.inj hf
  exact ab_Ex.retc (fun n => rfl) (Decidable.not_not.mp c9) rfl
set_option maxRecDepth 20000 in
theorem sJ1_charAt_3b067_2000022 (d : Nat) (X : abX) (x1 : Int32) (h : abJ) (z : Int32) (hf : fJ1_charAt_3b067 2000022 x1 h = some z) : ab_Ex X (d + 2) 311 0 [(0, .ref 2000022), (1, .int x1)] [] ab_SH (ab_dD h) (fun r => r = (some (.int z), ab_SH, ab_dD h)) := by
  unfold fJ1_charAt_3b067 at hf
  try simp only [Nat.reduceAdd] at hf
  refine ab_Ex.blk (k := 3) (pc' := 3) (lv' := [(0, .ref 2000022), (1, .int x1)]) (st' := [.int ((Int32.ofNat 3)), .int x1]) (sh' := ab_SH) (D' := ab_dD h) (fun n => rfl) ?_
  obtain ⟨r1, hr1, hf⟩ := ab_bind_s hf
  refine ab_Ex.call (d := d + 1) (M2 := 310) (as := [.int x1, .int ((Int32.ofNat 3))]) (rest := []) (fun n => rfl) rfl (Nat.not_lt.mpr (Nat.le_of_ble_eq_true rfl)) (sJ0_checkIndex_df160 (d) X x1 ((Int32.ofNat 3)) h _ hr1) (fun r hr => ?_)
  subst hr
  show ab_Ex X (d + 2) 311 6 [(0, .ref 2000022), (1, .int x1)] [] ab_SH (ab_dD h) _
  refine ab_Ex.blk (k := 2) (pc' := 8) (lv' := [(0, .ref 2000022), (1, .int x1)]) (st' := [.int x1, .ref 2000022]) (sh' := ab_SH) (D' := ab_dD h) (fun n => rfl) ?_
  obtain ⟨c2, hf⟩ := ab_ask_s hf
  refine ab_Ex.grd (c := x1 < 0 ∨ 3 ≤ (x1 : Int32).toNatClampNeg) (S := (9, [(0, .ref 2000022), (1, .int x1)], [.int (((ab_sb.getD 22 []).getD (x1 : Int32).toNatClampNeg 0))], ab_dD h)) (fun n => rfl) c2 ?_
  refine ab_Ex.blk (k := 3) (pc' := 14) (lv' := [(0, .ref 2000022), (1, .int x1)]) (st' := [.int ((((((ab_sb.getD 22 []).getD (x1 : Int32).toNatClampNeg 0) &&& 255) : Int32).toUInt32 % 65536).toInt32)]) (sh' := ab_SH) (D' := ab_dD h) (fun n => rfl) ?_
  obtain ⟨c9, hf⟩ := ab_ask_s hf
  obtain rfl := Option.some.inj hf
  exact ab_Ex.retc (fun n => rfl) (Decidable.not_not.mp c9) rfl
set_option maxRecDepth 20000 in
theorem sJ1_charAt_3b067_2000023 (d : Nat) (X : abX) (x1 : Int32) (h : abJ) (z : Int32) (hf : fJ1_charAt_3b067 2000023 x1 h = some z) : ab_Ex X (d + 2) 311 0 [(0, .ref 2000023), (1, .int x1)] [] ab_SH (ab_dD h) (fun r => r = (some (.int z), ab_SH, ab_dD h)) := by
  unfold fJ1_charAt_3b067 at hf
  try simp only [Nat.reduceAdd] at hf
  refine ab_Ex.blk (k := 3) (pc' := 3) (lv' := [(0, .ref 2000023), (1, .int x1)]) (st' := [.int ((Int32.ofNat 2)), .int x1]) (sh' := ab_SH) (D' := ab_dD h) (fun n => rfl) ?_
  obtain ⟨r1, hr1, hf⟩ := ab_bind_s hf
  refine ab_Ex.call (d := d + 1) (M2 := 310) (as := [.int x1, .int ((Int32.ofNat 2))]) (rest := []) (fun n => rfl) rfl (Nat.not_lt.mpr (Nat.le_of_ble_eq_true rfl)) (sJ0_checkIndex_df160 (d) X x1 ((Int32.ofNat 2)) h _ hr1) (fun r hr => ?_)
  subst hr
  show ab_Ex X (d + 2) 311 6 [(0, .ref 2000023), (1, .int x1)] [] ab_SH (ab_dD h) _
  refine ab_Ex.blk (k := 2) (pc' := 8) (lv' := [(0, .ref 2000023), (1, .int x1)]) (st' := [.int x1, .ref 2000023]) (sh' := ab_SH) (D' := ab_dD h) (fun n => rfl) ?_
  obtain ⟨c2, hf⟩ := ab_ask_s hf
  refine ab_Ex.grd (c := x1 < 0 ∨ 2 ≤ (x1 : Int32).toNatClampNeg) (S := (9, [(0, .ref 2000023), (1, .int x1)], [.int (((ab_sb.getD 23 []).getD (x1 : Int32).toNatClampNeg 0))], ab_dD h)) (fun n => rfl) c2 ?_
  refine ab_Ex.blk (k := 3) (pc' := 14) (lv' := [(0, .ref 2000023), (1, .int x1)]) (st' := [.int ((((((ab_sb.getD 23 []).getD (x1 : Int32).toNatClampNeg 0) &&& 255) : Int32).toUInt32 % 65536).toInt32)]) (sh' := ab_SH) (D' := ab_dD h) (fun n => rfl) ?_
  obtain ⟨c9, hf⟩ := ab_ask_s hf
  obtain rfl := Option.some.inj hf
  exact ab_Ex.retc (fun n => rfl) (Decidable.not_not.mp c9) rfl
set_option maxRecDepth 20000 in
theorem sJ1_charAt_3b067_2000024 (d : Nat) (X : abX) (x1 : Int32) (h : abJ) (z : Int32) (hf : fJ1_charAt_3b067 2000024 x1 h = some z) : ab_Ex X (d + 2) 311 0 [(0, .ref 2000024), (1, .int x1)] [] ab_SH (ab_dD h) (fun r => r = (some (.int z), ab_SH, ab_dD h)) := by
  unfold fJ1_charAt_3b067 at hf
  try simp only [Nat.reduceAdd] at hf
  refine ab_Ex.blk (k := 3) (pc' := 3) (lv' := [(0, .ref 2000024), (1, .int x1)]) (st' := [.int ((Int32.ofNat 4)), .int x1]) (sh' := ab_SH) (D' := ab_dD h) (fun n => rfl) ?_
  obtain ⟨r1, hr1, hf⟩ := ab_bind_s hf
  refine ab_Ex.call (d := d + 1) (M2 := 310) (as := [.int x1, .int ((Int32.ofNat 4))]) (rest := []) (fun n => rfl) rfl (Nat.not_lt.mpr (Nat.le_of_ble_eq_true rfl)) (sJ0_checkIndex_df160 (d) X x1 ((Int32.ofNat 4)) h _ hr1) (fun r hr => ?_)
  subst hr
  show ab_Ex X (d + 2) 311 6 [(0, .ref 2000024), (1, .int x1)] [] ab_SH (ab_dD h) _
  refine ab_Ex.blk (k := 2) (pc' := 8) (lv' := [(0, .ref 2000024), (1, .int x1)]) (st' := [.int x1, .ref 2000024]) (sh' := ab_SH) (D' := ab_dD h) (fun n => rfl) ?_
  obtain ⟨c2, hf⟩ := ab_ask_s hf
  refine ab_Ex.grd (c := x1 < 0 ∨ 4 ≤ (x1 : Int32).toNatClampNeg) (S := (9, [(0, .ref 2000024), (1, .int x1)], [.int (((ab_sb.getD 24 []).getD (x1 : Int32).toNatClampNeg 0))], ab_dD h)) (fun n => rfl) c2 ?_
  refine ab_Ex.blk (k := 3) (pc' := 14) (lv' := [(0, .ref 2000024), (1, .int x1)]) (st' := [.int ((((((ab_sb.getD 24 []).getD (x1 : Int32).toNatClampNeg 0) &&& 255) : Int32).toUInt32 % 65536).toInt32)]) (sh' := ab_SH) (D' := ab_dD h) (fun n => rfl) ?_
  obtain ⟨c9, hf⟩ := ab_ask_s hf
  obtain rfl := Option.some.inj hf
  exact ab_Ex.retc (fun n => rfl) (Decidable.not_not.mp c9) rfl
set_option maxRecDepth 20000 in
theorem sJ1_charAt_3b067_2000025 (d : Nat) (X : abX) (x1 : Int32) (h : abJ) (z : Int32) (hf : fJ1_charAt_3b067 2000025 x1 h = some z) : ab_Ex X (d + 2) 311 0 [(0, .ref 2000025), (1, .int x1)] [] ab_SH (ab_dD h) (fun r => r = (some (.int z), ab_SH, ab_dD h)) := by
  unfold fJ1_charAt_3b067 at hf
  try simp only [Nat.reduceAdd] at hf
  refine ab_Ex.blk (k := 3) (pc' := 3) (lv' := [(0, .ref 2000025), (1, .int x1)]) (st' := [.int ((Int32.ofNat 4)), .int x1]) (sh' := ab_SH) (D' := ab_dD h) (fun n => rfl) ?_
  obtain ⟨r1, hr1, hf⟩ := ab_bind_s hf
  refine ab_Ex.call (d := d + 1) (M2 := 310) (as := [.int x1, .int ((Int32.ofNat 4))]) (rest := []) (fun n => rfl) rfl (Nat.not_lt.mpr (Nat.le_of_ble_eq_true rfl)) (sJ0_checkIndex_df160 (d) X x1 ((Int32.ofNat 4)) h _ hr1) (fun r hr => ?_)
  subst hr
  show ab_Ex X (d + 2) 311 6 [(0, .ref 2000025), (1, .int x1)] [] ab_SH (ab_dD h) _
  refine ab_Ex.blk (k := 2) (pc' := 8) (lv' := [(0, .ref 2000025), (1, .int x1)]) (st' := [.int x1, .ref 2000025]) (sh' := ab_SH) (D' := ab_dD h) (fun n => rfl) ?_
  obtain ⟨c2, hf⟩ := ab_ask_s hf
  refine ab_Ex.grd (c := x1 < 0 ∨ 4 ≤ (x1 : Int32).toNatClampNeg) (S := (9, [(0, .ref 2000025), (1, .int x1)], [.int (((ab_sb.getD 25 []).getD (x1 : Int32).toNatClampNeg 0))], ab_dD h)) (fun n => rfl) c2 ?_
  refine ab_Ex.blk (k := 3) (pc' := 14) (lv' := [(0, .ref 2000025), (1, .int x1)]) (st' := [.int ((((((ab_sb.getD 25 []).getD (x1 : Int32).toNatClampNeg 0) &&& 255) : Int32).toUInt32 % 65536).toInt32)]) (sh' := ab_SH) (D' := ab_dD h) (fun n => rfl) ?_
  obtain ⟨c9, hf⟩ := ab_ask_s hf
  obtain rfl := Option.some.inj hf
  exact ab_Ex.retc (fun n => rfl) (Decidable.not_not.mp c9) rfl
set_option maxRecDepth 20000 in
theorem sJ1_charAt_3b067_2000026 (d : Nat) (X : abX) (x1 : Int32) (h : abJ) (z : Int32) (hf : fJ1_charAt_3b067 2000026 x1 h = some z) : ab_Ex X (d + 2) 311 0 [(0, .ref 2000026), (1, .int x1)] [] ab_SH (ab_dD h) (fun r => r = (some (.int z), ab_SH, ab_dD h)) := by
  unfold fJ1_charAt_3b067 at hf
  try simp only [Nat.reduceAdd] at hf
  refine ab_Ex.blk (k := 3) (pc' := 3) (lv' := [(0, .ref 2000026), (1, .int x1)]) (st' := [.int ((Int32.ofNat 3)), .int x1]) (sh' := ab_SH) (D' := ab_dD h) (fun n => rfl) ?_
  obtain ⟨r1, hr1, hf⟩ := ab_bind_s hf
  refine ab_Ex.call (d := d + 1) (M2 := 310) (as := [.int x1, .int ((Int32.ofNat 3))]) (rest := []) (fun n => rfl) rfl (Nat.not_lt.mpr (Nat.le_of_ble_eq_true rfl)) (sJ0_checkIndex_df160 (d) X x1 ((Int32.ofNat 3)) h _ hr1) (fun r hr => ?_)
  subst hr
  show ab_Ex X (d + 2) 311 6 [(0, .ref 2000026), (1, .int x1)] [] ab_SH (ab_dD h) _
  refine ab_Ex.blk (k := 2) (pc' := 8) (lv' := [(0, .ref 2000026), (1, .int x1)]) (st' := [.int x1, .ref 2000026]) (sh' := ab_SH) (D' := ab_dD h) (fun n => rfl) ?_
  obtain ⟨c2, hf⟩ := ab_ask_s hf
  refine ab_Ex.grd (c := x1 < 0 ∨ 3 ≤ (x1 : Int32).toNatClampNeg) (S := (9, [(0, .ref 2000026), (1, .int x1)], [.int (((ab_sb.getD 26 []).getD (x1 : Int32).toNatClampNeg 0))], ab_dD h)) (fun n => rfl) c2 ?_
  refine ab_Ex.blk (k := 3) (pc' := 14) (lv' := [(0, .ref 2000026), (1, .int x1)]) (st' := [.int ((((((ab_sb.getD 26 []).getD (x1 : Int32).toNatClampNeg 0) &&& 255) : Int32).toUInt32 % 65536).toInt32)]) (sh' := ab_SH) (D' := ab_dD h) (fun n => rfl) ?_
  obtain ⟨c9, hf⟩ := ab_ask_s hf
  obtain rfl := Option.some.inj hf
  exact ab_Ex.retc (fun n => rfl) (Decidable.not_not.mp c9) rfl
set_option maxRecDepth 20000 in
theorem sJ1_charAt_3b067_2000027 (d : Nat) (X : abX) (x1 : Int32) (h : abJ) (z : Int32) (hf : fJ1_charAt_3b067 2000027 x1 h = some z) : ab_Ex X (d + 2) 311 0 [(0, .ref 2000027), (1, .int x1)] [] ab_SH (ab_dD h) (fun r => r = (some (.int z), ab_SH, ab_dD h)) := by
  unfold fJ1_charAt_3b067 at hf
  try simp only [Nat.reduceAdd] at hf
  refine ab_Ex.blk (k := 3) (pc' := 3) (lv' := [(0, .ref 2000027), (1, .int x1)]) (st' := [.int ((Int32.ofNat 1)), .int x1]) (sh' := ab_SH) (D' := ab_dD h) (fun n => rfl) ?_
  obtain ⟨r1, hr1, hf⟩ := ab_bind_s hf
  refine ab_Ex.call (d := d + 1) (M2 := 310) (as := [.int x1, .int ((Int32.ofNat 1))]) (rest := []) (fun n => rfl) rfl (Nat.not_lt.mpr (Nat.le_of_ble_eq_true rfl)) (sJ0_checkIndex_df160 (d) X x1 ((Int32.ofNat 1)) h _ hr1) (fun r hr => ?_)
  subst hr
  show ab_Ex X (d + 2) 311 6 [(0, .ref 2000027), (1, .int x1)] [] ab_SH (ab_dD h) _
  refine ab_Ex.blk (k := 2) (pc' := 8) (lv' := [(0, .ref 2000027), (1, .int x1)]) (st' := [.int x1, .ref 2000027]) (sh' := ab_SH) (D' := ab_dD h) (fun n => rfl) ?_
  obtain ⟨c2, hf⟩ := ab_ask_s hf
  refine ab_Ex.grd (c := x1 < 0 ∨ 1 ≤ (x1 : Int32).toNatClampNeg) (S := (9, [(0, .ref 2000027), (1, .int x1)], [.int (((ab_sb.getD 27 []).getD (x1 : Int32).toNatClampNeg 0))], ab_dD h)) (fun n => rfl) c2 ?_
  refine ab_Ex.blk (k := 3) (pc' := 14) (lv' := [(0, .ref 2000027), (1, .int x1)]) (st' := [.int ((((((ab_sb.getD 27 []).getD (x1 : Int32).toNatClampNeg 0) &&& 255) : Int32).toUInt32 % 65536).toInt32)]) (sh' := ab_SH) (D' := ab_dD h) (fun n => rfl) ?_
  obtain ⟨c9, hf⟩ := ab_ask_s hf
  obtain rfl := Option.some.inj hf
  exact ab_Ex.retc (fun n => rfl) (Decidable.not_not.mp c9) rfl
set_option maxRecDepth 20000 in
theorem sJ1_charAt_3b067_2000028 (d : Nat) (X : abX) (x1 : Int32) (h : abJ) (z : Int32) (hf : fJ1_charAt_3b067 2000028 x1 h = some z) : ab_Ex X (d + 2) 311 0 [(0, .ref 2000028), (1, .int x1)] [] ab_SH (ab_dD h) (fun r => r = (some (.int z), ab_SH, ab_dD h)) := by
  unfold fJ1_charAt_3b067 at hf
  try simp only [Nat.reduceAdd] at hf
  refine ab_Ex.blk (k := 3) (pc' := 3) (lv' := [(0, .ref 2000028), (1, .int x1)]) (st' := [.int ((Int32.ofNat 1)), .int x1]) (sh' := ab_SH) (D' := ab_dD h) (fun n => rfl) ?_
  obtain ⟨r1, hr1, hf⟩ := ab_bind_s hf
  refine ab_Ex.call (d := d + 1) (M2 := 310) (as := [.int x1, .int ((Int32.ofNat 1))]) (rest := []) (fun n => rfl) rfl (Nat.not_lt.mpr (Nat.le_of_ble_eq_true rfl)) (sJ0_checkIndex_df160 (d) X x1 ((Int32.ofNat 1)) h _ hr1) (fun r hr => ?_)
  subst hr
  show ab_Ex X (d + 2) 311 6 [(0, .ref 2000028), (1, .int x1)] [] ab_SH (ab_dD h) _
  refine ab_Ex.blk (k := 2) (pc' := 8) (lv' := [(0, .ref 2000028), (1, .int x1)]) (st' := [.int x1, .ref 2000028]) (sh' := ab_SH) (D' := ab_dD h) (fun n => rfl) ?_
  obtain ⟨c2, hf⟩ := ab_ask_s hf
  refine ab_Ex.grd (c := x1 < 0 ∨ 1 ≤ (x1 : Int32).toNatClampNeg) (S := (9, [(0, .ref 2000028), (1, .int x1)], [.int (((ab_sb.getD 28 []).getD (x1 : Int32).toNatClampNeg 0))], ab_dD h)) (fun n => rfl) c2 ?_
  refine ab_Ex.blk (k := 3) (pc' := 14) (lv' := [(0, .ref 2000028), (1, .int x1)]) (st' := [.int ((((((ab_sb.getD 28 []).getD (x1 : Int32).toNatClampNeg 0) &&& 255) : Int32).toUInt32 % 65536).toInt32)]) (sh' := ab_SH) (D' := ab_dD h) (fun n => rfl) ?_
  obtain ⟨c9, hf⟩ := ab_ask_s hf
  obtain rfl := Option.some.inj hf
  exact ab_Ex.retc (fun n => rfl) (Decidable.not_not.mp c9) rfl
set_option maxRecDepth 20000 in
theorem sJ1_charAt_3b067_2000029 (d : Nat) (X : abX) (x1 : Int32) (h : abJ) (z : Int32) (hf : fJ1_charAt_3b067 2000029 x1 h = some z) : ab_Ex X (d + 2) 311 0 [(0, .ref 2000029), (1, .int x1)] [] ab_SH (ab_dD h) (fun r => r = (some (.int z), ab_SH, ab_dD h)) := by
  unfold fJ1_charAt_3b067 at hf
  try simp only [Nat.reduceAdd] at hf
  refine ab_Ex.blk (k := 3) (pc' := 3) (lv' := [(0, .ref 2000029), (1, .int x1)]) (st' := [.int ((Int32.ofNat 1)), .int x1]) (sh' := ab_SH) (D' := ab_dD h) (fun n => rfl) ?_
  obtain ⟨r1, hr1, hf⟩ := ab_bind_s hf
  refine ab_Ex.call (d := d + 1) (M2 := 310) (as := [.int x1, .int ((Int32.ofNat 1))]) (rest := []) (fun n => rfl) rfl (Nat.not_lt.mpr (Nat.le_of_ble_eq_true rfl)) (sJ0_checkIndex_df160 (d) X x1 ((Int32.ofNat 1)) h _ hr1) (fun r hr => ?_)
  subst hr
  show ab_Ex X (d + 2) 311 6 [(0, .ref 2000029), (1, .int x1)] [] ab_SH (ab_dD h) _
  refine ab_Ex.blk (k := 2) (pc' := 8) (lv' := [(0, .ref 2000029), (1, .int x1)]) (st' := [.int x1, .ref 2000029]) (sh' := ab_SH) (D' := ab_dD h) (fun n => rfl) ?_
  obtain ⟨c2, hf⟩ := ab_ask_s hf
  refine ab_Ex.grd (c := x1 < 0 ∨ 1 ≤ (x1 : Int32).toNatClampNeg) (S := (9, [(0, .ref 2000029), (1, .int x1)], [.int (((ab_sb.getD 29 []).getD (x1 : Int32).toNatClampNeg 0))], ab_dD h)) (fun n => rfl) c2 ?_
  refine ab_Ex.blk (k := 3) (pc' := 14) (lv' := [(0, .ref 2000029), (1, .int x1)]) (st' := [.int ((((((ab_sb.getD 29 []).getD (x1 : Int32).toNatClampNeg 0) &&& 255) : Int32).toUInt32 % 65536).toInt32)]) (sh' := ab_SH) (D' := ab_dD h) (fun n => rfl) ?_
  obtain ⟨c9, hf⟩ := ab_ask_s hf
  obtain rfl := Option.some.inj hf
  exact ab_Ex.retc (fun n => rfl) (Decidable.not_not.mp c9) rfl
set_option maxRecDepth 20000 in
theorem sJ1_charAt_3b067_2000030 (d : Nat) (X : abX) (x1 : Int32) (h : abJ) (z : Int32) (hf : fJ1_charAt_3b067 2000030 x1 h = some z) : ab_Ex X (d + 2) 311 0 [(0, .ref 2000030), (1, .int x1)] [] ab_SH (ab_dD h) (fun r => r = (some (.int z), ab_SH, ab_dD h)) := by
  unfold fJ1_charAt_3b067 at hf
  try simp only [Nat.reduceAdd] at hf
  refine ab_Ex.blk (k := 3) (pc' := 3) (lv' := [(0, .ref 2000030), (1, .int x1)]) (st' := [.int ((Int32.ofNat 6)), .int x1]) (sh' := ab_SH) (D' := ab_dD h) (fun n => rfl) ?_
  obtain ⟨r1, hr1, hf⟩ := ab_bind_s hf
  refine ab_Ex.call (d := d + 1) (M2 := 310) (as := [.int x1, .int ((Int32.ofNat 6))]) (rest := []) (fun n => rfl) rfl (Nat.not_lt.mpr (Nat.le_of_ble_eq_true rfl)) (sJ0_checkIndex_df160 (d) X x1 ((Int32.ofNat 6)) h _ hr1) (fun r hr => ?_)
  subst hr
  show ab_Ex X (d + 2) 311 6 [(0, .ref 2000030), (1, .int x1)] [] ab_SH (ab_dD h) _
  refine ab_Ex.blk (k := 2) (pc' := 8) (lv' := [(0, .ref 2000030), (1, .int x1)]) (st' := [.int x1, .ref 2000030]) (sh' := ab_SH) (D' := ab_dD h) (fun n => rfl) ?_
  obtain ⟨c2, hf⟩ := ab_ask_s hf
  refine ab_Ex.grd (c := x1 < 0 ∨ 6 ≤ (x1 : Int32).toNatClampNeg) (S := (9, [(0, .ref 2000030), (1, .int x1)], [.int (((ab_sb.getD 30 []).getD (x1 : Int32).toNatClampNeg 0))], ab_dD h)) (fun n => rfl) c2 ?_
  refine ab_Ex.blk (k := 3) (pc' := 14) (lv' := [(0, .ref 2000030), (1, .int x1)]) (st' := [.int ((((((ab_sb.getD 30 []).getD (x1 : Int32).toNatClampNeg 0) &&& 255) : Int32).toUInt32 % 65536).toInt32)]) (sh' := ab_SH) (D' := ab_dD h) (fun n => rfl) ?_
  obtain ⟨c9, hf⟩ := ab_ask_s hf
  obtain rfl := Option.some.inj hf
  exact ab_Ex.retc (fun n => rfl) (Decidable.not_not.mp c9) rfl
set_option maxRecDepth 20000 in
theorem sJ1_charAt_3b067_2000031 (d : Nat) (X : abX) (x1 : Int32) (h : abJ) (z : Int32) (hf : fJ1_charAt_3b067 2000031 x1 h = some z) : ab_Ex X (d + 2) 311 0 [(0, .ref 2000031), (1, .int x1)] [] ab_SH (ab_dD h) (fun r => r = (some (.int z), ab_SH, ab_dD h)) := by
  unfold fJ1_charAt_3b067 at hf
  try simp only [Nat.reduceAdd] at hf
  refine ab_Ex.blk (k := 3) (pc' := 3) (lv' := [(0, .ref 2000031), (1, .int x1)]) (st' := [.int ((Int32.ofNat 89)), .int x1]) (sh' := ab_SH) (D' := ab_dD h) (fun n => rfl) ?_
  obtain ⟨r1, hr1, hf⟩ := ab_bind_s hf
  refine ab_Ex.call (d := d + 1) (M2 := 310) (as := [.int x1, .int ((Int32.ofNat 89))]) (rest := []) (fun n => rfl) rfl (Nat.not_lt.mpr (Nat.le_of_ble_eq_true rfl)) (sJ0_checkIndex_df160 (d) X x1 ((Int32.ofNat 89)) h _ hr1) (fun r hr => ?_)
  subst hr
  show ab_Ex X (d + 2) 311 6 [(0, .ref 2000031), (1, .int x1)] [] ab_SH (ab_dD h) _
  refine ab_Ex.blk (k := 2) (pc' := 8) (lv' := [(0, .ref 2000031), (1, .int x1)]) (st' := [.int x1, .ref 2000031]) (sh' := ab_SH) (D' := ab_dD h) (fun n => rfl) ?_
  obtain ⟨c2, hf⟩ := ab_ask_s hf
  refine ab_Ex.grd (c := x1 < 0 ∨ 89 ≤ (x1 : Int32).toNatClampNeg) (S := (9, [(0, .ref 2000031), (1, .int x1)], [.int (((ab_sb.getD 31 []).getD (x1 : Int32).toNatClampNeg 0))], ab_dD h)) (fun n => rfl) c2 ?_
  refine ab_Ex.blk (k := 3) (pc' := 14) (lv' := [(0, .ref 2000031), (1, .int x1)]) (st' := [.int ((((((ab_sb.getD 31 []).getD (x1 : Int32).toNatClampNeg 0) &&& 255) : Int32).toUInt32 % 65536).toInt32)]) (sh' := ab_SH) (D' := ab_dD h) (fun n => rfl) ?_
  obtain ⟨c9, hf⟩ := ab_ask_s hf
  obtain rfl := Option.some.inj hf
  exact ab_Ex.retc (fun n => rfl) (Decidable.not_not.mp c9) rfl
def fJ0_charAt_5068e (o : Nat) (x0 : Int32) (h : abJ) : Option Int32 := (fJ0_isLatin1_aae02 o h).bind (fun r1 => if r1 = 0 then none else (fJ1_charAt_3b067 (o + 1000000) x0 h).bind (fun r3 => ab_ask (¬ (narrow .char (.int r3) = .int r3)) (some r3)))
set_option maxRecDepth 20000 in
theorem sJ0_charAt_5068e_1000000 (d : Nat) (X : abX) (x0 : Int32) (h : abJ) (z : Int32) (hf : fJ0_charAt_5068e 1000000 x0 h = some z) : ab_Ex X (d + 3) 305 0 [(0, .ref 1000000), (1, .int x0)] [] ab_SH (ab_dD h) (fun r => r = (some (.int z), ab_SH, ab_dD h)) := by
  unfold fJ0_charAt_5068e at hf
  try simp only [Nat.reduceAdd] at hf
  refine ab_Ex.blk (k := 1) (pc' := 1) (lv' := [(0, .ref 1000000), (1, .int x0)]) (st' := [.ref 1000000]) (sh' := ab_SH) (D' := ab_dD h) (fun n => rfl) ?_
  obtain ⟨r1, hr1, hf⟩ := ab_bind_s hf
  refine ab_Ex.call (d := d + 2) (M2 := 309) (as := [.ref 1000000]) (rest := []) (fun n => rfl) rfl (Nat.not_lt.mpr (Nat.le_of_ble_eq_true rfl)) (sJ0_isLatin1_aae02_1000000 (d + 2) X  h _ hr1) (fun r hr => ?_)
  subst hr
  show ab_Ex X (d + 3) 305 4 [(0, .ref 1000000), (1, .int x0)] [.int r1] ab_SH (ab_dD h) _
  refine ab_Ex.ifc (c := r1 = 0) (SA := (16, [(0, .ref 1000000), (1, .int x0)], [], ab_dD h)) (SB := (7, [(0, .ref 1000000), (1, .int x0)], [], ab_dD h)) (fun n => rfl) (fun c2 => ?_) (fun c2 => ?_)
  · replace hf := (if_pos c2).symm.trans hf
    refine ab_Ex.blk (k := 3) (pc' := 21) (lv' := [(0, .ref 1000000), (1, .int x0)]) (st' := [.int x0, .ref 2000000]) (sh' := ab_SH) (D' := ab_dD h) (fun n => rfl) ?_
    cases hf
  · replace hf := (if_neg c2).symm.trans hf
    refine ab_Ex.blk (k := 3) (pc' := 12) (lv' := [(0, .ref 1000000), (1, .int x0)]) (st' := [.int x0, .ref 2000000]) (sh' := ab_SH) (D' := ab_dD h) (fun n => rfl) ?_
    obtain ⟨r3, hr3, hf⟩ := ab_bind_s hf
    refine ab_Ex.call (d := d + 2) (M2 := 311) (as := [.ref 2000000, .int x0]) (rest := []) (fun n => rfl) rfl (Nat.not_lt.mpr (Nat.le_of_ble_eq_true rfl)) (sJ1_charAt_3b067_2000000 (d) X x0 h _ hr3) (fun r hr => ?_)
    subst hr
    show ab_Ex X (d + 3) 305 15 [(0, .ref 1000000), (1, .int x0)] [.int r3] ab_SH (ab_dD h) _
    obtain ⟨c9, hf⟩ := ab_ask_s hf
    obtain rfl := Option.some.inj hf
    exact ab_Ex.retc (fun n => rfl) (Decidable.not_not.mp c9) rfl
set_option maxRecDepth 20000 in
theorem sJ0_charAt_5068e_1000001 (d : Nat) (X : abX) (x0 : Int32) (h : abJ) (z : Int32) (hf : fJ0_charAt_5068e 1000001 x0 h = some z) : ab_Ex X (d + 3) 305 0 [(0, .ref 1000001), (1, .int x0)] [] ab_SH (ab_dD h) (fun r => r = (some (.int z), ab_SH, ab_dD h)) := by
  unfold fJ0_charAt_5068e at hf
  try simp only [Nat.reduceAdd] at hf
  refine ab_Ex.blk (k := 1) (pc' := 1) (lv' := [(0, .ref 1000001), (1, .int x0)]) (st' := [.ref 1000001]) (sh' := ab_SH) (D' := ab_dD h) (fun n => rfl) ?_
  obtain ⟨r1, hr1, hf⟩ := ab_bind_s hf
  refine ab_Ex.call (d := d + 2) (M2 := 309) (as := [.ref 1000001]) (rest := []) (fun n => rfl) rfl (Nat.not_lt.mpr (Nat.le_of_ble_eq_true rfl)) (sJ0_isLatin1_aae02_1000001 (d + 2) X  h _ hr1) (fun r hr => ?_)
  subst hr
  show ab_Ex X (d + 3) 305 4 [(0, .ref 1000001), (1, .int x0)] [.int r1] ab_SH (ab_dD h) _
  refine ab_Ex.ifc (c := r1 = 0) (SA := (16, [(0, .ref 1000001), (1, .int x0)], [], ab_dD h)) (SB := (7, [(0, .ref 1000001), (1, .int x0)], [], ab_dD h)) (fun n => rfl) (fun c2 => ?_) (fun c2 => ?_)
  · replace hf := (if_pos c2).symm.trans hf
    refine ab_Ex.blk (k := 3) (pc' := 21) (lv' := [(0, .ref 1000001), (1, .int x0)]) (st' := [.int x0, .ref 2000001]) (sh' := ab_SH) (D' := ab_dD h) (fun n => rfl) ?_
    cases hf
  · replace hf := (if_neg c2).symm.trans hf
    refine ab_Ex.blk (k := 3) (pc' := 12) (lv' := [(0, .ref 1000001), (1, .int x0)]) (st' := [.int x0, .ref 2000001]) (sh' := ab_SH) (D' := ab_dD h) (fun n => rfl) ?_
    obtain ⟨r3, hr3, hf⟩ := ab_bind_s hf
    refine ab_Ex.call (d := d + 2) (M2 := 311) (as := [.ref 2000001, .int x0]) (rest := []) (fun n => rfl) rfl (Nat.not_lt.mpr (Nat.le_of_ble_eq_true rfl)) (sJ1_charAt_3b067_2000001 (d) X x0 h _ hr3) (fun r hr => ?_)
    subst hr
    show ab_Ex X (d + 3) 305 15 [(0, .ref 1000001), (1, .int x0)] [.int r3] ab_SH (ab_dD h) _
    obtain ⟨c9, hf⟩ := ab_ask_s hf
    obtain rfl := Option.some.inj hf
    exact ab_Ex.retc (fun n => rfl) (Decidable.not_not.mp c9) rfl
set_option maxRecDepth 20000 in
theorem sJ0_charAt_5068e_1000002 (d : Nat) (X : abX) (x0 : Int32) (h : abJ) (z : Int32) (hf : fJ0_charAt_5068e 1000002 x0 h = some z) : ab_Ex X (d + 3) 305 0 [(0, .ref 1000002), (1, .int x0)] [] ab_SH (ab_dD h) (fun r => r = (some (.int z), ab_SH, ab_dD h)) := by
  unfold fJ0_charAt_5068e at hf
  try simp only [Nat.reduceAdd] at hf
  refine ab_Ex.blk (k := 1) (pc' := 1) (lv' := [(0, .ref 1000002), (1, .int x0)]) (st' := [.ref 1000002]) (sh' := ab_SH) (D' := ab_dD h) (fun n => rfl) ?_
  obtain ⟨r1, hr1, hf⟩ := ab_bind_s hf
  refine ab_Ex.call (d := d + 2) (M2 := 309) (as := [.ref 1000002]) (rest := []) (fun n => rfl) rfl (Nat.not_lt.mpr (Nat.le_of_ble_eq_true rfl)) (sJ0_isLatin1_aae02_1000002 (d + 2) X  h _ hr1) (fun r hr => ?_)
  subst hr
  show ab_Ex X (d + 3) 305 4 [(0, .ref 1000002), (1, .int x0)] [.int r1] ab_SH (ab_dD h) _
  refine ab_Ex.ifc (c := r1 = 0) (SA := (16, [(0, .ref 1000002), (1, .int x0)], [], ab_dD h)) (SB := (7, [(0, .ref 1000002), (1, .int x0)], [], ab_dD h)) (fun n => rfl) (fun c2 => ?_) (fun c2 => ?_)
  · replace hf := (if_pos c2).symm.trans hf
    refine ab_Ex.blk (k := 3) (pc' := 21) (lv' := [(0, .ref 1000002), (1, .int x0)]) (st' := [.int x0, .ref 2000002]) (sh' := ab_SH) (D' := ab_dD h) (fun n => rfl) ?_
    cases hf
  · replace hf := (if_neg c2).symm.trans hf
    refine ab_Ex.blk (k := 3) (pc' := 12) (lv' := [(0, .ref 1000002), (1, .int x0)]) (st' := [.int x0, .ref 2000002]) (sh' := ab_SH) (D' := ab_dD h) (fun n => rfl) ?_
    obtain ⟨r3, hr3, hf⟩ := ab_bind_s hf
    refine ab_Ex.call (d := d + 2) (M2 := 311) (as := [.ref 2000002, .int x0]) (rest := []) (fun n => rfl) rfl (Nat.not_lt.mpr (Nat.le_of_ble_eq_true rfl)) (sJ1_charAt_3b067_2000002 (d) X x0 h _ hr3) (fun r hr => ?_)
    subst hr
    show ab_Ex X (d + 3) 305 15 [(0, .ref 1000002), (1, .int x0)] [.int r3] ab_SH (ab_dD h) _
    obtain ⟨c9, hf⟩ := ab_ask_s hf
    obtain rfl := Option.some.inj hf
    exact ab_Ex.retc (fun n => rfl) (Decidable.not_not.mp c9) rfl
set_option maxRecDepth 20000 in
theorem sJ0_charAt_5068e_1000003 (d : Nat) (X : abX) (x0 : Int32) (h : abJ) (z : Int32) (hf : fJ0_charAt_5068e 1000003 x0 h = some z) : ab_Ex X (d + 3) 305 0 [(0, .ref 1000003), (1, .int x0)] [] ab_SH (ab_dD h) (fun r => r = (some (.int z), ab_SH, ab_dD h)) := by
  unfold fJ0_charAt_5068e at hf
  try simp only [Nat.reduceAdd] at hf
  refine ab_Ex.blk (k := 1) (pc' := 1) (lv' := [(0, .ref 1000003), (1, .int x0)]) (st' := [.ref 1000003]) (sh' := ab_SH) (D' := ab_dD h) (fun n => rfl) ?_
  obtain ⟨r1, hr1, hf⟩ := ab_bind_s hf
  refine ab_Ex.call (d := d + 2) (M2 := 309) (as := [.ref 1000003]) (rest := []) (fun n => rfl) rfl (Nat.not_lt.mpr (Nat.le_of_ble_eq_true rfl)) (sJ0_isLatin1_aae02_1000003 (d + 2) X  h _ hr1) (fun r hr => ?_)
  subst hr
  show ab_Ex X (d + 3) 305 4 [(0, .ref 1000003), (1, .int x0)] [.int r1] ab_SH (ab_dD h) _
  refine ab_Ex.ifc (c := r1 = 0) (SA := (16, [(0, .ref 1000003), (1, .int x0)], [], ab_dD h)) (SB := (7, [(0, .ref 1000003), (1, .int x0)], [], ab_dD h)) (fun n => rfl) (fun c2 => ?_) (fun c2 => ?_)
  · replace hf := (if_pos c2).symm.trans hf
    refine ab_Ex.blk (k := 3) (pc' := 21) (lv' := [(0, .ref 1000003), (1, .int x0)]) (st' := [.int x0, .ref 2000003]) (sh' := ab_SH) (D' := ab_dD h) (fun n => rfl) ?_
    cases hf
  · replace hf := (if_neg c2).symm.trans hf
    refine ab_Ex.blk (k := 3) (pc' := 12) (lv' := [(0, .ref 1000003), (1, .int x0)]) (st' := [.int x0, .ref 2000003]) (sh' := ab_SH) (D' := ab_dD h) (fun n => rfl) ?_
    obtain ⟨r3, hr3, hf⟩ := ab_bind_s hf
    refine ab_Ex.call (d := d + 2) (M2 := 311) (as := [.ref 2000003, .int x0]) (rest := []) (fun n => rfl) rfl (Nat.not_lt.mpr (Nat.le_of_ble_eq_true rfl)) (sJ1_charAt_3b067_2000003 (d) X x0 h _ hr3) (fun r hr => ?_)
    subst hr
    show ab_Ex X (d + 3) 305 15 [(0, .ref 1000003), (1, .int x0)] [.int r3] ab_SH (ab_dD h) _
    obtain ⟨c9, hf⟩ := ab_ask_s hf
    obtain rfl := Option.some.inj hf
    exact ab_Ex.retc (fun n => rfl) (Decidable.not_not.mp c9) rfl
set_option maxRecDepth 20000 in
theorem sJ0_charAt_5068e_1000004 (d : Nat) (X : abX) (x0 : Int32) (h : abJ) (z : Int32) (hf : fJ0_charAt_5068e 1000004 x0 h = some z) : ab_Ex X (d + 3) 305 0 [(0, .ref 1000004), (1, .int x0)] [] ab_SH (ab_dD h) (fun r => r = (some (.int z), ab_SH, ab_dD h)) := by
  unfold fJ0_charAt_5068e at hf
  try simp only [Nat.reduceAdd] at hf
  refine ab_Ex.blk (k := 1) (pc' := 1) (lv' := [(0, .ref 1000004), (1, .int x0)]) (st' := [.ref 1000004]) (sh' := ab_SH) (D' := ab_dD h) (fun n => rfl) ?_
  obtain ⟨r1, hr1, hf⟩ := ab_bind_s hf
  refine ab_Ex.call (d := d + 2) (M2 := 309) (as := [.ref 1000004]) (rest := []) (fun n => rfl) rfl (Nat.not_lt.mpr (Nat.le_of_ble_eq_true rfl)) (sJ0_isLatin1_aae02_1000004 (d + 2) X  h _ hr1) (fun r hr => ?_)
  subst hr
  show ab_Ex X (d + 3) 305 4 [(0, .ref 1000004), (1, .int x0)] [.int r1] ab_SH (ab_dD h) _
  refine ab_Ex.ifc (c := r1 = 0) (SA := (16, [(0, .ref 1000004), (1, .int x0)], [], ab_dD h)) (SB := (7, [(0, .ref 1000004), (1, .int x0)], [], ab_dD h)) (fun n => rfl) (fun c2 => ?_) (fun c2 => ?_)
  · replace hf := (if_pos c2).symm.trans hf
    refine ab_Ex.blk (k := 3) (pc' := 21) (lv' := [(0, .ref 1000004), (1, .int x0)]) (st' := [.int x0, .ref 2000004]) (sh' := ab_SH) (D' := ab_dD h) (fun n => rfl) ?_
    cases hf
  · replace hf := (if_neg c2).symm.trans hf
    refine ab_Ex.blk (k := 3) (pc' := 12) (lv' := [(0, .ref 1000004), (1, .int x0)]) (st' := [.int x0, .ref 2000004]) (sh' := ab_SH) (D' := ab_dD h) (fun n => rfl) ?_
    obtain ⟨r3, hr3, hf⟩ := ab_bind_s hf
    refine ab_Ex.call (d := d + 2) (M2 := 311) (as := [.ref 2000004, .int x0]) (rest := []) (fun n => rfl) rfl (Nat.not_lt.mpr (Nat.le_of_ble_eq_true rfl)) (sJ1_charAt_3b067_2000004 (d) X x0 h _ hr3) (fun r hr => ?_)
    subst hr
    show ab_Ex X (d + 3) 305 15 [(0, .ref 1000004), (1, .int x0)] [.int r3] ab_SH (ab_dD h) _
    obtain ⟨c9, hf⟩ := ab_ask_s hf
    obtain rfl := Option.some.inj hf
    exact ab_Ex.retc (fun n => rfl) (Decidable.not_not.mp c9) rfl
set_option maxRecDepth 20000 in
theorem sJ0_charAt_5068e_1000005 (d : Nat) (X : abX) (x0 : Int32) (h : abJ) (z : Int32) (hf : fJ0_charAt_5068e 1000005 x0 h = some z) : ab_Ex X (d + 3) 305 0 [(0, .ref 1000005), (1, .int x0)] [] ab_SH (ab_dD h) (fun r => r = (some (.int z), ab_SH, ab_dD h)) := by
  unfold fJ0_charAt_5068e at hf
  try simp only [Nat.reduceAdd] at hf
  refine ab_Ex.blk (k := 1) (pc' := 1) (lv' := [(0, .ref 1000005), (1, .int x0)]) (st' := [.ref 1000005]) (sh' := ab_SH) (D' := ab_dD h) (fun n => rfl) ?_
  obtain ⟨r1, hr1, hf⟩ := ab_bind_s hf
  refine ab_Ex.call (d := d + 2) (M2 := 309) (as := [.ref 1000005]) (rest := []) (fun n => rfl) rfl (Nat.not_lt.mpr (Nat.le_of_ble_eq_true rfl)) (sJ0_isLatin1_aae02_1000005 (d + 2) X  h _ hr1) (fun r hr => ?_)
  subst hr
  show ab_Ex X (d + 3) 305 4 [(0, .ref 1000005), (1, .int x0)] [.int r1] ab_SH (ab_dD h) _
  refine ab_Ex.ifc (c := r1 = 0) (SA := (16, [(0, .ref 1000005), (1, .int x0)], [], ab_dD h)) (SB := (7, [(0, .ref 1000005), (1, .int x0)], [], ab_dD h)) (fun n => rfl) (fun c2 => ?_) (fun c2 => ?_)
  · replace hf := (if_pos c2).symm.trans hf
    refine ab_Ex.blk (k := 3) (pc' := 21) (lv' := [(0, .ref 1000005), (1, .int x0)]) (st' := [.int x0, .ref 2000005]) (sh' := ab_SH) (D' := ab_dD h) (fun n => rfl) ?_
    cases hf
  · replace hf := (if_neg c2).symm.trans hf
    refine ab_Ex.blk (k := 3) (pc' := 12) (lv' := [(0, .ref 1000005), (1, .int x0)]) (st' := [.int x0, .ref 2000005]) (sh' := ab_SH) (D' := ab_dD h) (fun n => rfl) ?_
    obtain ⟨r3, hr3, hf⟩ := ab_bind_s hf
    refine ab_Ex.call (d := d + 2) (M2 := 311) (as := [.ref 2000005, .int x0]) (rest := []) (fun n => rfl) rfl (Nat.not_lt.mpr (Nat.le_of_ble_eq_true rfl)) (sJ1_charAt_3b067_2000005 (d) X x0 h _ hr3) (fun r hr => ?_)
    subst hr
    show ab_Ex X (d + 3) 305 15 [(0, .ref 1000005), (1, .int x0)] [.int r3] ab_SH (ab_dD h) _
    obtain ⟨c9, hf⟩ := ab_ask_s hf
    obtain rfl := Option.some.inj hf
    exact ab_Ex.retc (fun n => rfl) (Decidable.not_not.mp c9) rfl
set_option maxRecDepth 20000 in
theorem sJ0_charAt_5068e_1000006 (d : Nat) (X : abX) (x0 : Int32) (h : abJ) (z : Int32) (hf : fJ0_charAt_5068e 1000006 x0 h = some z) : ab_Ex X (d + 3) 305 0 [(0, .ref 1000006), (1, .int x0)] [] ab_SH (ab_dD h) (fun r => r = (some (.int z), ab_SH, ab_dD h)) := by
  unfold fJ0_charAt_5068e at hf
  try simp only [Nat.reduceAdd] at hf
  refine ab_Ex.blk (k := 1) (pc' := 1) (lv' := [(0, .ref 1000006), (1, .int x0)]) (st' := [.ref 1000006]) (sh' := ab_SH) (D' := ab_dD h) (fun n => rfl) ?_
  obtain ⟨r1, hr1, hf⟩ := ab_bind_s hf
  refine ab_Ex.call (d := d + 2) (M2 := 309) (as := [.ref 1000006]) (rest := []) (fun n => rfl) rfl (Nat.not_lt.mpr (Nat.le_of_ble_eq_true rfl)) (sJ0_isLatin1_aae02_1000006 (d + 2) X  h _ hr1) (fun r hr => ?_)
  subst hr
  show ab_Ex X (d + 3) 305 4 [(0, .ref 1000006), (1, .int x0)] [.int r1] ab_SH (ab_dD h) _
  refine ab_Ex.ifc (c := r1 = 0) (SA := (16, [(0, .ref 1000006), (1, .int x0)], [], ab_dD h)) (SB := (7, [(0, .ref 1000006), (1, .int x0)], [], ab_dD h)) (fun n => rfl) (fun c2 => ?_) (fun c2 => ?_)
  · replace hf := (if_pos c2).symm.trans hf
    refine ab_Ex.blk (k := 3) (pc' := 21) (lv' := [(0, .ref 1000006), (1, .int x0)]) (st' := [.int x0, .ref 2000006]) (sh' := ab_SH) (D' := ab_dD h) (fun n => rfl) ?_
    cases hf
  · replace hf := (if_neg c2).symm.trans hf
    refine ab_Ex.blk (k := 3) (pc' := 12) (lv' := [(0, .ref 1000006), (1, .int x0)]) (st' := [.int x0, .ref 2000006]) (sh' := ab_SH) (D' := ab_dD h) (fun n => rfl) ?_
    obtain ⟨r3, hr3, hf⟩ := ab_bind_s hf
    refine ab_Ex.call (d := d + 2) (M2 := 311) (as := [.ref 2000006, .int x0]) (rest := []) (fun n => rfl) rfl (Nat.not_lt.mpr (Nat.le_of_ble_eq_true rfl)) (sJ1_charAt_3b067_2000006 (d) X x0 h _ hr3) (fun r hr => ?_)
    subst hr
    show ab_Ex X (d + 3) 305 15 [(0, .ref 1000006), (1, .int x0)] [.int r3] ab_SH (ab_dD h) _
    obtain ⟨c9, hf⟩ := ab_ask_s hf
    obtain rfl := Option.some.inj hf
    exact ab_Ex.retc (fun n => rfl) (Decidable.not_not.mp c9) rfl
set_option maxRecDepth 20000 in
theorem sJ0_charAt_5068e_1000007 (d : Nat) (X : abX) (x0 : Int32) (h : abJ) (z : Int32) (hf : fJ0_charAt_5068e 1000007 x0 h = some z) : ab_Ex X (d + 3) 305 0 [(0, .ref 1000007), (1, .int x0)] [] ab_SH (ab_dD h) (fun r => r = (some (.int z), ab_SH, ab_dD h)) := by
  unfold fJ0_charAt_5068e at hf
  try simp only [Nat.reduceAdd] at hf
  refine ab_Ex.blk (k := 1) (pc' := 1) (lv' := [(0, .ref 1000007), (1, .int x0)]) (st' := [.ref 1000007]) (sh' := ab_SH) (D' := ab_dD h) (fun n => rfl) ?_
  obtain ⟨r1, hr1, hf⟩ := ab_bind_s hf
  refine ab_Ex.call (d := d + 2) (M2 := 309) (as := [.ref 1000007]) (rest := []) (fun n => rfl) rfl (Nat.not_lt.mpr (Nat.le_of_ble_eq_true rfl)) (sJ0_isLatin1_aae02_1000007 (d + 2) X  h _ hr1) (fun r hr => ?_)
  subst hr
  show ab_Ex X (d + 3) 305 4 [(0, .ref 1000007), (1, .int x0)] [.int r1] ab_SH (ab_dD h) _
  refine ab_Ex.ifc (c := r1 = 0) (SA := (16, [(0, .ref 1000007), (1, .int x0)], [], ab_dD h)) (SB := (7, [(0, .ref 1000007), (1, .int x0)], [], ab_dD h)) (fun n => rfl) (fun c2 => ?_) (fun c2 => ?_)
  · replace hf := (if_pos c2).symm.trans hf
    refine ab_Ex.blk (k := 3) (pc' := 21) (lv' := [(0, .ref 1000007), (1, .int x0)]) (st' := [.int x0, .ref 2000007]) (sh' := ab_SH) (D' := ab_dD h) (fun n => rfl) ?_
    cases hf
  · replace hf := (if_neg c2).symm.trans hf
    refine ab_Ex.blk (k := 3) (pc' := 12) (lv' := [(0, .ref 1000007), (1, .int x0)]) (st' := [.int x0, .ref 2000007]) (sh' := ab_SH) (D' := ab_dD h) (fun n => rfl) ?_
    obtain ⟨r3, hr3, hf⟩ := ab_bind_s hf
    refine ab_Ex.call (d := d + 2) (M2 := 311) (as := [.ref 2000007, .int x0]) (rest := []) (fun n => rfl) rfl (Nat.not_lt.mpr (Nat.le_of_ble_eq_true rfl)) (sJ1_charAt_3b067_2000007 (d) X x0 h _ hr3) (fun r hr => ?_)
    subst hr
    show ab_Ex X (d + 3) 305 15 [(0, .ref 1000007), (1, .int x0)] [.int r3] ab_SH (ab_dD h) _
    obtain ⟨c9, hf⟩ := ab_ask_s hf
    obtain rfl := Option.some.inj hf
    exact ab_Ex.retc (fun n => rfl) (Decidable.not_not.mp c9) rfl
set_option maxRecDepth 20000 in
theorem sJ0_charAt_5068e_1000008 (d : Nat) (X : abX) (x0 : Int32) (h : abJ) (z : Int32) (hf : fJ0_charAt_5068e 1000008 x0 h = some z) : ab_Ex X (d + 3) 305 0 [(0, .ref 1000008), (1, .int x0)] [] ab_SH (ab_dD h) (fun r => r = (some (.int z), ab_SH, ab_dD h)) := by
  unfold fJ0_charAt_5068e at hf
  try simp only [Nat.reduceAdd] at hf
  refine ab_Ex.blk (k := 1) (pc' := 1) (lv' := [(0, .ref 1000008), (1, .int x0)]) (st' := [.ref 1000008]) (sh' := ab_SH) (D' := ab_dD h) (fun n => rfl) ?_
  obtain ⟨r1, hr1, hf⟩ := ab_bind_s hf
  refine ab_Ex.call (d := d + 2) (M2 := 309) (as := [.ref 1000008]) (rest := []) (fun n => rfl) rfl (Nat.not_lt.mpr (Nat.le_of_ble_eq_true rfl)) (sJ0_isLatin1_aae02_1000008 (d + 2) X  h _ hr1) (fun r hr => ?_)
  subst hr
  show ab_Ex X (d + 3) 305 4 [(0, .ref 1000008), (1, .int x0)] [.int r1] ab_SH (ab_dD h) _
  refine ab_Ex.ifc (c := r1 = 0) (SA := (16, [(0, .ref 1000008), (1, .int x0)], [], ab_dD h)) (SB := (7, [(0, .ref 1000008), (1, .int x0)], [], ab_dD h)) (fun n => rfl) (fun c2 => ?_) (fun c2 => ?_)
  · replace hf := (if_pos c2).symm.trans hf
    refine ab_Ex.blk (k := 3) (pc' := 21) (lv' := [(0, .ref 1000008), (1, .int x0)]) (st' := [.int x0, .ref 2000008]) (sh' := ab_SH) (D' := ab_dD h) (fun n => rfl) ?_
    cases hf
  · replace hf := (if_neg c2).symm.trans hf
    refine ab_Ex.blk (k := 3) (pc' := 12) (lv' := [(0, .ref 1000008), (1, .int x0)]) (st' := [.int x0, .ref 2000008]) (sh' := ab_SH) (D' := ab_dD h) (fun n => rfl) ?_
    obtain ⟨r3, hr3, hf⟩ := ab_bind_s hf
    refine ab_Ex.call (d := d + 2) (M2 := 311) (as := [.ref 2000008, .int x0]) (rest := []) (fun n => rfl) rfl (Nat.not_lt.mpr (Nat.le_of_ble_eq_true rfl)) (sJ1_charAt_3b067_2000008 (d) X x0 h _ hr3) (fun r hr => ?_)
    subst hr
    show ab_Ex X (d + 3) 305 15 [(0, .ref 1000008), (1, .int x0)] [.int r3] ab_SH (ab_dD h) _
    obtain ⟨c9, hf⟩ := ab_ask_s hf
    obtain rfl := Option.some.inj hf
    exact ab_Ex.retc (fun n => rfl) (Decidable.not_not.mp c9) rfl
set_option maxRecDepth 20000 in
theorem sJ0_charAt_5068e_1000009 (d : Nat) (X : abX) (x0 : Int32) (h : abJ) (z : Int32) (hf : fJ0_charAt_5068e 1000009 x0 h = some z) : ab_Ex X (d + 3) 305 0 [(0, .ref 1000009), (1, .int x0)] [] ab_SH (ab_dD h) (fun r => r = (some (.int z), ab_SH, ab_dD h)) := by
  unfold fJ0_charAt_5068e at hf
  try simp only [Nat.reduceAdd] at hf
  refine ab_Ex.blk (k := 1) (pc' := 1) (lv' := [(0, .ref 1000009), (1, .int x0)]) (st' := [.ref 1000009]) (sh' := ab_SH) (D' := ab_dD h) (fun n => rfl) ?_
  obtain ⟨r1, hr1, hf⟩ := ab_bind_s hf
  refine ab_Ex.call (d := d + 2) (M2 := 309) (as := [.ref 1000009]) (rest := []) (fun n => rfl) rfl (Nat.not_lt.mpr (Nat.le_of_ble_eq_true rfl)) (sJ0_isLatin1_aae02_1000009 (d + 2) X  h _ hr1) (fun r hr => ?_)
  subst hr
  show ab_Ex X (d + 3) 305 4 [(0, .ref 1000009), (1, .int x0)] [.int r1] ab_SH (ab_dD h) _
  refine ab_Ex.ifc (c := r1 = 0) (SA := (16, [(0, .ref 1000009), (1, .int x0)], [], ab_dD h)) (SB := (7, [(0, .ref 1000009), (1, .int x0)], [], ab_dD h)) (fun n => rfl) (fun c2 => ?_) (fun c2 => ?_)
  · replace hf := (if_pos c2).symm.trans hf
    refine ab_Ex.blk (k := 3) (pc' := 21) (lv' := [(0, .ref 1000009), (1, .int x0)]) (st' := [.int x0, .ref 2000009]) (sh' := ab_SH) (D' := ab_dD h) (fun n => rfl) ?_
    cases hf
  · replace hf := (if_neg c2).symm.trans hf
    refine ab_Ex.blk (k := 3) (pc' := 12) (lv' := [(0, .ref 1000009), (1, .int x0)]) (st' := [.int x0, .ref 2000009]) (sh' := ab_SH) (D' := ab_dD h) (fun n => rfl) ?_
    obtain ⟨r3, hr3, hf⟩ := ab_bind_s hf
    refine ab_Ex.call (d := d + 2) (M2 := 311) (as := [.ref 2000009, .int x0]) (rest := []) (fun n => rfl) rfl (Nat.not_lt.mpr (Nat.le_of_ble_eq_true rfl)) (sJ1_charAt_3b067_2000009 (d) X x0 h _ hr3) (fun r hr => ?_)
    subst hr
    show ab_Ex X (d + 3) 305 15 [(0, .ref 1000009), (1, .int x0)] [.int r3] ab_SH (ab_dD h) _
    obtain ⟨c9, hf⟩ := ab_ask_s hf
    obtain rfl := Option.some.inj hf
    exact ab_Ex.retc (fun n => rfl) (Decidable.not_not.mp c9) rfl
set_option maxRecDepth 20000 in
theorem sJ0_charAt_5068e_1000010 (d : Nat) (X : abX) (x0 : Int32) (h : abJ) (z : Int32) (hf : fJ0_charAt_5068e 1000010 x0 h = some z) : ab_Ex X (d + 3) 305 0 [(0, .ref 1000010), (1, .int x0)] [] ab_SH (ab_dD h) (fun r => r = (some (.int z), ab_SH, ab_dD h)) := by
  unfold fJ0_charAt_5068e at hf
  try simp only [Nat.reduceAdd] at hf
  refine ab_Ex.blk (k := 1) (pc' := 1) (lv' := [(0, .ref 1000010), (1, .int x0)]) (st' := [.ref 1000010]) (sh' := ab_SH) (D' := ab_dD h) (fun n => rfl) ?_
  obtain ⟨r1, hr1, hf⟩ := ab_bind_s hf
  refine ab_Ex.call (d := d + 2) (M2 := 309) (as := [.ref 1000010]) (rest := []) (fun n => rfl) rfl (Nat.not_lt.mpr (Nat.le_of_ble_eq_true rfl)) (sJ0_isLatin1_aae02_1000010 (d + 2) X  h _ hr1) (fun r hr => ?_)
  subst hr
  show ab_Ex X (d + 3) 305 4 [(0, .ref 1000010), (1, .int x0)] [.int r1] ab_SH (ab_dD h) _
  refine ab_Ex.ifc (c := r1 = 0) (SA := (16, [(0, .ref 1000010), (1, .int x0)], [], ab_dD h)) (SB := (7, [(0, .ref 1000010), (1, .int x0)], [], ab_dD h)) (fun n => rfl) (fun c2 => ?_) (fun c2 => ?_)
  · replace hf := (if_pos c2).symm.trans hf
    refine ab_Ex.blk (k := 3) (pc' := 21) (lv' := [(0, .ref 1000010), (1, .int x0)]) (st' := [.int x0, .ref 2000010]) (sh' := ab_SH) (D' := ab_dD h) (fun n => rfl) ?_
    cases hf
  · replace hf := (if_neg c2).symm.trans hf
    refine ab_Ex.blk (k := 3) (pc' := 12) (lv' := [(0, .ref 1000010), (1, .int x0)]) (st' := [.int x0, .ref 2000010]) (sh' := ab_SH) (D' := ab_dD h) (fun n => rfl) ?_
    obtain ⟨r3, hr3, hf⟩ := ab_bind_s hf
    refine ab_Ex.call (d := d + 2) (M2 := 311) (as := [.ref 2000010, .int x0]) (rest := []) (fun n => rfl) rfl (Nat.not_lt.mpr (Nat.le_of_ble_eq_true rfl)) (sJ1_charAt_3b067_2000010 (d) X x0 h _ hr3) (fun r hr => ?_)
    subst hr
    show ab_Ex X (d + 3) 305 15 [(0, .ref 1000010), (1, .int x0)] [.int r3] ab_SH (ab_dD h) _
    obtain ⟨c9, hf⟩ := ab_ask_s hf
    obtain rfl := Option.some.inj hf
    exact ab_Ex.retc (fun n => rfl) (Decidable.not_not.mp c9) rfl
set_option maxRecDepth 20000 in
theorem sJ0_charAt_5068e_1000011 (d : Nat) (X : abX) (x0 : Int32) (h : abJ) (z : Int32) (hf : fJ0_charAt_5068e 1000011 x0 h = some z) : ab_Ex X (d + 3) 305 0 [(0, .ref 1000011), (1, .int x0)] [] ab_SH (ab_dD h) (fun r => r = (some (.int z), ab_SH, ab_dD h)) := by
  unfold fJ0_charAt_5068e at hf
  try simp only [Nat.reduceAdd] at hf
  refine ab_Ex.blk (k := 1) (pc' := 1) (lv' := [(0, .ref 1000011), (1, .int x0)]) (st' := [.ref 1000011]) (sh' := ab_SH) (D' := ab_dD h) (fun n => rfl) ?_
  obtain ⟨r1, hr1, hf⟩ := ab_bind_s hf
  refine ab_Ex.call (d := d + 2) (M2 := 309) (as := [.ref 1000011]) (rest := []) (fun n => rfl) rfl (Nat.not_lt.mpr (Nat.le_of_ble_eq_true rfl)) (sJ0_isLatin1_aae02_1000011 (d + 2) X  h _ hr1) (fun r hr => ?_)
  subst hr
  show ab_Ex X (d + 3) 305 4 [(0, .ref 1000011), (1, .int x0)] [.int r1] ab_SH (ab_dD h) _
  refine ab_Ex.ifc (c := r1 = 0) (SA := (16, [(0, .ref 1000011), (1, .int x0)], [], ab_dD h)) (SB := (7, [(0, .ref 1000011), (1, .int x0)], [], ab_dD h)) (fun n => rfl) (fun c2 => ?_) (fun c2 => ?_)
  · replace hf := (if_pos c2).symm.trans hf
    refine ab_Ex.blk (k := 3) (pc' := 21) (lv' := [(0, .ref 1000011), (1, .int x0)]) (st' := [.int x0, .ref 2000011]) (sh' := ab_SH) (D' := ab_dD h) (fun n => rfl) ?_
    cases hf
  · replace hf := (if_neg c2).symm.trans hf
    refine ab_Ex.blk (k := 3) (pc' := 12) (lv' := [(0, .ref 1000011), (1, .int x0)]) (st' := [.int x0, .ref 2000011]) (sh' := ab_SH) (D' := ab_dD h) (fun n => rfl) ?_
    obtain ⟨r3, hr3, hf⟩ := ab_bind_s hf
    refine ab_Ex.call (d := d + 2) (M2 := 311) (as := [.ref 2000011, .int x0]) (rest := []) (fun n => rfl) rfl (Nat.not_lt.mpr (Nat.le_of_ble_eq_true rfl)) (sJ1_charAt_3b067_2000011 (d) X x0 h _ hr3) (fun r hr => ?_)
    subst hr
    show ab_Ex X (d + 3) 305 15 [(0, .ref 1000011), (1, .int x0)] [.int r3] ab_SH (ab_dD h) _
    obtain ⟨c9, hf⟩ := ab_ask_s hf
    obtain rfl := Option.some.inj hf
    exact ab_Ex.retc (fun n => rfl) (Decidable.not_not.mp c9) rfl
set_option maxRecDepth 20000 in
theorem sJ0_charAt_5068e_1000012 (d : Nat) (X : abX) (x0 : Int32) (h : abJ) (z : Int32) (hf : fJ0_charAt_5068e 1000012 x0 h = some z) : ab_Ex X (d + 3) 305 0 [(0, .ref 1000012), (1, .int x0)] [] ab_SH (ab_dD h) (fun r => r = (some (.int z), ab_SH, ab_dD h)) := by
  unfold fJ0_charAt_5068e at hf
  try simp only [Nat.reduceAdd] at hf
  refine ab_Ex.blk (k := 1) (pc' := 1) (lv' := [(0, .ref 1000012), (1, .int x0)]) (st' := [.ref 1000012]) (sh' := ab_SH) (D' := ab_dD h) (fun n => rfl) ?_
  obtain ⟨r1, hr1, hf⟩ := ab_bind_s hf
  refine ab_Ex.call (d := d + 2) (M2 := 309) (as := [.ref 1000012]) (rest := []) (fun n => rfl) rfl (Nat.not_lt.mpr (Nat.le_of_ble_eq_true rfl)) (sJ0_isLatin1_aae02_1000012 (d + 2) X  h _ hr1) (fun r hr => ?_)
  subst hr
  show ab_Ex X (d + 3) 305 4 [(0, .ref 1000012), (1, .int x0)] [.int r1] ab_SH (ab_dD h) _
  refine ab_Ex.ifc (c := r1 = 0) (SA := (16, [(0, .ref 1000012), (1, .int x0)], [], ab_dD h)) (SB := (7, [(0, .ref 1000012), (1, .int x0)], [], ab_dD h)) (fun n => rfl) (fun c2 => ?_) (fun c2 => ?_)
  · replace hf := (if_pos c2).symm.trans hf
    refine ab_Ex.blk (k := 3) (pc' := 21) (lv' := [(0, .ref 1000012), (1, .int x0)]) (st' := [.int x0, .ref 2000012]) (sh' := ab_SH) (D' := ab_dD h) (fun n => rfl) ?_
    cases hf
  · replace hf := (if_neg c2).symm.trans hf
    refine ab_Ex.blk (k := 3) (pc' := 12) (lv' := [(0, .ref 1000012), (1, .int x0)]) (st' := [.int x0, .ref 2000012]) (sh' := ab_SH) (D' := ab_dD h) (fun n => rfl) ?_
    obtain ⟨r3, hr3, hf⟩ := ab_bind_s hf
    refine ab_Ex.call (d := d + 2) (M2 := 311) (as := [.ref 2000012, .int x0]) (rest := []) (fun n => rfl) rfl (Nat.not_lt.mpr (Nat.le_of_ble_eq_true rfl)) (sJ1_charAt_3b067_2000012 (d) X x0 h _ hr3) (fun r hr => ?_)
    subst hr
    show ab_Ex X (d + 3) 305 15 [(0, .ref 1000012), (1, .int x0)] [.int r3] ab_SH (ab_dD h) _
    obtain ⟨c9, hf⟩ := ab_ask_s hf
    obtain rfl := Option.some.inj hf
    exact ab_Ex.retc (fun n => rfl) (Decidable.not_not.mp c9) rfl
set_option maxRecDepth 20000 in
theorem sJ0_charAt_5068e_1000013 (d : Nat) (X : abX) (x0 : Int32) (h : abJ) (z : Int32) (hf : fJ0_charAt_5068e 1000013 x0 h = some z) : ab_Ex X (d + 3) 305 0 [(0, .ref 1000013), (1, .int x0)] [] ab_SH (ab_dD h) (fun r => r = (some (.int z), ab_SH, ab_dD h)) := by
  unfold fJ0_charAt_5068e at hf
  try simp only [Nat.reduceAdd] at hf
  refine ab_Ex.blk (k := 1) (pc' := 1) (lv' := [(0, .ref 1000013), (1, .int x0)]) (st' := [.ref 1000013]) (sh' := ab_SH) (D' := ab_dD h) (fun n => rfl) ?_
  obtain ⟨r1, hr1, hf⟩ := ab_bind_s hf
  refine ab_Ex.call (d := d + 2) (M2 := 309) (as := [.ref 1000013]) (rest := []) (fun n => rfl) rfl (Nat.not_lt.mpr (Nat.le_of_ble_eq_true rfl)) (sJ0_isLatin1_aae02_1000013 (d + 2) X  h _ hr1) (fun r hr => ?_)
  subst hr
  show ab_Ex X (d + 3) 305 4 [(0, .ref 1000013), (1, .int x0)] [.int r1] ab_SH (ab_dD h) _
  refine ab_Ex.ifc (c := r1 = 0) (SA := (16, [(0, .ref 1000013), (1, .int x0)], [], ab_dD h)) (SB := (7, [(0, .ref 1000013), (1, .int x0)], [], ab_dD h)) (fun n => rfl) (fun c2 => ?_) (fun c2 => ?_)
  · replace hf := (if_pos c2).symm.trans hf
    refine ab_Ex.blk (k := 3) (pc' := 21) (lv' := [(0, .ref 1000013), (1, .int x0)]) (st' := [.int x0, .ref 2000013]) (sh' := ab_SH) (D' := ab_dD h) (fun n => rfl) ?_
    cases hf
  · replace hf := (if_neg c2).symm.trans hf
    refine ab_Ex.blk (k := 3) (pc' := 12) (lv' := [(0, .ref 1000013), (1, .int x0)]) (st' := [.int x0, .ref 2000013]) (sh' := ab_SH) (D' := ab_dD h) (fun n => rfl) ?_
    obtain ⟨r3, hr3, hf⟩ := ab_bind_s hf
    refine ab_Ex.call (d := d + 2) (M2 := 311) (as := [.ref 2000013, .int x0]) (rest := []) (fun n => rfl) rfl (Nat.not_lt.mpr (Nat.le_of_ble_eq_true rfl)) (sJ1_charAt_3b067_2000013 (d) X x0 h _ hr3) (fun r hr => ?_)
    subst hr
    show ab_Ex X (d + 3) 305 15 [(0, .ref 1000013), (1, .int x0)] [.int r3] ab_SH (ab_dD h) _
    obtain ⟨c9, hf⟩ := ab_ask_s hf
    obtain rfl := Option.some.inj hf
    exact ab_Ex.retc (fun n => rfl) (Decidable.not_not.mp c9) rfl
set_option maxRecDepth 20000 in
theorem sJ0_charAt_5068e_1000014 (d : Nat) (X : abX) (x0 : Int32) (h : abJ) (z : Int32) (hf : fJ0_charAt_5068e 1000014 x0 h = some z) : ab_Ex X (d + 3) 305 0 [(0, .ref 1000014), (1, .int x0)] [] ab_SH (ab_dD h) (fun r => r = (some (.int z), ab_SH, ab_dD h)) := by
  unfold fJ0_charAt_5068e at hf
  try simp only [Nat.reduceAdd] at hf
  refine ab_Ex.blk (k := 1) (pc' := 1) (lv' := [(0, .ref 1000014), (1, .int x0)]) (st' := [.ref 1000014]) (sh' := ab_SH) (D' := ab_dD h) (fun n => rfl) ?_
  obtain ⟨r1, hr1, hf⟩ := ab_bind_s hf
  refine ab_Ex.call (d := d + 2) (M2 := 309) (as := [.ref 1000014]) (rest := []) (fun n => rfl) rfl (Nat.not_lt.mpr (Nat.le_of_ble_eq_true rfl)) (sJ0_isLatin1_aae02_1000014 (d + 2) X  h _ hr1) (fun r hr => ?_)
  subst hr
  show ab_Ex X (d + 3) 305 4 [(0, .ref 1000014), (1, .int x0)] [.int r1] ab_SH (ab_dD h) _
  refine ab_Ex.ifc (c := r1 = 0) (SA := (16, [(0, .ref 1000014), (1, .int x0)], [], ab_dD h)) (SB := (7, [(0, .ref 1000014), (1, .int x0)], [], ab_dD h)) (fun n => rfl) (fun c2 => ?_) (fun c2 => ?_)
  · replace hf := (if_pos c2).symm.trans hf
    refine ab_Ex.blk (k := 3) (pc' := 21) (lv' := [(0, .ref 1000014), (1, .int x0)]) (st' := [.int x0, .ref 2000014]) (sh' := ab_SH) (D' := ab_dD h) (fun n => rfl) ?_
    cases hf
  · replace hf := (if_neg c2).symm.trans hf
    refine ab_Ex.blk (k := 3) (pc' := 12) (lv' := [(0, .ref 1000014), (1, .int x0)]) (st' := [.int x0, .ref 2000014]) (sh' := ab_SH) (D' := ab_dD h) (fun n => rfl) ?_
    obtain ⟨r3, hr3, hf⟩ := ab_bind_s hf
    refine ab_Ex.call (d := d + 2) (M2 := 311) (as := [.ref 2000014, .int x0]) (rest := []) (fun n => rfl) rfl (Nat.not_lt.mpr (Nat.le_of_ble_eq_true rfl)) (sJ1_charAt_3b067_2000014 (d) X x0 h _ hr3) (fun r hr => ?_)
    subst hr
    show ab_Ex X (d + 3) 305 15 [(0, .ref 1000014), (1, .int x0)] [.int r3] ab_SH (ab_dD h) _
    obtain ⟨c9, hf⟩ := ab_ask_s hf
    obtain rfl := Option.some.inj hf
    exact ab_Ex.retc (fun n => rfl) (Decidable.not_not.mp c9) rfl
set_option maxRecDepth 20000 in
theorem sJ0_charAt_5068e_1000015 (d : Nat) (X : abX) (x0 : Int32) (h : abJ) (z : Int32) (hf : fJ0_charAt_5068e 1000015 x0 h = some z) : ab_Ex X (d + 3) 305 0 [(0, .ref 1000015), (1, .int x0)] [] ab_SH (ab_dD h) (fun r => r = (some (.int z), ab_SH, ab_dD h)) := by
  unfold fJ0_charAt_5068e at hf
  try simp only [Nat.reduceAdd] at hf
  refine ab_Ex.blk (k := 1) (pc' := 1) (lv' := [(0, .ref 1000015), (1, .int x0)]) (st' := [.ref 1000015]) (sh' := ab_SH) (D' := ab_dD h) (fun n => rfl) ?_
  obtain ⟨r1, hr1, hf⟩ := ab_bind_s hf
  refine ab_Ex.call (d := d + 2) (M2 := 309) (as := [.ref 1000015]) (rest := []) (fun n => rfl) rfl (Nat.not_lt.mpr (Nat.le_of_ble_eq_true rfl)) (sJ0_isLatin1_aae02_1000015 (d + 2) X  h _ hr1) (fun r hr => ?_)
  subst hr
  show ab_Ex X (d + 3) 305 4 [(0, .ref 1000015), (1, .int x0)] [.int r1] ab_SH (ab_dD h) _
  refine ab_Ex.ifc (c := r1 = 0) (SA := (16, [(0, .ref 1000015), (1, .int x0)], [], ab_dD h)) (SB := (7, [(0, .ref 1000015), (1, .int x0)], [], ab_dD h)) (fun n => rfl) (fun c2 => ?_) (fun c2 => ?_)
  · replace hf := (if_pos c2).symm.trans hf
    refine ab_Ex.blk (k := 3) (pc' := 21) (lv' := [(0, .ref 1000015), (1, .int x0)]) (st' := [.int x0, .ref 2000015]) (sh' := ab_SH) (D' := ab_dD h) (fun n => rfl) ?_
    cases hf
  · replace hf := (if_neg c2).symm.trans hf
    refine ab_Ex.blk (k := 3) (pc' := 12) (lv' := [(0, .ref 1000015), (1, .int x0)]) (st' := [.int x0, .ref 2000015]) (sh' := ab_SH) (D' := ab_dD h) (fun n => rfl) ?_
    obtain ⟨r3, hr3, hf⟩ := ab_bind_s hf
    refine ab_Ex.call (d := d + 2) (M2 := 311) (as := [.ref 2000015, .int x0]) (rest := []) (fun n => rfl) rfl (Nat.not_lt.mpr (Nat.le_of_ble_eq_true rfl)) (sJ1_charAt_3b067_2000015 (d) X x0 h _ hr3) (fun r hr => ?_)
    subst hr
    show ab_Ex X (d + 3) 305 15 [(0, .ref 1000015), (1, .int x0)] [.int r3] ab_SH (ab_dD h) _
    obtain ⟨c9, hf⟩ := ab_ask_s hf
    obtain rfl := Option.some.inj hf
    exact ab_Ex.retc (fun n => rfl) (Decidable.not_not.mp c9) rfl
set_option maxRecDepth 20000 in
theorem sJ0_charAt_5068e_1000016 (d : Nat) (X : abX) (x0 : Int32) (h : abJ) (z : Int32) (hf : fJ0_charAt_5068e 1000016 x0 h = some z) : ab_Ex X (d + 3) 305 0 [(0, .ref 1000016), (1, .int x0)] [] ab_SH (ab_dD h) (fun r => r = (some (.int z), ab_SH, ab_dD h)) := by
  unfold fJ0_charAt_5068e at hf
  try simp only [Nat.reduceAdd] at hf
  refine ab_Ex.blk (k := 1) (pc' := 1) (lv' := [(0, .ref 1000016), (1, .int x0)]) (st' := [.ref 1000016]) (sh' := ab_SH) (D' := ab_dD h) (fun n => rfl) ?_
  obtain ⟨r1, hr1, hf⟩ := ab_bind_s hf
  refine ab_Ex.call (d := d + 2) (M2 := 309) (as := [.ref 1000016]) (rest := []) (fun n => rfl) rfl (Nat.not_lt.mpr (Nat.le_of_ble_eq_true rfl)) (sJ0_isLatin1_aae02_1000016 (d + 2) X  h _ hr1) (fun r hr => ?_)
  subst hr
  show ab_Ex X (d + 3) 305 4 [(0, .ref 1000016), (1, .int x0)] [.int r1] ab_SH (ab_dD h) _
  refine ab_Ex.ifc (c := r1 = 0) (SA := (16, [(0, .ref 1000016), (1, .int x0)], [], ab_dD h)) (SB := (7, [(0, .ref 1000016), (1, .int x0)], [], ab_dD h)) (fun n => rfl) (fun c2 => ?_) (fun c2 => ?_)
  · replace hf := (if_pos c2).symm.trans hf
    refine ab_Ex.blk (k := 3) (pc' := 21) (lv' := [(0, .ref 1000016), (1, .int x0)]) (st' := [.int x0, .ref 2000016]) (sh' := ab_SH) (D' := ab_dD h) (fun n => rfl) ?_
    cases hf
  · replace hf := (if_neg c2).symm.trans hf
    refine ab_Ex.blk (k := 3) (pc' := 12) (lv' := [(0, .ref 1000016), (1, .int x0)]) (st' := [.int x0, .ref 2000016]) (sh' := ab_SH) (D' := ab_dD h) (fun n => rfl) ?_
    obtain ⟨r3, hr3, hf⟩ := ab_bind_s hf
    refine ab_Ex.call (d := d + 2) (M2 := 311) (as := [.ref 2000016, .int x0]) (rest := []) (fun n => rfl) rfl (Nat.not_lt.mpr (Nat.le_of_ble_eq_true rfl)) (sJ1_charAt_3b067_2000016 (d) X x0 h _ hr3) (fun r hr => ?_)
    subst hr
    show ab_Ex X (d + 3) 305 15 [(0, .ref 1000016), (1, .int x0)] [.int r3] ab_SH (ab_dD h) _
    obtain ⟨c9, hf⟩ := ab_ask_s hf
    obtain rfl := Option.some.inj hf
    exact ab_Ex.retc (fun n => rfl) (Decidable.not_not.mp c9) rfl
set_option maxRecDepth 20000 in
theorem sJ0_charAt_5068e_1000017 (d : Nat) (X : abX) (x0 : Int32) (h : abJ) (z : Int32) (hf : fJ0_charAt_5068e 1000017 x0 h = some z) : ab_Ex X (d + 3) 305 0 [(0, .ref 1000017), (1, .int x0)] [] ab_SH (ab_dD h) (fun r => r = (some (.int z), ab_SH, ab_dD h)) := by
  unfold fJ0_charAt_5068e at hf
  try simp only [Nat.reduceAdd] at hf
  refine ab_Ex.blk (k := 1) (pc' := 1) (lv' := [(0, .ref 1000017), (1, .int x0)]) (st' := [.ref 1000017]) (sh' := ab_SH) (D' := ab_dD h) (fun n => rfl) ?_
  obtain ⟨r1, hr1, hf⟩ := ab_bind_s hf
  refine ab_Ex.call (d := d + 2) (M2 := 309) (as := [.ref 1000017]) (rest := []) (fun n => rfl) rfl (Nat.not_lt.mpr (Nat.le_of_ble_eq_true rfl)) (sJ0_isLatin1_aae02_1000017 (d + 2) X  h _ hr1) (fun r hr => ?_)
  subst hr
  show ab_Ex X (d + 3) 305 4 [(0, .ref 1000017), (1, .int x0)] [.int r1] ab_SH (ab_dD h) _
  refine ab_Ex.ifc (c := r1 = 0) (SA := (16, [(0, .ref 1000017), (1, .int x0)], [], ab_dD h)) (SB := (7, [(0, .ref 1000017), (1, .int x0)], [], ab_dD h)) (fun n => rfl) (fun c2 => ?_) (fun c2 => ?_)
  · replace hf := (if_pos c2).symm.trans hf
    refine ab_Ex.blk (k := 3) (pc' := 21) (lv' := [(0, .ref 1000017), (1, .int x0)]) (st' := [.int x0, .ref 2000017]) (sh' := ab_SH) (D' := ab_dD h) (fun n => rfl) ?_
    cases hf
  · replace hf := (if_neg c2).symm.trans hf
    refine ab_Ex.blk (k := 3) (pc' := 12) (lv' := [(0, .ref 1000017), (1, .int x0)]) (st' := [.int x0, .ref 2000017]) (sh' := ab_SH) (D' := ab_dD h) (fun n => rfl) ?_
    obtain ⟨r3, hr3, hf⟩ := ab_bind_s hf
    refine ab_Ex.call (d := d + 2) (M2 := 311) (as := [.ref 2000017, .int x0]) (rest := []) (fun n => rfl) rfl (Nat.not_lt.mpr (Nat.le_of_ble_eq_true rfl)) (sJ1_charAt_3b067_2000017 (d) X x0 h _ hr3) (fun r hr => ?_)
    subst hr
    show ab_Ex X (d + 3) 305 15 [(0, .ref 1000017), (1, .int x0)] [.int r3] ab_SH (ab_dD h) _
    obtain ⟨c9, hf⟩ := ab_ask_s hf
    obtain rfl := Option.some.inj hf
    exact ab_Ex.retc (fun n => rfl) (Decidable.not_not.mp c9) rfl
set_option maxRecDepth 20000 in
theorem sJ0_charAt_5068e_1000018 (d : Nat) (X : abX) (x0 : Int32) (h : abJ) (z : Int32) (hf : fJ0_charAt_5068e 1000018 x0 h = some z) : ab_Ex X (d + 3) 305 0 [(0, .ref 1000018), (1, .int x0)] [] ab_SH (ab_dD h) (fun r => r = (some (.int z), ab_SH, ab_dD h)) := by
  unfold fJ0_charAt_5068e at hf
  try simp only [Nat.reduceAdd] at hf
  refine ab_Ex.blk (k := 1) (pc' := 1) (lv' := [(0, .ref 1000018), (1, .int x0)]) (st' := [.ref 1000018]) (sh' := ab_SH) (D' := ab_dD h) (fun n => rfl) ?_
  obtain ⟨r1, hr1, hf⟩ := ab_bind_s hf
  refine ab_Ex.call (d := d + 2) (M2 := 309) (as := [.ref 1000018]) (rest := []) (fun n => rfl) rfl (Nat.not_lt.mpr (Nat.le_of_ble_eq_true rfl)) (sJ0_isLatin1_aae02_1000018 (d + 2) X  h _ hr1) (fun r hr => ?_)
  subst hr
  show ab_Ex X (d + 3) 305 4 [(0, .ref 1000018), (1, .int x0)] [.int r1] ab_SH (ab_dD h) _
  refine ab_Ex.ifc (c := r1 = 0) (SA := (16, [(0, .ref 1000018), (1, .int x0)], [], ab_dD h)) (SB := (7, [(0, .ref 1000018), (1, .int x0)], [], ab_dD h)) (fun n => rfl) (fun c2 => ?_) (fun c2 => ?_)
  · replace hf := (if_pos c2).symm.trans hf
    refine ab_Ex.blk (k := 3) (pc' := 21) (lv' := [(0, .ref 1000018), (1, .int x0)]) (st' := [.int x0, .ref 2000018]) (sh' := ab_SH) (D' := ab_dD h) (fun n => rfl) ?_
    cases hf
  · replace hf := (if_neg c2).symm.trans hf
    refine ab_Ex.blk (k := 3) (pc' := 12) (lv' := [(0, .ref 1000018), (1, .int x0)]) (st' := [.int x0, .ref 2000018]) (sh' := ab_SH) (D' := ab_dD h) (fun n => rfl) ?_
    obtain ⟨r3, hr3, hf⟩ := ab_bind_s hf
    refine ab_Ex.call (d := d + 2) (M2 := 311) (as := [.ref 2000018, .int x0]) (rest := []) (fun n => rfl) rfl (Nat.not_lt.mpr (Nat.le_of_ble_eq_true rfl)) (sJ1_charAt_3b067_2000018 (d) X x0 h _ hr3) (fun r hr => ?_)
    subst hr
    show ab_Ex X (d + 3) 305 15 [(0, .ref 1000018), (1, .int x0)] [.int r3] ab_SH (ab_dD h) _
    obtain ⟨c9, hf⟩ := ab_ask_s hf
    obtain rfl := Option.some.inj hf
    exact ab_Ex.retc (fun n => rfl) (Decidable.not_not.mp c9) rfl
set_option maxRecDepth 20000 in
theorem sJ0_charAt_5068e_1000019 (d : Nat) (X : abX) (x0 : Int32) (h : abJ) (z : Int32) (hf : fJ0_charAt_5068e 1000019 x0 h = some z) : ab_Ex X (d + 3) 305 0 [(0, .ref 1000019), (1, .int x0)] [] ab_SH (ab_dD h) (fun r => r = (some (.int z), ab_SH, ab_dD h)) := by
  unfold fJ0_charAt_5068e at hf
  try simp only [Nat.reduceAdd] at hf
  refine ab_Ex.blk (k := 1) (pc' := 1) (lv' := [(0, .ref 1000019), (1, .int x0)]) (st' := [.ref 1000019]) (sh' := ab_SH) (D' := ab_dD h) (fun n => rfl) ?_
  obtain ⟨r1, hr1, hf⟩ := ab_bind_s hf
  refine ab_Ex.call (d := d + 2) (M2 := 309) (as := [.ref 1000019]) (rest := []) (fun n => rfl) rfl (Nat.not_lt.mpr (Nat.le_of_ble_eq_true rfl)) (sJ0_isLatin1_aae02_1000019 (d + 2) X  h _ hr1) (fun r hr => ?_)
  subst hr
  show ab_Ex X (d + 3) 305 4 [(0, .ref 1000019), (1, .int x0)] [.int r1] ab_SH (ab_dD h) _
  refine ab_Ex.ifc (c := r1 = 0) (SA := (16, [(0, .ref 1000019), (1, .int x0)], [], ab_dD h)) (SB := (7, [(0, .ref 1000019), (1, .int x0)], [], ab_dD h)) (fun n => rfl) (fun c2 => ?_) (fun c2 => ?_)
  · replace hf := (if_pos c2).symm.trans hf
    refine ab_Ex.blk (k := 3) (pc' := 21) (lv' := [(0, .ref 1000019), (1, .int x0)]) (st' := [.int x0, .ref 2000019]) (sh' := ab_SH) (D' := ab_dD h) (fun n => rfl) ?_
    cases hf
  · replace hf := (if_neg c2).symm.trans hf
    refine ab_Ex.blk (k := 3) (pc' := 12) (lv' := [(0, .ref 1000019), (1, .int x0)]) (st' := [.int x0, .ref 2000019]) (sh' := ab_SH) (D' := ab_dD h) (fun n => rfl) ?_
    obtain ⟨r3, hr3, hf⟩ := ab_bind_s hf
    refine ab_Ex.call (d := d + 2) (M2 := 311) (as := [.ref 2000019, .int x0]) (rest := []) (fun n => rfl) rfl (Nat.not_lt.mpr (Nat.le_of_ble_eq_true rfl)) (sJ1_charAt_3b067_2000019 (d) X x0 h _ hr3) (fun r hr => ?_)
    subst hr
    show ab_Ex X (d + 3) 305 15 [(0, .ref 1000019), (1, .int x0)] [.int r3] ab_SH (ab_dD h) _
    obtain ⟨c9, hf⟩ := ab_ask_s hf
    obtain rfl := Option.some.inj hf
    exact ab_Ex.retc (fun n => rfl) (Decidable.not_not.mp c9) rfl
set_option maxRecDepth 20000 in
theorem sJ0_charAt_5068e_1000020 (d : Nat) (X : abX) (x0 : Int32) (h : abJ) (z : Int32) (hf : fJ0_charAt_5068e 1000020 x0 h = some z) : ab_Ex X (d + 3) 305 0 [(0, .ref 1000020), (1, .int x0)] [] ab_SH (ab_dD h) (fun r => r = (some (.int z), ab_SH, ab_dD h)) := by
  unfold fJ0_charAt_5068e at hf
  try simp only [Nat.reduceAdd] at hf
  refine ab_Ex.blk (k := 1) (pc' := 1) (lv' := [(0, .ref 1000020), (1, .int x0)]) (st' := [.ref 1000020]) (sh' := ab_SH) (D' := ab_dD h) (fun n => rfl) ?_
  obtain ⟨r1, hr1, hf⟩ := ab_bind_s hf
  refine ab_Ex.call (d := d + 2) (M2 := 309) (as := [.ref 1000020]) (rest := []) (fun n => rfl) rfl (Nat.not_lt.mpr (Nat.le_of_ble_eq_true rfl)) (sJ0_isLatin1_aae02_1000020 (d + 2) X  h _ hr1) (fun r hr => ?_)
  subst hr
  show ab_Ex X (d + 3) 305 4 [(0, .ref 1000020), (1, .int x0)] [.int r1] ab_SH (ab_dD h) _
  refine ab_Ex.ifc (c := r1 = 0) (SA := (16, [(0, .ref 1000020), (1, .int x0)], [], ab_dD h)) (SB := (7, [(0, .ref 1000020), (1, .int x0)], [], ab_dD h)) (fun n => rfl) (fun c2 => ?_) (fun c2 => ?_)
  · replace hf := (if_pos c2).symm.trans hf
    refine ab_Ex.blk (k := 3) (pc' := 21) (lv' := [(0, .ref 1000020), (1, .int x0)]) (st' := [.int x0, .ref 2000020]) (sh' := ab_SH) (D' := ab_dD h) (fun n => rfl) ?_
    cases hf
  · replace hf := (if_neg c2).symm.trans hf
    refine ab_Ex.blk (k := 3) (pc' := 12) (lv' := [(0, .ref 1000020), (1, .int x0)]) (st' := [.int x0, .ref 2000020]) (sh' := ab_SH) (D' := ab_dD h) (fun n => rfl) ?_
    obtain ⟨r3, hr3, hf⟩ := ab_bind_s hf
    refine ab_Ex.call (d := d + 2) (M2 := 311) (as := [.ref 2000020, .int x0]) (rest := []) (fun n => rfl) rfl (Nat.not_lt.mpr (Nat.le_of_ble_eq_true rfl)) (sJ1_charAt_3b067_2000020 (d) X x0 h _ hr3) (fun r hr => ?_)
    subst hr
    show ab_Ex X (d + 3) 305 15 [(0, .ref 1000020), (1, .int x0)] [.int r3] ab_SH (ab_dD h) _
    obtain ⟨c9, hf⟩ := ab_ask_s hf
    obtain rfl := Option.some.inj hf
    exact ab_Ex.retc (fun n => rfl) (Decidable.not_not.mp c9) rfl
set_option maxRecDepth 20000 in
theorem sJ0_charAt_5068e_1000021 (d : Nat) (X : abX) (x0 : Int32) (h : abJ) (z : Int32) (hf : fJ0_charAt_5068e 1000021 x0 h = some z) : ab_Ex X (d + 3) 305 0 [(0, .ref 1000021), (1, .int x0)] [] ab_SH (ab_dD h) (fun r => r = (some (.int z), ab_SH, ab_dD h)) := by
  unfold fJ0_charAt_5068e at hf
  try simp only [Nat.reduceAdd] at hf
  refine ab_Ex.blk (k := 1) (pc' := 1) (lv' := [(0, .ref 1000021), (1, .int x0)]) (st' := [.ref 1000021]) (sh' := ab_SH) (D' := ab_dD h) (fun n => rfl) ?_
  obtain ⟨r1, hr1, hf⟩ := ab_bind_s hf
  refine ab_Ex.call (d := d + 2) (M2 := 309) (as := [.ref 1000021]) (rest := []) (fun n => rfl) rfl (Nat.not_lt.mpr (Nat.le_of_ble_eq_true rfl)) (sJ0_isLatin1_aae02_1000021 (d + 2) X  h _ hr1) (fun r hr => ?_)
  subst hr
  show ab_Ex X (d + 3) 305 4 [(0, .ref 1000021), (1, .int x0)] [.int r1] ab_SH (ab_dD h) _
  refine ab_Ex.ifc (c := r1 = 0) (SA := (16, [(0, .ref 1000021), (1, .int x0)], [], ab_dD h)) (SB := (7, [(0, .ref 1000021), (1, .int x0)], [], ab_dD h)) (fun n => rfl) (fun c2 => ?_) (fun c2 => ?_)
  · replace hf := (if_pos c2).symm.trans hf
    refine ab_Ex.blk (k := 3) (pc' := 21) (lv' := [(0, .ref 1000021), (1, .int x0)]) (st' := [.int x0, .ref 2000021]) (sh' := ab_SH) (D' := ab_dD h) (fun n => rfl) ?_
    cases hf
  · replace hf := (if_neg c2).symm.trans hf
    refine ab_Ex.blk (k := 3) (pc' := 12) (lv' := [(0, .ref 1000021), (1, .int x0)]) (st' := [.int x0, .ref 2000021]) (sh' := ab_SH) (D' := ab_dD h) (fun n => rfl) ?_
    obtain ⟨r3, hr3, hf⟩ := ab_bind_s hf
    refine ab_Ex.call (d := d + 2) (M2 := 311) (as := [.ref 2000021, .int x0]) (rest := []) (fun n => rfl) rfl (Nat.not_lt.mpr (Nat.le_of_ble_eq_true rfl)) (sJ1_charAt_3b067_2000021 (d) X x0 h _ hr3) (fun r hr => ?_)
    subst hr
    show ab_Ex X (d + 3) 305 15 [(0, .ref 1000021), (1, .int x0)] [.int r3] ab_SH (ab_dD h) _
    obtain ⟨c9, hf⟩ := ab_ask_s hf
    obtain rfl := Option.some.inj hf
    exact ab_Ex.retc (fun n => rfl) (Decidable.not_not.mp c9) rfl
set_option maxRecDepth 20000 in
theorem sJ0_charAt_5068e_1000022 (d : Nat) (X : abX) (x0 : Int32) (h : abJ) (z : Int32) (hf : fJ0_charAt_5068e 1000022 x0 h = some z) : ab_Ex X (d + 3) 305 0 [(0, .ref 1000022), (1, .int x0)] [] ab_SH (ab_dD h) (fun r => r = (some (.int z), ab_SH, ab_dD h)) := by
  unfold fJ0_charAt_5068e at hf
  try simp only [Nat.reduceAdd] at hf
  refine ab_Ex.blk (k := 1) (pc' := 1) (lv' := [(0, .ref 1000022), (1, .int x0)]) (st' := [.ref 1000022]) (sh' := ab_SH) (D' := ab_dD h) (fun n => rfl) ?_
  obtain ⟨r1, hr1, hf⟩ := ab_bind_s hf
  refine ab_Ex.call (d := d + 2) (M2 := 309) (as := [.ref 1000022]) (rest := []) (fun n => rfl) rfl (Nat.not_lt.mpr (Nat.le_of_ble_eq_true rfl)) (sJ0_isLatin1_aae02_1000022 (d + 2) X  h _ hr1) (fun r hr => ?_)
  subst hr
  show ab_Ex X (d + 3) 305 4 [(0, .ref 1000022), (1, .int x0)] [.int r1] ab_SH (ab_dD h) _
  refine ab_Ex.ifc (c := r1 = 0) (SA := (16, [(0, .ref 1000022), (1, .int x0)], [], ab_dD h)) (SB := (7, [(0, .ref 1000022), (1, .int x0)], [], ab_dD h)) (fun n => rfl) (fun c2 => ?_) (fun c2 => ?_)
  · replace hf := (if_pos c2).symm.trans hf
    refine ab_Ex.blk (k := 3) (pc' := 21) (lv' := [(0, .ref 1000022), (1, .int x0)]) (st' := [.int x0, .ref 2000022]) (sh' := ab_SH) (D' := ab_dD h) (fun n => rfl) ?_
    cases hf
  · replace hf := (if_neg c2).symm.trans hf
    refine ab_Ex.blk (k := 3) (pc' := 12) (lv' := [(0, .ref 1000022), (1, .int x0)]) (st' := [.int x0, .ref 2000022]) (sh' := ab_SH) (D' := ab_dD h) (fun n => rfl) ?_
    obtain ⟨r3, hr3, hf⟩ := ab_bind_s hf
    refine ab_Ex.call (d := d + 2) (M2 := 311) (as := [.ref 2000022, .int x0]) (rest := []) (fun n => rfl) rfl (Nat.not_lt.mpr (Nat.le_of_ble_eq_true rfl)) (sJ1_charAt_3b067_2000022 (d) X x0 h _ hr3) (fun r hr => ?_)
    subst hr
    show ab_Ex X (d + 3) 305 15 [(0, .ref 1000022), (1, .int x0)] [.int r3] ab_SH (ab_dD h) _
    obtain ⟨c9, hf⟩ := ab_ask_s hf
    obtain rfl := Option.some.inj hf
    exact ab_Ex.retc (fun n => rfl) (Decidable.not_not.mp c9) rfl
set_option maxRecDepth 20000 in
theorem sJ0_charAt_5068e_1000023 (d : Nat) (X : abX) (x0 : Int32) (h : abJ) (z : Int32) (hf : fJ0_charAt_5068e 1000023 x0 h = some z) : ab_Ex X (d + 3) 305 0 [(0, .ref 1000023), (1, .int x0)] [] ab_SH (ab_dD h) (fun r => r = (some (.int z), ab_SH, ab_dD h)) := by
  unfold fJ0_charAt_5068e at hf
  try simp only [Nat.reduceAdd] at hf
  refine ab_Ex.blk (k := 1) (pc' := 1) (lv' := [(0, .ref 1000023), (1, .int x0)]) (st' := [.ref 1000023]) (sh' := ab_SH) (D' := ab_dD h) (fun n => rfl) ?_
  obtain ⟨r1, hr1, hf⟩ := ab_bind_s hf
  refine ab_Ex.call (d := d + 2) (M2 := 309) (as := [.ref 1000023]) (rest := []) (fun n => rfl) rfl (Nat.not_lt.mpr (Nat.le_of_ble_eq_true rfl)) (sJ0_isLatin1_aae02_1000023 (d + 2) X  h _ hr1) (fun r hr => ?_)
  subst hr
  show ab_Ex X (d + 3) 305 4 [(0, .ref 1000023), (1, .int x0)] [.int r1] ab_SH (ab_dD h) _
  refine ab_Ex.ifc (c := r1 = 0) (SA := (16, [(0, .ref 1000023), (1, .int x0)], [], ab_dD h)) (SB := (7, [(0, .ref 1000023), (1, .int x0)], [], ab_dD h)) (fun n => rfl) (fun c2 => ?_) (fun c2 => ?_)
  · replace hf := (if_pos c2).symm.trans hf
    refine ab_Ex.blk (k := 3) (pc' := 21) (lv' := [(0, .ref 1000023), (1, .int x0)]) (st' := [.int x0, .ref 2000023]) (sh' := ab_SH) (D' := ab_dD h) (fun n => rfl) ?_
    cases hf
  · replace hf := (if_neg c2).symm.trans hf
    refine ab_Ex.blk (k := 3) (pc' := 12) (lv' := [(0, .ref 1000023), (1, .int x0)]) (st' := [.int x0, .ref 2000023]) (sh' := ab_SH) (D' := ab_dD h) (fun n => rfl) ?_
    obtain ⟨r3, hr3, hf⟩ := ab_bind_s hf
    refine ab_Ex.call (d := d + 2) (M2 := 311) (as := [.ref 2000023, .int x0]) (rest := []) (fun n => rfl) rfl (Nat.not_lt.mpr (Nat.le_of_ble_eq_true rfl)) (sJ1_charAt_3b067_2000023 (d) X x0 h _ hr3) (fun r hr => ?_)
    subst hr
    show ab_Ex X (d + 3) 305 15 [(0, .ref 1000023), (1, .int x0)] [.int r3] ab_SH (ab_dD h) _
    obtain ⟨c9, hf⟩ := ab_ask_s hf
    obtain rfl := Option.some.inj hf
    exact ab_Ex.retc (fun n => rfl) (Decidable.not_not.mp c9) rfl
set_option maxRecDepth 20000 in
theorem sJ0_charAt_5068e_1000024 (d : Nat) (X : abX) (x0 : Int32) (h : abJ) (z : Int32) (hf : fJ0_charAt_5068e 1000024 x0 h = some z) : ab_Ex X (d + 3) 305 0 [(0, .ref 1000024), (1, .int x0)] [] ab_SH (ab_dD h) (fun r => r = (some (.int z), ab_SH, ab_dD h)) := by
  unfold fJ0_charAt_5068e at hf
  try simp only [Nat.reduceAdd] at hf
  refine ab_Ex.blk (k := 1) (pc' := 1) (lv' := [(0, .ref 1000024), (1, .int x0)]) (st' := [.ref 1000024]) (sh' := ab_SH) (D' := ab_dD h) (fun n => rfl) ?_
  obtain ⟨r1, hr1, hf⟩ := ab_bind_s hf
  refine ab_Ex.call (d := d + 2) (M2 := 309) (as := [.ref 1000024]) (rest := []) (fun n => rfl) rfl (Nat.not_lt.mpr (Nat.le_of_ble_eq_true rfl)) (sJ0_isLatin1_aae02_1000024 (d + 2) X  h _ hr1) (fun r hr => ?_)
  subst hr
  show ab_Ex X (d + 3) 305 4 [(0, .ref 1000024), (1, .int x0)] [.int r1] ab_SH (ab_dD h) _
  refine ab_Ex.ifc (c := r1 = 0) (SA := (16, [(0, .ref 1000024), (1, .int x0)], [], ab_dD h)) (SB := (7, [(0, .ref 1000024), (1, .int x0)], [], ab_dD h)) (fun n => rfl) (fun c2 => ?_) (fun c2 => ?_)
  · replace hf := (if_pos c2).symm.trans hf
    refine ab_Ex.blk (k := 3) (pc' := 21) (lv' := [(0, .ref 1000024), (1, .int x0)]) (st' := [.int x0, .ref 2000024]) (sh' := ab_SH) (D' := ab_dD h) (fun n => rfl) ?_
    cases hf
  · replace hf := (if_neg c2).symm.trans hf
    refine ab_Ex.blk (k := 3) (pc' := 12) (lv' := [(0, .ref 1000024), (1, .int x0)]) (st' := [.int x0, .ref 2000024]) (sh' := ab_SH) (D' := ab_dD h) (fun n => rfl) ?_
    obtain ⟨r3, hr3, hf⟩ := ab_bind_s hf
    refine ab_Ex.call (d := d + 2) (M2 := 311) (as := [.ref 2000024, .int x0]) (rest := []) (fun n => rfl) rfl (Nat.not_lt.mpr (Nat.le_of_ble_eq_true rfl)) (sJ1_charAt_3b067_2000024 (d) X x0 h _ hr3) (fun r hr => ?_)
    subst hr
    show ab_Ex X (d + 3) 305 15 [(0, .ref 1000024), (1, .int x0)] [.int r3] ab_SH (ab_dD h) _
    obtain ⟨c9, hf⟩ := ab_ask_s hf
    obtain rfl := Option.some.inj hf
    exact ab_Ex.retc (fun n => rfl) (Decidable.not_not.mp c9) rfl
set_option maxRecDepth 20000 in
theorem sJ0_charAt_5068e_1000025 (d : Nat) (X : abX) (x0 : Int32) (h : abJ) (z : Int32) (hf : fJ0_charAt_5068e 1000025 x0 h = some z) : ab_Ex X (d + 3) 305 0 [(0, .ref 1000025), (1, .int x0)] [] ab_SH (ab_dD h) (fun r => r = (some (.int z), ab_SH, ab_dD h)) := by
  unfold fJ0_charAt_5068e at hf
  try simp only [Nat.reduceAdd] at hf
  refine ab_Ex.blk (k := 1) (pc' := 1) (lv' := [(0, .ref 1000025), (1, .int x0)]) (st' := [.ref 1000025]) (sh' := ab_SH) (D' := ab_dD h) (fun n => rfl) ?_
  obtain ⟨r1, hr1, hf⟩ := ab_bind_s hf
  refine ab_Ex.call (d := d + 2) (M2 := 309) (as := [.ref 1000025]) (rest := []) (fun n => rfl) rfl (Nat.not_lt.mpr (Nat.le_of_ble_eq_true rfl)) (sJ0_isLatin1_aae02_1000025 (d + 2) X  h _ hr1) (fun r hr => ?_)
  subst hr
  show ab_Ex X (d + 3) 305 4 [(0, .ref 1000025), (1, .int x0)] [.int r1] ab_SH (ab_dD h) _
  refine ab_Ex.ifc (c := r1 = 0) (SA := (16, [(0, .ref 1000025), (1, .int x0)], [], ab_dD h)) (SB := (7, [(0, .ref 1000025), (1, .int x0)], [], ab_dD h)) (fun n => rfl) (fun c2 => ?_) (fun c2 => ?_)
  · replace hf := (if_pos c2).symm.trans hf
    refine ab_Ex.blk (k := 3) (pc' := 21) (lv' := [(0, .ref 1000025), (1, .int x0)]) (st' := [.int x0, .ref 2000025]) (sh' := ab_SH) (D' := ab_dD h) (fun n => rfl) ?_
    cases hf
  · replace hf := (if_neg c2).symm.trans hf
    refine ab_Ex.blk (k := 3) (pc' := 12) (lv' := [(0, .ref 1000025), (1, .int x0)]) (st' := [.int x0, .ref 2000025]) (sh' := ab_SH) (D' := ab_dD h) (fun n => rfl) ?_
    obtain ⟨r3, hr3, hf⟩ := ab_bind_s hf
    refine ab_Ex.call (d := d + 2) (M2 := 311) (as := [.ref 2000025, .int x0]) (rest := []) (fun n => rfl) rfl (Nat.not_lt.mpr (Nat.le_of_ble_eq_true rfl)) (sJ1_charAt_3b067_2000025 (d) X x0 h _ hr3) (fun r hr => ?_)
    subst hr
    show ab_Ex X (d + 3) 305 15 [(0, .ref 1000025), (1, .int x0)] [.int r3] ab_SH (ab_dD h) _
    obtain ⟨c9, hf⟩ := ab_ask_s hf
    obtain rfl := Option.some.inj hf
    exact ab_Ex.retc (fun n => rfl) (Decidable.not_not.mp c9) rfl
set_option maxRecDepth 20000 in
theorem sJ0_charAt_5068e_1000026 (d : Nat) (X : abX) (x0 : Int32) (h : abJ) (z : Int32) (hf : fJ0_charAt_5068e 1000026 x0 h = some z) : ab_Ex X (d + 3) 305 0 [(0, .ref 1000026), (1, .int x0)] [] ab_SH (ab_dD h) (fun r => r = (some (.int z), ab_SH, ab_dD h)) := by
  unfold fJ0_charAt_5068e at hf
  try simp only [Nat.reduceAdd] at hf
  refine ab_Ex.blk (k := 1) (pc' := 1) (lv' := [(0, .ref 1000026), (1, .int x0)]) (st' := [.ref 1000026]) (sh' := ab_SH) (D' := ab_dD h) (fun n => rfl) ?_
  obtain ⟨r1, hr1, hf⟩ := ab_bind_s hf
  refine ab_Ex.call (d := d + 2) (M2 := 309) (as := [.ref 1000026]) (rest := []) (fun n => rfl) rfl (Nat.not_lt.mpr (Nat.le_of_ble_eq_true rfl)) (sJ0_isLatin1_aae02_1000026 (d + 2) X  h _ hr1) (fun r hr => ?_)
  subst hr
  show ab_Ex X (d + 3) 305 4 [(0, .ref 1000026), (1, .int x0)] [.int r1] ab_SH (ab_dD h) _
  refine ab_Ex.ifc (c := r1 = 0) (SA := (16, [(0, .ref 1000026), (1, .int x0)], [], ab_dD h)) (SB := (7, [(0, .ref 1000026), (1, .int x0)], [], ab_dD h)) (fun n => rfl) (fun c2 => ?_) (fun c2 => ?_)
  · replace hf := (if_pos c2).symm.trans hf
    refine ab_Ex.blk (k := 3) (pc' := 21) (lv' := [(0, .ref 1000026), (1, .int x0)]) (st' := [.int x0, .ref 2000026]) (sh' := ab_SH) (D' := ab_dD h) (fun n => rfl) ?_
    cases hf
  · replace hf := (if_neg c2).symm.trans hf
    refine ab_Ex.blk (k := 3) (pc' := 12) (lv' := [(0, .ref 1000026), (1, .int x0)]) (st' := [.int x0, .ref 2000026]) (sh' := ab_SH) (D' := ab_dD h) (fun n => rfl) ?_
    obtain ⟨r3, hr3, hf⟩ := ab_bind_s hf
    refine ab_Ex.call (d := d + 2) (M2 := 311) (as := [.ref 2000026, .int x0]) (rest := []) (fun n => rfl) rfl (Nat.not_lt.mpr (Nat.le_of_ble_eq_true rfl)) (sJ1_charAt_3b067_2000026 (d) X x0 h _ hr3) (fun r hr => ?_)
    subst hr
    show ab_Ex X (d + 3) 305 15 [(0, .ref 1000026), (1, .int x0)] [.int r3] ab_SH (ab_dD h) _
    obtain ⟨c9, hf⟩ := ab_ask_s hf
    obtain rfl := Option.some.inj hf
    exact ab_Ex.retc (fun n => rfl) (Decidable.not_not.mp c9) rfl
set_option maxRecDepth 20000 in
theorem sJ0_charAt_5068e_1000027 (d : Nat) (X : abX) (x0 : Int32) (h : abJ) (z : Int32) (hf : fJ0_charAt_5068e 1000027 x0 h = some z) : ab_Ex X (d + 3) 305 0 [(0, .ref 1000027), (1, .int x0)] [] ab_SH (ab_dD h) (fun r => r = (some (.int z), ab_SH, ab_dD h)) := by
  unfold fJ0_charAt_5068e at hf
  try simp only [Nat.reduceAdd] at hf
  refine ab_Ex.blk (k := 1) (pc' := 1) (lv' := [(0, .ref 1000027), (1, .int x0)]) (st' := [.ref 1000027]) (sh' := ab_SH) (D' := ab_dD h) (fun n => rfl) ?_
  obtain ⟨r1, hr1, hf⟩ := ab_bind_s hf
  refine ab_Ex.call (d := d + 2) (M2 := 309) (as := [.ref 1000027]) (rest := []) (fun n => rfl) rfl (Nat.not_lt.mpr (Nat.le_of_ble_eq_true rfl)) (sJ0_isLatin1_aae02_1000027 (d + 2) X  h _ hr1) (fun r hr => ?_)
  subst hr
  show ab_Ex X (d + 3) 305 4 [(0, .ref 1000027), (1, .int x0)] [.int r1] ab_SH (ab_dD h) _
  refine ab_Ex.ifc (c := r1 = 0) (SA := (16, [(0, .ref 1000027), (1, .int x0)], [], ab_dD h)) (SB := (7, [(0, .ref 1000027), (1, .int x0)], [], ab_dD h)) (fun n => rfl) (fun c2 => ?_) (fun c2 => ?_)
  · replace hf := (if_pos c2).symm.trans hf
    refine ab_Ex.blk (k := 3) (pc' := 21) (lv' := [(0, .ref 1000027), (1, .int x0)]) (st' := [.int x0, .ref 2000027]) (sh' := ab_SH) (D' := ab_dD h) (fun n => rfl) ?_
    cases hf
  · replace hf := (if_neg c2).symm.trans hf
    refine ab_Ex.blk (k := 3) (pc' := 12) (lv' := [(0, .ref 1000027), (1, .int x0)]) (st' := [.int x0, .ref 2000027]) (sh' := ab_SH) (D' := ab_dD h) (fun n => rfl) ?_
    obtain ⟨r3, hr3, hf⟩ := ab_bind_s hf
    refine ab_Ex.call (d := d + 2) (M2 := 311) (as := [.ref 2000027, .int x0]) (rest := []) (fun n => rfl) rfl (Nat.not_lt.mpr (Nat.le_of_ble_eq_true rfl)) (sJ1_charAt_3b067_2000027 (d) X x0 h _ hr3) (fun r hr => ?_)
    subst hr
    show ab_Ex X (d + 3) 305 15 [(0, .ref 1000027), (1, .int x0)] [.int r3] ab_SH (ab_dD h) _
    obtain ⟨c9, hf⟩ := ab_ask_s hf
    obtain rfl := Option.some.inj hf
    exact ab_Ex.retc (fun n => rfl) (Decidable.not_not.mp c9) rfl
set_option maxRecDepth 20000 in
theorem sJ0_charAt_5068e_1000028 (d : Nat) (X : abX) (x0 : Int32) (h : abJ) (z : Int32) (hf : fJ0_charAt_5068e 1000028 x0 h = some z) : ab_Ex X (d + 3) 305 0 [(0, .ref 1000028), (1, .int x0)] [] ab_SH (ab_dD h) (fun r => r = (some (.int z), ab_SH, ab_dD h)) := by
  unfold fJ0_charAt_5068e at hf
  try simp only [Nat.reduceAdd] at hf
  refine ab_Ex.blk (k := 1) (pc' := 1) (lv' := [(0, .ref 1000028), (1, .int x0)]) (st' := [.ref 1000028]) (sh' := ab_SH) (D' := ab_dD h) (fun n => rfl) ?_
  obtain ⟨r1, hr1, hf⟩ := ab_bind_s hf
  refine ab_Ex.call (d := d + 2) (M2 := 309) (as := [.ref 1000028]) (rest := []) (fun n => rfl) rfl (Nat.not_lt.mpr (Nat.le_of_ble_eq_true rfl)) (sJ0_isLatin1_aae02_1000028 (d + 2) X  h _ hr1) (fun r hr => ?_)
  subst hr
  show ab_Ex X (d + 3) 305 4 [(0, .ref 1000028), (1, .int x0)] [.int r1] ab_SH (ab_dD h) _
  refine ab_Ex.ifc (c := r1 = 0) (SA := (16, [(0, .ref 1000028), (1, .int x0)], [], ab_dD h)) (SB := (7, [(0, .ref 1000028), (1, .int x0)], [], ab_dD h)) (fun n => rfl) (fun c2 => ?_) (fun c2 => ?_)
  · replace hf := (if_pos c2).symm.trans hf
    refine ab_Ex.blk (k := 3) (pc' := 21) (lv' := [(0, .ref 1000028), (1, .int x0)]) (st' := [.int x0, .ref 2000028]) (sh' := ab_SH) (D' := ab_dD h) (fun n => rfl) ?_
    cases hf
  · replace hf := (if_neg c2).symm.trans hf
    refine ab_Ex.blk (k := 3) (pc' := 12) (lv' := [(0, .ref 1000028), (1, .int x0)]) (st' := [.int x0, .ref 2000028]) (sh' := ab_SH) (D' := ab_dD h) (fun n => rfl) ?_
    obtain ⟨r3, hr3, hf⟩ := ab_bind_s hf
    refine ab_Ex.call (d := d + 2) (M2 := 311) (as := [.ref 2000028, .int x0]) (rest := []) (fun n => rfl) rfl (Nat.not_lt.mpr (Nat.le_of_ble_eq_true rfl)) (sJ1_charAt_3b067_2000028 (d) X x0 h _ hr3) (fun r hr => ?_)
    subst hr
    show ab_Ex X (d + 3) 305 15 [(0, .ref 1000028), (1, .int x0)] [.int r3] ab_SH (ab_dD h) _
    obtain ⟨c9, hf⟩ := ab_ask_s hf
    obtain rfl := Option.some.inj hf
    exact ab_Ex.retc (fun n => rfl) (Decidable.not_not.mp c9) rfl
set_option maxRecDepth 20000 in
theorem sJ0_charAt_5068e_1000029 (d : Nat) (X : abX) (x0 : Int32) (h : abJ) (z : Int32) (hf : fJ0_charAt_5068e 1000029 x0 h = some z) : ab_Ex X (d + 3) 305 0 [(0, .ref 1000029), (1, .int x0)] [] ab_SH (ab_dD h) (fun r => r = (some (.int z), ab_SH, ab_dD h)) := by
  unfold fJ0_charAt_5068e at hf
  try simp only [Nat.reduceAdd] at hf
  refine ab_Ex.blk (k := 1) (pc' := 1) (lv' := [(0, .ref 1000029), (1, .int x0)]) (st' := [.ref 1000029]) (sh' := ab_SH) (D' := ab_dD h) (fun n => rfl) ?_
  obtain ⟨r1, hr1, hf⟩ := ab_bind_s hf
  refine ab_Ex.call (d := d + 2) (M2 := 309) (as := [.ref 1000029]) (rest := []) (fun n => rfl) rfl (Nat.not_lt.mpr (Nat.le_of_ble_eq_true rfl)) (sJ0_isLatin1_aae02_1000029 (d + 2) X  h _ hr1) (fun r hr => ?_)
  subst hr
  show ab_Ex X (d + 3) 305 4 [(0, .ref 1000029), (1, .int x0)] [.int r1] ab_SH (ab_dD h) _
  refine ab_Ex.ifc (c := r1 = 0) (SA := (16, [(0, .ref 1000029), (1, .int x0)], [], ab_dD h)) (SB := (7, [(0, .ref 1000029), (1, .int x0)], [], ab_dD h)) (fun n => rfl) (fun c2 => ?_) (fun c2 => ?_)
  · replace hf := (if_pos c2).symm.trans hf
    refine ab_Ex.blk (k := 3) (pc' := 21) (lv' := [(0, .ref 1000029), (1, .int x0)]) (st' := [.int x0, .ref 2000029]) (sh' := ab_SH) (D' := ab_dD h) (fun n => rfl) ?_
    cases hf
  · replace hf := (if_neg c2).symm.trans hf
    refine ab_Ex.blk (k := 3) (pc' := 12) (lv' := [(0, .ref 1000029), (1, .int x0)]) (st' := [.int x0, .ref 2000029]) (sh' := ab_SH) (D' := ab_dD h) (fun n => rfl) ?_
    obtain ⟨r3, hr3, hf⟩ := ab_bind_s hf
    refine ab_Ex.call (d := d + 2) (M2 := 311) (as := [.ref 2000029, .int x0]) (rest := []) (fun n => rfl) rfl (Nat.not_lt.mpr (Nat.le_of_ble_eq_true rfl)) (sJ1_charAt_3b067_2000029 (d) X x0 h _ hr3) (fun r hr => ?_)
    subst hr
    show ab_Ex X (d + 3) 305 15 [(0, .ref 1000029), (1, .int x0)] [.int r3] ab_SH (ab_dD h) _
    obtain ⟨c9, hf⟩ := ab_ask_s hf
    obtain rfl := Option.some.inj hf
    exact ab_Ex.retc (fun n => rfl) (Decidable.not_not.mp c9) rfl
set_option maxRecDepth 20000 in
theorem sJ0_charAt_5068e_1000030 (d : Nat) (X : abX) (x0 : Int32) (h : abJ) (z : Int32) (hf : fJ0_charAt_5068e 1000030 x0 h = some z) : ab_Ex X (d + 3) 305 0 [(0, .ref 1000030), (1, .int x0)] [] ab_SH (ab_dD h) (fun r => r = (some (.int z), ab_SH, ab_dD h)) := by
  unfold fJ0_charAt_5068e at hf
  try simp only [Nat.reduceAdd] at hf
  refine ab_Ex.blk (k := 1) (pc' := 1) (lv' := [(0, .ref 1000030), (1, .int x0)]) (st' := [.ref 1000030]) (sh' := ab_SH) (D' := ab_dD h) (fun n => rfl) ?_
  obtain ⟨r1, hr1, hf⟩ := ab_bind_s hf
  refine ab_Ex.call (d := d + 2) (M2 := 309) (as := [.ref 1000030]) (rest := []) (fun n => rfl) rfl (Nat.not_lt.mpr (Nat.le_of_ble_eq_true rfl)) (sJ0_isLatin1_aae02_1000030 (d + 2) X  h _ hr1) (fun r hr => ?_)
  subst hr
  show ab_Ex X (d + 3) 305 4 [(0, .ref 1000030), (1, .int x0)] [.int r1] ab_SH (ab_dD h) _
  refine ab_Ex.ifc (c := r1 = 0) (SA := (16, [(0, .ref 1000030), (1, .int x0)], [], ab_dD h)) (SB := (7, [(0, .ref 1000030), (1, .int x0)], [], ab_dD h)) (fun n => rfl) (fun c2 => ?_) (fun c2 => ?_)
  · replace hf := (if_pos c2).symm.trans hf
    refine ab_Ex.blk (k := 3) (pc' := 21) (lv' := [(0, .ref 1000030), (1, .int x0)]) (st' := [.int x0, .ref 2000030]) (sh' := ab_SH) (D' := ab_dD h) (fun n => rfl) ?_
    cases hf
  · replace hf := (if_neg c2).symm.trans hf
    refine ab_Ex.blk (k := 3) (pc' := 12) (lv' := [(0, .ref 1000030), (1, .int x0)]) (st' := [.int x0, .ref 2000030]) (sh' := ab_SH) (D' := ab_dD h) (fun n => rfl) ?_
    obtain ⟨r3, hr3, hf⟩ := ab_bind_s hf
    refine ab_Ex.call (d := d + 2) (M2 := 311) (as := [.ref 2000030, .int x0]) (rest := []) (fun n => rfl) rfl (Nat.not_lt.mpr (Nat.le_of_ble_eq_true rfl)) (sJ1_charAt_3b067_2000030 (d) X x0 h _ hr3) (fun r hr => ?_)
    subst hr
    show ab_Ex X (d + 3) 305 15 [(0, .ref 1000030), (1, .int x0)] [.int r3] ab_SH (ab_dD h) _
    obtain ⟨c9, hf⟩ := ab_ask_s hf
    obtain rfl := Option.some.inj hf
    exact ab_Ex.retc (fun n => rfl) (Decidable.not_not.mp c9) rfl
set_option maxRecDepth 20000 in
theorem sJ0_charAt_5068e_1000031 (d : Nat) (X : abX) (x0 : Int32) (h : abJ) (z : Int32) (hf : fJ0_charAt_5068e 1000031 x0 h = some z) : ab_Ex X (d + 3) 305 0 [(0, .ref 1000031), (1, .int x0)] [] ab_SH (ab_dD h) (fun r => r = (some (.int z), ab_SH, ab_dD h)) := by
  unfold fJ0_charAt_5068e at hf
  try simp only [Nat.reduceAdd] at hf
  refine ab_Ex.blk (k := 1) (pc' := 1) (lv' := [(0, .ref 1000031), (1, .int x0)]) (st' := [.ref 1000031]) (sh' := ab_SH) (D' := ab_dD h) (fun n => rfl) ?_
  obtain ⟨r1, hr1, hf⟩ := ab_bind_s hf
  refine ab_Ex.call (d := d + 2) (M2 := 309) (as := [.ref 1000031]) (rest := []) (fun n => rfl) rfl (Nat.not_lt.mpr (Nat.le_of_ble_eq_true rfl)) (sJ0_isLatin1_aae02_1000031 (d + 2) X  h _ hr1) (fun r hr => ?_)
  subst hr
  show ab_Ex X (d + 3) 305 4 [(0, .ref 1000031), (1, .int x0)] [.int r1] ab_SH (ab_dD h) _
  refine ab_Ex.ifc (c := r1 = 0) (SA := (16, [(0, .ref 1000031), (1, .int x0)], [], ab_dD h)) (SB := (7, [(0, .ref 1000031), (1, .int x0)], [], ab_dD h)) (fun n => rfl) (fun c2 => ?_) (fun c2 => ?_)
  · replace hf := (if_pos c2).symm.trans hf
    refine ab_Ex.blk (k := 3) (pc' := 21) (lv' := [(0, .ref 1000031), (1, .int x0)]) (st' := [.int x0, .ref 2000031]) (sh' := ab_SH) (D' := ab_dD h) (fun n => rfl) ?_
    cases hf
  · replace hf := (if_neg c2).symm.trans hf
    refine ab_Ex.blk (k := 3) (pc' := 12) (lv' := [(0, .ref 1000031), (1, .int x0)]) (st' := [.int x0, .ref 2000031]) (sh' := ab_SH) (D' := ab_dD h) (fun n => rfl) ?_
    obtain ⟨r3, hr3, hf⟩ := ab_bind_s hf
    refine ab_Ex.call (d := d + 2) (M2 := 311) (as := [.ref 2000031, .int x0]) (rest := []) (fun n => rfl) rfl (Nat.not_lt.mpr (Nat.le_of_ble_eq_true rfl)) (sJ1_charAt_3b067_2000031 (d) X x0 h _ hr3) (fun r hr => ?_)
    subst hr
    show ab_Ex X (d + 3) 305 15 [(0, .ref 1000031), (1, .int x0)] [.int r3] ab_SH (ab_dD h) _
    obtain ⟨c9, hf⟩ := ab_ask_s hf
    obtain rfl := Option.some.inj hf
    exact ab_Ex.retc (fun n => rfl) (Decidable.not_not.mp c9) rfl
