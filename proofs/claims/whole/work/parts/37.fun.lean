def fX6_wrong (x0 : Int32) (h : abJ) : Option (Int32 × abJ) := if (h.1 9 6) = 1 then some (0, (ab_wI (ab_wI h 9 10 1) 9 11 (((ab_wI h 9 10 1)).1 9 7))) else some (0, (ab_wI (ab_wI h 9 10 x0) 9 11 (((ab_wI h 9 10 x0)).1 9 7)))
set_option maxRecDepth 20000 in
theorem sX6_wrong (d : Nat) (X : abX) (x0 : Int32) (h : abJ) (z : (Int32 × abJ)) (hf : fX6_wrong x0 h = some z) : ab_Ex X (d + 0) 92 0 [(0, .ref 9), (1, .int x0)] [] ab_SH (ab_dD h) (fun r => r = (some (.int z.1), ab_SH, ab_dD z.2)) := by
  unfold fX6_wrong at hf
  refine ab_Ex.blk (k := 4) (pc' := 6) (lv' := [(0, .ref 9), (1, .int x0)]) (st' := [.int 1, .int ((h.1 9 6)), .ref 9]) (sh' := ab_SH) (D' := ab_dD h) (fun n => rfl) ?_
  refine ab_Ex.ifc (c := (h.1 9 6) = 1) (SA := (9, [(0, .ref 9), (1, .int x0)], [.ref 9], ab_dD h)) (SB := (13, [(0, .ref 9), (1, .int x0)], [.ref 9], ab_dD h)) (fun n => rfl) (fun c1 => ?_) (fun c1 => ?_)
  · replace hf := (if_pos c1).symm.trans hf
    refine ab_Ex.blk (k := 8) (pc' := 26) (lv' := [(0, .ref 9)]) (st' := [.int 0]) (sh' := ab_SH) (D' := ab_dD (ab_wI (ab_wI h 9 10 1) 9 11 (((ab_wI h 9 10 1)).1 9 7))) (fun n => rfl) ?_
    obtain rfl := Option.some.inj hf
    exact ab_Ex.ret (fun n => rfl) rfl
  · replace hf := (if_neg c1).symm.trans hf
    refine ab_Ex.blk (k := 7) (pc' := 26) (lv' := [(0, .ref 9)]) (st' := [.int 0]) (sh' := ab_SH) (D' := ab_dD (ab_wI (ab_wI h 9 10 x0) 9 11 (((ab_wI h 9 10 x0)).1 9 7))) (fun n => rfl) ?_
    obtain rfl := Option.some.inj hf
    exact ab_Ex.ret (fun n => rfl) rfl
def fX6_take (x0 : Nat) (h : abJ) : Option (Int32 × abJ) := (fX6_is x0 h).bind (fun r1 => if r1 = 0 then (fX6_wrong 2 h).bind (fun r3 => ab_ask (¬ (r3.1 = 0 ∨ r3.1 = 1)) (some (r3.1, r3.2))) else (fX6_advance h).bind (fun r4 => some (1, r4)))
set_option maxRecDepth 20000 in
theorem sX6_take_1000001 (d : Nat) (X : abX)  (h : abJ) (z : (Int32 × abJ)) (hf : fX6_take 1000001 h = some z) : ab_Ex X (d + 5) 89 0 [(0, .ref 9), (1, .ref 1000001)] [] ab_SH (ab_dD h) (fun r => r = (some (.int z.1), ab_SH, ab_dD z.2)) := by
  unfold fX6_take at hf
  try simp only [Nat.reduceAdd] at hf
  refine ab_Ex.blk (k := 2) (pc' := 2) (lv' := [(0, .ref 9), (1, .ref 1000001)]) (st' := [.ref 1000001, .ref 9]) (sh' := ab_SH) (D' := ab_dD h) (fun n => rfl) ?_
  obtain ⟨r1, hr1, hf⟩ := ab_bind_s hf
  refine ab_Ex.call (d := d + 4) (M2 := 93) (as := [.ref 9, .ref 1000001]) (rest := []) (fun n => rfl) rfl (Nat.not_lt.mpr (Nat.le_of_ble_eq_true rfl)) (sX6_is_1000001 (d) X  h _ hr1) (fun r hr => ?_)
  subst hr
  show ab_Ex X (d + 5) 89 5 [(0, .ref 9), (1, .ref 1000001)] [.int r1] ab_SH (ab_dD h) _
  refine ab_Ex.ifc (c := r1 = 0) (SA := (8, [(0, .ref 9), (1, .ref 1000001)], [], ab_dD h)) (SB := (14, [(0, .ref 9), (1, .ref 1000001)], [], ab_dD h)) (fun n => rfl) (fun c2 => ?_) (fun c2 => ?_)
  · replace hf := (if_pos c2).symm.trans hf
    refine ab_Ex.blk (k := 2) (pc' := 10) (lv' := [(0, .ref 9), (1, .ref 1000001)]) (st' := [.int 2, .ref 9]) (sh' := ab_SH) (D' := ab_dD h) (fun n => rfl) ?_
    obtain ⟨r3, hr3, hf⟩ := ab_bind_s hf
    refine ab_Ex.call (d := d + 4) (M2 := 92) (as := [.ref 9, .int 2]) (rest := []) (fun n => rfl) rfl (Nat.not_lt.mpr (Nat.le_of_ble_eq_true rfl)) (sX6_wrong (d + 4) X 2 h _ hr3) (fun r hr => ?_)
    subst hr
    show ab_Ex X (d + 5) 89 13 [(0, .ref 9), (1, .ref 1000001)] [.int r3.1] ab_SH (ab_dD r3.2) _
    obtain ⟨c9, hf⟩ := ab_ask_s hf
    obtain rfl := Option.some.inj hf
    exact ab_Ex.retc (fun n => rfl) (Decidable.not_not.mp c9) rfl
  · replace hf := (if_neg c2).symm.trans hf
    refine ab_Ex.blk (k := 1) (pc' := 15) (lv' := [(0, .ref 9), (1, .ref 1000001)]) (st' := [.ref 9]) (sh' := ab_SH) (D' := ab_dD h) (fun n => rfl) ?_
    obtain ⟨r4, hr4, hf⟩ := ab_bind_s hf
    refine ab_Ex.call (d := d + 4) (M2 := 94) (as := [.ref 9]) (rest := []) (fun n => rfl) rfl (Nat.not_lt.mpr (Nat.le_of_ble_eq_true rfl)) (sX6_advance (d) X  h _ hr4) (fun r hr => ?_)
    subst hr
    show ab_Ex X (d + 5) 89 18 [(0, .ref 9), (1, .ref 1000001)] [] ab_SH (ab_dD r4) _
    refine ab_Ex.blk (k := 1) (pc' := 19) (lv' := [(0, .ref 9), (1, .ref 1000001)]) (st' := [.int 1]) (sh' := ab_SH) (D' := ab_dD r4) (fun n => rfl) ?_
    obtain rfl := Option.some.inj hf
    exact ab_Ex.ret (fun n => rfl) rfl
set_option maxRecDepth 20000 in
theorem sX6_take_1000002 (d : Nat) (X : abX)  (h : abJ) (z : (Int32 × abJ)) (hf : fX6_take 1000002 h = some z) : ab_Ex X (d + 5) 89 0 [(0, .ref 9), (1, .ref 1000002)] [] ab_SH (ab_dD h) (fun r => r = (some (.int z.1), ab_SH, ab_dD z.2)) := by
  unfold fX6_take at hf
  try simp only [Nat.reduceAdd] at hf
  refine ab_Ex.blk (k := 2) (pc' := 2) (lv' := [(0, .ref 9), (1, .ref 1000002)]) (st' := [.ref 1000002, .ref 9]) (sh' := ab_SH) (D' := ab_dD h) (fun n => rfl) ?_
  obtain ⟨r1, hr1, hf⟩ := ab_bind_s hf
  refine ab_Ex.call (d := d + 4) (M2 := 93) (as := [.ref 9, .ref 1000002]) (rest := []) (fun n => rfl) rfl (Nat.not_lt.mpr (Nat.le_of_ble_eq_true rfl)) (sX6_is_1000002 (d) X  h _ hr1) (fun r hr => ?_)
  subst hr
  show ab_Ex X (d + 5) 89 5 [(0, .ref 9), (1, .ref 1000002)] [.int r1] ab_SH (ab_dD h) _
  refine ab_Ex.ifc (c := r1 = 0) (SA := (8, [(0, .ref 9), (1, .ref 1000002)], [], ab_dD h)) (SB := (14, [(0, .ref 9), (1, .ref 1000002)], [], ab_dD h)) (fun n => rfl) (fun c2 => ?_) (fun c2 => ?_)
  · replace hf := (if_pos c2).symm.trans hf
    refine ab_Ex.blk (k := 2) (pc' := 10) (lv' := [(0, .ref 9), (1, .ref 1000002)]) (st' := [.int 2, .ref 9]) (sh' := ab_SH) (D' := ab_dD h) (fun n => rfl) ?_
    obtain ⟨r3, hr3, hf⟩ := ab_bind_s hf
    refine ab_Ex.call (d := d + 4) (M2 := 92) (as := [.ref 9, .int 2]) (rest := []) (fun n => rfl) rfl (Nat.not_lt.mpr (Nat.le_of_ble_eq_true rfl)) (sX6_wrong (d + 4) X 2 h _ hr3) (fun r hr => ?_)
    subst hr
    show ab_Ex X (d + 5) 89 13 [(0, .ref 9), (1, .ref 1000002)] [.int r3.1] ab_SH (ab_dD r3.2) _
    obtain ⟨c9, hf⟩ := ab_ask_s hf
    obtain rfl := Option.some.inj hf
    exact ab_Ex.retc (fun n => rfl) (Decidable.not_not.mp c9) rfl
  · replace hf := (if_neg c2).symm.trans hf
    refine ab_Ex.blk (k := 1) (pc' := 15) (lv' := [(0, .ref 9), (1, .ref 1000002)]) (st' := [.ref 9]) (sh' := ab_SH) (D' := ab_dD h) (fun n => rfl) ?_
    obtain ⟨r4, hr4, hf⟩ := ab_bind_s hf
    refine ab_Ex.call (d := d + 4) (M2 := 94) (as := [.ref 9]) (rest := []) (fun n => rfl) rfl (Nat.not_lt.mpr (Nat.le_of_ble_eq_true rfl)) (sX6_advance (d) X  h _ hr4) (fun r hr => ?_)
    subst hr
    show ab_Ex X (d + 5) 89 18 [(0, .ref 9), (1, .ref 1000002)] [] ab_SH (ab_dD r4) _
    refine ab_Ex.blk (k := 1) (pc' := 19) (lv' := [(0, .ref 9), (1, .ref 1000002)]) (st' := [.int 1]) (sh' := ab_SH) (D' := ab_dD r4) (fun n => rfl) ?_
    obtain rfl := Option.some.inj hf
    exact ab_Ex.ret (fun n => rfl) rfl
set_option maxRecDepth 20000 in
theorem sX6_take_1000003 (d : Nat) (X : abX)  (h : abJ) (z : (Int32 × abJ)) (hf : fX6_take 1000003 h = some z) : ab_Ex X (d + 5) 89 0 [(0, .ref 9), (1, .ref 1000003)] [] ab_SH (ab_dD h) (fun r => r = (some (.int z.1), ab_SH, ab_dD z.2)) := by
  unfold fX6_take at hf
  try simp only [Nat.reduceAdd] at hf
  refine ab_Ex.blk (k := 2) (pc' := 2) (lv' := [(0, .ref 9), (1, .ref 1000003)]) (st' := [.ref 1000003, .ref 9]) (sh' := ab_SH) (D' := ab_dD h) (fun n => rfl) ?_
  obtain ⟨r1, hr1, hf⟩ := ab_bind_s hf
  refine ab_Ex.call (d := d + 4) (M2 := 93) (as := [.ref 9, .ref 1000003]) (rest := []) (fun n => rfl) rfl (Nat.not_lt.mpr (Nat.le_of_ble_eq_true rfl)) (sX6_is_1000003 (d) X  h _ hr1) (fun r hr => ?_)
  subst hr
  show ab_Ex X (d + 5) 89 5 [(0, .ref 9), (1, .ref 1000003)] [.int r1] ab_SH (ab_dD h) _
  refine ab_Ex.ifc (c := r1 = 0) (SA := (8, [(0, .ref 9), (1, .ref 1000003)], [], ab_dD h)) (SB := (14, [(0, .ref 9), (1, .ref 1000003)], [], ab_dD h)) (fun n => rfl) (fun c2 => ?_) (fun c2 => ?_)
  · replace hf := (if_pos c2).symm.trans hf
    refine ab_Ex.blk (k := 2) (pc' := 10) (lv' := [(0, .ref 9), (1, .ref 1000003)]) (st' := [.int 2, .ref 9]) (sh' := ab_SH) (D' := ab_dD h) (fun n => rfl) ?_
    obtain ⟨r3, hr3, hf⟩ := ab_bind_s hf
    refine ab_Ex.call (d := d + 4) (M2 := 92) (as := [.ref 9, .int 2]) (rest := []) (fun n => rfl) rfl (Nat.not_lt.mpr (Nat.le_of_ble_eq_true rfl)) (sX6_wrong (d + 4) X 2 h _ hr3) (fun r hr => ?_)
    subst hr
    show ab_Ex X (d + 5) 89 13 [(0, .ref 9), (1, .ref 1000003)] [.int r3.1] ab_SH (ab_dD r3.2) _
    obtain ⟨c9, hf⟩ := ab_ask_s hf
    obtain rfl := Option.some.inj hf
    exact ab_Ex.retc (fun n => rfl) (Decidable.not_not.mp c9) rfl
  · replace hf := (if_neg c2).symm.trans hf
    refine ab_Ex.blk (k := 1) (pc' := 15) (lv' := [(0, .ref 9), (1, .ref 1000003)]) (st' := [.ref 9]) (sh' := ab_SH) (D' := ab_dD h) (fun n => rfl) ?_
    obtain ⟨r4, hr4, hf⟩ := ab_bind_s hf
    refine ab_Ex.call (d := d + 4) (M2 := 94) (as := [.ref 9]) (rest := []) (fun n => rfl) rfl (Nat.not_lt.mpr (Nat.le_of_ble_eq_true rfl)) (sX6_advance (d) X  h _ hr4) (fun r hr => ?_)
    subst hr
    show ab_Ex X (d + 5) 89 18 [(0, .ref 9), (1, .ref 1000003)] [] ab_SH (ab_dD r4) _
    refine ab_Ex.blk (k := 1) (pc' := 19) (lv' := [(0, .ref 9), (1, .ref 1000003)]) (st' := [.int 1]) (sh' := ab_SH) (D' := ab_dD r4) (fun n => rfl) ?_
    obtain rfl := Option.some.inj hf
    exact ab_Ex.ret (fun n => rfl) rfl
set_option maxRecDepth 20000 in
theorem sX6_take_1000004 (d : Nat) (X : abX)  (h : abJ) (z : (Int32 × abJ)) (hf : fX6_take 1000004 h = some z) : ab_Ex X (d + 5) 89 0 [(0, .ref 9), (1, .ref 1000004)] [] ab_SH (ab_dD h) (fun r => r = (some (.int z.1), ab_SH, ab_dD z.2)) := by
  unfold fX6_take at hf
  try simp only [Nat.reduceAdd] at hf
  refine ab_Ex.blk (k := 2) (pc' := 2) (lv' := [(0, .ref 9), (1, .ref 1000004)]) (st' := [.ref 1000004, .ref 9]) (sh' := ab_SH) (D' := ab_dD h) (fun n => rfl) ?_
  obtain ⟨r1, hr1, hf⟩ := ab_bind_s hf
  refine ab_Ex.call (d := d + 4) (M2 := 93) (as := [.ref 9, .ref 1000004]) (rest := []) (fun n => rfl) rfl (Nat.not_lt.mpr (Nat.le_of_ble_eq_true rfl)) (sX6_is_1000004 (d) X  h _ hr1) (fun r hr => ?_)
  subst hr
  show ab_Ex X (d + 5) 89 5 [(0, .ref 9), (1, .ref 1000004)] [.int r1] ab_SH (ab_dD h) _
  refine ab_Ex.ifc (c := r1 = 0) (SA := (8, [(0, .ref 9), (1, .ref 1000004)], [], ab_dD h)) (SB := (14, [(0, .ref 9), (1, .ref 1000004)], [], ab_dD h)) (fun n => rfl) (fun c2 => ?_) (fun c2 => ?_)
  · replace hf := (if_pos c2).symm.trans hf
    refine ab_Ex.blk (k := 2) (pc' := 10) (lv' := [(0, .ref 9), (1, .ref 1000004)]) (st' := [.int 2, .ref 9]) (sh' := ab_SH) (D' := ab_dD h) (fun n => rfl) ?_
    obtain ⟨r3, hr3, hf⟩ := ab_bind_s hf
    refine ab_Ex.call (d := d + 4) (M2 := 92) (as := [.ref 9, .int 2]) (rest := []) (fun n => rfl) rfl (Nat.not_lt.mpr (Nat.le_of_ble_eq_true rfl)) (sX6_wrong (d + 4) X 2 h _ hr3) (fun r hr => ?_)
    subst hr
    show ab_Ex X (d + 5) 89 13 [(0, .ref 9), (1, .ref 1000004)] [.int r3.1] ab_SH (ab_dD r3.2) _
    obtain ⟨c9, hf⟩ := ab_ask_s hf
    obtain rfl := Option.some.inj hf
    exact ab_Ex.retc (fun n => rfl) (Decidable.not_not.mp c9) rfl
  · replace hf := (if_neg c2).symm.trans hf
    refine ab_Ex.blk (k := 1) (pc' := 15) (lv' := [(0, .ref 9), (1, .ref 1000004)]) (st' := [.ref 9]) (sh' := ab_SH) (D' := ab_dD h) (fun n => rfl) ?_
    obtain ⟨r4, hr4, hf⟩ := ab_bind_s hf
    refine ab_Ex.call (d := d + 4) (M2 := 94) (as := [.ref 9]) (rest := []) (fun n => rfl) rfl (Nat.not_lt.mpr (Nat.le_of_ble_eq_true rfl)) (sX6_advance (d) X  h _ hr4) (fun r hr => ?_)
    subst hr
    show ab_Ex X (d + 5) 89 18 [(0, .ref 9), (1, .ref 1000004)] [] ab_SH (ab_dD r4) _
    refine ab_Ex.blk (k := 1) (pc' := 19) (lv' := [(0, .ref 9), (1, .ref 1000004)]) (st' := [.int 1]) (sh' := ab_SH) (D' := ab_dD r4) (fun n => rfl) ?_
    obtain rfl := Option.some.inj hf
    exact ab_Ex.ret (fun n => rfl) rfl
set_option maxRecDepth 20000 in
theorem sX6_take_1000005 (d : Nat) (X : abX)  (h : abJ) (z : (Int32 × abJ)) (hf : fX6_take 1000005 h = some z) : ab_Ex X (d + 5) 89 0 [(0, .ref 9), (1, .ref 1000005)] [] ab_SH (ab_dD h) (fun r => r = (some (.int z.1), ab_SH, ab_dD z.2)) := by
  unfold fX6_take at hf
  try simp only [Nat.reduceAdd] at hf
  refine ab_Ex.blk (k := 2) (pc' := 2) (lv' := [(0, .ref 9), (1, .ref 1000005)]) (st' := [.ref 1000005, .ref 9]) (sh' := ab_SH) (D' := ab_dD h) (fun n => rfl) ?_
  obtain ⟨r1, hr1, hf⟩ := ab_bind_s hf
  refine ab_Ex.call (d := d + 4) (M2 := 93) (as := [.ref 9, .ref 1000005]) (rest := []) (fun n => rfl) rfl (Nat.not_lt.mpr (Nat.le_of_ble_eq_true rfl)) (sX6_is_1000005 (d) X  h _ hr1) (fun r hr => ?_)
  subst hr
  show ab_Ex X (d + 5) 89 5 [(0, .ref 9), (1, .ref 1000005)] [.int r1] ab_SH (ab_dD h) _
  refine ab_Ex.ifc (c := r1 = 0) (SA := (8, [(0, .ref 9), (1, .ref 1000005)], [], ab_dD h)) (SB := (14, [(0, .ref 9), (1, .ref 1000005)], [], ab_dD h)) (fun n => rfl) (fun c2 => ?_) (fun c2 => ?_)
  · replace hf := (if_pos c2).symm.trans hf
    refine ab_Ex.blk (k := 2) (pc' := 10) (lv' := [(0, .ref 9), (1, .ref 1000005)]) (st' := [.int 2, .ref 9]) (sh' := ab_SH) (D' := ab_dD h) (fun n => rfl) ?_
    obtain ⟨r3, hr3, hf⟩ := ab_bind_s hf
    refine ab_Ex.call (d := d + 4) (M2 := 92) (as := [.ref 9, .int 2]) (rest := []) (fun n => rfl) rfl (Nat.not_lt.mpr (Nat.le_of_ble_eq_true rfl)) (sX6_wrong (d + 4) X 2 h _ hr3) (fun r hr => ?_)
    subst hr
    show ab_Ex X (d + 5) 89 13 [(0, .ref 9), (1, .ref 1000005)] [.int r3.1] ab_SH (ab_dD r3.2) _
    obtain ⟨c9, hf⟩ := ab_ask_s hf
    obtain rfl := Option.some.inj hf
    exact ab_Ex.retc (fun n => rfl) (Decidable.not_not.mp c9) rfl
  · replace hf := (if_neg c2).symm.trans hf
    refine ab_Ex.blk (k := 1) (pc' := 15) (lv' := [(0, .ref 9), (1, .ref 1000005)]) (st' := [.ref 9]) (sh' := ab_SH) (D' := ab_dD h) (fun n => rfl) ?_
    obtain ⟨r4, hr4, hf⟩ := ab_bind_s hf
    refine ab_Ex.call (d := d + 4) (M2 := 94) (as := [.ref 9]) (rest := []) (fun n => rfl) rfl (Nat.not_lt.mpr (Nat.le_of_ble_eq_true rfl)) (sX6_advance (d) X  h _ hr4) (fun r hr => ?_)
    subst hr
    show ab_Ex X (d + 5) 89 18 [(0, .ref 9), (1, .ref 1000005)] [] ab_SH (ab_dD r4) _
    refine ab_Ex.blk (k := 1) (pc' := 19) (lv' := [(0, .ref 9), (1, .ref 1000005)]) (st' := [.int 1]) (sh' := ab_SH) (D' := ab_dD r4) (fun n => rfl) ?_
    obtain rfl := Option.some.inj hf
    exact ab_Ex.ret (fun n => rfl) rfl
set_option maxRecDepth 20000 in
theorem sX6_take_1000006 (d : Nat) (X : abX)  (h : abJ) (z : (Int32 × abJ)) (hf : fX6_take 1000006 h = some z) : ab_Ex X (d + 5) 89 0 [(0, .ref 9), (1, .ref 1000006)] [] ab_SH (ab_dD h) (fun r => r = (some (.int z.1), ab_SH, ab_dD z.2)) := by
  unfold fX6_take at hf
  try simp only [Nat.reduceAdd] at hf
  refine ab_Ex.blk (k := 2) (pc' := 2) (lv' := [(0, .ref 9), (1, .ref 1000006)]) (st' := [.ref 1000006, .ref 9]) (sh' := ab_SH) (D' := ab_dD h) (fun n => rfl) ?_
  obtain ⟨r1, hr1, hf⟩ := ab_bind_s hf
  refine ab_Ex.call (d := d + 4) (M2 := 93) (as := [.ref 9, .ref 1000006]) (rest := []) (fun n => rfl) rfl (Nat.not_lt.mpr (Nat.le_of_ble_eq_true rfl)) (sX6_is_1000006 (d) X  h _ hr1) (fun r hr => ?_)
  subst hr
  show ab_Ex X (d + 5) 89 5 [(0, .ref 9), (1, .ref 1000006)] [.int r1] ab_SH (ab_dD h) _
  refine ab_Ex.ifc (c := r1 = 0) (SA := (8, [(0, .ref 9), (1, .ref 1000006)], [], ab_dD h)) (SB := (14, [(0, .ref 9), (1, .ref 1000006)], [], ab_dD h)) (fun n => rfl) (fun c2 => ?_) (fun c2 => ?_)
  · replace hf := (if_pos c2).symm.trans hf
    refine ab_Ex.blk (k := 2) (pc' := 10) (lv' := [(0, .ref 9), (1, .ref 1000006)]) (st' := [.int 2, .ref 9]) (sh' := ab_SH) (D' := ab_dD h) (fun n => rfl) ?_
    obtain ⟨r3, hr3, hf⟩ := ab_bind_s hf
    refine ab_Ex.call (d := d + 4) (M2 := 92) (as := [.ref 9, .int 2]) (rest := []) (fun n => rfl) rfl (Nat.not_lt.mpr (Nat.le_of_ble_eq_true rfl)) (sX6_wrong (d + 4) X 2 h _ hr3) (fun r hr => ?_)
    subst hr
    show ab_Ex X (d + 5) 89 13 [(0, .ref 9), (1, .ref 1000006)] [.int r3.1] ab_SH (ab_dD r3.2) _
    obtain ⟨c9, hf⟩ := ab_ask_s hf
    obtain rfl := Option.some.inj hf
    exact ab_Ex.retc (fun n => rfl) (Decidable.not_not.mp c9) rfl
  · replace hf := (if_neg c2).symm.trans hf
    refine ab_Ex.blk (k := 1) (pc' := 15) (lv' := [(0, .ref 9), (1, .ref 1000006)]) (st' := [.ref 9]) (sh' := ab_SH) (D' := ab_dD h) (fun n => rfl) ?_
    obtain ⟨r4, hr4, hf⟩ := ab_bind_s hf
    refine ab_Ex.call (d := d + 4) (M2 := 94) (as := [.ref 9]) (rest := []) (fun n => rfl) rfl (Nat.not_lt.mpr (Nat.le_of_ble_eq_true rfl)) (sX6_advance (d) X  h _ hr4) (fun r hr => ?_)
    subst hr
    show ab_Ex X (d + 5) 89 18 [(0, .ref 9), (1, .ref 1000006)] [] ab_SH (ab_dD r4) _
    refine ab_Ex.blk (k := 1) (pc' := 19) (lv' := [(0, .ref 9), (1, .ref 1000006)]) (st' := [.int 1]) (sh' := ab_SH) (D' := ab_dD r4) (fun n => rfl) ?_
    obtain rfl := Option.some.inj hf
    exact ab_Ex.ret (fun n => rfl) rfl
set_option maxRecDepth 20000 in
theorem sX6_take_1000007 (d : Nat) (X : abX)  (h : abJ) (z : (Int32 × abJ)) (hf : fX6_take 1000007 h = some z) : ab_Ex X (d + 5) 89 0 [(0, .ref 9), (1, .ref 1000007)] [] ab_SH (ab_dD h) (fun r => r = (some (.int z.1), ab_SH, ab_dD z.2)) := by
  unfold fX6_take at hf
  try simp only [Nat.reduceAdd] at hf
  refine ab_Ex.blk (k := 2) (pc' := 2) (lv' := [(0, .ref 9), (1, .ref 1000007)]) (st' := [.ref 1000007, .ref 9]) (sh' := ab_SH) (D' := ab_dD h) (fun n => rfl) ?_
  obtain ⟨r1, hr1, hf⟩ := ab_bind_s hf
  refine ab_Ex.call (d := d + 4) (M2 := 93) (as := [.ref 9, .ref 1000007]) (rest := []) (fun n => rfl) rfl (Nat.not_lt.mpr (Nat.le_of_ble_eq_true rfl)) (sX6_is_1000007 (d) X  h _ hr1) (fun r hr => ?_)
  subst hr
  show ab_Ex X (d + 5) 89 5 [(0, .ref 9), (1, .ref 1000007)] [.int r1] ab_SH (ab_dD h) _
  refine ab_Ex.ifc (c := r1 = 0) (SA := (8, [(0, .ref 9), (1, .ref 1000007)], [], ab_dD h)) (SB := (14, [(0, .ref 9), (1, .ref 1000007)], [], ab_dD h)) (fun n => rfl) (fun c2 => ?_) (fun c2 => ?_)
  · replace hf := (if_pos c2).symm.trans hf
    refine ab_Ex.blk (k := 2) (pc' := 10) (lv' := [(0, .ref 9), (1, .ref 1000007)]) (st' := [.int 2, .ref 9]) (sh' := ab_SH) (D' := ab_dD h) (fun n => rfl) ?_
    obtain ⟨r3, hr3, hf⟩ := ab_bind_s hf
    refine ab_Ex.call (d := d + 4) (M2 := 92) (as := [.ref 9, .int 2]) (rest := []) (fun n => rfl) rfl (Nat.not_lt.mpr (Nat.le_of_ble_eq_true rfl)) (sX6_wrong (d + 4) X 2 h _ hr3) (fun r hr => ?_)
    subst hr
    show ab_Ex X (d + 5) 89 13 [(0, .ref 9), (1, .ref 1000007)] [.int r3.1] ab_SH (ab_dD r3.2) _
    obtain ⟨c9, hf⟩ := ab_ask_s hf
    obtain rfl := Option.some.inj hf
    exact ab_Ex.retc (fun n => rfl) (Decidable.not_not.mp c9) rfl
  · replace hf := (if_neg c2).symm.trans hf
    refine ab_Ex.blk (k := 1) (pc' := 15) (lv' := [(0, .ref 9), (1, .ref 1000007)]) (st' := [.ref 9]) (sh' := ab_SH) (D' := ab_dD h) (fun n => rfl) ?_
    obtain ⟨r4, hr4, hf⟩ := ab_bind_s hf
    refine ab_Ex.call (d := d + 4) (M2 := 94) (as := [.ref 9]) (rest := []) (fun n => rfl) rfl (Nat.not_lt.mpr (Nat.le_of_ble_eq_true rfl)) (sX6_advance (d) X  h _ hr4) (fun r hr => ?_)
    subst hr
    show ab_Ex X (d + 5) 89 18 [(0, .ref 9), (1, .ref 1000007)] [] ab_SH (ab_dD r4) _
    refine ab_Ex.blk (k := 1) (pc' := 19) (lv' := [(0, .ref 9), (1, .ref 1000007)]) (st' := [.int 1]) (sh' := ab_SH) (D' := ab_dD r4) (fun n => rfl) ?_
    obtain rfl := Option.some.inj hf
    exact ab_Ex.ret (fun n => rfl) rfl
set_option maxRecDepth 20000 in
theorem sX6_take_1000008 (d : Nat) (X : abX)  (h : abJ) (z : (Int32 × abJ)) (hf : fX6_take 1000008 h = some z) : ab_Ex X (d + 5) 89 0 [(0, .ref 9), (1, .ref 1000008)] [] ab_SH (ab_dD h) (fun r => r = (some (.int z.1), ab_SH, ab_dD z.2)) := by
  unfold fX6_take at hf
  try simp only [Nat.reduceAdd] at hf
  refine ab_Ex.blk (k := 2) (pc' := 2) (lv' := [(0, .ref 9), (1, .ref 1000008)]) (st' := [.ref 1000008, .ref 9]) (sh' := ab_SH) (D' := ab_dD h) (fun n => rfl) ?_
  obtain ⟨r1, hr1, hf⟩ := ab_bind_s hf
  refine ab_Ex.call (d := d + 4) (M2 := 93) (as := [.ref 9, .ref 1000008]) (rest := []) (fun n => rfl) rfl (Nat.not_lt.mpr (Nat.le_of_ble_eq_true rfl)) (sX6_is_1000008 (d) X  h _ hr1) (fun r hr => ?_)
  subst hr
  show ab_Ex X (d + 5) 89 5 [(0, .ref 9), (1, .ref 1000008)] [.int r1] ab_SH (ab_dD h) _
  refine ab_Ex.ifc (c := r1 = 0) (SA := (8, [(0, .ref 9), (1, .ref 1000008)], [], ab_dD h)) (SB := (14, [(0, .ref 9), (1, .ref 1000008)], [], ab_dD h)) (fun n => rfl) (fun c2 => ?_) (fun c2 => ?_)
  · replace hf := (if_pos c2).symm.trans hf
    refine ab_Ex.blk (k := 2) (pc' := 10) (lv' := [(0, .ref 9), (1, .ref 1000008)]) (st' := [.int 2, .ref 9]) (sh' := ab_SH) (D' := ab_dD h) (fun n => rfl) ?_
    obtain ⟨r3, hr3, hf⟩ := ab_bind_s hf
    refine ab_Ex.call (d := d + 4) (M2 := 92) (as := [.ref 9, .int 2]) (rest := []) (fun n => rfl) rfl (Nat.not_lt.mpr (Nat.le_of_ble_eq_true rfl)) (sX6_wrong (d + 4) X 2 h _ hr3) (fun r hr => ?_)
    subst hr
    show ab_Ex X (d + 5) 89 13 [(0, .ref 9), (1, .ref 1000008)] [.int r3.1] ab_SH (ab_dD r3.2) _
    obtain ⟨c9, hf⟩ := ab_ask_s hf
    obtain rfl := Option.some.inj hf
    exact ab_Ex.retc (fun n => rfl) (Decidable.not_not.mp c9) rfl
  · replace hf := (if_neg c2).symm.trans hf
    refine ab_Ex.blk (k := 1) (pc' := 15) (lv' := [(0, .ref 9), (1, .ref 1000008)]) (st' := [.ref 9]) (sh' := ab_SH) (D' := ab_dD h) (fun n => rfl) ?_
    obtain ⟨r4, hr4, hf⟩ := ab_bind_s hf
    refine ab_Ex.call (d := d + 4) (M2 := 94) (as := [.ref 9]) (rest := []) (fun n => rfl) rfl (Nat.not_lt.mpr (Nat.le_of_ble_eq_true rfl)) (sX6_advance (d) X  h _ hr4) (fun r hr => ?_)
    subst hr
    show ab_Ex X (d + 5) 89 18 [(0, .ref 9), (1, .ref 1000008)] [] ab_SH (ab_dD r4) _
    refine ab_Ex.blk (k := 1) (pc' := 19) (lv' := [(0, .ref 9), (1, .ref 1000008)]) (st' := [.int 1]) (sh' := ab_SH) (D' := ab_dD r4) (fun n => rfl) ?_
    obtain rfl := Option.some.inj hf
    exact ab_Ex.ret (fun n => rfl) rfl
set_option maxRecDepth 20000 in
theorem sX6_take_1000009 (d : Nat) (X : abX)  (h : abJ) (z : (Int32 × abJ)) (hf : fX6_take 1000009 h = some z) : ab_Ex X (d + 5) 89 0 [(0, .ref 9), (1, .ref 1000009)] [] ab_SH (ab_dD h) (fun r => r = (some (.int z.1), ab_SH, ab_dD z.2)) := by
  unfold fX6_take at hf
  try simp only [Nat.reduceAdd] at hf
  refine ab_Ex.blk (k := 2) (pc' := 2) (lv' := [(0, .ref 9), (1, .ref 1000009)]) (st' := [.ref 1000009, .ref 9]) (sh' := ab_SH) (D' := ab_dD h) (fun n => rfl) ?_
  obtain ⟨r1, hr1, hf⟩ := ab_bind_s hf
  refine ab_Ex.call (d := d + 4) (M2 := 93) (as := [.ref 9, .ref 1000009]) (rest := []) (fun n => rfl) rfl (Nat.not_lt.mpr (Nat.le_of_ble_eq_true rfl)) (sX6_is_1000009 (d) X  h _ hr1) (fun r hr => ?_)
  subst hr
  show ab_Ex X (d + 5) 89 5 [(0, .ref 9), (1, .ref 1000009)] [.int r1] ab_SH (ab_dD h) _
  refine ab_Ex.ifc (c := r1 = 0) (SA := (8, [(0, .ref 9), (1, .ref 1000009)], [], ab_dD h)) (SB := (14, [(0, .ref 9), (1, .ref 1000009)], [], ab_dD h)) (fun n => rfl) (fun c2 => ?_) (fun c2 => ?_)
  · replace hf := (if_pos c2).symm.trans hf
    refine ab_Ex.blk (k := 2) (pc' := 10) (lv' := [(0, .ref 9), (1, .ref 1000009)]) (st' := [.int 2, .ref 9]) (sh' := ab_SH) (D' := ab_dD h) (fun n => rfl) ?_
    obtain ⟨r3, hr3, hf⟩ := ab_bind_s hf
    refine ab_Ex.call (d := d + 4) (M2 := 92) (as := [.ref 9, .int 2]) (rest := []) (fun n => rfl) rfl (Nat.not_lt.mpr (Nat.le_of_ble_eq_true rfl)) (sX6_wrong (d + 4) X 2 h _ hr3) (fun r hr => ?_)
    subst hr
    show ab_Ex X (d + 5) 89 13 [(0, .ref 9), (1, .ref 1000009)] [.int r3.1] ab_SH (ab_dD r3.2) _
    obtain ⟨c9, hf⟩ := ab_ask_s hf
    obtain rfl := Option.some.inj hf
    exact ab_Ex.retc (fun n => rfl) (Decidable.not_not.mp c9) rfl
  · replace hf := (if_neg c2).symm.trans hf
    refine ab_Ex.blk (k := 1) (pc' := 15) (lv' := [(0, .ref 9), (1, .ref 1000009)]) (st' := [.ref 9]) (sh' := ab_SH) (D' := ab_dD h) (fun n => rfl) ?_
    obtain ⟨r4, hr4, hf⟩ := ab_bind_s hf
    refine ab_Ex.call (d := d + 4) (M2 := 94) (as := [.ref 9]) (rest := []) (fun n => rfl) rfl (Nat.not_lt.mpr (Nat.le_of_ble_eq_true rfl)) (sX6_advance (d) X  h _ hr4) (fun r hr => ?_)
    subst hr
    show ab_Ex X (d + 5) 89 18 [(0, .ref 9), (1, .ref 1000009)] [] ab_SH (ab_dD r4) _
    refine ab_Ex.blk (k := 1) (pc' := 19) (lv' := [(0, .ref 9), (1, .ref 1000009)]) (st' := [.int 1]) (sh' := ab_SH) (D' := ab_dD r4) (fun n => rfl) ?_
    obtain rfl := Option.some.inj hf
    exact ab_Ex.ret (fun n => rfl) rfl
set_option maxRecDepth 20000 in
theorem sX6_take_1000010 (d : Nat) (X : abX)  (h : abJ) (z : (Int32 × abJ)) (hf : fX6_take 1000010 h = some z) : ab_Ex X (d + 5) 89 0 [(0, .ref 9), (1, .ref 1000010)] [] ab_SH (ab_dD h) (fun r => r = (some (.int z.1), ab_SH, ab_dD z.2)) := by
  unfold fX6_take at hf
  try simp only [Nat.reduceAdd] at hf
  refine ab_Ex.blk (k := 2) (pc' := 2) (lv' := [(0, .ref 9), (1, .ref 1000010)]) (st' := [.ref 1000010, .ref 9]) (sh' := ab_SH) (D' := ab_dD h) (fun n => rfl) ?_
  obtain ⟨r1, hr1, hf⟩ := ab_bind_s hf
  refine ab_Ex.call (d := d + 4) (M2 := 93) (as := [.ref 9, .ref 1000010]) (rest := []) (fun n => rfl) rfl (Nat.not_lt.mpr (Nat.le_of_ble_eq_true rfl)) (sX6_is_1000010 (d) X  h _ hr1) (fun r hr => ?_)
  subst hr
  show ab_Ex X (d + 5) 89 5 [(0, .ref 9), (1, .ref 1000010)] [.int r1] ab_SH (ab_dD h) _
  refine ab_Ex.ifc (c := r1 = 0) (SA := (8, [(0, .ref 9), (1, .ref 1000010)], [], ab_dD h)) (SB := (14, [(0, .ref 9), (1, .ref 1000010)], [], ab_dD h)) (fun n => rfl) (fun c2 => ?_) (fun c2 => ?_)
  · replace hf := (if_pos c2).symm.trans hf
    refine ab_Ex.blk (k := 2) (pc' := 10) (lv' := [(0, .ref 9), (1, .ref 1000010)]) (st' := [.int 2, .ref 9]) (sh' := ab_SH) (D' := ab_dD h) (fun n => rfl) ?_
    obtain ⟨r3, hr3, hf⟩ := ab_bind_s hf
    refine ab_Ex.call (d := d + 4) (M2 := 92) (as := [.ref 9, .int 2]) (rest := []) (fun n => rfl) rfl (Nat.not_lt.mpr (Nat.le_of_ble_eq_true rfl)) (sX6_wrong (d + 4) X 2 h _ hr3) (fun r hr => ?_)
    subst hr
    show ab_Ex X (d + 5) 89 13 [(0, .ref 9), (1, .ref 1000010)] [.int r3.1] ab_SH (ab_dD r3.2) _
    obtain ⟨c9, hf⟩ := ab_ask_s hf
    obtain rfl := Option.some.inj hf
    exact ab_Ex.retc (fun n => rfl) (Decidable.not_not.mp c9) rfl
  · replace hf := (if_neg c2).symm.trans hf
    refine ab_Ex.blk (k := 1) (pc' := 15) (lv' := [(0, .ref 9), (1, .ref 1000010)]) (st' := [.ref 9]) (sh' := ab_SH) (D' := ab_dD h) (fun n => rfl) ?_
    obtain ⟨r4, hr4, hf⟩ := ab_bind_s hf
    refine ab_Ex.call (d := d + 4) (M2 := 94) (as := [.ref 9]) (rest := []) (fun n => rfl) rfl (Nat.not_lt.mpr (Nat.le_of_ble_eq_true rfl)) (sX6_advance (d) X  h _ hr4) (fun r hr => ?_)
    subst hr
    show ab_Ex X (d + 5) 89 18 [(0, .ref 9), (1, .ref 1000010)] [] ab_SH (ab_dD r4) _
    refine ab_Ex.blk (k := 1) (pc' := 19) (lv' := [(0, .ref 9), (1, .ref 1000010)]) (st' := [.int 1]) (sh' := ab_SH) (D' := ab_dD r4) (fun n => rfl) ?_
    obtain rfl := Option.some.inj hf
    exact ab_Ex.ret (fun n => rfl) rfl
set_option maxRecDepth 20000 in
theorem sX6_take_1000011 (d : Nat) (X : abX)  (h : abJ) (z : (Int32 × abJ)) (hf : fX6_take 1000011 h = some z) : ab_Ex X (d + 5) 89 0 [(0, .ref 9), (1, .ref 1000011)] [] ab_SH (ab_dD h) (fun r => r = (some (.int z.1), ab_SH, ab_dD z.2)) := by
  unfold fX6_take at hf
  try simp only [Nat.reduceAdd] at hf
  refine ab_Ex.blk (k := 2) (pc' := 2) (lv' := [(0, .ref 9), (1, .ref 1000011)]) (st' := [.ref 1000011, .ref 9]) (sh' := ab_SH) (D' := ab_dD h) (fun n => rfl) ?_
  obtain ⟨r1, hr1, hf⟩ := ab_bind_s hf
  refine ab_Ex.call (d := d + 4) (M2 := 93) (as := [.ref 9, .ref 1000011]) (rest := []) (fun n => rfl) rfl (Nat.not_lt.mpr (Nat.le_of_ble_eq_true rfl)) (sX6_is_1000011 (d) X  h _ hr1) (fun r hr => ?_)
  subst hr
  show ab_Ex X (d + 5) 89 5 [(0, .ref 9), (1, .ref 1000011)] [.int r1] ab_SH (ab_dD h) _
  refine ab_Ex.ifc (c := r1 = 0) (SA := (8, [(0, .ref 9), (1, .ref 1000011)], [], ab_dD h)) (SB := (14, [(0, .ref 9), (1, .ref 1000011)], [], ab_dD h)) (fun n => rfl) (fun c2 => ?_) (fun c2 => ?_)
  · replace hf := (if_pos c2).symm.trans hf
    refine ab_Ex.blk (k := 2) (pc' := 10) (lv' := [(0, .ref 9), (1, .ref 1000011)]) (st' := [.int 2, .ref 9]) (sh' := ab_SH) (D' := ab_dD h) (fun n => rfl) ?_
    obtain ⟨r3, hr3, hf⟩ := ab_bind_s hf
    refine ab_Ex.call (d := d + 4) (M2 := 92) (as := [.ref 9, .int 2]) (rest := []) (fun n => rfl) rfl (Nat.not_lt.mpr (Nat.le_of_ble_eq_true rfl)) (sX6_wrong (d + 4) X 2 h _ hr3) (fun r hr => ?_)
    subst hr
    show ab_Ex X (d + 5) 89 13 [(0, .ref 9), (1, .ref 1000011)] [.int r3.1] ab_SH (ab_dD r3.2) _
    obtain ⟨c9, hf⟩ := ab_ask_s hf
    obtain rfl := Option.some.inj hf
    exact ab_Ex.retc (fun n => rfl) (Decidable.not_not.mp c9) rfl
  · replace hf := (if_neg c2).symm.trans hf
    refine ab_Ex.blk (k := 1) (pc' := 15) (lv' := [(0, .ref 9), (1, .ref 1000011)]) (st' := [.ref 9]) (sh' := ab_SH) (D' := ab_dD h) (fun n => rfl) ?_
    obtain ⟨r4, hr4, hf⟩ := ab_bind_s hf
    refine ab_Ex.call (d := d + 4) (M2 := 94) (as := [.ref 9]) (rest := []) (fun n => rfl) rfl (Nat.not_lt.mpr (Nat.le_of_ble_eq_true rfl)) (sX6_advance (d) X  h _ hr4) (fun r hr => ?_)
    subst hr
    show ab_Ex X (d + 5) 89 18 [(0, .ref 9), (1, .ref 1000011)] [] ab_SH (ab_dD r4) _
    refine ab_Ex.blk (k := 1) (pc' := 19) (lv' := [(0, .ref 9), (1, .ref 1000011)]) (st' := [.int 1]) (sh' := ab_SH) (D' := ab_dD r4) (fun n => rfl) ?_
    obtain rfl := Option.some.inj hf
    exact ab_Ex.ret (fun n => rfl) rfl
set_option maxRecDepth 20000 in
theorem sX6_take_1000012 (d : Nat) (X : abX)  (h : abJ) (z : (Int32 × abJ)) (hf : fX6_take 1000012 h = some z) : ab_Ex X (d + 5) 89 0 [(0, .ref 9), (1, .ref 1000012)] [] ab_SH (ab_dD h) (fun r => r = (some (.int z.1), ab_SH, ab_dD z.2)) := by
  unfold fX6_take at hf
  try simp only [Nat.reduceAdd] at hf
  refine ab_Ex.blk (k := 2) (pc' := 2) (lv' := [(0, .ref 9), (1, .ref 1000012)]) (st' := [.ref 1000012, .ref 9]) (sh' := ab_SH) (D' := ab_dD h) (fun n => rfl) ?_
  obtain ⟨r1, hr1, hf⟩ := ab_bind_s hf
  refine ab_Ex.call (d := d + 4) (M2 := 93) (as := [.ref 9, .ref 1000012]) (rest := []) (fun n => rfl) rfl (Nat.not_lt.mpr (Nat.le_of_ble_eq_true rfl)) (sX6_is_1000012 (d) X  h _ hr1) (fun r hr => ?_)
  subst hr
  show ab_Ex X (d + 5) 89 5 [(0, .ref 9), (1, .ref 1000012)] [.int r1] ab_SH (ab_dD h) _
  refine ab_Ex.ifc (c := r1 = 0) (SA := (8, [(0, .ref 9), (1, .ref 1000012)], [], ab_dD h)) (SB := (14, [(0, .ref 9), (1, .ref 1000012)], [], ab_dD h)) (fun n => rfl) (fun c2 => ?_) (fun c2 => ?_)
  · replace hf := (if_pos c2).symm.trans hf
    refine ab_Ex.blk (k := 2) (pc' := 10) (lv' := [(0, .ref 9), (1, .ref 1000012)]) (st' := [.int 2, .ref 9]) (sh' := ab_SH) (D' := ab_dD h) (fun n => rfl) ?_
    obtain ⟨r3, hr3, hf⟩ := ab_bind_s hf
    refine ab_Ex.call (d := d + 4) (M2 := 92) (as := [.ref 9, .int 2]) (rest := []) (fun n => rfl) rfl (Nat.not_lt.mpr (Nat.le_of_ble_eq_true rfl)) (sX6_wrong (d + 4) X 2 h _ hr3) (fun r hr => ?_)
    subst hr
    show ab_Ex X (d + 5) 89 13 [(0, .ref 9), (1, .ref 1000012)] [.int r3.1] ab_SH (ab_dD r3.2) _
    obtain ⟨c9, hf⟩ := ab_ask_s hf
    obtain rfl := Option.some.inj hf
    exact ab_Ex.retc (fun n => rfl) (Decidable.not_not.mp c9) rfl
  · replace hf := (if_neg c2).symm.trans hf
    refine ab_Ex.blk (k := 1) (pc' := 15) (lv' := [(0, .ref 9), (1, .ref 1000012)]) (st' := [.ref 9]) (sh' := ab_SH) (D' := ab_dD h) (fun n => rfl) ?_
    obtain ⟨r4, hr4, hf⟩ := ab_bind_s hf
    refine ab_Ex.call (d := d + 4) (M2 := 94) (as := [.ref 9]) (rest := []) (fun n => rfl) rfl (Nat.not_lt.mpr (Nat.le_of_ble_eq_true rfl)) (sX6_advance (d) X  h _ hr4) (fun r hr => ?_)
    subst hr
    show ab_Ex X (d + 5) 89 18 [(0, .ref 9), (1, .ref 1000012)] [] ab_SH (ab_dD r4) _
    refine ab_Ex.blk (k := 1) (pc' := 19) (lv' := [(0, .ref 9), (1, .ref 1000012)]) (st' := [.int 1]) (sh' := ab_SH) (D' := ab_dD r4) (fun n => rfl) ?_
    obtain rfl := Option.some.inj hf
    exact ab_Ex.ret (fun n => rfl) rfl
set_option maxRecDepth 20000 in
theorem sX6_take_1000013 (d : Nat) (X : abX)  (h : abJ) (z : (Int32 × abJ)) (hf : fX6_take 1000013 h = some z) : ab_Ex X (d + 5) 89 0 [(0, .ref 9), (1, .ref 1000013)] [] ab_SH (ab_dD h) (fun r => r = (some (.int z.1), ab_SH, ab_dD z.2)) := by
  unfold fX6_take at hf
  try simp only [Nat.reduceAdd] at hf
  refine ab_Ex.blk (k := 2) (pc' := 2) (lv' := [(0, .ref 9), (1, .ref 1000013)]) (st' := [.ref 1000013, .ref 9]) (sh' := ab_SH) (D' := ab_dD h) (fun n => rfl) ?_
  obtain ⟨r1, hr1, hf⟩ := ab_bind_s hf
  refine ab_Ex.call (d := d + 4) (M2 := 93) (as := [.ref 9, .ref 1000013]) (rest := []) (fun n => rfl) rfl (Nat.not_lt.mpr (Nat.le_of_ble_eq_true rfl)) (sX6_is_1000013 (d) X  h _ hr1) (fun r hr => ?_)
  subst hr
  show ab_Ex X (d + 5) 89 5 [(0, .ref 9), (1, .ref 1000013)] [.int r1] ab_SH (ab_dD h) _
  refine ab_Ex.ifc (c := r1 = 0) (SA := (8, [(0, .ref 9), (1, .ref 1000013)], [], ab_dD h)) (SB := (14, [(0, .ref 9), (1, .ref 1000013)], [], ab_dD h)) (fun n => rfl) (fun c2 => ?_) (fun c2 => ?_)
  · replace hf := (if_pos c2).symm.trans hf
    refine ab_Ex.blk (k := 2) (pc' := 10) (lv' := [(0, .ref 9), (1, .ref 1000013)]) (st' := [.int 2, .ref 9]) (sh' := ab_SH) (D' := ab_dD h) (fun n => rfl) ?_
    obtain ⟨r3, hr3, hf⟩ := ab_bind_s hf
    refine ab_Ex.call (d := d + 4) (M2 := 92) (as := [.ref 9, .int 2]) (rest := []) (fun n => rfl) rfl (Nat.not_lt.mpr (Nat.le_of_ble_eq_true rfl)) (sX6_wrong (d + 4) X 2 h _ hr3) (fun r hr => ?_)
    subst hr
    show ab_Ex X (d + 5) 89 13 [(0, .ref 9), (1, .ref 1000013)] [.int r3.1] ab_SH (ab_dD r3.2) _
    obtain ⟨c9, hf⟩ := ab_ask_s hf
    obtain rfl := Option.some.inj hf
    exact ab_Ex.retc (fun n => rfl) (Decidable.not_not.mp c9) rfl
  · replace hf := (if_neg c2).symm.trans hf
    refine ab_Ex.blk (k := 1) (pc' := 15) (lv' := [(0, .ref 9), (1, .ref 1000013)]) (st' := [.ref 9]) (sh' := ab_SH) (D' := ab_dD h) (fun n => rfl) ?_
    obtain ⟨r4, hr4, hf⟩ := ab_bind_s hf
    refine ab_Ex.call (d := d + 4) (M2 := 94) (as := [.ref 9]) (rest := []) (fun n => rfl) rfl (Nat.not_lt.mpr (Nat.le_of_ble_eq_true rfl)) (sX6_advance (d) X  h _ hr4) (fun r hr => ?_)
    subst hr
    show ab_Ex X (d + 5) 89 18 [(0, .ref 9), (1, .ref 1000013)] [] ab_SH (ab_dD r4) _
    refine ab_Ex.blk (k := 1) (pc' := 19) (lv' := [(0, .ref 9), (1, .ref 1000013)]) (st' := [.int 1]) (sh' := ab_SH) (D' := ab_dD r4) (fun n => rfl) ?_
    obtain rfl := Option.some.inj hf
    exact ab_Ex.ret (fun n => rfl) rfl
set_option maxRecDepth 20000 in
theorem sX6_take_1000014 (d : Nat) (X : abX)  (h : abJ) (z : (Int32 × abJ)) (hf : fX6_take 1000014 h = some z) : ab_Ex X (d + 5) 89 0 [(0, .ref 9), (1, .ref 1000014)] [] ab_SH (ab_dD h) (fun r => r = (some (.int z.1), ab_SH, ab_dD z.2)) := by
  unfold fX6_take at hf
  try simp only [Nat.reduceAdd] at hf
  refine ab_Ex.blk (k := 2) (pc' := 2) (lv' := [(0, .ref 9), (1, .ref 1000014)]) (st' := [.ref 1000014, .ref 9]) (sh' := ab_SH) (D' := ab_dD h) (fun n => rfl) ?_
  obtain ⟨r1, hr1, hf⟩ := ab_bind_s hf
  refine ab_Ex.call (d := d + 4) (M2 := 93) (as := [.ref 9, .ref 1000014]) (rest := []) (fun n => rfl) rfl (Nat.not_lt.mpr (Nat.le_of_ble_eq_true rfl)) (sX6_is_1000014 (d) X  h _ hr1) (fun r hr => ?_)
  subst hr
  show ab_Ex X (d + 5) 89 5 [(0, .ref 9), (1, .ref 1000014)] [.int r1] ab_SH (ab_dD h) _
  refine ab_Ex.ifc (c := r1 = 0) (SA := (8, [(0, .ref 9), (1, .ref 1000014)], [], ab_dD h)) (SB := (14, [(0, .ref 9), (1, .ref 1000014)], [], ab_dD h)) (fun n => rfl) (fun c2 => ?_) (fun c2 => ?_)
  · replace hf := (if_pos c2).symm.trans hf
    refine ab_Ex.blk (k := 2) (pc' := 10) (lv' := [(0, .ref 9), (1, .ref 1000014)]) (st' := [.int 2, .ref 9]) (sh' := ab_SH) (D' := ab_dD h) (fun n => rfl) ?_
    obtain ⟨r3, hr3, hf⟩ := ab_bind_s hf
    refine ab_Ex.call (d := d + 4) (M2 := 92) (as := [.ref 9, .int 2]) (rest := []) (fun n => rfl) rfl (Nat.not_lt.mpr (Nat.le_of_ble_eq_true rfl)) (sX6_wrong (d + 4) X 2 h _ hr3) (fun r hr => ?_)
    subst hr
    show ab_Ex X (d + 5) 89 13 [(0, .ref 9), (1, .ref 1000014)] [.int r3.1] ab_SH (ab_dD r3.2) _
    obtain ⟨c9, hf⟩ := ab_ask_s hf
    obtain rfl := Option.some.inj hf
    exact ab_Ex.retc (fun n => rfl) (Decidable.not_not.mp c9) rfl
  · replace hf := (if_neg c2).symm.trans hf
    refine ab_Ex.blk (k := 1) (pc' := 15) (lv' := [(0, .ref 9), (1, .ref 1000014)]) (st' := [.ref 9]) (sh' := ab_SH) (D' := ab_dD h) (fun n => rfl) ?_
    obtain ⟨r4, hr4, hf⟩ := ab_bind_s hf
    refine ab_Ex.call (d := d + 4) (M2 := 94) (as := [.ref 9]) (rest := []) (fun n => rfl) rfl (Nat.not_lt.mpr (Nat.le_of_ble_eq_true rfl)) (sX6_advance (d) X  h _ hr4) (fun r hr => ?_)
    subst hr
    show ab_Ex X (d + 5) 89 18 [(0, .ref 9), (1, .ref 1000014)] [] ab_SH (ab_dD r4) _
    refine ab_Ex.blk (k := 1) (pc' := 19) (lv' := [(0, .ref 9), (1, .ref 1000014)]) (st' := [.int 1]) (sh' := ab_SH) (D' := ab_dD r4) (fun n => rfl) ?_
    obtain rfl := Option.some.inj hf
    exact ab_Ex.ret (fun n => rfl) rfl
set_option maxRecDepth 20000 in
theorem sX6_take_1000015 (d : Nat) (X : abX)  (h : abJ) (z : (Int32 × abJ)) (hf : fX6_take 1000015 h = some z) : ab_Ex X (d + 5) 89 0 [(0, .ref 9), (1, .ref 1000015)] [] ab_SH (ab_dD h) (fun r => r = (some (.int z.1), ab_SH, ab_dD z.2)) := by
  unfold fX6_take at hf
  try simp only [Nat.reduceAdd] at hf
  refine ab_Ex.blk (k := 2) (pc' := 2) (lv' := [(0, .ref 9), (1, .ref 1000015)]) (st' := [.ref 1000015, .ref 9]) (sh' := ab_SH) (D' := ab_dD h) (fun n => rfl) ?_
  obtain ⟨r1, hr1, hf⟩ := ab_bind_s hf
  refine ab_Ex.call (d := d + 4) (M2 := 93) (as := [.ref 9, .ref 1000015]) (rest := []) (fun n => rfl) rfl (Nat.not_lt.mpr (Nat.le_of_ble_eq_true rfl)) (sX6_is_1000015 (d) X  h _ hr1) (fun r hr => ?_)
  subst hr
  show ab_Ex X (d + 5) 89 5 [(0, .ref 9), (1, .ref 1000015)] [.int r1] ab_SH (ab_dD h) _
  refine ab_Ex.ifc (c := r1 = 0) (SA := (8, [(0, .ref 9), (1, .ref 1000015)], [], ab_dD h)) (SB := (14, [(0, .ref 9), (1, .ref 1000015)], [], ab_dD h)) (fun n => rfl) (fun c2 => ?_) (fun c2 => ?_)
  · replace hf := (if_pos c2).symm.trans hf
    refine ab_Ex.blk (k := 2) (pc' := 10) (lv' := [(0, .ref 9), (1, .ref 1000015)]) (st' := [.int 2, .ref 9]) (sh' := ab_SH) (D' := ab_dD h) (fun n => rfl) ?_
    obtain ⟨r3, hr3, hf⟩ := ab_bind_s hf
    refine ab_Ex.call (d := d + 4) (M2 := 92) (as := [.ref 9, .int 2]) (rest := []) (fun n => rfl) rfl (Nat.not_lt.mpr (Nat.le_of_ble_eq_true rfl)) (sX6_wrong (d + 4) X 2 h _ hr3) (fun r hr => ?_)
    subst hr
    show ab_Ex X (d + 5) 89 13 [(0, .ref 9), (1, .ref 1000015)] [.int r3.1] ab_SH (ab_dD r3.2) _
    obtain ⟨c9, hf⟩ := ab_ask_s hf
    obtain rfl := Option.some.inj hf
    exact ab_Ex.retc (fun n => rfl) (Decidable.not_not.mp c9) rfl
  · replace hf := (if_neg c2).symm.trans hf
    refine ab_Ex.blk (k := 1) (pc' := 15) (lv' := [(0, .ref 9), (1, .ref 1000015)]) (st' := [.ref 9]) (sh' := ab_SH) (D' := ab_dD h) (fun n => rfl) ?_
    obtain ⟨r4, hr4, hf⟩ := ab_bind_s hf
    refine ab_Ex.call (d := d + 4) (M2 := 94) (as := [.ref 9]) (rest := []) (fun n => rfl) rfl (Nat.not_lt.mpr (Nat.le_of_ble_eq_true rfl)) (sX6_advance (d) X  h _ hr4) (fun r hr => ?_)
    subst hr
    show ab_Ex X (d + 5) 89 18 [(0, .ref 9), (1, .ref 1000015)] [] ab_SH (ab_dD r4) _
    refine ab_Ex.blk (k := 1) (pc' := 19) (lv' := [(0, .ref 9), (1, .ref 1000015)]) (st' := [.int 1]) (sh' := ab_SH) (D' := ab_dD r4) (fun n => rfl) ?_
    obtain rfl := Option.some.inj hf
    exact ab_Ex.ret (fun n => rfl) rfl
set_option maxRecDepth 20000 in
theorem sX6_take_1000016 (d : Nat) (X : abX)  (h : abJ) (z : (Int32 × abJ)) (hf : fX6_take 1000016 h = some z) : ab_Ex X (d + 5) 89 0 [(0, .ref 9), (1, .ref 1000016)] [] ab_SH (ab_dD h) (fun r => r = (some (.int z.1), ab_SH, ab_dD z.2)) := by
  unfold fX6_take at hf
  try simp only [Nat.reduceAdd] at hf
  refine ab_Ex.blk (k := 2) (pc' := 2) (lv' := [(0, .ref 9), (1, .ref 1000016)]) (st' := [.ref 1000016, .ref 9]) (sh' := ab_SH) (D' := ab_dD h) (fun n => rfl) ?_
  obtain ⟨r1, hr1, hf⟩ := ab_bind_s hf
  refine ab_Ex.call (d := d + 4) (M2 := 93) (as := [.ref 9, .ref 1000016]) (rest := []) (fun n => rfl) rfl (Nat.not_lt.mpr (Nat.le_of_ble_eq_true rfl)) (sX6_is_1000016 (d) X  h _ hr1) (fun r hr => ?_)
  subst hr
  show ab_Ex X (d + 5) 89 5 [(0, .ref 9), (1, .ref 1000016)] [.int r1] ab_SH (ab_dD h) _
  refine ab_Ex.ifc (c := r1 = 0) (SA := (8, [(0, .ref 9), (1, .ref 1000016)], [], ab_dD h)) (SB := (14, [(0, .ref 9), (1, .ref 1000016)], [], ab_dD h)) (fun n => rfl) (fun c2 => ?_) (fun c2 => ?_)
  · replace hf := (if_pos c2).symm.trans hf
    refine ab_Ex.blk (k := 2) (pc' := 10) (lv' := [(0, .ref 9), (1, .ref 1000016)]) (st' := [.int 2, .ref 9]) (sh' := ab_SH) (D' := ab_dD h) (fun n => rfl) ?_
    obtain ⟨r3, hr3, hf⟩ := ab_bind_s hf
    refine ab_Ex.call (d := d + 4) (M2 := 92) (as := [.ref 9, .int 2]) (rest := []) (fun n => rfl) rfl (Nat.not_lt.mpr (Nat.le_of_ble_eq_true rfl)) (sX6_wrong (d + 4) X 2 h _ hr3) (fun r hr => ?_)
    subst hr
    show ab_Ex X (d + 5) 89 13 [(0, .ref 9), (1, .ref 1000016)] [.int r3.1] ab_SH (ab_dD r3.2) _
    obtain ⟨c9, hf⟩ := ab_ask_s hf
    obtain rfl := Option.some.inj hf
    exact ab_Ex.retc (fun n => rfl) (Decidable.not_not.mp c9) rfl
  · replace hf := (if_neg c2).symm.trans hf
    refine ab_Ex.blk (k := 1) (pc' := 15) (lv' := [(0, .ref 9), (1, .ref 1000016)]) (st' := [.ref 9]) (sh' := ab_SH) (D' := ab_dD h) (fun n => rfl) ?_
    obtain ⟨r4, hr4, hf⟩ := ab_bind_s hf
    refine ab_Ex.call (d := d + 4) (M2 := 94) (as := [.ref 9]) (rest := []) (fun n => rfl) rfl (Nat.not_lt.mpr (Nat.le_of_ble_eq_true rfl)) (sX6_advance (d) X  h _ hr4) (fun r hr => ?_)
    subst hr
    show ab_Ex X (d + 5) 89 18 [(0, .ref 9), (1, .ref 1000016)] [] ab_SH (ab_dD r4) _
    refine ab_Ex.blk (k := 1) (pc' := 19) (lv' := [(0, .ref 9), (1, .ref 1000016)]) (st' := [.int 1]) (sh' := ab_SH) (D' := ab_dD r4) (fun n => rfl) ?_
    obtain rfl := Option.some.inj hf
    exact ab_Ex.ret (fun n => rfl) rfl
set_option maxRecDepth 20000 in
theorem sX6_take_1000017 (d : Nat) (X : abX)  (h : abJ) (z : (Int32 × abJ)) (hf : fX6_take 1000017 h = some z) : ab_Ex X (d + 5) 89 0 [(0, .ref 9), (1, .ref 1000017)] [] ab_SH (ab_dD h) (fun r => r = (some (.int z.1), ab_SH, ab_dD z.2)) := by
  unfold fX6_take at hf
  try simp only [Nat.reduceAdd] at hf
  refine ab_Ex.blk (k := 2) (pc' := 2) (lv' := [(0, .ref 9), (1, .ref 1000017)]) (st' := [.ref 1000017, .ref 9]) (sh' := ab_SH) (D' := ab_dD h) (fun n => rfl) ?_
  obtain ⟨r1, hr1, hf⟩ := ab_bind_s hf
  refine ab_Ex.call (d := d + 4) (M2 := 93) (as := [.ref 9, .ref 1000017]) (rest := []) (fun n => rfl) rfl (Nat.not_lt.mpr (Nat.le_of_ble_eq_true rfl)) (sX6_is_1000017 (d) X  h _ hr1) (fun r hr => ?_)
  subst hr
  show ab_Ex X (d + 5) 89 5 [(0, .ref 9), (1, .ref 1000017)] [.int r1] ab_SH (ab_dD h) _
  refine ab_Ex.ifc (c := r1 = 0) (SA := (8, [(0, .ref 9), (1, .ref 1000017)], [], ab_dD h)) (SB := (14, [(0, .ref 9), (1, .ref 1000017)], [], ab_dD h)) (fun n => rfl) (fun c2 => ?_) (fun c2 => ?_)
  · replace hf := (if_pos c2).symm.trans hf
    refine ab_Ex.blk (k := 2) (pc' := 10) (lv' := [(0, .ref 9), (1, .ref 1000017)]) (st' := [.int 2, .ref 9]) (sh' := ab_SH) (D' := ab_dD h) (fun n => rfl) ?_
    obtain ⟨r3, hr3, hf⟩ := ab_bind_s hf
    refine ab_Ex.call (d := d + 4) (M2 := 92) (as := [.ref 9, .int 2]) (rest := []) (fun n => rfl) rfl (Nat.not_lt.mpr (Nat.le_of_ble_eq_true rfl)) (sX6_wrong (d + 4) X 2 h _ hr3) (fun r hr => ?_)
    subst hr
    show ab_Ex X (d + 5) 89 13 [(0, .ref 9), (1, .ref 1000017)] [.int r3.1] ab_SH (ab_dD r3.2) _
    obtain ⟨c9, hf⟩ := ab_ask_s hf
    obtain rfl := Option.some.inj hf
    exact ab_Ex.retc (fun n => rfl) (Decidable.not_not.mp c9) rfl
  · replace hf := (if_neg c2).symm.trans hf
    refine ab_Ex.blk (k := 1) (pc' := 15) (lv' := [(0, .ref 9), (1, .ref 1000017)]) (st' := [.ref 9]) (sh' := ab_SH) (D' := ab_dD h) (fun n => rfl) ?_
    obtain ⟨r4, hr4, hf⟩ := ab_bind_s hf
    refine ab_Ex.call (d := d + 4) (M2 := 94) (as := [.ref 9]) (rest := []) (fun n => rfl) rfl (Nat.not_lt.mpr (Nat.le_of_ble_eq_true rfl)) (sX6_advance (d) X  h _ hr4) (fun r hr => ?_)
    subst hr
    show ab_Ex X (d + 5) 89 18 [(0, .ref 9), (1, .ref 1000017)] [] ab_SH (ab_dD r4) _
    refine ab_Ex.blk (k := 1) (pc' := 19) (lv' := [(0, .ref 9), (1, .ref 1000017)]) (st' := [.int 1]) (sh' := ab_SH) (D' := ab_dD r4) (fun n => rfl) ?_
    obtain rfl := Option.some.inj hf
    exact ab_Ex.ret (fun n => rfl) rfl
set_option maxRecDepth 20000 in
theorem sX6_take_1000018 (d : Nat) (X : abX)  (h : abJ) (z : (Int32 × abJ)) (hf : fX6_take 1000018 h = some z) : ab_Ex X (d + 5) 89 0 [(0, .ref 9), (1, .ref 1000018)] [] ab_SH (ab_dD h) (fun r => r = (some (.int z.1), ab_SH, ab_dD z.2)) := by
  unfold fX6_take at hf
  try simp only [Nat.reduceAdd] at hf
  refine ab_Ex.blk (k := 2) (pc' := 2) (lv' := [(0, .ref 9), (1, .ref 1000018)]) (st' := [.ref 1000018, .ref 9]) (sh' := ab_SH) (D' := ab_dD h) (fun n => rfl) ?_
  obtain ⟨r1, hr1, hf⟩ := ab_bind_s hf
  refine ab_Ex.call (d := d + 4) (M2 := 93) (as := [.ref 9, .ref 1000018]) (rest := []) (fun n => rfl) rfl (Nat.not_lt.mpr (Nat.le_of_ble_eq_true rfl)) (sX6_is_1000018 (d) X  h _ hr1) (fun r hr => ?_)
  subst hr
  show ab_Ex X (d + 5) 89 5 [(0, .ref 9), (1, .ref 1000018)] [.int r1] ab_SH (ab_dD h) _
  refine ab_Ex.ifc (c := r1 = 0) (SA := (8, [(0, .ref 9), (1, .ref 1000018)], [], ab_dD h)) (SB := (14, [(0, .ref 9), (1, .ref 1000018)], [], ab_dD h)) (fun n => rfl) (fun c2 => ?_) (fun c2 => ?_)
  · replace hf := (if_pos c2).symm.trans hf
    refine ab_Ex.blk (k := 2) (pc' := 10) (lv' := [(0, .ref 9), (1, .ref 1000018)]) (st' := [.int 2, .ref 9]) (sh' := ab_SH) (D' := ab_dD h) (fun n => rfl) ?_
    obtain ⟨r3, hr3, hf⟩ := ab_bind_s hf
    refine ab_Ex.call (d := d + 4) (M2 := 92) (as := [.ref 9, .int 2]) (rest := []) (fun n => rfl) rfl (Nat.not_lt.mpr (Nat.le_of_ble_eq_true rfl)) (sX6_wrong (d + 4) X 2 h _ hr3) (fun r hr => ?_)
    subst hr
    show ab_Ex X (d + 5) 89 13 [(0, .ref 9), (1, .ref 1000018)] [.int r3.1] ab_SH (ab_dD r3.2) _
    obtain ⟨c9, hf⟩ := ab_ask_s hf
    obtain rfl := Option.some.inj hf
    exact ab_Ex.retc (fun n => rfl) (Decidable.not_not.mp c9) rfl
  · replace hf := (if_neg c2).symm.trans hf
    refine ab_Ex.blk (k := 1) (pc' := 15) (lv' := [(0, .ref 9), (1, .ref 1000018)]) (st' := [.ref 9]) (sh' := ab_SH) (D' := ab_dD h) (fun n => rfl) ?_
    obtain ⟨r4, hr4, hf⟩ := ab_bind_s hf
    refine ab_Ex.call (d := d + 4) (M2 := 94) (as := [.ref 9]) (rest := []) (fun n => rfl) rfl (Nat.not_lt.mpr (Nat.le_of_ble_eq_true rfl)) (sX6_advance (d) X  h _ hr4) (fun r hr => ?_)
    subst hr
    show ab_Ex X (d + 5) 89 18 [(0, .ref 9), (1, .ref 1000018)] [] ab_SH (ab_dD r4) _
    refine ab_Ex.blk (k := 1) (pc' := 19) (lv' := [(0, .ref 9), (1, .ref 1000018)]) (st' := [.int 1]) (sh' := ab_SH) (D' := ab_dD r4) (fun n => rfl) ?_
    obtain rfl := Option.some.inj hf
    exact ab_Ex.ret (fun n => rfl) rfl
set_option maxRecDepth 20000 in
theorem sX6_take_1000019 (d : Nat) (X : abX)  (h : abJ) (z : (Int32 × abJ)) (hf : fX6_take 1000019 h = some z) : ab_Ex X (d + 5) 89 0 [(0, .ref 9), (1, .ref 1000019)] [] ab_SH (ab_dD h) (fun r => r = (some (.int z.1), ab_SH, ab_dD z.2)) := by
  unfold fX6_take at hf
  try simp only [Nat.reduceAdd] at hf
  refine ab_Ex.blk (k := 2) (pc' := 2) (lv' := [(0, .ref 9), (1, .ref 1000019)]) (st' := [.ref 1000019, .ref 9]) (sh' := ab_SH) (D' := ab_dD h) (fun n => rfl) ?_
  obtain ⟨r1, hr1, hf⟩ := ab_bind_s hf
  refine ab_Ex.call (d := d + 4) (M2 := 93) (as := [.ref 9, .ref 1000019]) (rest := []) (fun n => rfl) rfl (Nat.not_lt.mpr (Nat.le_of_ble_eq_true rfl)) (sX6_is_1000019 (d) X  h _ hr1) (fun r hr => ?_)
  subst hr
  show ab_Ex X (d + 5) 89 5 [(0, .ref 9), (1, .ref 1000019)] [.int r1] ab_SH (ab_dD h) _
  refine ab_Ex.ifc (c := r1 = 0) (SA := (8, [(0, .ref 9), (1, .ref 1000019)], [], ab_dD h)) (SB := (14, [(0, .ref 9), (1, .ref 1000019)], [], ab_dD h)) (fun n => rfl) (fun c2 => ?_) (fun c2 => ?_)
  · replace hf := (if_pos c2).symm.trans hf
    refine ab_Ex.blk (k := 2) (pc' := 10) (lv' := [(0, .ref 9), (1, .ref 1000019)]) (st' := [.int 2, .ref 9]) (sh' := ab_SH) (D' := ab_dD h) (fun n => rfl) ?_
    obtain ⟨r3, hr3, hf⟩ := ab_bind_s hf
    refine ab_Ex.call (d := d + 4) (M2 := 92) (as := [.ref 9, .int 2]) (rest := []) (fun n => rfl) rfl (Nat.not_lt.mpr (Nat.le_of_ble_eq_true rfl)) (sX6_wrong (d + 4) X 2 h _ hr3) (fun r hr => ?_)
    subst hr
    show ab_Ex X (d + 5) 89 13 [(0, .ref 9), (1, .ref 1000019)] [.int r3.1] ab_SH (ab_dD r3.2) _
    obtain ⟨c9, hf⟩ := ab_ask_s hf
    obtain rfl := Option.some.inj hf
    exact ab_Ex.retc (fun n => rfl) (Decidable.not_not.mp c9) rfl
  · replace hf := (if_neg c2).symm.trans hf
    refine ab_Ex.blk (k := 1) (pc' := 15) (lv' := [(0, .ref 9), (1, .ref 1000019)]) (st' := [.ref 9]) (sh' := ab_SH) (D' := ab_dD h) (fun n => rfl) ?_
    obtain ⟨r4, hr4, hf⟩ := ab_bind_s hf
    refine ab_Ex.call (d := d + 4) (M2 := 94) (as := [.ref 9]) (rest := []) (fun n => rfl) rfl (Nat.not_lt.mpr (Nat.le_of_ble_eq_true rfl)) (sX6_advance (d) X  h _ hr4) (fun r hr => ?_)
    subst hr
    show ab_Ex X (d + 5) 89 18 [(0, .ref 9), (1, .ref 1000019)] [] ab_SH (ab_dD r4) _
    refine ab_Ex.blk (k := 1) (pc' := 19) (lv' := [(0, .ref 9), (1, .ref 1000019)]) (st' := [.int 1]) (sh' := ab_SH) (D' := ab_dD r4) (fun n => rfl) ?_
    obtain rfl := Option.some.inj hf
    exact ab_Ex.ret (fun n => rfl) rfl
set_option maxRecDepth 20000 in
theorem sX6_take_1000020 (d : Nat) (X : abX)  (h : abJ) (z : (Int32 × abJ)) (hf : fX6_take 1000020 h = some z) : ab_Ex X (d + 5) 89 0 [(0, .ref 9), (1, .ref 1000020)] [] ab_SH (ab_dD h) (fun r => r = (some (.int z.1), ab_SH, ab_dD z.2)) := by
  unfold fX6_take at hf
  try simp only [Nat.reduceAdd] at hf
  refine ab_Ex.blk (k := 2) (pc' := 2) (lv' := [(0, .ref 9), (1, .ref 1000020)]) (st' := [.ref 1000020, .ref 9]) (sh' := ab_SH) (D' := ab_dD h) (fun n => rfl) ?_
  obtain ⟨r1, hr1, hf⟩ := ab_bind_s hf
  refine ab_Ex.call (d := d + 4) (M2 := 93) (as := [.ref 9, .ref 1000020]) (rest := []) (fun n => rfl) rfl (Nat.not_lt.mpr (Nat.le_of_ble_eq_true rfl)) (sX6_is_1000020 (d) X  h _ hr1) (fun r hr => ?_)
  subst hr
  show ab_Ex X (d + 5) 89 5 [(0, .ref 9), (1, .ref 1000020)] [.int r1] ab_SH (ab_dD h) _
  refine ab_Ex.ifc (c := r1 = 0) (SA := (8, [(0, .ref 9), (1, .ref 1000020)], [], ab_dD h)) (SB := (14, [(0, .ref 9), (1, .ref 1000020)], [], ab_dD h)) (fun n => rfl) (fun c2 => ?_) (fun c2 => ?_)
  · replace hf := (if_pos c2).symm.trans hf
    refine ab_Ex.blk (k := 2) (pc' := 10) (lv' := [(0, .ref 9), (1, .ref 1000020)]) (st' := [.int 2, .ref 9]) (sh' := ab_SH) (D' := ab_dD h) (fun n => rfl) ?_
    obtain ⟨r3, hr3, hf⟩ := ab_bind_s hf
    refine ab_Ex.call (d := d + 4) (M2 := 92) (as := [.ref 9, .int 2]) (rest := []) (fun n => rfl) rfl (Nat.not_lt.mpr (Nat.le_of_ble_eq_true rfl)) (sX6_wrong (d + 4) X 2 h _ hr3) (fun r hr => ?_)
    subst hr
    show ab_Ex X (d + 5) 89 13 [(0, .ref 9), (1, .ref 1000020)] [.int r3.1] ab_SH (ab_dD r3.2) _
    obtain ⟨c9, hf⟩ := ab_ask_s hf
    obtain rfl := Option.some.inj hf
    exact ab_Ex.retc (fun n => rfl) (Decidable.not_not.mp c9) rfl
  · replace hf := (if_neg c2).symm.trans hf
    refine ab_Ex.blk (k := 1) (pc' := 15) (lv' := [(0, .ref 9), (1, .ref 1000020)]) (st' := [.ref 9]) (sh' := ab_SH) (D' := ab_dD h) (fun n => rfl) ?_
    obtain ⟨r4, hr4, hf⟩ := ab_bind_s hf
    refine ab_Ex.call (d := d + 4) (M2 := 94) (as := [.ref 9]) (rest := []) (fun n => rfl) rfl (Nat.not_lt.mpr (Nat.le_of_ble_eq_true rfl)) (sX6_advance (d) X  h _ hr4) (fun r hr => ?_)
    subst hr
    show ab_Ex X (d + 5) 89 18 [(0, .ref 9), (1, .ref 1000020)] [] ab_SH (ab_dD r4) _
    refine ab_Ex.blk (k := 1) (pc' := 19) (lv' := [(0, .ref 9), (1, .ref 1000020)]) (st' := [.int 1]) (sh' := ab_SH) (D' := ab_dD r4) (fun n => rfl) ?_
    obtain rfl := Option.some.inj hf
    exact ab_Ex.ret (fun n => rfl) rfl
set_option maxRecDepth 20000 in
theorem sX6_take_1000021 (d : Nat) (X : abX)  (h : abJ) (z : (Int32 × abJ)) (hf : fX6_take 1000021 h = some z) : ab_Ex X (d + 5) 89 0 [(0, .ref 9), (1, .ref 1000021)] [] ab_SH (ab_dD h) (fun r => r = (some (.int z.1), ab_SH, ab_dD z.2)) := by
  unfold fX6_take at hf
  try simp only [Nat.reduceAdd] at hf
  refine ab_Ex.blk (k := 2) (pc' := 2) (lv' := [(0, .ref 9), (1, .ref 1000021)]) (st' := [.ref 1000021, .ref 9]) (sh' := ab_SH) (D' := ab_dD h) (fun n => rfl) ?_
  obtain ⟨r1, hr1, hf⟩ := ab_bind_s hf
  refine ab_Ex.call (d := d + 4) (M2 := 93) (as := [.ref 9, .ref 1000021]) (rest := []) (fun n => rfl) rfl (Nat.not_lt.mpr (Nat.le_of_ble_eq_true rfl)) (sX6_is_1000021 (d) X  h _ hr1) (fun r hr => ?_)
  subst hr
  show ab_Ex X (d + 5) 89 5 [(0, .ref 9), (1, .ref 1000021)] [.int r1] ab_SH (ab_dD h) _
  refine ab_Ex.ifc (c := r1 = 0) (SA := (8, [(0, .ref 9), (1, .ref 1000021)], [], ab_dD h)) (SB := (14, [(0, .ref 9), (1, .ref 1000021)], [], ab_dD h)) (fun n => rfl) (fun c2 => ?_) (fun c2 => ?_)
  · replace hf := (if_pos c2).symm.trans hf
    refine ab_Ex.blk (k := 2) (pc' := 10) (lv' := [(0, .ref 9), (1, .ref 1000021)]) (st' := [.int 2, .ref 9]) (sh' := ab_SH) (D' := ab_dD h) (fun n => rfl) ?_
    obtain ⟨r3, hr3, hf⟩ := ab_bind_s hf
    refine ab_Ex.call (d := d + 4) (M2 := 92) (as := [.ref 9, .int 2]) (rest := []) (fun n => rfl) rfl (Nat.not_lt.mpr (Nat.le_of_ble_eq_true rfl)) (sX6_wrong (d + 4) X 2 h _ hr3) (fun r hr => ?_)
    subst hr
    show ab_Ex X (d + 5) 89 13 [(0, .ref 9), (1, .ref 1000021)] [.int r3.1] ab_SH (ab_dD r3.2) _
    obtain ⟨c9, hf⟩ := ab_ask_s hf
    obtain rfl := Option.some.inj hf
    exact ab_Ex.retc (fun n => rfl) (Decidable.not_not.mp c9) rfl
  · replace hf := (if_neg c2).symm.trans hf
    refine ab_Ex.blk (k := 1) (pc' := 15) (lv' := [(0, .ref 9), (1, .ref 1000021)]) (st' := [.ref 9]) (sh' := ab_SH) (D' := ab_dD h) (fun n => rfl) ?_
    obtain ⟨r4, hr4, hf⟩ := ab_bind_s hf
    refine ab_Ex.call (d := d + 4) (M2 := 94) (as := [.ref 9]) (rest := []) (fun n => rfl) rfl (Nat.not_lt.mpr (Nat.le_of_ble_eq_true rfl)) (sX6_advance (d) X  h _ hr4) (fun r hr => ?_)
    subst hr
    show ab_Ex X (d + 5) 89 18 [(0, .ref 9), (1, .ref 1000021)] [] ab_SH (ab_dD r4) _
    refine ab_Ex.blk (k := 1) (pc' := 19) (lv' := [(0, .ref 9), (1, .ref 1000021)]) (st' := [.int 1]) (sh' := ab_SH) (D' := ab_dD r4) (fun n => rfl) ?_
    obtain rfl := Option.some.inj hf
    exact ab_Ex.ret (fun n => rfl) rfl
set_option maxRecDepth 20000 in
theorem sX6_take_1000022 (d : Nat) (X : abX)  (h : abJ) (z : (Int32 × abJ)) (hf : fX6_take 1000022 h = some z) : ab_Ex X (d + 5) 89 0 [(0, .ref 9), (1, .ref 1000022)] [] ab_SH (ab_dD h) (fun r => r = (some (.int z.1), ab_SH, ab_dD z.2)) := by
  unfold fX6_take at hf
  try simp only [Nat.reduceAdd] at hf
  refine ab_Ex.blk (k := 2) (pc' := 2) (lv' := [(0, .ref 9), (1, .ref 1000022)]) (st' := [.ref 1000022, .ref 9]) (sh' := ab_SH) (D' := ab_dD h) (fun n => rfl) ?_
  obtain ⟨r1, hr1, hf⟩ := ab_bind_s hf
  refine ab_Ex.call (d := d + 4) (M2 := 93) (as := [.ref 9, .ref 1000022]) (rest := []) (fun n => rfl) rfl (Nat.not_lt.mpr (Nat.le_of_ble_eq_true rfl)) (sX6_is_1000022 (d) X  h _ hr1) (fun r hr => ?_)
  subst hr
  show ab_Ex X (d + 5) 89 5 [(0, .ref 9), (1, .ref 1000022)] [.int r1] ab_SH (ab_dD h) _
  refine ab_Ex.ifc (c := r1 = 0) (SA := (8, [(0, .ref 9), (1, .ref 1000022)], [], ab_dD h)) (SB := (14, [(0, .ref 9), (1, .ref 1000022)], [], ab_dD h)) (fun n => rfl) (fun c2 => ?_) (fun c2 => ?_)
  · replace hf := (if_pos c2).symm.trans hf
    refine ab_Ex.blk (k := 2) (pc' := 10) (lv' := [(0, .ref 9), (1, .ref 1000022)]) (st' := [.int 2, .ref 9]) (sh' := ab_SH) (D' := ab_dD h) (fun n => rfl) ?_
    obtain ⟨r3, hr3, hf⟩ := ab_bind_s hf
    refine ab_Ex.call (d := d + 4) (M2 := 92) (as := [.ref 9, .int 2]) (rest := []) (fun n => rfl) rfl (Nat.not_lt.mpr (Nat.le_of_ble_eq_true rfl)) (sX6_wrong (d + 4) X 2 h _ hr3) (fun r hr => ?_)
    subst hr
    show ab_Ex X (d + 5) 89 13 [(0, .ref 9), (1, .ref 1000022)] [.int r3.1] ab_SH (ab_dD r3.2) _
    obtain ⟨c9, hf⟩ := ab_ask_s hf
    obtain rfl := Option.some.inj hf
    exact ab_Ex.retc (fun n => rfl) (Decidable.not_not.mp c9) rfl
  · replace hf := (if_neg c2).symm.trans hf
    refine ab_Ex.blk (k := 1) (pc' := 15) (lv' := [(0, .ref 9), (1, .ref 1000022)]) (st' := [.ref 9]) (sh' := ab_SH) (D' := ab_dD h) (fun n => rfl) ?_
    obtain ⟨r4, hr4, hf⟩ := ab_bind_s hf
    refine ab_Ex.call (d := d + 4) (M2 := 94) (as := [.ref 9]) (rest := []) (fun n => rfl) rfl (Nat.not_lt.mpr (Nat.le_of_ble_eq_true rfl)) (sX6_advance (d) X  h _ hr4) (fun r hr => ?_)
    subst hr
    show ab_Ex X (d + 5) 89 18 [(0, .ref 9), (1, .ref 1000022)] [] ab_SH (ab_dD r4) _
    refine ab_Ex.blk (k := 1) (pc' := 19) (lv' := [(0, .ref 9), (1, .ref 1000022)]) (st' := [.int 1]) (sh' := ab_SH) (D' := ab_dD r4) (fun n => rfl) ?_
    obtain rfl := Option.some.inj hf
    exact ab_Ex.ret (fun n => rfl) rfl
set_option maxRecDepth 20000 in
theorem sX6_take_1000023 (d : Nat) (X : abX)  (h : abJ) (z : (Int32 × abJ)) (hf : fX6_take 1000023 h = some z) : ab_Ex X (d + 5) 89 0 [(0, .ref 9), (1, .ref 1000023)] [] ab_SH (ab_dD h) (fun r => r = (some (.int z.1), ab_SH, ab_dD z.2)) := by
  unfold fX6_take at hf
  try simp only [Nat.reduceAdd] at hf
  refine ab_Ex.blk (k := 2) (pc' := 2) (lv' := [(0, .ref 9), (1, .ref 1000023)]) (st' := [.ref 1000023, .ref 9]) (sh' := ab_SH) (D' := ab_dD h) (fun n => rfl) ?_
  obtain ⟨r1, hr1, hf⟩ := ab_bind_s hf
  refine ab_Ex.call (d := d + 4) (M2 := 93) (as := [.ref 9, .ref 1000023]) (rest := []) (fun n => rfl) rfl (Nat.not_lt.mpr (Nat.le_of_ble_eq_true rfl)) (sX6_is_1000023 (d) X  h _ hr1) (fun r hr => ?_)
  subst hr
  show ab_Ex X (d + 5) 89 5 [(0, .ref 9), (1, .ref 1000023)] [.int r1] ab_SH (ab_dD h) _
  refine ab_Ex.ifc (c := r1 = 0) (SA := (8, [(0, .ref 9), (1, .ref 1000023)], [], ab_dD h)) (SB := (14, [(0, .ref 9), (1, .ref 1000023)], [], ab_dD h)) (fun n => rfl) (fun c2 => ?_) (fun c2 => ?_)
  · replace hf := (if_pos c2).symm.trans hf
    refine ab_Ex.blk (k := 2) (pc' := 10) (lv' := [(0, .ref 9), (1, .ref 1000023)]) (st' := [.int 2, .ref 9]) (sh' := ab_SH) (D' := ab_dD h) (fun n => rfl) ?_
    obtain ⟨r3, hr3, hf⟩ := ab_bind_s hf
    refine ab_Ex.call (d := d + 4) (M2 := 92) (as := [.ref 9, .int 2]) (rest := []) (fun n => rfl) rfl (Nat.not_lt.mpr (Nat.le_of_ble_eq_true rfl)) (sX6_wrong (d + 4) X 2 h _ hr3) (fun r hr => ?_)
    subst hr
    show ab_Ex X (d + 5) 89 13 [(0, .ref 9), (1, .ref 1000023)] [.int r3.1] ab_SH (ab_dD r3.2) _
    obtain ⟨c9, hf⟩ := ab_ask_s hf
    obtain rfl := Option.some.inj hf
    exact ab_Ex.retc (fun n => rfl) (Decidable.not_not.mp c9) rfl
  · replace hf := (if_neg c2).symm.trans hf
    refine ab_Ex.blk (k := 1) (pc' := 15) (lv' := [(0, .ref 9), (1, .ref 1000023)]) (st' := [.ref 9]) (sh' := ab_SH) (D' := ab_dD h) (fun n => rfl) ?_
    obtain ⟨r4, hr4, hf⟩ := ab_bind_s hf
    refine ab_Ex.call (d := d + 4) (M2 := 94) (as := [.ref 9]) (rest := []) (fun n => rfl) rfl (Nat.not_lt.mpr (Nat.le_of_ble_eq_true rfl)) (sX6_advance (d) X  h _ hr4) (fun r hr => ?_)
    subst hr
    show ab_Ex X (d + 5) 89 18 [(0, .ref 9), (1, .ref 1000023)] [] ab_SH (ab_dD r4) _
    refine ab_Ex.blk (k := 1) (pc' := 19) (lv' := [(0, .ref 9), (1, .ref 1000023)]) (st' := [.int 1]) (sh' := ab_SH) (D' := ab_dD r4) (fun n => rfl) ?_
    obtain rfl := Option.some.inj hf
    exact ab_Ex.ret (fun n => rfl) rfl
set_option maxRecDepth 20000 in
theorem sX6_take_1000024 (d : Nat) (X : abX)  (h : abJ) (z : (Int32 × abJ)) (hf : fX6_take 1000024 h = some z) : ab_Ex X (d + 5) 89 0 [(0, .ref 9), (1, .ref 1000024)] [] ab_SH (ab_dD h) (fun r => r = (some (.int z.1), ab_SH, ab_dD z.2)) := by
  unfold fX6_take at hf
  try simp only [Nat.reduceAdd] at hf
  refine ab_Ex.blk (k := 2) (pc' := 2) (lv' := [(0, .ref 9), (1, .ref 1000024)]) (st' := [.ref 1000024, .ref 9]) (sh' := ab_SH) (D' := ab_dD h) (fun n => rfl) ?_
  obtain ⟨r1, hr1, hf⟩ := ab_bind_s hf
  refine ab_Ex.call (d := d + 4) (M2 := 93) (as := [.ref 9, .ref 1000024]) (rest := []) (fun n => rfl) rfl (Nat.not_lt.mpr (Nat.le_of_ble_eq_true rfl)) (sX6_is_1000024 (d) X  h _ hr1) (fun r hr => ?_)
  subst hr
  show ab_Ex X (d + 5) 89 5 [(0, .ref 9), (1, .ref 1000024)] [.int r1] ab_SH (ab_dD h) _
  refine ab_Ex.ifc (c := r1 = 0) (SA := (8, [(0, .ref 9), (1, .ref 1000024)], [], ab_dD h)) (SB := (14, [(0, .ref 9), (1, .ref 1000024)], [], ab_dD h)) (fun n => rfl) (fun c2 => ?_) (fun c2 => ?_)
  · replace hf := (if_pos c2).symm.trans hf
    refine ab_Ex.blk (k := 2) (pc' := 10) (lv' := [(0, .ref 9), (1, .ref 1000024)]) (st' := [.int 2, .ref 9]) (sh' := ab_SH) (D' := ab_dD h) (fun n => rfl) ?_
    obtain ⟨r3, hr3, hf⟩ := ab_bind_s hf
    refine ab_Ex.call (d := d + 4) (M2 := 92) (as := [.ref 9, .int 2]) (rest := []) (fun n => rfl) rfl (Nat.not_lt.mpr (Nat.le_of_ble_eq_true rfl)) (sX6_wrong (d + 4) X 2 h _ hr3) (fun r hr => ?_)
    subst hr
    show ab_Ex X (d + 5) 89 13 [(0, .ref 9), (1, .ref 1000024)] [.int r3.1] ab_SH (ab_dD r3.2) _
    obtain ⟨c9, hf⟩ := ab_ask_s hf
    obtain rfl := Option.some.inj hf
    exact ab_Ex.retc (fun n => rfl) (Decidable.not_not.mp c9) rfl
  · replace hf := (if_neg c2).symm.trans hf
    refine ab_Ex.blk (k := 1) (pc' := 15) (lv' := [(0, .ref 9), (1, .ref 1000024)]) (st' := [.ref 9]) (sh' := ab_SH) (D' := ab_dD h) (fun n => rfl) ?_
    obtain ⟨r4, hr4, hf⟩ := ab_bind_s hf
    refine ab_Ex.call (d := d + 4) (M2 := 94) (as := [.ref 9]) (rest := []) (fun n => rfl) rfl (Nat.not_lt.mpr (Nat.le_of_ble_eq_true rfl)) (sX6_advance (d) X  h _ hr4) (fun r hr => ?_)
    subst hr
    show ab_Ex X (d + 5) 89 18 [(0, .ref 9), (1, .ref 1000024)] [] ab_SH (ab_dD r4) _
    refine ab_Ex.blk (k := 1) (pc' := 19) (lv' := [(0, .ref 9), (1, .ref 1000024)]) (st' := [.int 1]) (sh' := ab_SH) (D' := ab_dD r4) (fun n => rfl) ?_
    obtain rfl := Option.some.inj hf
    exact ab_Ex.ret (fun n => rfl) rfl
set_option maxRecDepth 20000 in
theorem sX6_take_1000025 (d : Nat) (X : abX)  (h : abJ) (z : (Int32 × abJ)) (hf : fX6_take 1000025 h = some z) : ab_Ex X (d + 5) 89 0 [(0, .ref 9), (1, .ref 1000025)] [] ab_SH (ab_dD h) (fun r => r = (some (.int z.1), ab_SH, ab_dD z.2)) := by
  unfold fX6_take at hf
  try simp only [Nat.reduceAdd] at hf
  refine ab_Ex.blk (k := 2) (pc' := 2) (lv' := [(0, .ref 9), (1, .ref 1000025)]) (st' := [.ref 1000025, .ref 9]) (sh' := ab_SH) (D' := ab_dD h) (fun n => rfl) ?_
  obtain ⟨r1, hr1, hf⟩ := ab_bind_s hf
  refine ab_Ex.call (d := d + 4) (M2 := 93) (as := [.ref 9, .ref 1000025]) (rest := []) (fun n => rfl) rfl (Nat.not_lt.mpr (Nat.le_of_ble_eq_true rfl)) (sX6_is_1000025 (d) X  h _ hr1) (fun r hr => ?_)
  subst hr
  show ab_Ex X (d + 5) 89 5 [(0, .ref 9), (1, .ref 1000025)] [.int r1] ab_SH (ab_dD h) _
  refine ab_Ex.ifc (c := r1 = 0) (SA := (8, [(0, .ref 9), (1, .ref 1000025)], [], ab_dD h)) (SB := (14, [(0, .ref 9), (1, .ref 1000025)], [], ab_dD h)) (fun n => rfl) (fun c2 => ?_) (fun c2 => ?_)
  · replace hf := (if_pos c2).symm.trans hf
    refine ab_Ex.blk (k := 2) (pc' := 10) (lv' := [(0, .ref 9), (1, .ref 1000025)]) (st' := [.int 2, .ref 9]) (sh' := ab_SH) (D' := ab_dD h) (fun n => rfl) ?_
    obtain ⟨r3, hr3, hf⟩ := ab_bind_s hf
    refine ab_Ex.call (d := d + 4) (M2 := 92) (as := [.ref 9, .int 2]) (rest := []) (fun n => rfl) rfl (Nat.not_lt.mpr (Nat.le_of_ble_eq_true rfl)) (sX6_wrong (d + 4) X 2 h _ hr3) (fun r hr => ?_)
    subst hr
    show ab_Ex X (d + 5) 89 13 [(0, .ref 9), (1, .ref 1000025)] [.int r3.1] ab_SH (ab_dD r3.2) _
    obtain ⟨c9, hf⟩ := ab_ask_s hf
    obtain rfl := Option.some.inj hf
    exact ab_Ex.retc (fun n => rfl) (Decidable.not_not.mp c9) rfl
  · replace hf := (if_neg c2).symm.trans hf
    refine ab_Ex.blk (k := 1) (pc' := 15) (lv' := [(0, .ref 9), (1, .ref 1000025)]) (st' := [.ref 9]) (sh' := ab_SH) (D' := ab_dD h) (fun n => rfl) ?_
    obtain ⟨r4, hr4, hf⟩ := ab_bind_s hf
    refine ab_Ex.call (d := d + 4) (M2 := 94) (as := [.ref 9]) (rest := []) (fun n => rfl) rfl (Nat.not_lt.mpr (Nat.le_of_ble_eq_true rfl)) (sX6_advance (d) X  h _ hr4) (fun r hr => ?_)
    subst hr
    show ab_Ex X (d + 5) 89 18 [(0, .ref 9), (1, .ref 1000025)] [] ab_SH (ab_dD r4) _
    refine ab_Ex.blk (k := 1) (pc' := 19) (lv' := [(0, .ref 9), (1, .ref 1000025)]) (st' := [.int 1]) (sh' := ab_SH) (D' := ab_dD r4) (fun n => rfl) ?_
    obtain rfl := Option.some.inj hf
    exact ab_Ex.ret (fun n => rfl) rfl
set_option maxRecDepth 20000 in
theorem sX6_take_1000026 (d : Nat) (X : abX)  (h : abJ) (z : (Int32 × abJ)) (hf : fX6_take 1000026 h = some z) : ab_Ex X (d + 5) 89 0 [(0, .ref 9), (1, .ref 1000026)] [] ab_SH (ab_dD h) (fun r => r = (some (.int z.1), ab_SH, ab_dD z.2)) := by
  unfold fX6_take at hf
  try simp only [Nat.reduceAdd] at hf
  refine ab_Ex.blk (k := 2) (pc' := 2) (lv' := [(0, .ref 9), (1, .ref 1000026)]) (st' := [.ref 1000026, .ref 9]) (sh' := ab_SH) (D' := ab_dD h) (fun n => rfl) ?_
  obtain ⟨r1, hr1, hf⟩ := ab_bind_s hf
  refine ab_Ex.call (d := d + 4) (M2 := 93) (as := [.ref 9, .ref 1000026]) (rest := []) (fun n => rfl) rfl (Nat.not_lt.mpr (Nat.le_of_ble_eq_true rfl)) (sX6_is_1000026 (d) X  h _ hr1) (fun r hr => ?_)
  subst hr
  show ab_Ex X (d + 5) 89 5 [(0, .ref 9), (1, .ref 1000026)] [.int r1] ab_SH (ab_dD h) _
  refine ab_Ex.ifc (c := r1 = 0) (SA := (8, [(0, .ref 9), (1, .ref 1000026)], [], ab_dD h)) (SB := (14, [(0, .ref 9), (1, .ref 1000026)], [], ab_dD h)) (fun n => rfl) (fun c2 => ?_) (fun c2 => ?_)
  · replace hf := (if_pos c2).symm.trans hf
    refine ab_Ex.blk (k := 2) (pc' := 10) (lv' := [(0, .ref 9), (1, .ref 1000026)]) (st' := [.int 2, .ref 9]) (sh' := ab_SH) (D' := ab_dD h) (fun n => rfl) ?_
    obtain ⟨r3, hr3, hf⟩ := ab_bind_s hf
    refine ab_Ex.call (d := d + 4) (M2 := 92) (as := [.ref 9, .int 2]) (rest := []) (fun n => rfl) rfl (Nat.not_lt.mpr (Nat.le_of_ble_eq_true rfl)) (sX6_wrong (d + 4) X 2 h _ hr3) (fun r hr => ?_)
    subst hr
    show ab_Ex X (d + 5) 89 13 [(0, .ref 9), (1, .ref 1000026)] [.int r3.1] ab_SH (ab_dD r3.2) _
    obtain ⟨c9, hf⟩ := ab_ask_s hf
    obtain rfl := Option.some.inj hf
    exact ab_Ex.retc (fun n => rfl) (Decidable.not_not.mp c9) rfl
  · replace hf := (if_neg c2).symm.trans hf
    refine ab_Ex.blk (k := 1) (pc' := 15) (lv' := [(0, .ref 9), (1, .ref 1000026)]) (st' := [.ref 9]) (sh' := ab_SH) (D' := ab_dD h) (fun n => rfl) ?_
    obtain ⟨r4, hr4, hf⟩ := ab_bind_s hf
    refine ab_Ex.call (d := d + 4) (M2 := 94) (as := [.ref 9]) (rest := []) (fun n => rfl) rfl (Nat.not_lt.mpr (Nat.le_of_ble_eq_true rfl)) (sX6_advance (d) X  h _ hr4) (fun r hr => ?_)
    subst hr
    show ab_Ex X (d + 5) 89 18 [(0, .ref 9), (1, .ref 1000026)] [] ab_SH (ab_dD r4) _
    refine ab_Ex.blk (k := 1) (pc' := 19) (lv' := [(0, .ref 9), (1, .ref 1000026)]) (st' := [.int 1]) (sh' := ab_SH) (D' := ab_dD r4) (fun n => rfl) ?_
    obtain rfl := Option.some.inj hf
    exact ab_Ex.ret (fun n => rfl) rfl
set_option maxRecDepth 20000 in
theorem sX6_take_1000027 (d : Nat) (X : abX)  (h : abJ) (z : (Int32 × abJ)) (hf : fX6_take 1000027 h = some z) : ab_Ex X (d + 5) 89 0 [(0, .ref 9), (1, .ref 1000027)] [] ab_SH (ab_dD h) (fun r => r = (some (.int z.1), ab_SH, ab_dD z.2)) := by
  unfold fX6_take at hf
  try simp only [Nat.reduceAdd] at hf
  refine ab_Ex.blk (k := 2) (pc' := 2) (lv' := [(0, .ref 9), (1, .ref 1000027)]) (st' := [.ref 1000027, .ref 9]) (sh' := ab_SH) (D' := ab_dD h) (fun n => rfl) ?_
  obtain ⟨r1, hr1, hf⟩ := ab_bind_s hf
  refine ab_Ex.call (d := d + 4) (M2 := 93) (as := [.ref 9, .ref 1000027]) (rest := []) (fun n => rfl) rfl (Nat.not_lt.mpr (Nat.le_of_ble_eq_true rfl)) (sX6_is_1000027 (d) X  h _ hr1) (fun r hr => ?_)
  subst hr
  show ab_Ex X (d + 5) 89 5 [(0, .ref 9), (1, .ref 1000027)] [.int r1] ab_SH (ab_dD h) _
  refine ab_Ex.ifc (c := r1 = 0) (SA := (8, [(0, .ref 9), (1, .ref 1000027)], [], ab_dD h)) (SB := (14, [(0, .ref 9), (1, .ref 1000027)], [], ab_dD h)) (fun n => rfl) (fun c2 => ?_) (fun c2 => ?_)
  · replace hf := (if_pos c2).symm.trans hf
    refine ab_Ex.blk (k := 2) (pc' := 10) (lv' := [(0, .ref 9), (1, .ref 1000027)]) (st' := [.int 2, .ref 9]) (sh' := ab_SH) (D' := ab_dD h) (fun n => rfl) ?_
    obtain ⟨r3, hr3, hf⟩ := ab_bind_s hf
    refine ab_Ex.call (d := d + 4) (M2 := 92) (as := [.ref 9, .int 2]) (rest := []) (fun n => rfl) rfl (Nat.not_lt.mpr (Nat.le_of_ble_eq_true rfl)) (sX6_wrong (d + 4) X 2 h _ hr3) (fun r hr => ?_)
    subst hr
    show ab_Ex X (d + 5) 89 13 [(0, .ref 9), (1, .ref 1000027)] [.int r3.1] ab_SH (ab_dD r3.2) _
    obtain ⟨c9, hf⟩ := ab_ask_s hf
    obtain rfl := Option.some.inj hf
    exact ab_Ex.retc (fun n => rfl) (Decidable.not_not.mp c9) rfl
  · replace hf := (if_neg c2).symm.trans hf
    refine ab_Ex.blk (k := 1) (pc' := 15) (lv' := [(0, .ref 9), (1, .ref 1000027)]) (st' := [.ref 9]) (sh' := ab_SH) (D' := ab_dD h) (fun n => rfl) ?_
    obtain ⟨r4, hr4, hf⟩ := ab_bind_s hf
    refine ab_Ex.call (d := d + 4) (M2 := 94) (as := [.ref 9]) (rest := []) (fun n => rfl) rfl (Nat.not_lt.mpr (Nat.le_of_ble_eq_true rfl)) (sX6_advance (d) X  h _ hr4) (fun r hr => ?_)
    subst hr
    show ab_Ex X (d + 5) 89 18 [(0, .ref 9), (1, .ref 1000027)] [] ab_SH (ab_dD r4) _
    refine ab_Ex.blk (k := 1) (pc' := 19) (lv' := [(0, .ref 9), (1, .ref 1000027)]) (st' := [.int 1]) (sh' := ab_SH) (D' := ab_dD r4) (fun n => rfl) ?_
    obtain rfl := Option.some.inj hf
    exact ab_Ex.ret (fun n => rfl) rfl
set_option maxRecDepth 20000 in
theorem sX6_take_1000028 (d : Nat) (X : abX)  (h : abJ) (z : (Int32 × abJ)) (hf : fX6_take 1000028 h = some z) : ab_Ex X (d + 5) 89 0 [(0, .ref 9), (1, .ref 1000028)] [] ab_SH (ab_dD h) (fun r => r = (some (.int z.1), ab_SH, ab_dD z.2)) := by
  unfold fX6_take at hf
  try simp only [Nat.reduceAdd] at hf
  refine ab_Ex.blk (k := 2) (pc' := 2) (lv' := [(0, .ref 9), (1, .ref 1000028)]) (st' := [.ref 1000028, .ref 9]) (sh' := ab_SH) (D' := ab_dD h) (fun n => rfl) ?_
  obtain ⟨r1, hr1, hf⟩ := ab_bind_s hf
  refine ab_Ex.call (d := d + 4) (M2 := 93) (as := [.ref 9, .ref 1000028]) (rest := []) (fun n => rfl) rfl (Nat.not_lt.mpr (Nat.le_of_ble_eq_true rfl)) (sX6_is_1000028 (d) X  h _ hr1) (fun r hr => ?_)
  subst hr
  show ab_Ex X (d + 5) 89 5 [(0, .ref 9), (1, .ref 1000028)] [.int r1] ab_SH (ab_dD h) _
  refine ab_Ex.ifc (c := r1 = 0) (SA := (8, [(0, .ref 9), (1, .ref 1000028)], [], ab_dD h)) (SB := (14, [(0, .ref 9), (1, .ref 1000028)], [], ab_dD h)) (fun n => rfl) (fun c2 => ?_) (fun c2 => ?_)
  · replace hf := (if_pos c2).symm.trans hf
    refine ab_Ex.blk (k := 2) (pc' := 10) (lv' := [(0, .ref 9), (1, .ref 1000028)]) (st' := [.int 2, .ref 9]) (sh' := ab_SH) (D' := ab_dD h) (fun n => rfl) ?_
    obtain ⟨r3, hr3, hf⟩ := ab_bind_s hf
    refine ab_Ex.call (d := d + 4) (M2 := 92) (as := [.ref 9, .int 2]) (rest := []) (fun n => rfl) rfl (Nat.not_lt.mpr (Nat.le_of_ble_eq_true rfl)) (sX6_wrong (d + 4) X 2 h _ hr3) (fun r hr => ?_)
    subst hr
    show ab_Ex X (d + 5) 89 13 [(0, .ref 9), (1, .ref 1000028)] [.int r3.1] ab_SH (ab_dD r3.2) _
    obtain ⟨c9, hf⟩ := ab_ask_s hf
    obtain rfl := Option.some.inj hf
    exact ab_Ex.retc (fun n => rfl) (Decidable.not_not.mp c9) rfl
  · replace hf := (if_neg c2).symm.trans hf
    refine ab_Ex.blk (k := 1) (pc' := 15) (lv' := [(0, .ref 9), (1, .ref 1000028)]) (st' := [.ref 9]) (sh' := ab_SH) (D' := ab_dD h) (fun n => rfl) ?_
    obtain ⟨r4, hr4, hf⟩ := ab_bind_s hf
    refine ab_Ex.call (d := d + 4) (M2 := 94) (as := [.ref 9]) (rest := []) (fun n => rfl) rfl (Nat.not_lt.mpr (Nat.le_of_ble_eq_true rfl)) (sX6_advance (d) X  h _ hr4) (fun r hr => ?_)
    subst hr
    show ab_Ex X (d + 5) 89 18 [(0, .ref 9), (1, .ref 1000028)] [] ab_SH (ab_dD r4) _
    refine ab_Ex.blk (k := 1) (pc' := 19) (lv' := [(0, .ref 9), (1, .ref 1000028)]) (st' := [.int 1]) (sh' := ab_SH) (D' := ab_dD r4) (fun n => rfl) ?_
    obtain rfl := Option.some.inj hf
    exact ab_Ex.ret (fun n => rfl) rfl
set_option maxRecDepth 20000 in
theorem sX6_take_1000029 (d : Nat) (X : abX)  (h : abJ) (z : (Int32 × abJ)) (hf : fX6_take 1000029 h = some z) : ab_Ex X (d + 5) 89 0 [(0, .ref 9), (1, .ref 1000029)] [] ab_SH (ab_dD h) (fun r => r = (some (.int z.1), ab_SH, ab_dD z.2)) := by
  unfold fX6_take at hf
  try simp only [Nat.reduceAdd] at hf
  refine ab_Ex.blk (k := 2) (pc' := 2) (lv' := [(0, .ref 9), (1, .ref 1000029)]) (st' := [.ref 1000029, .ref 9]) (sh' := ab_SH) (D' := ab_dD h) (fun n => rfl) ?_
  obtain ⟨r1, hr1, hf⟩ := ab_bind_s hf
  refine ab_Ex.call (d := d + 4) (M2 := 93) (as := [.ref 9, .ref 1000029]) (rest := []) (fun n => rfl) rfl (Nat.not_lt.mpr (Nat.le_of_ble_eq_true rfl)) (sX6_is_1000029 (d) X  h _ hr1) (fun r hr => ?_)
  subst hr
  show ab_Ex X (d + 5) 89 5 [(0, .ref 9), (1, .ref 1000029)] [.int r1] ab_SH (ab_dD h) _
  refine ab_Ex.ifc (c := r1 = 0) (SA := (8, [(0, .ref 9), (1, .ref 1000029)], [], ab_dD h)) (SB := (14, [(0, .ref 9), (1, .ref 1000029)], [], ab_dD h)) (fun n => rfl) (fun c2 => ?_) (fun c2 => ?_)
  · replace hf := (if_pos c2).symm.trans hf
    refine ab_Ex.blk (k := 2) (pc' := 10) (lv' := [(0, .ref 9), (1, .ref 1000029)]) (st' := [.int 2, .ref 9]) (sh' := ab_SH) (D' := ab_dD h) (fun n => rfl) ?_
    obtain ⟨r3, hr3, hf⟩ := ab_bind_s hf
    refine ab_Ex.call (d := d + 4) (M2 := 92) (as := [.ref 9, .int 2]) (rest := []) (fun n => rfl) rfl (Nat.not_lt.mpr (Nat.le_of_ble_eq_true rfl)) (sX6_wrong (d + 4) X 2 h _ hr3) (fun r hr => ?_)
    subst hr
    show ab_Ex X (d + 5) 89 13 [(0, .ref 9), (1, .ref 1000029)] [.int r3.1] ab_SH (ab_dD r3.2) _
    obtain ⟨c9, hf⟩ := ab_ask_s hf
    obtain rfl := Option.some.inj hf
    exact ab_Ex.retc (fun n => rfl) (Decidable.not_not.mp c9) rfl
  · replace hf := (if_neg c2).symm.trans hf
    refine ab_Ex.blk (k := 1) (pc' := 15) (lv' := [(0, .ref 9), (1, .ref 1000029)]) (st' := [.ref 9]) (sh' := ab_SH) (D' := ab_dD h) (fun n => rfl) ?_
    obtain ⟨r4, hr4, hf⟩ := ab_bind_s hf
    refine ab_Ex.call (d := d + 4) (M2 := 94) (as := [.ref 9]) (rest := []) (fun n => rfl) rfl (Nat.not_lt.mpr (Nat.le_of_ble_eq_true rfl)) (sX6_advance (d) X  h _ hr4) (fun r hr => ?_)
    subst hr
    show ab_Ex X (d + 5) 89 18 [(0, .ref 9), (1, .ref 1000029)] [] ab_SH (ab_dD r4) _
    refine ab_Ex.blk (k := 1) (pc' := 19) (lv' := [(0, .ref 9), (1, .ref 1000029)]) (st' := [.int 1]) (sh' := ab_SH) (D' := ab_dD r4) (fun n => rfl) ?_
    obtain rfl := Option.some.inj hf
    exact ab_Ex.ret (fun n => rfl) rfl
set_option maxRecDepth 20000 in
theorem sX6_take_1000030 (d : Nat) (X : abX)  (h : abJ) (z : (Int32 × abJ)) (hf : fX6_take 1000030 h = some z) : ab_Ex X (d + 5) 89 0 [(0, .ref 9), (1, .ref 1000030)] [] ab_SH (ab_dD h) (fun r => r = (some (.int z.1), ab_SH, ab_dD z.2)) := by
  unfold fX6_take at hf
  try simp only [Nat.reduceAdd] at hf
  refine ab_Ex.blk (k := 2) (pc' := 2) (lv' := [(0, .ref 9), (1, .ref 1000030)]) (st' := [.ref 1000030, .ref 9]) (sh' := ab_SH) (D' := ab_dD h) (fun n => rfl) ?_
  obtain ⟨r1, hr1, hf⟩ := ab_bind_s hf
  refine ab_Ex.call (d := d + 4) (M2 := 93) (as := [.ref 9, .ref 1000030]) (rest := []) (fun n => rfl) rfl (Nat.not_lt.mpr (Nat.le_of_ble_eq_true rfl)) (sX6_is_1000030 (d) X  h _ hr1) (fun r hr => ?_)
  subst hr
  show ab_Ex X (d + 5) 89 5 [(0, .ref 9), (1, .ref 1000030)] [.int r1] ab_SH (ab_dD h) _
  refine ab_Ex.ifc (c := r1 = 0) (SA := (8, [(0, .ref 9), (1, .ref 1000030)], [], ab_dD h)) (SB := (14, [(0, .ref 9), (1, .ref 1000030)], [], ab_dD h)) (fun n => rfl) (fun c2 => ?_) (fun c2 => ?_)
  · replace hf := (if_pos c2).symm.trans hf
    refine ab_Ex.blk (k := 2) (pc' := 10) (lv' := [(0, .ref 9), (1, .ref 1000030)]) (st' := [.int 2, .ref 9]) (sh' := ab_SH) (D' := ab_dD h) (fun n => rfl) ?_
    obtain ⟨r3, hr3, hf⟩ := ab_bind_s hf
    refine ab_Ex.call (d := d + 4) (M2 := 92) (as := [.ref 9, .int 2]) (rest := []) (fun n => rfl) rfl (Nat.not_lt.mpr (Nat.le_of_ble_eq_true rfl)) (sX6_wrong (d + 4) X 2 h _ hr3) (fun r hr => ?_)
    subst hr
    show ab_Ex X (d + 5) 89 13 [(0, .ref 9), (1, .ref 1000030)] [.int r3.1] ab_SH (ab_dD r3.2) _
    obtain ⟨c9, hf⟩ := ab_ask_s hf
    obtain rfl := Option.some.inj hf
    exact ab_Ex.retc (fun n => rfl) (Decidable.not_not.mp c9) rfl
  · replace hf := (if_neg c2).symm.trans hf
    refine ab_Ex.blk (k := 1) (pc' := 15) (lv' := [(0, .ref 9), (1, .ref 1000030)]) (st' := [.ref 9]) (sh' := ab_SH) (D' := ab_dD h) (fun n => rfl) ?_
    obtain ⟨r4, hr4, hf⟩ := ab_bind_s hf
    refine ab_Ex.call (d := d + 4) (M2 := 94) (as := [.ref 9]) (rest := []) (fun n => rfl) rfl (Nat.not_lt.mpr (Nat.le_of_ble_eq_true rfl)) (sX6_advance (d) X  h _ hr4) (fun r hr => ?_)
    subst hr
    show ab_Ex X (d + 5) 89 18 [(0, .ref 9), (1, .ref 1000030)] [] ab_SH (ab_dD r4) _
    refine ab_Ex.blk (k := 1) (pc' := 19) (lv' := [(0, .ref 9), (1, .ref 1000030)]) (st' := [.int 1]) (sh' := ab_SH) (D' := ab_dD r4) (fun n => rfl) ?_
    obtain rfl := Option.some.inj hf
    exact ab_Ex.ret (fun n => rfl) rfl
def fX6_takeNumber (x0 : Int32) (x1 : Int32) (h : abJ) : Option (Int32 × abJ) := if (h.1 9 6) = 2 then if (h.1 9 9) < x0 then (fX6_wrong 3 h).bind (fun r3 => some ((-1), r3.2)) else if (h.1 9 9) ≤ x1 then (fX6_advance h).bind (fun r5 => some ((h.1 9 9), r5)) else (fX6_wrong 3 h).bind (fun r6 => some ((-1), r6.2)) else (fX6_wrong 2 h).bind (fun r7 => some ((-1), r7.2))
set_option maxRecDepth 20000 in
theorem sX6_takeNumber (d : Nat) (X : abX) (x0 : Int32) (x1 : Int32) (h : abJ) (z : (Int32 × abJ)) (hf : fX6_takeNumber x0 x1 h = some z) : ab_Ex X (d + 5) 91 0 [(0, .ref 9), (1, .int x0), (2, .int x1)] [] ab_SH (ab_dD h) (fun r => r = (some (.int z.1), ab_SH, ab_dD z.2)) := by
  unfold fX6_takeNumber at hf
  refine ab_Ex.blk (k := 3) (pc' := 5) (lv' := [(0, .ref 9), (1, .int x0), (2, .int x1)]) (st' := [.int 2, .int ((h.1 9 6))]) (sh' := ab_SH) (D' := ab_dD h) (fun n => rfl) ?_
  refine ab_Ex.ifc (c := (h.1 9 6) = 2) (SA := (16, [(0, .ref 9), (1, .int x0), (2, .int x1)], [], ab_dD h)) (SB := (8, [(0, .ref 9), (1, .int x0), (2, .int x1)], [], ab_dD h)) (fun n => rfl) (fun c1 => ?_) (fun c1 => ?_)
  · replace hf := (if_pos c1).symm.trans hf
    refine ab_Ex.blk (k := 3) (pc' := 21) (lv' := [(0, .ref 9), (1, .int x0), (2, .int x1)]) (st' := [.int x0, .int ((h.1 9 9))]) (sh' := ab_SH) (D' := ab_dD h) (fun n => rfl) ?_
    refine ab_Ex.ifc (c := (h.1 9 9) < x0) (SA := (32, [(0, .ref 9), (1, .int x0), (2, .int x1)], [], ab_dD h)) (SB := (24, [(0, .ref 9), (1, .int x0), (2, .int x1)], [], ab_dD h)) (fun n => rfl) (fun c2 => ?_) (fun c2 => ?_)
    · replace hf := (if_pos c2).symm.trans hf
      refine ab_Ex.blk (k := 2) (pc' := 34) (lv' := [(0, .ref 9)]) (st' := [.int 3, .ref 9]) (sh' := ab_SH) (D' := ab_dD h) (fun n => rfl) ?_
      obtain ⟨r3, hr3, hf⟩ := ab_bind_s hf
      refine ab_Ex.call (d := d + 4) (M2 := 92) (as := [.ref 9, .int 3]) (rest := []) (fun n => rfl) rfl (Nat.not_lt.mpr (Nat.le_of_ble_eq_true rfl)) (sX6_wrong (d + 4) X 3 h _ hr3) (fun r hr => ?_)
      subst hr
      show ab_Ex X (d + 5) 91 37 [(0, .ref 9)] [.int r3.1] ab_SH (ab_dD r3.2) _
      refine ab_Ex.blk (k := 2) (pc' := 39) (lv' := [(0, .ref 9)]) (st' := [.int ((-1))]) (sh' := ab_SH) (D' := ab_dD r3.2) (fun n => rfl) ?_
      obtain rfl := Option.some.inj hf
      exact ab_Ex.ret (fun n => rfl) rfl
    · replace hf := (if_neg c2).symm.trans hf
      refine ab_Ex.blk (k := 3) (pc' := 29) (lv' := [(0, .ref 9), (1, .int x0), (2, .int x1)]) (st' := [.int x1, .int ((h.1 9 9))]) (sh' := ab_SH) (D' := ab_dD h) (fun n => rfl) ?_
      refine ab_Ex.ifc (c := (h.1 9 9) ≤ x1) (SA := (40, [(0, .ref 9), (1, .int x0), (2, .int x1)], [], ab_dD h)) (SB := (32, [(0, .ref 9), (1, .int x0), (2, .int x1)], [], ab_dD h)) (fun n => rfl) (fun c4 => ?_) (fun c4 => ?_)
      · replace hf := (if_pos c4).symm.trans hf
        refine ab_Ex.blk (k := 4) (pc' := 46) (lv' := [(3, .int ((h.1 9 9))), (0, .ref 9), (1, .int x0), (2, .int x1)]) (st' := [.ref 9]) (sh' := ab_SH) (D' := ab_dD h) (fun n => rfl) ?_
        obtain ⟨r5, hr5, hf⟩ := ab_bind_s hf
        refine ab_Ex.call (d := d + 4) (M2 := 94) (as := [.ref 9]) (rest := []) (fun n => rfl) rfl (Nat.not_lt.mpr (Nat.le_of_ble_eq_true rfl)) (sX6_advance (d) X  h _ hr5) (fun r hr => ?_)
        subst hr
        show ab_Ex X (d + 5) 91 49 [(3, .int ((h.1 9 9))), (0, .ref 9), (1, .int x0), (2, .int x1)] [] ab_SH (ab_dD r5) _
        refine ab_Ex.blk (k := 1) (pc' := 50) (lv' := [(3, .int ((h.1 9 9))), (0, .ref 9), (1, .int x0), (2, .int x1)]) (st' := [.int ((h.1 9 9))]) (sh' := ab_SH) (D' := ab_dD r5) (fun n => rfl) ?_
        obtain rfl := Option.some.inj hf
        exact ab_Ex.ret (fun n => rfl) rfl
      · replace hf := (if_neg c4).symm.trans hf
        refine ab_Ex.blk (k := 2) (pc' := 34) (lv' := [(0, .ref 9)]) (st' := [.int 3, .ref 9]) (sh' := ab_SH) (D' := ab_dD h) (fun n => rfl) ?_
        obtain ⟨r6, hr6, hf⟩ := ab_bind_s hf
        refine ab_Ex.call (d := d + 4) (M2 := 92) (as := [.ref 9, .int 3]) (rest := []) (fun n => rfl) rfl (Nat.not_lt.mpr (Nat.le_of_ble_eq_true rfl)) (sX6_wrong (d + 4) X 3 h _ hr6) (fun r hr => ?_)
        subst hr
        show ab_Ex X (d + 5) 91 37 [(0, .ref 9)] [.int r6.1] ab_SH (ab_dD r6.2) _
        refine ab_Ex.blk (k := 2) (pc' := 39) (lv' := [(0, .ref 9)]) (st' := [.int ((-1))]) (sh' := ab_SH) (D' := ab_dD r6.2) (fun n => rfl) ?_
        obtain rfl := Option.some.inj hf
        exact ab_Ex.ret (fun n => rfl) rfl
  · replace hf := (if_neg c1).symm.trans hf
    refine ab_Ex.blk (k := 2) (pc' := 10) (lv' := [(0, .ref 9), (1, .int x0), (2, .int x1)]) (st' := [.int 2, .ref 9]) (sh' := ab_SH) (D' := ab_dD h) (fun n => rfl) ?_
    obtain ⟨r7, hr7, hf⟩ := ab_bind_s hf
    refine ab_Ex.call (d := d + 4) (M2 := 92) (as := [.ref 9, .int 2]) (rest := []) (fun n => rfl) rfl (Nat.not_lt.mpr (Nat.le_of_ble_eq_true rfl)) (sX6_wrong (d + 4) X 2 h _ hr7) (fun r hr => ?_)
    subst hr
    show ab_Ex X (d + 5) 91 13 [(0, .ref 9), (1, .int x0), (2, .int x1)] [.int r7.1] ab_SH (ab_dD r7.2) _
    refine ab_Ex.blk (k := 2) (pc' := 15) (lv' := [(0, .ref 9), (1, .int x0), (2, .int x1)]) (st' := [.int ((-1))]) (sh' := ab_SH) (D' := ab_dD r7.2) (fun n => rfl) ?_
    obtain rfl := Option.some.inj hf
    exact ab_Ex.ret (fun n => rfl) rfl
def fX6_endLine  (h : abJ) : Option (Int32 × abJ) := (fX6_take 1000003 h).bind (fun r1 => if r1.1 = 0 then some (0, r1.2) else some (1, (ab_wI r1.2 5 1 (((r1.2).1 5 1) + 1))))
set_option maxRecDepth 20000 in
theorem sX6_endLine (d : Nat) (X : abX)  (h : abJ) (z : (Int32 × abJ)) (hf : fX6_endLine  h = some z) : ab_Ex X (d + 6) 71 0 [(0, .ref 9)] [] ab_SH (ab_dD h) (fun r => r = (some (.int z.1), ab_SH, ab_dD z.2)) := by
  unfold fX6_endLine at hf
  refine ab_Ex.blk (k := 2) (pc' := 3) (lv' := [(0, .ref 9)]) (st' := [.ref 1000003, .ref 9]) (sh' := ab_SH) (D' := ab_dD h) (fun n => rfl) ?_
  obtain ⟨r1, hr1, hf⟩ := ab_bind_s hf
  refine ab_Ex.call (d := d + 5) (M2 := 89) (as := [.ref 9, .ref 1000003]) (rest := []) (fun n => rfl) rfl (Nat.not_lt.mpr (Nat.le_of_ble_eq_true rfl)) (sX6_take_1000003 (d) X  h _ hr1) (fun r hr => ?_)
  subst hr
  show ab_Ex X (d + 6) 71 6 [(0, .ref 9)] [.int r1.1] ab_SH (ab_dD r1.2) _
  refine ab_Ex.ifc (c := r1.1 = 0) (SA := (9, [(0, .ref 9)], [], ab_dD r1.2)) (SB := (11, [(0, .ref 9)], [], ab_dD r1.2)) (fun n => rfl) (fun c2 => ?_) (fun c2 => ?_)
  · replace hf := (if_pos c2).symm.trans hf
    refine ab_Ex.blk (k := 1) (pc' := 10) (lv' := [(0, .ref 9)]) (st' := [.int 0]) (sh' := ab_SH) (D' := ab_dD r1.2) (fun n => rfl) ?_
    obtain rfl := Option.some.inj hf
    exact ab_Ex.ret (fun n => rfl) rfl
  · replace hf := (if_neg c2).symm.trans hf
    refine ab_Ex.blk (k := 8) (pc' := 25) (lv' := [(0, .ref 9)]) (st' := [.int 1]) (sh' := ab_SH) (D' := ab_dD (ab_wI r1.2 5 1 (((r1.2).1 5 1) + 1))) (fun n => rfl) ?_
    obtain rfl := Option.some.inj hf
    exact ab_Ex.ret (fun n => rfl) rfl
def fX6_readHead  (h : abJ) : Option (Int32 × abJ) := (fX6_take 1000001 h).bind (fun r1 => if r1.1 = 0 then some (0, r1.2) else (fX6_take 1000002 r1.2).bind (fun r3 => if r3.1 = 0 then some (0, r3.2) else (fX6_takeNumber 1 6 r3.2).bind (fun r5 => if r5.1 = (-1) then some (0, r5.2) else (fX6_endLine (ab_wI r5.2 5 0 r5.1)).bind (fun r7 => ab_ask (¬ (r7.1 = 0 ∨ r7.1 = 1)) (some (r7.1, r7.2))))))
set_option maxRecDepth 20000 in
theorem sX6_readHead (d : Nat) (X : abX)  (h : abJ) (z : (Int32 × abJ)) (hf : fX6_readHead  h = some z) : ab_Ex X (d + 7) 69 0 [(0, .ref 9)] [] ab_SH (ab_dD h) (fun r => r = (some (.int z.1), ab_SH, ab_dD z.2)) := by
  unfold fX6_readHead at hf
  refine ab_Ex.blk (k := 2) (pc' := 3) (lv' := [(0, .ref 9)]) (st' := [.ref 1000001, .ref 9]) (sh' := ab_SH) (D' := ab_dD h) (fun n => rfl) ?_
  obtain ⟨r1, hr1, hf⟩ := ab_bind_s hf
  refine ab_Ex.call (d := d + 6) (M2 := 89) (as := [.ref 9, .ref 1000001]) (rest := []) (fun n => rfl) rfl (Nat.not_lt.mpr (Nat.le_of_ble_eq_true rfl)) (sX6_take_1000001 (d + 1) X  h _ hr1) (fun r hr => ?_)
  subst hr
  show ab_Ex X (d + 7) 69 6 [(0, .ref 9)] [.int r1.1] ab_SH (ab_dD r1.2) _
  refine ab_Ex.ifc (c := r1.1 = 0) (SA := (18, [(0, .ref 9)], [], ab_dD r1.2)) (SB := (9, [(0, .ref 9)], [], ab_dD r1.2)) (fun n => rfl) (fun c2 => ?_) (fun c2 => ?_)
  · replace hf := (if_pos c2).symm.trans hf
    refine ab_Ex.blk (k := 1) (pc' := 19) (lv' := []) (st' := [.int 0]) (sh' := ab_SH) (D' := ab_dD r1.2) (fun n => rfl) ?_
    obtain rfl := Option.some.inj hf
    exact ab_Ex.ret (fun n => rfl) rfl
  · replace hf := (if_neg c2).symm.trans hf
    refine ab_Ex.blk (k := 2) (pc' := 12) (lv' := [(0, .ref 9)]) (st' := [.ref 1000002, .ref 9]) (sh' := ab_SH) (D' := ab_dD r1.2) (fun n => rfl) ?_
    obtain ⟨r3, hr3, hf⟩ := ab_bind_s hf
    refine ab_Ex.call (d := d + 6) (M2 := 89) (as := [.ref 9, .ref 1000002]) (rest := []) (fun n => rfl) rfl (Nat.not_lt.mpr (Nat.le_of_ble_eq_true rfl)) (sX6_take_1000002 (d + 1) X  r1.2 _ hr3) (fun r hr => ?_)
    subst hr
    show ab_Ex X (d + 7) 69 15 [(0, .ref 9)] [.int r3.1] ab_SH (ab_dD r3.2) _
    refine ab_Ex.ifc (c := r3.1 = 0) (SA := (18, [(0, .ref 9)], [], ab_dD r3.2)) (SB := (20, [(0, .ref 9)], [], ab_dD r3.2)) (fun n => rfl) (fun c4 => ?_) (fun c4 => ?_)
    · replace hf := (if_pos c4).symm.trans hf
      refine ab_Ex.blk (k := 1) (pc' := 19) (lv' := []) (st' := [.int 0]) (sh' := ab_SH) (D' := ab_dD r3.2) (fun n => rfl) ?_
      obtain rfl := Option.some.inj hf
      exact ab_Ex.ret (fun n => rfl) rfl
    · replace hf := (if_neg c4).symm.trans hf
      refine ab_Ex.blk (k := 3) (pc' := 24) (lv' := [(0, .ref 9)]) (st' := [.int 6, .int 1, .ref 9]) (sh' := ab_SH) (D' := ab_dD r3.2) (fun n => rfl) ?_
      obtain ⟨r5, hr5, hf⟩ := ab_bind_s hf
      refine ab_Ex.call (d := d + 6) (M2 := 91) (as := [.ref 9, .int 1, .int 6]) (rest := []) (fun n => rfl) rfl (Nat.not_lt.mpr (Nat.le_of_ble_eq_true rfl)) (sX6_takeNumber (d + 1) X 1 6 r3.2 _ hr5) (fun r hr => ?_)
      subst hr
      show ab_Ex X (d + 7) 69 27 [(0, .ref 9)] [.int r5.1] ab_SH (ab_dD r5.2) _
      refine ab_Ex.blk (k := 3) (pc' := 30) (lv' := [(1, .int r5.1), (0, .ref 9)]) (st' := [.int ((-1)), .int r5.1]) (sh' := ab_SH) (D' := ab_dD r5.2) (fun n => rfl) ?_
      refine ab_Ex.ifc (c := r5.1 = (-1)) (SA := (33, [(1, .int r5.1), (0, .ref 9)], [], ab_dD r5.2)) (SB := (35, [(1, .int r5.1), (0, .ref 9)], [], ab_dD r5.2)) (fun n => rfl) (fun c6 => ?_) (fun c6 => ?_)
      · replace hf := (if_pos c6).symm.trans hf
        refine ab_Ex.blk (k := 1) (pc' := 34) (lv' := [(1, .int r5.1), (0, .ref 9)]) (st' := [.int 0]) (sh' := ab_SH) (D' := ab_dD r5.2) (fun n => rfl) ?_
        obtain rfl := Option.some.inj hf
        exact ab_Ex.ret (fun n => rfl) rfl
      · replace hf := (if_neg c6).symm.trans hf
        refine ab_Ex.blk (k := 5) (pc' := 44) (lv' := [(1, .int r5.1), (0, .ref 9)]) (st' := [.ref 9]) (sh' := ab_SH) (D' := ab_dD (ab_wI r5.2 5 0 r5.1)) (fun n => rfl) ?_
        obtain ⟨r7, hr7, hf⟩ := ab_bind_s hf
        refine ab_Ex.call (d := d + 6) (M2 := 71) (as := [.ref 9]) (rest := []) (fun n => rfl) rfl (Nat.not_lt.mpr (Nat.le_of_ble_eq_true rfl)) (sX6_endLine (d) X  (ab_wI r5.2 5 0 r5.1) _ hr7) (fun r hr => ?_)
        subst hr
        show ab_Ex X (d + 7) 69 47 [(1, .int r5.1), (0, .ref 9)] [.int r7.1] ab_SH (ab_dD r7.2) _
        obtain ⟨c9, hf⟩ := ab_ask_s hf
        obtain rfl := Option.some.inj hf
        exact ab_Ex.retc (fun n => rfl) (Decidable.not_not.mp c9) rfl
def fX6_takePost  (h : abJ) : Option (Int32 × abJ) := (fX6_takeNumber 0 (((h.1 5 0) - 1)) h).bind (fun r1 => some (r1.1, r1.2))
set_option maxRecDepth 20000 in
theorem sX6_takePost (d : Nat) (X : abX)  (h : abJ) (z : (Int32 × abJ)) (hf : fX6_takePost  h = some z) : ab_Ex X (d + 6) 90 0 [(0, .ref 9)] [] ab_SH (ab_dD h) (fun r => r = (some (.int z.1), ab_SH, ab_dD z.2)) := by
  unfold fX6_takePost at hf
  refine ab_Ex.blk (k := 7) (pc' := 11) (lv' := [(0, .ref 9)]) (st' := [.int (((h.1 5 0) - 1)), .int 0, .ref 9]) (sh' := ab_SH) (D' := ab_dD h) (fun n => rfl) ?_
  obtain ⟨r1, hr1, hf⟩ := ab_bind_s hf
  refine ab_Ex.call (d := d + 5) (M2 := 91) (as := [.ref 9, .int 0, .int (((h.1 5 0) - 1))]) (rest := []) (fun n => rfl) rfl (Nat.not_lt.mpr (Nat.le_of_ble_eq_true rfl)) (sX6_takeNumber (d) X 0 (((h.1 5 0) - 1)) h _ hr1) (fun r hr => ?_)
  subst hr
  show ab_Ex X (d + 6) 90 14 [(0, .ref 9)] [.int r1.1] ab_SH (ab_dD r1.2) _
  obtain rfl := Option.some.inj hf
  exact ab_Ex.ret (fun n => rfl) rfl
def fX6_readRoad_J29   (h : abJ) : Option (Int32 × abJ) := (fX6_takePost h).bind (fun r4 => if r4.1 = (-1) then some (0, r4.2) else (fX6_takePost r4.2).bind (fun r6 => if r6.1 = (-1) then some (0, r6.2) else (fX3_addRoad (r4.1) (r6.1) r6.2).bind (fun r8 => some (1, r8))))
def fX6_readRoad  (h : abJ) : Option (Int32 × abJ) := if (h.1 9 6) = 2 then (fX3_roadsOf 5 ((h.1 9 9)) h).bind (fun r2 => if r2 < 3 then fX6_readRoad_J29 h else (fX6_wrong 3 h).bind (fun r9 => ab_ask (¬ (r9.1 = 0 ∨ r9.1 = 1)) (some (r9.1, r9.2)))) else fX6_readRoad_J29 h
set_option maxRecDepth 20000 in
theorem sX6_readRoad_J29 (d : Nat) (X : abX)   : ∀ (h : abJ) (z : (Int32 × abJ)), fX6_readRoad_J29 h = some z → ab_Ex X (d + 7) 72 29 [(0, .ref 9)] [] ab_SH (ab_dD h) (fun r => r = (some (.int z.1), ab_SH, ab_dD z.2)) := by
  intro h z hf
  unfold fX6_readRoad_J29 at hf
  refine ab_Ex.blk (k := 1) (pc' := 30) (lv' := [(0, .ref 9)]) (st' := [.ref 9]) (sh' := ab_SH) (D' := ab_dD h) (fun n => rfl) ?_
  obtain ⟨r4, hr4, hf⟩ := ab_bind_s hf
  refine ab_Ex.call (d := d + 6) (M2 := 90) (as := [.ref 9]) (rest := []) (fun n => rfl) rfl (Nat.not_lt.mpr (Nat.le_of_ble_eq_true rfl)) (sX6_takePost (d) X  h _ hr4) (fun r hr => ?_)
  subst hr
  show ab_Ex X (d + 7) 72 33 [(0, .ref 9)] [.int r4.1] ab_SH (ab_dD r4.2) _
  refine ab_Ex.blk (k := 3) (pc' := 36) (lv' := [(1, .int r4.1), (0, .ref 9)]) (st' := [.int ((-1)), .int r4.1]) (sh' := ab_SH) (D' := ab_dD r4.2) (fun n => rfl) ?_
  refine ab_Ex.ifc (c := r4.1 = (-1)) (SA := (39, [(1, .int r4.1), (0, .ref 9)], [], ab_dD r4.2)) (SB := (43, [(1, .int r4.1), (0, .ref 9)], [], ab_dD r4.2)) (fun n => rfl) (fun c5 => ?_) (fun c5 => ?_)
  · replace hf := (if_pos c5).symm.trans hf
    refine ab_Ex.blk (k := 5) (pc' := 50) (lv' := [(2, .int ((-1))), (0, .ref 9), (1, .int r4.1)]) (st' := [.int ((-1)), .int ((-1))]) (sh' := ab_SH) (D' := ab_dD r4.2) (fun n => rfl) ?_
    refine ab_Ex.blk (k := 1) (pc' := 53) (lv' := [(2, .int ((-1))), (0, .ref 9), (1, .int r4.1)]) (st' := []) (sh' := ab_SH) (D' := ab_dD r4.2) (fun n => rfl) ?_
    refine ab_Ex.blk (k := 1) (pc' := 54) (lv' := [(2, .int ((-1))), (0, .ref 9), (1, .int r4.1)]) (st' := [.int 0]) (sh' := ab_SH) (D' := ab_dD r4.2) (fun n => rfl) ?_
    obtain rfl := Option.some.inj hf
    exact ab_Ex.ret (fun n => rfl) rfl
  · replace hf := (if_neg c5).symm.trans hf
    refine ab_Ex.blk (k := 1) (pc' := 44) (lv' := [(1, .int r4.1), (0, .ref 9)]) (st' := [.ref 9]) (sh' := ab_SH) (D' := ab_dD r4.2) (fun n => rfl) ?_
    obtain ⟨r6, hr6, hf⟩ := ab_bind_s hf
    refine ab_Ex.call (d := d + 6) (M2 := 90) (as := [.ref 9]) (rest := []) (fun n => rfl) rfl (Nat.not_lt.mpr (Nat.le_of_ble_eq_true rfl)) (sX6_takePost (d) X  r4.2 _ hr6) (fun r hr => ?_)
    subst hr
    show ab_Ex X (d + 7) 72 47 [(0, .ref 9), (1, .int r4.1)] [.int r6.1] ab_SH (ab_dD r6.2) _
    refine ab_Ex.blk (k := 3) (pc' := 50) (lv' := [(2, .int r6.1), (0, .ref 9), (1, .int r4.1)]) (st' := [.int ((-1)), .int r6.1]) (sh' := ab_SH) (D' := ab_dD r6.2) (fun n => rfl) ?_
    refine ab_Ex.ifc (c := r6.1 = (-1)) (SA := (53, [(2, .int r6.1), (0, .ref 9), (1, .int r4.1)], [], ab_dD r6.2)) (SB := (55, [(2, .int r6.1), (0, .ref 9), (1, .int r4.1)], [], ab_dD r6.2)) (fun n => rfl) (fun c7 => ?_) (fun c7 => ?_)
    · replace hf := (if_pos c7).symm.trans hf
      refine ab_Ex.blk (k := 1) (pc' := 54) (lv' := [(2, .int r6.1), (0, .ref 9), (1, .int r4.1)]) (st' := [.int 0]) (sh' := ab_SH) (D' := ab_dD r6.2) (fun n => rfl) ?_
      obtain rfl := Option.some.inj hf
      exact ab_Ex.ret (fun n => rfl) rfl
    · replace hf := (if_neg c7).symm.trans hf
      refine ab_Ex.blk (k := 4) (pc' := 61) (lv' := [(2, .int r6.1), (0, .ref 9), (1, .int r4.1)]) (st' := [.int r6.1, .int r4.1, .ref 5]) (sh' := ab_SH) (D' := ab_dD r6.2) (fun n => rfl) ?_
      obtain ⟨r8, hr8, hf⟩ := ab_bind_s hf
      refine ab_Ex.call (d := d + 6) (M2 := 40) (as := [.ref 5, .int r4.1, .int r6.1]) (rest := []) (fun n => rfl) rfl (Nat.not_lt.mpr (Nat.le_of_ble_eq_true rfl)) (sX3_addRoad (d + 5) X (r4.1) (r6.1) r6.2 _ hr8) (fun r hr => ?_)
      subst hr
      show ab_Ex X (d + 7) 72 64 [(2, .int r6.1), (0, .ref 9), (1, .int r4.1)] [] ab_SH (ab_dD r8) _
      refine ab_Ex.blk (k := 1) (pc' := 65) (lv' := [(2, .int r6.1), (0, .ref 9), (1, .int r4.1)]) (st' := [.int 1]) (sh' := ab_SH) (D' := ab_dD r8) (fun n => rfl) ?_
      obtain rfl := Option.some.inj hf
      exact ab_Ex.ret (fun n => rfl) rfl
set_option maxRecDepth 20000 in
theorem sX6_readRoad (d : Nat) (X : abX)  (h : abJ) (z : (Int32 × abJ)) (hf : fX6_readRoad  h = some z) : ab_Ex X (d + 7) 72 0 [(0, .ref 9)] [] ab_SH (ab_dD h) (fun r => r = (some (.int z.1), ab_SH, ab_dD z.2)) := by
  unfold fX6_readRoad at hf
  refine ab_Ex.blk (k := 3) (pc' := 5) (lv' := [(0, .ref 9)]) (st' := [.int 2, .int ((h.1 9 6))]) (sh' := ab_SH) (D' := ab_dD h) (fun n => rfl) ?_
  refine ab_Ex.ifc (c := (h.1 9 6) = 2) (SA := (8, [(0, .ref 9)], [], ab_dD h)) (SB := (29, [(0, .ref 9)], [], ab_dD h)) (fun n => rfl) (fun c1 => ?_) (fun c1 => ?_)
  · replace hf := (if_pos c1).symm.trans hf
    refine ab_Ex.blk (k := 4) (pc' := 16) (lv' := [(0, .ref 9)]) (st' := [.int ((h.1 9 9)), .ref 5]) (sh' := ab_SH) (D' := ab_dD h) (fun n => rfl) ?_
    obtain ⟨r2, hr2, hf⟩ := ab_bind_s hf
    refine ab_Ex.call (d := d + 6) (M2 := 35) (as := [.ref 5, .int ((h.1 9 9))]) (rest := []) (fun n => rfl) rfl (Nat.not_lt.mpr (Nat.le_of_ble_eq_true rfl)) (sX3_roadsOf_5 (d + 6) X ((h.1 9 9)) h _ hr2) (fun r hr => ?_)
    subst hr
    show ab_Ex X (d + 7) 72 19 [(0, .ref 9)] [.int r2] ab_SH (ab_dD h) _
    refine ab_Ex.blk (k := 1) (pc' := 20) (lv' := [(0, .ref 9)]) (st' := [.int 3, .int r2]) (sh' := ab_SH) (D' := ab_dD h) (fun n => rfl) ?_
    refine ab_Ex.ifc (c := r2 < 3) (SA := (29, [(0, .ref 9)], [], ab_dD h)) (SB := (23, [(0, .ref 9)], [], ab_dD h)) (fun n => rfl) (fun c3 => ?_) (fun c3 => ?_)
    · replace hf := (if_pos c3).symm.trans hf
      exact sX6_readRoad_J29 d X  h _ hf
    · replace hf := (if_neg c3).symm.trans hf
      refine ab_Ex.blk (k := 2) (pc' := 25) (lv' := [(0, .ref 9)]) (st' := [.int 3, .ref 9]) (sh' := ab_SH) (D' := ab_dD h) (fun n => rfl) ?_
      obtain ⟨r9, hr9, hf⟩ := ab_bind_s hf
      refine ab_Ex.call (d := d + 6) (M2 := 92) (as := [.ref 9, .int 3]) (rest := []) (fun n => rfl) rfl (Nat.not_lt.mpr (Nat.le_of_ble_eq_true rfl)) (sX6_wrong (d + 6) X 3 h _ hr9) (fun r hr => ?_)
      subst hr
      show ab_Ex X (d + 7) 72 28 [(0, .ref 9)] [.int r9.1] ab_SH (ab_dD r9.2) _
      obtain ⟨c9, hf⟩ := ab_ask_s hf
      obtain rfl := Option.some.inj hf
      exact ab_Ex.retc (fun n => rfl) (Decidable.not_not.mp c9) rfl
  · replace hf := (if_neg c1).symm.trans hf
    exact sX6_readRoad_J29 d X  h _ hf
def fX6_readArm_J29   (y1 : Int32) (t0 : Int32) (h : abJ) : Option (Int32 × abJ) := if t0 = (-1) then some (0, h) else (fX11_withArm ((h.1 10 1)) y1 t0 h).bind (fun r4 => some (1, (ab_wI h 10 1 r4)))
def fX6_readArm  (h : abJ) : Option (Int32 × abJ) := (fX6_takePost h).bind (fun r1 => if r1.1 = (-1) then fX6_readArm_J29 r1.1 ((-1)) r1.2 else (fX3_roadsOf 5 (r1.1) r1.2).bind (fun r5 => (fX6_takeNumber 0 ((r5 - 1)) r1.2).bind (fun r6 => fX6_readArm_J29 r1.1 r6.1 r6.2)))
set_option maxRecDepth 20000 in
theorem sX6_readArm_J29 (d : Nat) (X : abX)   : ∀ (y1 : Int32) (t0 : Int32) (h : abJ) (z : (Int32 × abJ)), fX6_readArm_J29 y1 t0 h = some z → ab_Ex X (d + 7) 73 29 [(0, .ref 9), (1, .int y1)] [.int t0] ab_SH (ab_dD h) (fun r => r = (some (.int z.1), ab_SH, ab_dD z.2)) := by
  intro y1 t0 h z hf
  unfold fX6_readArm_J29 at hf
  refine ab_Ex.blk (k := 3) (pc' := 32) (lv' := [(2, .int t0), (0, .ref 9), (1, .int y1)]) (st' := [.int ((-1)), .int t0]) (sh' := ab_SH) (D' := ab_dD h) (fun n => rfl) ?_
  refine ab_Ex.ifc (c := t0 = (-1)) (SA := (35, [(2, .int t0), (0, .ref 9), (1, .int y1)], [], ab_dD h)) (SB := (37, [(2, .int t0), (0, .ref 9), (1, .int y1)], [], ab_dD h)) (fun n => rfl) (fun c3 => ?_) (fun c3 => ?_)
  · replace hf := (if_pos c3).symm.trans hf
    refine ab_Ex.blk (k := 1) (pc' := 36) (lv' := [(2, .int t0), (0, .ref 9), (1, .int y1)]) (st' := [.int 0]) (sh' := ab_SH) (D' := ab_dD h) (fun n => rfl) ?_
    obtain rfl := Option.some.inj hf
    exact ab_Ex.ret (fun n => rfl) rfl
  · replace hf := (if_neg c3).symm.trans hf
    refine ab_Ex.blk (k := 7) (pc' := 50) (lv' := [(2, .int t0), (0, .ref 9), (1, .int y1)]) (st' := [.int t0, .int y1, .int ((h.1 10 1)), .ref 10]) (sh' := ab_SH) (D' := ab_dD h) (fun n => rfl) ?_
    obtain ⟨r4, hr4, hf⟩ := ab_bind_s hf
    refine ab_Ex.call (d := d + 6) (M2 := 173) (as := [.int ((h.1 10 1)), .int y1, .int t0]) (rest := [.ref 10]) (fun n => rfl) rfl (Nat.not_lt.mpr (Nat.le_of_ble_eq_true rfl)) (sX11_withArm (d + 5) X ((h.1 10 1)) y1 t0 h _ hr4) (fun r hr => ?_)
    subst hr
    show ab_Ex X (d + 7) 73 53 [(2, .int t0), (0, .ref 9), (1, .int y1)] [.int r4, .ref 10] ab_SH (ab_dD h) _
    refine ab_Ex.blk (k := 2) (pc' := 57) (lv' := [(2, .int t0), (0, .ref 9), (1, .int y1)]) (st' := [.int 1]) (sh' := ab_SH) (D' := ab_dD (ab_wI h 10 1 r4)) (fun n => rfl) ?_
    obtain rfl := Option.some.inj hf
    exact ab_Ex.ret (fun n => rfl) rfl
set_option maxRecDepth 20000 in
theorem sX6_readArm (d : Nat) (X : abX)  (h : abJ) (z : (Int32 × abJ)) (hf : fX6_readArm  h = some z) : ab_Ex X (d + 7) 73 0 [(0, .ref 9)] [] ab_SH (ab_dD h) (fun r => r = (some (.int z.1), ab_SH, ab_dD z.2)) := by
  unfold fX6_readArm at hf
  refine ab_Ex.blk (k := 1) (pc' := 1) (lv' := [(0, .ref 9)]) (st' := [.ref 9]) (sh' := ab_SH) (D' := ab_dD h) (fun n => rfl) ?_
  obtain ⟨r1, hr1, hf⟩ := ab_bind_s hf
  refine ab_Ex.call (d := d + 6) (M2 := 90) (as := [.ref 9]) (rest := []) (fun n => rfl) rfl (Nat.not_lt.mpr (Nat.le_of_ble_eq_true rfl)) (sX6_takePost (d) X  h _ hr1) (fun r hr => ?_)
  subst hr
  show ab_Ex X (d + 7) 73 4 [(0, .ref 9)] [.int r1.1] ab_SH (ab_dD r1.2) _
  refine ab_Ex.blk (k := 3) (pc' := 7) (lv' := [(1, .int r1.1), (0, .ref 9)]) (st' := [.int ((-1)), .int r1.1]) (sh' := ab_SH) (D' := ab_dD r1.2) (fun n => rfl) ?_
  refine ab_Ex.ifc (c := r1.1 = (-1)) (SA := (10, [(1, .int r1.1), (0, .ref 9)], [], ab_dD r1.2)) (SB := (14, [(1, .int r1.1), (0, .ref 9)], [], ab_dD r1.2)) (fun n => rfl) (fun c2 => ?_) (fun c2 => ?_)
  · replace hf := (if_pos c2).symm.trans hf
    refine ab_Ex.blk (k := 2) (pc' := 29) (lv' := [(0, .ref 9), (1, .int r1.1)]) (st' := [.int ((-1))]) (sh' := ab_SH) (D' := ab_dD r1.2) (fun n => rfl) ?_
    exact sX6_readArm_J29 d X  r1.1 ((-1)) r1.2 _ hf
  · replace hf := (if_neg c2).symm.trans hf
    refine ab_Ex.blk (k := 5) (pc' := 21) (lv' := [(1, .int r1.1), (0, .ref 9)]) (st' := [.int r1.1, .ref 5, .int 0, .ref 9]) (sh' := ab_SH) (D' := ab_dD r1.2) (fun n => rfl) ?_
    obtain ⟨r5, hr5, hf⟩ := ab_bind_s hf
    refine ab_Ex.call (d := d + 6) (M2 := 35) (as := [.ref 5, .int r1.1]) (rest := [.int 0, .ref 9]) (fun n => rfl) rfl (Nat.not_lt.mpr (Nat.le_of_ble_eq_true rfl)) (sX3_roadsOf_5 (d + 6) X (r1.1) r1.2 _ hr5) (fun r hr => ?_)
    subst hr
    show ab_Ex X (d + 7) 73 24 [(1, .int r1.1), (0, .ref 9)] [.int r5, .int 0, .ref 9] ab_SH (ab_dD r1.2) _
    refine ab_Ex.blk (k := 2) (pc' := 26) (lv' := [(1, .int r1.1), (0, .ref 9)]) (st' := [.int ((r5 - 1)), .int 0, .ref 9]) (sh' := ab_SH) (D' := ab_dD r1.2) (fun n => rfl) ?_
    obtain ⟨r6, hr6, hf⟩ := ab_bind_s hf
    refine ab_Ex.call (d := d + 6) (M2 := 91) (as := [.ref 9, .int 0, .int ((r5 - 1))]) (rest := []) (fun n => rfl) rfl (Nat.not_lt.mpr (Nat.le_of_ble_eq_true rfl)) (sX6_takeNumber (d + 1) X 0 ((r5 - 1)) r1.2 _ hr6) (fun r hr => ?_)
    subst hr
    show ab_Ex X (d + 7) 73 29 [(0, .ref 9), (1, .int r1.1)] [.int r6.1] ab_SH (ab_dD r6.2) _
    exact sX6_readArm_J29 d X  r1.1 r6.1 r6.2 _ hf
def fX6_readHome  (h : abJ) : Option (Int32 × abJ) := (fX6_takePost h).bind (fun r1 => if r1.1 = (-1) then some (0, r1.2) else some (1, (ab_wI r1.2 5 2 (((r1.2).1 5 2) ||| ((1 : Int32) <<< (r1.1 &&& 31))))))
set_option maxRecDepth 20000 in
theorem sX6_readHome (d : Nat) (X : abX)  (h : abJ) (z : (Int32 × abJ)) (hf : fX6_readHome  h = some z) : ab_Ex X (d + 7) 74 0 [(0, .ref 9)] [] ab_SH (ab_dD h) (fun r => r = (some (.int z.1), ab_SH, ab_dD z.2)) := by
  unfold fX6_readHome at hf
  refine ab_Ex.blk (k := 1) (pc' := 1) (lv' := [(0, .ref 9)]) (st' := [.ref 9]) (sh' := ab_SH) (D' := ab_dD h) (fun n => rfl) ?_
  obtain ⟨r1, hr1, hf⟩ := ab_bind_s hf
  refine ab_Ex.call (d := d + 6) (M2 := 90) (as := [.ref 9]) (rest := []) (fun n => rfl) rfl (Nat.not_lt.mpr (Nat.le_of_ble_eq_true rfl)) (sX6_takePost (d) X  h _ hr1) (fun r hr => ?_)
  subst hr
  show ab_Ex X (d + 7) 74 4 [(0, .ref 9)] [.int r1.1] ab_SH (ab_dD r1.2) _
  refine ab_Ex.blk (k := 3) (pc' := 7) (lv' := [(1, .int r1.1), (0, .ref 9)]) (st' := [.int ((-1)), .int r1.1]) (sh' := ab_SH) (D' := ab_dD r1.2) (fun n => rfl) ?_
  refine ab_Ex.ifc (c := r1.1 = (-1)) (SA := (10, [(1, .int r1.1), (0, .ref 9)], [], ab_dD r1.2)) (SB := (12, [(1, .int r1.1), (0, .ref 9)], [], ab_dD r1.2)) (fun n => rfl) (fun c2 => ?_) (fun c2 => ?_)
  · replace hf := (if_pos c2).symm.trans hf
    refine ab_Ex.blk (k := 1) (pc' := 11) (lv' := [(1, .int r1.1), (0, .ref 9)]) (st' := [.int 0]) (sh' := ab_SH) (D' := ab_dD r1.2) (fun n => rfl) ?_
    obtain rfl := Option.some.inj hf
    exact ab_Ex.ret (fun n => rfl) rfl
  · replace hf := (if_neg c2).symm.trans hf
    refine ab_Ex.blk (k := 10) (pc' := 28) (lv' := [(1, .int r1.1), (0, .ref 9)]) (st' := [.int 1]) (sh' := ab_SH) (D' := ab_dD (ab_wI r1.2 5 2 (((r1.2).1 5 2) ||| ((1 : Int32) <<< (r1.1 &&& 31))))) (fun n => rfl) ?_
    obtain rfl := Option.some.inj hf
    exact ab_Ex.ret (fun n => rfl) rfl
def fX6_readWalker  (h : abJ) : Option (Int32 × abJ) := (fX6_takePost h).bind (fun r1 => if r1.1 = (-1) then some (0, r1.2) else some (1, (ab_wI r1.2 10 0 r1.1)))
set_option maxRecDepth 20000 in
theorem sX6_readWalker (d : Nat) (X : abX)  (h : abJ) (z : (Int32 × abJ)) (hf : fX6_readWalker  h = some z) : ab_Ex X (d + 7) 75 0 [(0, .ref 9)] [] ab_SH (ab_dD h) (fun r => r = (some (.int z.1), ab_SH, ab_dD z.2)) := by
  unfold fX6_readWalker at hf
  refine ab_Ex.blk (k := 1) (pc' := 1) (lv' := [(0, .ref 9)]) (st' := [.ref 9]) (sh' := ab_SH) (D' := ab_dD h) (fun n => rfl) ?_
  obtain ⟨r1, hr1, hf⟩ := ab_bind_s hf
  refine ab_Ex.call (d := d + 6) (M2 := 90) (as := [.ref 9]) (rest := []) (fun n => rfl) rfl (Nat.not_lt.mpr (Nat.le_of_ble_eq_true rfl)) (sX6_takePost (d) X  h _ hr1) (fun r hr => ?_)
  subst hr
  show ab_Ex X (d + 7) 75 4 [(0, .ref 9)] [.int r1.1] ab_SH (ab_dD r1.2) _
  refine ab_Ex.blk (k := 3) (pc' := 7) (lv' := [(1, .int r1.1), (0, .ref 9)]) (st' := [.int ((-1)), .int r1.1]) (sh' := ab_SH) (D' := ab_dD r1.2) (fun n => rfl) ?_
  refine ab_Ex.ifc (c := r1.1 = (-1)) (SA := (10, [(1, .int r1.1), (0, .ref 9)], [], ab_dD r1.2)) (SB := (12, [(1, .int r1.1), (0, .ref 9)], [], ab_dD r1.2)) (fun n => rfl) (fun c2 => ?_) (fun c2 => ?_)
  · replace hf := (if_pos c2).symm.trans hf
    refine ab_Ex.blk (k := 1) (pc' := 11) (lv' := [(1, .int r1.1), (0, .ref 9)]) (st' := [.int 0]) (sh' := ab_SH) (D' := ab_dD r1.2) (fun n => rfl) ?_
    obtain rfl := Option.some.inj hf
    exact ab_Ex.ret (fun n => rfl) rfl
  · replace hf := (if_neg c2).symm.trans hf
    refine ab_Ex.blk (k := 5) (pc' := 21) (lv' := [(1, .int r1.1), (0, .ref 9)]) (st' := [.int 1]) (sh' := ab_SH) (D' := ab_dD (ab_wI r1.2 10 0 r1.1)) (fun n => rfl) ?_
    obtain rfl := Option.some.inj hf
    exact ab_Ex.ret (fun n => rfl) rfl
def fX6_readFog  (h : abJ) : Option (Int32 × abJ) := (fX6_takeNumber 0 9 h).bind (fun r1 => if r1.1 = (-1) then some (0, r1.2) else some (1, (ab_wI r1.2 10 2 r1.1)))
set_option maxRecDepth 20000 in
theorem sX6_readFog (d : Nat) (X : abX)  (h : abJ) (z : (Int32 × abJ)) (hf : fX6_readFog  h = some z) : ab_Ex X (d + 6) 76 0 [(0, .ref 9)] [] ab_SH (ab_dD h) (fun r => r = (some (.int z.1), ab_SH, ab_dD z.2)) := by
  unfold fX6_readFog at hf
  refine ab_Ex.blk (k := 3) (pc' := 4) (lv' := [(0, .ref 9)]) (st' := [.int 9, .int 0, .ref 9]) (sh' := ab_SH) (D' := ab_dD h) (fun n => rfl) ?_
  obtain ⟨r1, hr1, hf⟩ := ab_bind_s hf
  refine ab_Ex.call (d := d + 5) (M2 := 91) (as := [.ref 9, .int 0, .int 9]) (rest := []) (fun n => rfl) rfl (Nat.not_lt.mpr (Nat.le_of_ble_eq_true rfl)) (sX6_takeNumber (d) X 0 9 h _ hr1) (fun r hr => ?_)
  subst hr
  show ab_Ex X (d + 6) 76 7 [(0, .ref 9)] [.int r1.1] ab_SH (ab_dD r1.2) _
  refine ab_Ex.blk (k := 3) (pc' := 10) (lv' := [(1, .int r1.1), (0, .ref 9)]) (st' := [.int ((-1)), .int r1.1]) (sh' := ab_SH) (D' := ab_dD r1.2) (fun n => rfl) ?_
  refine ab_Ex.ifc (c := r1.1 = (-1)) (SA := (13, [(1, .int r1.1), (0, .ref 9)], [], ab_dD r1.2)) (SB := (15, [(1, .int r1.1), (0, .ref 9)], [], ab_dD r1.2)) (fun n => rfl) (fun c2 => ?_) (fun c2 => ?_)
  · replace hf := (if_pos c2).symm.trans hf
    refine ab_Ex.blk (k := 1) (pc' := 14) (lv' := [(1, .int r1.1), (0, .ref 9)]) (st' := [.int 0]) (sh' := ab_SH) (D' := ab_dD r1.2) (fun n => rfl) ?_
    obtain rfl := Option.some.inj hf
    exact ab_Ex.ret (fun n => rfl) rfl
  · replace hf := (if_neg c2).symm.trans hf
    refine ab_Ex.blk (k := 5) (pc' := 24) (lv' := [(1, .int r1.1), (0, .ref 9)]) (st' := [.int 1]) (sh' := ab_SH) (D' := ab_dD (ab_wI r1.2 10 2 r1.1)) (fun n => rfl) ?_
    obtain rfl := Option.some.inj hf
    exact ab_Ex.ret (fun n => rfl) rfl
def fX6_emit (x0 : Int32) (h : abJ) : Option (Int32 × abJ) := if (h.1 9 2) < 900 then ab_ask ((h.1 9 2) < 0 ∨ 900 ≤ ((h.1 9 2) : Int32).toNatClampNeg) (some (1, (ab_wI (ab_wI h 8 ((h.1 9 2) : Int32).toNatClampNeg x0) 9 2 ((((ab_wI h 8 ((h.1 9 2) : Int32).toNatClampNeg x0)).1 9 2) + 1)))) else (fX6_wrong 2 h).bind (fun r3 => ab_ask (¬ (r3.1 = 0 ∨ r3.1 = 1)) (some (r3.1, r3.2)))
set_option maxRecDepth 20000 in
theorem sX6_emit (d : Nat) (X : abX) (x0 : Int32) (h : abJ) (z : (Int32 × abJ)) (hf : fX6_emit x0 h = some z) : ab_Ex X (d + 1) 88 0 [(0, .ref 9), (1, .int x0)] [] ab_SH (ab_dD h) (fun r => r = (some (.int z.1), ab_SH, ab_dD z.2)) := by
  unfold fX6_emit at hf
  refine ab_Ex.blk (k := 3) (pc' := 7) (lv' := [(0, .ref 9), (1, .int x0)]) (st' := [.int 900, .int ((h.1 9 2))]) (sh' := ab_SH) (D' := ab_dD h) (fun n => rfl) ?_
  refine ab_Ex.ifc (c := (h.1 9 2) < 900) (SA := (16, [(0, .ref 9), (1, .int x0)], [], ab_dD h)) (SB := (10, [(0, .ref 9), (1, .int x0)], [], ab_dD h)) (fun n => rfl) (fun c1 => ?_) (fun c1 => ?_)
  · replace hf := (if_pos c1).symm.trans hf
    refine ab_Ex.blk (k := 6) (pc' := 28) (lv' := [(0, .ref 9), (1, .int x0)]) (st' := [.int x0, .int ((h.1 9 2)), .ref 8]) (sh' := ab_SH) (D' := ab_dD h) (fun n => rfl) ?_
    obtain ⟨c2, hf⟩ := ab_ask_s hf
    refine ab_Ex.grd (c := (h.1 9 2) < 0 ∨ 900 ≤ ((h.1 9 2) : Int32).toNatClampNeg) (S := (29, [(0, .ref 9), (1, .int x0)], [], ab_dD (ab_wI h 8 ((h.1 9 2) : Int32).toNatClampNeg x0))) (fun n => rfl) c2 ?_
    refine ab_Ex.blk (k := 7) (pc' := 40) (lv' := [(0, .ref 9), (1, .int x0)]) (st' := [.int 1]) (sh' := ab_SH) (D' := ab_dD (ab_wI (ab_wI h 8 ((h.1 9 2) : Int32).toNatClampNeg x0) 9 2 ((((ab_wI h 8 ((h.1 9 2) : Int32).toNatClampNeg x0)).1 9 2) + 1))) (fun n => rfl) ?_
    obtain rfl := Option.some.inj hf
    exact ab_Ex.ret (fun n => rfl) rfl
  · replace hf := (if_neg c1).symm.trans hf
    refine ab_Ex.blk (k := 2) (pc' := 12) (lv' := [(0, .ref 9), (1, .int x0)]) (st' := [.int 2, .ref 9]) (sh' := ab_SH) (D' := ab_dD h) (fun n => rfl) ?_
    obtain ⟨r3, hr3, hf⟩ := ab_bind_s hf
    refine ab_Ex.call (d := d + 0) (M2 := 92) (as := [.ref 9, .int 2]) (rest := []) (fun n => rfl) rfl (Nat.not_lt.mpr (Nat.le_of_ble_eq_true rfl)) (sX6_wrong (d) X 2 h _ hr3) (fun r hr => ?_)
    subst hr
    show ab_Ex X (d + 1) 88 15 [(0, .ref 9), (1, .int x0)] [.int r3.1] ab_SH (ab_dD r3.2) _
    obtain ⟨c9, hf⟩ := ab_ask_s hf
    obtain rfl := Option.some.inj hf
    exact ab_Ex.retc (fun n => rfl) (Decidable.not_not.mp c9) rfl
def fX6_leafHere  (h : abJ) : Option Int32 := if (h.1 9 6) = 2 then some (h.1 9 9) else (fX6_is 1000011 h).bind (fun r2 => if r2 = 0 then (fX6_is 1000005 h).bind (fun r4 => if r4 = 0 then (fX6_is 1000012 h).bind (fun r6 => if r6 = 0 then (fX6_is 1000008 h).bind (fun r8 => if r8 = 0 then some (-14) else some (-4)) else some (-3)) else some (-2)) else some (-1))
set_option maxRecDepth 20000 in
theorem sX6_leafHere (d : Nat) (X : abX)  (h : abJ) (z : Int32) (hf : fX6_leafHere  h = some z) : ab_Ex X (d + 5) 82 0 [(0, .ref 9)] [] ab_SH (ab_dD h) (fun r => r = (some (.int z), ab_SH, ab_dD h)) := by
  unfold fX6_leafHere at hf
  refine ab_Ex.blk (k := 3) (pc' := 5) (lv' := [(0, .ref 9)]) (st' := [.int 2, .int ((h.1 9 6))]) (sh' := ab_SH) (D' := ab_dD h) (fun n => rfl) ?_
  refine ab_Ex.ifc (c := (h.1 9 6) = 2) (SA := (8, [(0, .ref 9)], [], ab_dD h)) (SB := (13, [(0, .ref 9)], [], ab_dD h)) (fun n => rfl) (fun c1 => ?_) (fun c1 => ?_)
  · replace hf := (if_pos c1).symm.trans hf
    refine ab_Ex.blk (k := 2) (pc' := 12) (lv' := [(0, .ref 9)]) (st' := [.int ((h.1 9 9))]) (sh' := ab_SH) (D' := ab_dD h) (fun n => rfl) ?_
    obtain rfl := Option.some.inj hf
    exact ab_Ex.ret (fun n => rfl) rfl
  · replace hf := (if_neg c1).symm.trans hf
    refine ab_Ex.blk (k := 2) (pc' := 16) (lv' := [(0, .ref 9)]) (st' := [.ref 1000011, .ref 9]) (sh' := ab_SH) (D' := ab_dD h) (fun n => rfl) ?_
    obtain ⟨r2, hr2, hf⟩ := ab_bind_s hf
    refine ab_Ex.call (d := d + 4) (M2 := 93) (as := [.ref 9, .ref 1000011]) (rest := []) (fun n => rfl) rfl (Nat.not_lt.mpr (Nat.le_of_ble_eq_true rfl)) (sX6_is_1000011 (d) X  h _ hr2) (fun r hr => ?_)
    subst hr
    show ab_Ex X (d + 5) 82 19 [(0, .ref 9)] [.int r2] ab_SH (ab_dD h) _
    refine ab_Ex.ifc (c := r2 = 0) (SA := (24, [(0, .ref 9)], [], ab_dD h)) (SB := (22, [(0, .ref 9)], [], ab_dD h)) (fun n => rfl) (fun c3 => ?_) (fun c3 => ?_)
    · replace hf := (if_pos c3).symm.trans hf
      refine ab_Ex.blk (k := 2) (pc' := 27) (lv' := [(0, .ref 9)]) (st' := [.ref 1000005, .ref 9]) (sh' := ab_SH) (D' := ab_dD h) (fun n => rfl) ?_
      obtain ⟨r4, hr4, hf⟩ := ab_bind_s hf
      refine ab_Ex.call (d := d + 4) (M2 := 93) (as := [.ref 9, .ref 1000005]) (rest := []) (fun n => rfl) rfl (Nat.not_lt.mpr (Nat.le_of_ble_eq_true rfl)) (sX6_is_1000005 (d) X  h _ hr4) (fun r hr => ?_)
      subst hr
      show ab_Ex X (d + 5) 82 30 [(0, .ref 9)] [.int r4] ab_SH (ab_dD h) _
      refine ab_Ex.ifc (c := r4 = 0) (SA := (36, [(0, .ref 9)], [], ab_dD h)) (SB := (33, [(0, .ref 9)], [], ab_dD h)) (fun n => rfl) (fun c5 => ?_) (fun c5 => ?_)
      · replace hf := (if_pos c5).symm.trans hf
        refine ab_Ex.blk (k := 2) (pc' := 39) (lv' := [(0, .ref 9)]) (st' := [.ref 1000012, .ref 9]) (sh' := ab_SH) (D' := ab_dD h) (fun n => rfl) ?_
        obtain ⟨r6, hr6, hf⟩ := ab_bind_s hf
        refine ab_Ex.call (d := d + 4) (M2 := 93) (as := [.ref 9, .ref 1000012]) (rest := []) (fun n => rfl) rfl (Nat.not_lt.mpr (Nat.le_of_ble_eq_true rfl)) (sX6_is_1000012 (d) X  h _ hr6) (fun r hr => ?_)
        subst hr
        show ab_Ex X (d + 5) 82 42 [(0, .ref 9)] [.int r6] ab_SH (ab_dD h) _
        refine ab_Ex.ifc (c := r6 = 0) (SA := (48, [(0, .ref 9)], [], ab_dD h)) (SB := (45, [(0, .ref 9)], [], ab_dD h)) (fun n => rfl) (fun c7 => ?_) (fun c7 => ?_)
        · replace hf := (if_pos c7).symm.trans hf
          refine ab_Ex.blk (k := 2) (pc' := 51) (lv' := [(0, .ref 9)]) (st' := [.ref 1000008, .ref 9]) (sh' := ab_SH) (D' := ab_dD h) (fun n => rfl) ?_
          obtain ⟨r8, hr8, hf⟩ := ab_bind_s hf
          refine ab_Ex.call (d := d + 4) (M2 := 93) (as := [.ref 9, .ref 1000008]) (rest := []) (fun n => rfl) rfl (Nat.not_lt.mpr (Nat.le_of_ble_eq_true rfl)) (sX6_is_1000008 (d) X  h _ hr8) (fun r hr => ?_)
          subst hr
          show ab_Ex X (d + 5) 82 54 [(0, .ref 9)] [.int r8] ab_SH (ab_dD h) _
          refine ab_Ex.ifc (c := r8 = 0) (SA := (62, [(0, .ref 9)], [], ab_dD h)) (SB := (57, [(0, .ref 9)], [], ab_dD h)) (fun n => rfl) (fun c9 => ?_) (fun c9 => ?_)
          · replace hf := (if_pos c9).symm.trans hf
            refine ab_Ex.blk (k := 1) (pc' := 64) (lv' := []) (st' := [.int ((-14))]) (sh' := ab_SH) (D' := ab_dD h) (fun n => rfl) ?_
            obtain rfl := Option.some.inj hf
            exact ab_Ex.ret (fun n => rfl) rfl
          · replace hf := (if_neg c9).symm.trans hf
            refine ab_Ex.blk (k := 2) (pc' := 64) (lv' := []) (st' := [.int ((-4))]) (sh' := ab_SH) (D' := ab_dD h) (fun n => rfl) ?_
            obtain rfl := Option.some.inj hf
            exact ab_Ex.ret (fun n => rfl) rfl
        · replace hf := (if_neg c7).symm.trans hf
          refine ab_Ex.blk (k := 1) (pc' := 47) (lv' := [(0, .ref 9)]) (st' := [.int ((-3))]) (sh' := ab_SH) (D' := ab_dD h) (fun n => rfl) ?_
          obtain rfl := Option.some.inj hf
          exact ab_Ex.ret (fun n => rfl) rfl
      · replace hf := (if_neg c5).symm.trans hf
        refine ab_Ex.blk (k := 1) (pc' := 35) (lv' := [(0, .ref 9)]) (st' := [.int ((-2))]) (sh' := ab_SH) (D' := ab_dD h) (fun n => rfl) ?_
        obtain rfl := Option.some.inj hf
        exact ab_Ex.ret (fun n => rfl) rfl
    · replace hf := (if_neg c3).symm.trans hf
      refine ab_Ex.blk (k := 1) (pc' := 23) (lv' := [(0, .ref 9)]) (st' := [.int ((-1))]) (sh' := ab_SH) (D' := ab_dD h) (fun n => rfl) ?_
      obtain rfl := Option.some.inj hf
      exact ab_Ex.ret (fun n => rfl) rfl
def fX6_open (x0 : Int32) (h : abJ) : Option (Int32 × abJ) := if x0 < 6 then (fX6_advance h).bind (fun r2 => some (1, r2)) else (fX6_wrong 4 h).bind (fun r3 => ab_ask (¬ (r3.1 = 0 ∨ r3.1 = 1)) (some (r3.1, r3.2)))
set_option maxRecDepth 20000 in
theorem sX6_open (d : Nat) (X : abX) (x0 : Int32) (h : abJ) (z : (Int32 × abJ)) (hf : fX6_open x0 h = some z) : ab_Ex X (d + 5) 87 0 [(0, .ref 9), (1, .int x0)] [] ab_SH (ab_dD h) (fun r => r = (some (.int z.1), ab_SH, ab_dD z.2)) := by
  unfold fX6_open at hf
  refine ab_Ex.blk (k := 2) (pc' := 3) (lv' := [(0, .ref 9), (1, .int x0)]) (st' := [.int 6, .int x0]) (sh' := ab_SH) (D' := ab_dD h) (fun n => rfl) ?_
  refine ab_Ex.ifc (c := x0 < 6) (SA := (12, [(0, .ref 9), (1, .int x0)], [], ab_dD h)) (SB := (6, [(0, .ref 9), (1, .int x0)], [], ab_dD h)) (fun n => rfl) (fun c1 => ?_) (fun c1 => ?_)
  · replace hf := (if_pos c1).symm.trans hf
    refine ab_Ex.blk (k := 1) (pc' := 13) (lv' := [(0, .ref 9), (1, .int x0)]) (st' := [.ref 9]) (sh' := ab_SH) (D' := ab_dD h) (fun n => rfl) ?_
    obtain ⟨r2, hr2, hf⟩ := ab_bind_s hf
    refine ab_Ex.call (d := d + 4) (M2 := 94) (as := [.ref 9]) (rest := []) (fun n => rfl) rfl (Nat.not_lt.mpr (Nat.le_of_ble_eq_true rfl)) (sX6_advance (d) X  h _ hr2) (fun r hr => ?_)
    subst hr
    show ab_Ex X (d + 5) 87 16 [(0, .ref 9), (1, .int x0)] [] ab_SH (ab_dD r2) _
    refine ab_Ex.blk (k := 1) (pc' := 17) (lv' := [(0, .ref 9), (1, .int x0)]) (st' := [.int 1]) (sh' := ab_SH) (D' := ab_dD r2) (fun n => rfl) ?_
    obtain rfl := Option.some.inj hf
    exact ab_Ex.ret (fun n => rfl) rfl
  · replace hf := (if_neg c1).symm.trans hf
    refine ab_Ex.blk (k := 2) (pc' := 8) (lv' := [(0, .ref 9), (1, .int x0)]) (st' := [.int 4, .ref 9]) (sh' := ab_SH) (D' := ab_dD h) (fun n => rfl) ?_
    obtain ⟨r3, hr3, hf⟩ := ab_bind_s hf
    refine ab_Ex.call (d := d + 4) (M2 := 92) (as := [.ref 9, .int 4]) (rest := []) (fun n => rfl) rfl (Nat.not_lt.mpr (Nat.le_of_ble_eq_true rfl)) (sX6_wrong (d + 4) X 4 h _ hr3) (fun r hr => ?_)
    subst hr
    show ab_Ex X (d + 5) 87 11 [(0, .ref 9), (1, .int x0)] [.int r3.1] ab_SH (ab_dD r3.2) _
    obtain ⟨c9, hf⟩ := ab_ask_s hf
    obtain rfl := Option.some.inj hf
    exact ab_Ex.retc (fun n => rfl) (Decidable.not_not.mp c9) rfl
def fX6_readSum_J81 (R : Nat → Int32 → abJ → Option (Int32 × abJ)) (k8 : Int32 → Int32 → Int32 → abJ → Option (Int32 × abJ)) (y1 : Int32) (y3 : Int32) (t0 : Int32) (h : abJ) : Option (Int32 × abJ) := k8 y1 t0 ((y3 + 1)) h
def fX6_readSum_J80 (R : Nat → Int32 → abJ → Option (Int32 × abJ)) (k8 : Int32 → Int32 → Int32 → abJ → Option (Int32 × abJ)) (y1 : Int32) (y3 : Int32) (h : abJ) : Option (Int32 × abJ) := fX6_readSum_J81 R k8 y1 y3 0 h
def fX6_readSum_J53 (R : Nat → Int32 → abJ → Option (Int32 × abJ)) (k8 : Int32 → Int32 → Int32 → abJ → Option (Int32 × abJ)) (y1 : Int32) (y3 : Int32) (t0 : Int32) (h : abJ) : Option (Int32 × abJ) := (fX6_advance h).bind (fun r10 => (R 1 y1 r10).bind (fun r11 => if r11.1 = 0 then fX6_readSum_J80 R k8 y1 y3 r11.2 else (fX6_emit t0 r11.2).bind (fun r13 => if r13.1 = 0 then fX6_readSum_J80 R k8 y1 y3 r13.2 else fX6_readSum_J81 R k8 y1 y3 1 r13.2)))
def fX6_readSum_J37 (R : Nat → Int32 → abJ → Option (Int32 × abJ)) (k8 : Int32 → Int32 → Int32 → abJ → Option (Int32 × abJ)) (y1 : Int32) (y3 : Int32) (h : abJ) : Option (Int32 × abJ) := (fX6_is 1000028 h).bind (fun r8 => if r8 = 0 then fX6_readSum_J53 R k8 y1 y3 ((-6)) h else fX6_readSum_J53 R k8 y1 y3 ((-5)) h)
def fX6_readSum_L8 (R : Nat → Int32 → abJ → Option (Int32 × abJ))  : Nat → Int32 → Int32 → Int32 → abJ → Option (Int32 × abJ)
  | 0, _, _, _, _ => none
  | n + 1, y1, y2, y3, h => if 900 ≤ y3 then ab_ask (¬ (y2 = 0 ∨ y2 = 1)) (some (y2, h)) else if y2 = 0 then ab_ask (¬ (y2 = 0 ∨ y2 = 1)) (some (y2, h)) else (fX6_is 1000028 h).bind (fun r4 => if r4 = 0 then (fX6_is 1000029 h).bind (fun r6 => if r6 = 0 then ab_ask (¬ (y2 = 0 ∨ y2 = 1)) (some (y2, h)) else fX6_readSum_J37 R (fun y1 y2 y3 h => fX6_readSum_L8 R n y1 y2 y3 h) y1 y3 h) else fX6_readSum_J37 R (fun y1 y2 y3 h => fX6_readSum_L8 R n y1 y2 y3 h) y1 y3 h)
def bX6_readSum (R : Nat → Int32 → abJ → Option (Int32 × abJ)) (x0 : Int32) (h : abJ) : Option (Int32 × abJ) := (R 1 x0 h).bind (fun r1 => fX6_readSum_L8 R ab_N x0 r1.1 0 r1.2)
set_option maxRecDepth 20000 in
theorem sX6_readSum_J81 (d : Nat) (X : abX) (R : Nat → Int32 → abJ → Option (Int32 × abJ)) (IH : ∀ (sel : Nat) (a0 : Int32) (h : abJ) (z : (Int32 × abJ)), R sel a0 h = some z → ab_Ex X (d + 6) (([79, 80, 81, 83, 84, 85, 86] : List Nat).getD sel 0) 0 [(0, .ref 9), (1, .int a0)] [] ab_SH (ab_dD h) (fun r => r = (some (.int z.1), ab_SH, ab_dD z.2))) (k8 : Int32 → Int32 → Int32 → abJ → Option (Int32 × abJ)) (hk8 : ∀ (y1 : Int32) (y2 : Int32) (y3 : Int32) (h : abJ) (z : (Int32 × abJ)), k8 y1 y2 y3 h = some z → ab_Ex X (d + 7) 79 8 [(0, .ref 9), (1, .int y1), (2, .int y2), (3, .int y3)] [] ab_SH (ab_dD h) (fun r => r = (some (.int z.1), ab_SH, ab_dD z.2))) : ∀ (y1 : Int32) (y3 : Int32) (t0 : Int32) (h : abJ) (z : (Int32 × abJ)), fX6_readSum_J81 R k8 y1 y3 t0 h = some z → ab_Ex X (d + 7) 79 81 [(0, .ref 9), (1, .int y1), (3, .int y3)] [.int t0] ab_SH (ab_dD h) (fun r => r = (some (.int z.1), ab_SH, ab_dD z.2)) := by
  intro y1 y3 t0 h z hf
  unfold fX6_readSum_J81 at hf
  refine ab_Ex.blk (k := 3) (pc' := 8) (lv' := [(0, .ref 9), (1, .int y1), (2, .int t0), (3, .int ((y3 + 1)))]) (st' := []) (sh' := ab_SH) (D' := ab_dD h) (fun n => rfl) ?_
  exact hk8 y1 t0 ((y3 + 1)) h _ hf
set_option maxRecDepth 20000 in
theorem sX6_readSum_J80 (d : Nat) (X : abX) (R : Nat → Int32 → abJ → Option (Int32 × abJ)) (IH : ∀ (sel : Nat) (a0 : Int32) (h : abJ) (z : (Int32 × abJ)), R sel a0 h = some z → ab_Ex X (d + 6) (([79, 80, 81, 83, 84, 85, 86] : List Nat).getD sel 0) 0 [(0, .ref 9), (1, .int a0)] [] ab_SH (ab_dD h) (fun r => r = (some (.int z.1), ab_SH, ab_dD z.2))) (k8 : Int32 → Int32 → Int32 → abJ → Option (Int32 × abJ)) (hk8 : ∀ (y1 : Int32) (y2 : Int32) (y3 : Int32) (h : abJ) (z : (Int32 × abJ)), k8 y1 y2 y3 h = some z → ab_Ex X (d + 7) 79 8 [(0, .ref 9), (1, .int y1), (2, .int y2), (3, .int y3)] [] ab_SH (ab_dD h) (fun r => r = (some (.int z.1), ab_SH, ab_dD z.2))) : ∀ (y1 : Int32) (y3 : Int32) (h : abJ) (z : (Int32 × abJ)), fX6_readSum_J80 R k8 y1 y3 h = some z → ab_Ex X (d + 7) 79 80 [(0, .ref 9), (1, .int y1), (3, .int y3)] [] ab_SH (ab_dD h) (fun r => r = (some (.int z.1), ab_SH, ab_dD z.2)) := by
  intro y1 y3 h z hf
  unfold fX6_readSum_J80 at hf
  refine ab_Ex.blk (k := 1) (pc' := 81) (lv' := [(0, .ref 9), (1, .int y1), (3, .int y3)]) (st' := [.int 0]) (sh' := ab_SH) (D' := ab_dD h) (fun n => rfl) ?_
  exact sX6_readSum_J81 d X R IH k8 hk8 y1 y3 0 h _ hf
set_option maxRecDepth 20000 in
theorem sX6_readSum_J53 (d : Nat) (X : abX) (R : Nat → Int32 → abJ → Option (Int32 × abJ)) (IH : ∀ (sel : Nat) (a0 : Int32) (h : abJ) (z : (Int32 × abJ)), R sel a0 h = some z → ab_Ex X (d + 6) (([79, 80, 81, 83, 84, 85, 86] : List Nat).getD sel 0) 0 [(0, .ref 9), (1, .int a0)] [] ab_SH (ab_dD h) (fun r => r = (some (.int z.1), ab_SH, ab_dD z.2))) (k8 : Int32 → Int32 → Int32 → abJ → Option (Int32 × abJ)) (hk8 : ∀ (y1 : Int32) (y2 : Int32) (y3 : Int32) (h : abJ) (z : (Int32 × abJ)), k8 y1 y2 y3 h = some z → ab_Ex X (d + 7) 79 8 [(0, .ref 9), (1, .int y1), (2, .int y2), (3, .int y3)] [] ab_SH (ab_dD h) (fun r => r = (some (.int z.1), ab_SH, ab_dD z.2))) : ∀ (y1 : Int32) (y3 : Int32) (t0 : Int32) (h : abJ) (z : (Int32 × abJ)), fX6_readSum_J53 R k8 y1 y3 t0 h = some z → ab_Ex X (d + 7) 79 53 [(0, .ref 9), (1, .int y1), (3, .int y3)] [.int t0] ab_SH (ab_dD h) (fun r => r = (some (.int z.1), ab_SH, ab_dD z.2)) := by
  intro y1 y3 t0 h z hf
  unfold fX6_readSum_J53 at hf
  refine ab_Ex.blk (k := 2) (pc' := 56) (lv' := [(4, .int t0), (0, .ref 9), (1, .int y1), (3, .int y3)]) (st' := [.ref 9]) (sh' := ab_SH) (D' := ab_dD h) (fun n => rfl) ?_
  obtain ⟨r10, hr10, hf⟩ := ab_bind_s hf
  refine ab_Ex.call (d := d + 6) (M2 := 94) (as := [.ref 9]) (rest := []) (fun n => rfl) rfl (Nat.not_lt.mpr (Nat.le_of_ble_eq_true rfl)) (sX6_advance (d + 2) X  h _ hr10) (fun r hr => ?_)
  subst hr
  show ab_Ex X (d + 7) 79 59 [(4, .int t0), (0, .ref 9), (1, .int y1), (3, .int y3)] [] ab_SH (ab_dD r10) _
  refine ab_Ex.blk (k := 2) (pc' := 61) (lv' := [(4, .int t0), (0, .ref 9), (1, .int y1), (3, .int y3)]) (st' := [.int y1, .ref 9]) (sh' := ab_SH) (D' := ab_dD r10) (fun n => rfl) ?_
  obtain ⟨r11, hr11, hf⟩ := ab_bind_s hf
  refine ab_Ex.call (d := d + 6) (M2 := 80) (as := [.ref 9, .int y1]) (rest := []) (fun n => rfl) rfl (Nat.not_lt.mpr (Nat.le_of_ble_eq_true rfl)) (IH 1 y1 r10 _ hr11) (fun r hr => ?_)
  subst hr
  show ab_Ex X (d + 7) 79 64 [(4, .int t0), (0, .ref 9), (1, .int y1), (3, .int y3)] [.int r11.1] ab_SH (ab_dD r11.2) _
  refine ab_Ex.ifc (c := r11.1 = 0) (SA := (80, [(4, .int t0), (0, .ref 9), (1, .int y1), (3, .int y3)], [], ab_dD r11.2)) (SB := (67, [(4, .int t0), (0, .ref 9), (1, .int y1), (3, .int y3)], [], ab_dD r11.2)) (fun n => rfl) (fun c12 => ?_) (fun c12 => ?_)
  · replace hf := (if_pos c12).symm.trans hf
    exact sX6_readSum_J80 d X R IH k8 hk8 y1 y3 r11.2 _ hf
  · replace hf := (if_neg c12).symm.trans hf
    refine ab_Ex.blk (k := 2) (pc' := 70) (lv' := [(4, .int t0), (0, .ref 9), (1, .int y1), (3, .int y3)]) (st' := [.int t0, .ref 9]) (sh' := ab_SH) (D' := ab_dD r11.2) (fun n => rfl) ?_
    obtain ⟨r13, hr13, hf⟩ := ab_bind_s hf
    refine ab_Ex.call (d := d + 6) (M2 := 88) (as := [.ref 9, .int t0]) (rest := []) (fun n => rfl) rfl (Nat.not_lt.mpr (Nat.le_of_ble_eq_true rfl)) (sX6_emit (d + 5) X t0 r11.2 _ hr13) (fun r hr => ?_)
    subst hr
    show ab_Ex X (d + 7) 79 73 [(4, .int t0), (0, .ref 9), (1, .int y1), (3, .int y3)] [.int r13.1] ab_SH (ab_dD r13.2) _
    refine ab_Ex.ifc (c := r13.1 = 0) (SA := (80, [(4, .int t0), (0, .ref 9), (1, .int y1), (3, .int y3)], [], ab_dD r13.2)) (SB := (76, [(4, .int t0), (0, .ref 9), (1, .int y1), (3, .int y3)], [], ab_dD r13.2)) (fun n => rfl) (fun c14 => ?_) (fun c14 => ?_)
    · replace hf := (if_pos c14).symm.trans hf
      exact sX6_readSum_J80 d X R IH k8 hk8 y1 y3 r13.2 _ hf
    · replace hf := (if_neg c14).symm.trans hf
      refine ab_Ex.blk (k := 2) (pc' := 81) (lv' := [(0, .ref 9), (1, .int y1), (3, .int y3)]) (st' := [.int 1]) (sh' := ab_SH) (D' := ab_dD r13.2) (fun n => rfl) ?_
      exact sX6_readSum_J81 d X R IH k8 hk8 y1 y3 1 r13.2 _ hf
set_option maxRecDepth 20000 in
theorem sX6_readSum_J37 (d : Nat) (X : abX) (R : Nat → Int32 → abJ → Option (Int32 × abJ)) (IH : ∀ (sel : Nat) (a0 : Int32) (h : abJ) (z : (Int32 × abJ)), R sel a0 h = some z → ab_Ex X (d + 6) (([79, 80, 81, 83, 84, 85, 86] : List Nat).getD sel 0) 0 [(0, .ref 9), (1, .int a0)] [] ab_SH (ab_dD h) (fun r => r = (some (.int z.1), ab_SH, ab_dD z.2))) (k8 : Int32 → Int32 → Int32 → abJ → Option (Int32 × abJ)) (hk8 : ∀ (y1 : Int32) (y2 : Int32) (y3 : Int32) (h : abJ) (z : (Int32 × abJ)), k8 y1 y2 y3 h = some z → ab_Ex X (d + 7) 79 8 [(0, .ref 9), (1, .int y1), (2, .int y2), (3, .int y3)] [] ab_SH (ab_dD h) (fun r => r = (some (.int z.1), ab_SH, ab_dD z.2))) : ∀ (y1 : Int32) (y3 : Int32) (h : abJ) (z : (Int32 × abJ)), fX6_readSum_J37 R k8 y1 y3 h = some z → ab_Ex X (d + 7) 79 37 [(0, .ref 9), (1, .int y1), (3, .int y3)] [] ab_SH (ab_dD h) (fun r => r = (some (.int z.1), ab_SH, ab_dD z.2)) := by
  intro y1 y3 h z hf
  unfold fX6_readSum_J37 at hf
  refine ab_Ex.blk (k := 2) (pc' := 40) (lv' := [(0, .ref 9), (1, .int y1), (3, .int y3)]) (st' := [.ref 1000028, .ref 9]) (sh' := ab_SH) (D' := ab_dD h) (fun n => rfl) ?_
  obtain ⟨r8, hr8, hf⟩ := ab_bind_s hf
  refine ab_Ex.call (d := d + 6) (M2 := 93) (as := [.ref 9, .ref 1000028]) (rest := []) (fun n => rfl) rfl (Nat.not_lt.mpr (Nat.le_of_ble_eq_true rfl)) (sX6_is_1000028 (d + 2) X  h _ hr8) (fun r hr => ?_)
  subst hr
  show ab_Ex X (d + 7) 79 43 [(0, .ref 9), (1, .int y1), (3, .int y3)] [.int r8] ab_SH (ab_dD h) _
  refine ab_Ex.ifc (c := r8 = 0) (SA := (51, [(0, .ref 9), (1, .int y1), (3, .int y3)], [], ab_dD h)) (SB := (46, [(0, .ref 9), (1, .int y1), (3, .int y3)], [], ab_dD h)) (fun n => rfl) (fun c9 => ?_) (fun c9 => ?_)
  · replace hf := (if_pos c9).symm.trans hf
    refine ab_Ex.blk (k := 1) (pc' := 53) (lv' := [(0, .ref 9), (1, .int y1), (3, .int y3)]) (st' := [.int ((-6))]) (sh' := ab_SH) (D' := ab_dD h) (fun n => rfl) ?_
    exact sX6_readSum_J53 d X R IH k8 hk8 y1 y3 ((-6)) h _ hf
  · replace hf := (if_neg c9).symm.trans hf
    refine ab_Ex.blk (k := 2) (pc' := 53) (lv' := [(0, .ref 9), (1, .int y1), (3, .int y3)]) (st' := [.int ((-5))]) (sh' := ab_SH) (D' := ab_dD h) (fun n => rfl) ?_
    exact sX6_readSum_J53 d X R IH k8 hk8 y1 y3 ((-5)) h _ hf
set_option maxRecDepth 20000 in
theorem sX6_readSum_L8 (d : Nat) (X : abX) (R : Nat → Int32 → abJ → Option (Int32 × abJ)) (IH : ∀ (sel : Nat) (a0 : Int32) (h : abJ) (z : (Int32 × abJ)), R sel a0 h = some z → ab_Ex X (d + 6) (([79, 80, 81, 83, 84, 85, 86] : List Nat).getD sel 0) 0 [(0, .ref 9), (1, .int a0)] [] ab_SH (ab_dD h) (fun r => r = (some (.int z.1), ab_SH, ab_dD z.2)))   : ∀ (n : Nat), ∀ (y1 : Int32) (y2 : Int32) (y3 : Int32) (h : abJ) (z : (Int32 × abJ)), fX6_readSum_L8 R n y1 y2 y3 h = some z → ab_Ex X (d + 7) 79 8 [(0, .ref 9), (1, .int y1), (2, .int y2), (3, .int y3)] [] ab_SH (ab_dD h) (fun r => r = (some (.int z.1), ab_SH, ab_dD z.2)) := by
  intro n
  induction n with
  | zero => intro y1 y2 y3 h z hf; cases hf
  | succ n ih =>
    intro y1 y2 y3 h z hf
    rw [fX6_readSum_L8] at hf
    refine ab_Ex.blk (k := 2) (pc' := 12) (lv' := [(0, .ref 9), (1, .int y1), (2, .int y2), (3, .int y3)]) (st' := [.int 900, .int y3]) (sh' := ab_SH) (D' := ab_dD h) (fun n => rfl) ?_
    refine ab_Ex.ifc (c := 900 ≤ y3) (SA := (88, [(0, .ref 9), (1, .int y1), (2, .int y2), (3, .int y3)], [], ab_dD h)) (SB := (15, [(0, .ref 9), (1, .int y1), (2, .int y2), (3, .int y3)], [], ab_dD h)) (fun n => rfl) (fun c2 => ?_) (fun c2 => ?_)
    · replace hf := (if_pos c2).symm.trans hf
      refine ab_Ex.blk (k := 1) (pc' := 89) (lv' := [(2, .int y2)]) (st' := [.int y2]) (sh' := ab_SH) (D' := ab_dD h) (fun n => rfl) ?_
      obtain ⟨c9, hf⟩ := ab_ask_s hf
      obtain rfl := Option.some.inj hf
      exact ab_Ex.retc (fun n => rfl) (Decidable.not_not.mp c9) rfl
    · replace hf := (if_neg c2).symm.trans hf
      refine ab_Ex.blk (k := 1) (pc' := 16) (lv' := [(0, .ref 9), (1, .int y1), (2, .int y2), (3, .int y3)]) (st' := [.int y2]) (sh' := ab_SH) (D' := ab_dD h) (fun n => rfl) ?_
      refine ab_Ex.ifc (c := y2 = 0) (SA := (88, [(0, .ref 9), (1, .int y1), (2, .int y2), (3, .int y3)], [], ab_dD h)) (SB := (19, [(0, .ref 9), (1, .int y1), (2, .int y2), (3, .int y3)], [], ab_dD h)) (fun n => rfl) (fun c3 => ?_) (fun c3 => ?_)
      · replace hf := (if_pos c3).symm.trans hf
        refine ab_Ex.blk (k := 1) (pc' := 89) (lv' := [(2, .int y2)]) (st' := [.int y2]) (sh' := ab_SH) (D' := ab_dD h) (fun n => rfl) ?_
        obtain ⟨c9, hf⟩ := ab_ask_s hf
        obtain rfl := Option.some.inj hf
        exact ab_Ex.retc (fun n => rfl) (Decidable.not_not.mp c9) rfl
      · replace hf := (if_neg c3).symm.trans hf
        refine ab_Ex.blk (k := 2) (pc' := 22) (lv' := [(0, .ref 9), (1, .int y1), (2, .int y2), (3, .int y3)]) (st' := [.ref 1000028, .ref 9]) (sh' := ab_SH) (D' := ab_dD h) (fun n => rfl) ?_
        obtain ⟨r4, hr4, hf⟩ := ab_bind_s hf
        refine ab_Ex.call (d := d + 6) (M2 := 93) (as := [.ref 9, .ref 1000028]) (rest := []) (fun n => rfl) rfl (Nat.not_lt.mpr (Nat.le_of_ble_eq_true rfl)) (sX6_is_1000028 (d + 2) X  h _ hr4) (fun r hr => ?_)
        subst hr
        show ab_Ex X (d + 7) 79 25 [(0, .ref 9), (1, .int y1), (2, .int y2), (3, .int y3)] [.int r4] ab_SH (ab_dD h) _
        refine ab_Ex.ifc (c := r4 = 0) (SA := (28, [(0, .ref 9), (1, .int y1), (2, .int y2), (3, .int y3)], [], ab_dD h)) (SB := (37, [(0, .ref 9), (1, .int y1), (2, .int y2), (3, .int y3)], [], ab_dD h)) (fun n => rfl) (fun c5 => ?_) (fun c5 => ?_)
        · replace hf := (if_pos c5).symm.trans hf
          refine ab_Ex.blk (k := 2) (pc' := 31) (lv' := [(0, .ref 9), (1, .int y1), (2, .int y2), (3, .int y3)]) (st' := [.ref 1000029, .ref 9]) (sh' := ab_SH) (D' := ab_dD h) (fun n => rfl) ?_
          obtain ⟨r6, hr6, hf⟩ := ab_bind_s hf
          refine ab_Ex.call (d := d + 6) (M2 := 93) (as := [.ref 9, .ref 1000029]) (rest := []) (fun n => rfl) rfl (Nat.not_lt.mpr (Nat.le_of_ble_eq_true rfl)) (sX6_is_1000029 (d + 2) X  h _ hr6) (fun r hr => ?_)
          subst hr
          show ab_Ex X (d + 7) 79 34 [(0, .ref 9), (1, .int y1), (2, .int y2), (3, .int y3)] [.int r6] ab_SH (ab_dD h) _
          refine ab_Ex.ifc (c := r6 = 0) (SA := (88, [(0, .ref 9), (1, .int y1), (2, .int y2), (3, .int y3)], [], ab_dD h)) (SB := (37, [(0, .ref 9), (1, .int y1), (2, .int y2), (3, .int y3)], [], ab_dD h)) (fun n => rfl) (fun c7 => ?_) (fun c7 => ?_)
          · replace hf := (if_pos c7).symm.trans hf
            refine ab_Ex.blk (k := 1) (pc' := 89) (lv' := [(2, .int y2)]) (st' := [.int y2]) (sh' := ab_SH) (D' := ab_dD h) (fun n => rfl) ?_
            obtain ⟨c9, hf⟩ := ab_ask_s hf
            obtain rfl := Option.some.inj hf
            exact ab_Ex.retc (fun n => rfl) (Decidable.not_not.mp c9) rfl
          · replace hf := (if_neg c7).symm.trans hf
            exact sX6_readSum_J37 d X R IH (fun y1 y2 y3 h => fX6_readSum_L8 R n y1 y2 y3 h) (fun y1 y2 y3 h z hz => ih y1 y2 y3 h z hz) y1 y3 h _ hf
        · replace hf := (if_neg c5).symm.trans hf
          exact sX6_readSum_J37 d X R IH (fun y1 y2 y3 h => fX6_readSum_L8 R n y1 y2 y3 h) (fun y1 y2 y3 h z hz => ih y1 y2 y3 h z hz) y1 y3 h _ hf
set_option maxRecDepth 20000 in
theorem sX6_readSum_b (d : Nat) (X : abX) (R : Nat → Int32 → abJ → Option (Int32 × abJ)) (IH : ∀ (sel : Nat) (a0 : Int32) (h : abJ) (z : (Int32 × abJ)), R sel a0 h = some z → ab_Ex X (d + 6) (([79, 80, 81, 83, 84, 85, 86] : List Nat).getD sel 0) 0 [(0, .ref 9), (1, .int a0)] [] ab_SH (ab_dD h) (fun r => r = (some (.int z.1), ab_SH, ab_dD z.2))) (x0 : Int32) (h : abJ) (z : (Int32 × abJ)) (hf : bX6_readSum R x0 h = some z) : ab_Ex X (d + 7) 79 0 [(0, .ref 9), (1, .int x0)] [] ab_SH (ab_dD h) (fun r => r = (some (.int z.1), ab_SH, ab_dD z.2)) := by
  unfold bX6_readSum at hf
  refine ab_Ex.blk (k := 2) (pc' := 2) (lv' := [(0, .ref 9), (1, .int x0)]) (st' := [.int x0, .ref 9]) (sh' := ab_SH) (D' := ab_dD h) (fun n => rfl) ?_
  obtain ⟨r1, hr1, hf⟩ := ab_bind_s hf
  refine ab_Ex.call (d := d + 6) (M2 := 80) (as := [.ref 9, .int x0]) (rest := []) (fun n => rfl) rfl (Nat.not_lt.mpr (Nat.le_of_ble_eq_true rfl)) (IH 1 x0 h _ hr1) (fun r hr => ?_)
  subst hr
  show ab_Ex X (d + 7) 79 5 [(0, .ref 9), (1, .int x0)] [.int r1.1] ab_SH (ab_dD r1.2) _
  refine ab_Ex.blk (k := 3) (pc' := 8) (lv' := [(0, .ref 9), (1, .int x0), (2, .int r1.1), (3, .int 0)]) (st' := []) (sh' := ab_SH) (D' := ab_dD r1.2) (fun n => rfl) ?_
  exact sX6_readSum_L8 d X R IH  ab_N x0 r1.1 0 r1.2 _ hf
def fX6_readTerm_J54 (R : Nat → Int32 → abJ → Option (Int32 × abJ)) (k8 : Int32 → Int32 → Int32 → abJ → Option (Int32 × abJ)) (y1 : Int32) (y3 : Int32) (t0 : Int32) (h : abJ) : Option (Int32 × abJ) := k8 y1 t0 ((y3 + 1)) h
def fX6_readTerm_J53 (R : Nat → Int32 → abJ → Option (Int32 × abJ)) (k8 : Int32 → Int32 → Int32 → abJ → Option (Int32 × abJ)) (y1 : Int32) (y3 : Int32) (h : abJ) : Option (Int32 × abJ) := fX6_readTerm_J54 R k8 y1 y3 0 h
def fX6_readTerm_L8 (R : Nat → Int32 → abJ → Option (Int32 × abJ))  : Nat → Int32 → Int32 → Int32 → abJ → Option (Int32 × abJ)
  | 0, _, _, _, _ => none
  | n + 1, y1, y2, y3, h => if 900 ≤ y3 then ab_ask (¬ (y2 = 0 ∨ y2 = 1)) (some (y2, h)) else if y2 = 0 then ab_ask (¬ (y2 = 0 ∨ y2 = 1)) (some (y2, h)) else (fX6_is 1000027 h).bind (fun r4 => if r4 = 0 then ab_ask (¬ (y2 = 0 ∨ y2 = 1)) (some (y2, h)) else (fX6_advance h).bind (fun r6 => (R 2 y1 r6).bind (fun r7 => if r7.1 = 0 then fX6_readTerm_J53 R (fun y1 y2 y3 h => fX6_readTerm_L8 R n y1 y2 y3 h) y1 y3 r7.2 else (fX6_emit ((-7)) r7.2).bind (fun r9 => if r9.1 = 0 then fX6_readTerm_J53 R (fun y1 y2 y3 h => fX6_readTerm_L8 R n y1 y2 y3 h) y1 y3 r9.2 else fX6_readTerm_J54 R (fun y1 y2 y3 h => fX6_readTerm_L8 R n y1 y2 y3 h) y1 y3 1 r9.2))))
def bX6_readTerm (R : Nat → Int32 → abJ → Option (Int32 × abJ)) (x0 : Int32) (h : abJ) : Option (Int32 × abJ) := (R 2 x0 h).bind (fun r1 => fX6_readTerm_L8 R ab_N x0 r1.1 0 r1.2)
set_option maxRecDepth 20000 in
theorem sX6_readTerm_J54 (d : Nat) (X : abX) (R : Nat → Int32 → abJ → Option (Int32 × abJ)) (IH : ∀ (sel : Nat) (a0 : Int32) (h : abJ) (z : (Int32 × abJ)), R sel a0 h = some z → ab_Ex X (d + 6) (([79, 80, 81, 83, 84, 85, 86] : List Nat).getD sel 0) 0 [(0, .ref 9), (1, .int a0)] [] ab_SH (ab_dD h) (fun r => r = (some (.int z.1), ab_SH, ab_dD z.2))) (k8 : Int32 → Int32 → Int32 → abJ → Option (Int32 × abJ)) (hk8 : ∀ (y1 : Int32) (y2 : Int32) (y3 : Int32) (h : abJ) (z : (Int32 × abJ)), k8 y1 y2 y3 h = some z → ab_Ex X (d + 7) 80 8 [(0, .ref 9), (1, .int y1), (2, .int y2), (3, .int y3)] [] ab_SH (ab_dD h) (fun r => r = (some (.int z.1), ab_SH, ab_dD z.2))) : ∀ (y1 : Int32) (y3 : Int32) (t0 : Int32) (h : abJ) (z : (Int32 × abJ)), fX6_readTerm_J54 R k8 y1 y3 t0 h = some z → ab_Ex X (d + 7) 80 54 [(0, .ref 9), (1, .int y1), (3, .int y3)] [.int t0] ab_SH (ab_dD h) (fun r => r = (some (.int z.1), ab_SH, ab_dD z.2)) := by
  intro y1 y3 t0 h z hf
  unfold fX6_readTerm_J54 at hf
  refine ab_Ex.blk (k := 3) (pc' := 8) (lv' := [(0, .ref 9), (1, .int y1), (2, .int t0), (3, .int ((y3 + 1)))]) (st' := []) (sh' := ab_SH) (D' := ab_dD h) (fun n => rfl) ?_
  exact hk8 y1 t0 ((y3 + 1)) h _ hf
set_option maxRecDepth 20000 in
theorem sX6_readTerm_J53 (d : Nat) (X : abX) (R : Nat → Int32 → abJ → Option (Int32 × abJ)) (IH : ∀ (sel : Nat) (a0 : Int32) (h : abJ) (z : (Int32 × abJ)), R sel a0 h = some z → ab_Ex X (d + 6) (([79, 80, 81, 83, 84, 85, 86] : List Nat).getD sel 0) 0 [(0, .ref 9), (1, .int a0)] [] ab_SH (ab_dD h) (fun r => r = (some (.int z.1), ab_SH, ab_dD z.2))) (k8 : Int32 → Int32 → Int32 → abJ → Option (Int32 × abJ)) (hk8 : ∀ (y1 : Int32) (y2 : Int32) (y3 : Int32) (h : abJ) (z : (Int32 × abJ)), k8 y1 y2 y3 h = some z → ab_Ex X (d + 7) 80 8 [(0, .ref 9), (1, .int y1), (2, .int y2), (3, .int y3)] [] ab_SH (ab_dD h) (fun r => r = (some (.int z.1), ab_SH, ab_dD z.2))) : ∀ (y1 : Int32) (y3 : Int32) (h : abJ) (z : (Int32 × abJ)), fX6_readTerm_J53 R k8 y1 y3 h = some z → ab_Ex X (d + 7) 80 53 [(0, .ref 9), (1, .int y1), (3, .int y3)] [] ab_SH (ab_dD h) (fun r => r = (some (.int z.1), ab_SH, ab_dD z.2)) := by
  intro y1 y3 h z hf
  unfold fX6_readTerm_J53 at hf
  refine ab_Ex.blk (k := 1) (pc' := 54) (lv' := [(0, .ref 9), (1, .int y1), (3, .int y3)]) (st' := [.int 0]) (sh' := ab_SH) (D' := ab_dD h) (fun n => rfl) ?_
  exact sX6_readTerm_J54 d X R IH k8 hk8 y1 y3 0 h _ hf
set_option maxRecDepth 20000 in
theorem sX6_readTerm_L8 (d : Nat) (X : abX) (R : Nat → Int32 → abJ → Option (Int32 × abJ)) (IH : ∀ (sel : Nat) (a0 : Int32) (h : abJ) (z : (Int32 × abJ)), R sel a0 h = some z → ab_Ex X (d + 6) (([79, 80, 81, 83, 84, 85, 86] : List Nat).getD sel 0) 0 [(0, .ref 9), (1, .int a0)] [] ab_SH (ab_dD h) (fun r => r = (some (.int z.1), ab_SH, ab_dD z.2)))   : ∀ (n : Nat), ∀ (y1 : Int32) (y2 : Int32) (y3 : Int32) (h : abJ) (z : (Int32 × abJ)), fX6_readTerm_L8 R n y1 y2 y3 h = some z → ab_Ex X (d + 7) 80 8 [(0, .ref 9), (1, .int y1), (2, .int y2), (3, .int y3)] [] ab_SH (ab_dD h) (fun r => r = (some (.int z.1), ab_SH, ab_dD z.2)) := by
  intro n
  induction n with
  | zero => intro y1 y2 y3 h z hf; cases hf
  | succ n ih =>
    intro y1 y2 y3 h z hf
    rw [fX6_readTerm_L8] at hf
    refine ab_Ex.blk (k := 2) (pc' := 12) (lv' := [(0, .ref 9), (1, .int y1), (2, .int y2), (3, .int y3)]) (st' := [.int 900, .int y3]) (sh' := ab_SH) (D' := ab_dD h) (fun n => rfl) ?_
    refine ab_Ex.ifc (c := 900 ≤ y3) (SA := (61, [(0, .ref 9), (1, .int y1), (2, .int y2), (3, .int y3)], [], ab_dD h)) (SB := (15, [(0, .ref 9), (1, .int y1), (2, .int y2), (3, .int y3)], [], ab_dD h)) (fun n => rfl) (fun c2 => ?_) (fun c2 => ?_)
    · replace hf := (if_pos c2).symm.trans hf
      refine ab_Ex.blk (k := 1) (pc' := 62) (lv' := [(2, .int y2)]) (st' := [.int y2]) (sh' := ab_SH) (D' := ab_dD h) (fun n => rfl) ?_
      obtain ⟨c9, hf⟩ := ab_ask_s hf
      obtain rfl := Option.some.inj hf
      exact ab_Ex.retc (fun n => rfl) (Decidable.not_not.mp c9) rfl
    · replace hf := (if_neg c2).symm.trans hf
      refine ab_Ex.blk (k := 1) (pc' := 16) (lv' := [(0, .ref 9), (1, .int y1), (2, .int y2), (3, .int y3)]) (st' := [.int y2]) (sh' := ab_SH) (D' := ab_dD h) (fun n => rfl) ?_
      refine ab_Ex.ifc (c := y2 = 0) (SA := (61, [(0, .ref 9), (1, .int y1), (2, .int y2), (3, .int y3)], [], ab_dD h)) (SB := (19, [(0, .ref 9), (1, .int y1), (2, .int y2), (3, .int y3)], [], ab_dD h)) (fun n => rfl) (fun c3 => ?_) (fun c3 => ?_)
      · replace hf := (if_pos c3).symm.trans hf
        refine ab_Ex.blk (k := 1) (pc' := 62) (lv' := [(2, .int y2)]) (st' := [.int y2]) (sh' := ab_SH) (D' := ab_dD h) (fun n => rfl) ?_
        obtain ⟨c9, hf⟩ := ab_ask_s hf
        obtain rfl := Option.some.inj hf
        exact ab_Ex.retc (fun n => rfl) (Decidable.not_not.mp c9) rfl
      · replace hf := (if_neg c3).symm.trans hf
        refine ab_Ex.blk (k := 2) (pc' := 22) (lv' := [(0, .ref 9), (1, .int y1), (2, .int y2), (3, .int y3)]) (st' := [.ref 1000027, .ref 9]) (sh' := ab_SH) (D' := ab_dD h) (fun n => rfl) ?_
        obtain ⟨r4, hr4, hf⟩ := ab_bind_s hf
        refine ab_Ex.call (d := d + 6) (M2 := 93) (as := [.ref 9, .ref 1000027]) (rest := []) (fun n => rfl) rfl (Nat.not_lt.mpr (Nat.le_of_ble_eq_true rfl)) (sX6_is_1000027 (d + 2) X  h _ hr4) (fun r hr => ?_)
        subst hr
        show ab_Ex X (d + 7) 80 25 [(0, .ref 9), (1, .int y1), (2, .int y2), (3, .int y3)] [.int r4] ab_SH (ab_dD h) _
        refine ab_Ex.ifc (c := r4 = 0) (SA := (61, [(0, .ref 9), (1, .int y1), (2, .int y2), (3, .int y3)], [], ab_dD h)) (SB := (28, [(0, .ref 9), (1, .int y1), (2, .int y2), (3, .int y3)], [], ab_dD h)) (fun n => rfl) (fun c5 => ?_) (fun c5 => ?_)
        · replace hf := (if_pos c5).symm.trans hf
          refine ab_Ex.blk (k := 1) (pc' := 62) (lv' := [(2, .int y2)]) (st' := [.int y2]) (sh' := ab_SH) (D' := ab_dD h) (fun n => rfl) ?_
          obtain ⟨c9, hf⟩ := ab_ask_s hf
          obtain rfl := Option.some.inj hf
          exact ab_Ex.retc (fun n => rfl) (Decidable.not_not.mp c9) rfl
        · replace hf := (if_neg c5).symm.trans hf
          refine ab_Ex.blk (k := 1) (pc' := 29) (lv' := [(0, .ref 9), (1, .int y1), (2, .int y2), (3, .int y3)]) (st' := [.ref 9]) (sh' := ab_SH) (D' := ab_dD h) (fun n => rfl) ?_
          obtain ⟨r6, hr6, hf⟩ := ab_bind_s hf
          refine ab_Ex.call (d := d + 6) (M2 := 94) (as := [.ref 9]) (rest := []) (fun n => rfl) rfl (Nat.not_lt.mpr (Nat.le_of_ble_eq_true rfl)) (sX6_advance (d + 2) X  h _ hr6) (fun r hr => ?_)
          subst hr
          show ab_Ex X (d + 7) 80 32 [(0, .ref 9), (1, .int y1), (2, .int y2), (3, .int y3)] [] ab_SH (ab_dD r6) _
          refine ab_Ex.blk (k := 2) (pc' := 34) (lv' := [(0, .ref 9), (1, .int y1), (2, .int y2), (3, .int y3)]) (st' := [.int y1, .ref 9]) (sh' := ab_SH) (D' := ab_dD r6) (fun n => rfl) ?_
          obtain ⟨r7, hr7, hf⟩ := ab_bind_s hf
          refine ab_Ex.call (d := d + 6) (M2 := 81) (as := [.ref 9, .int y1]) (rest := []) (fun n => rfl) rfl (Nat.not_lt.mpr (Nat.le_of_ble_eq_true rfl)) (IH 2 y1 r6 _ hr7) (fun r hr => ?_)
          subst hr
          show ab_Ex X (d + 7) 80 37 [(0, .ref 9), (1, .int y1), (2, .int y2), (3, .int y3)] [.int r7.1] ab_SH (ab_dD r7.2) _
          refine ab_Ex.ifc (c := r7.1 = 0) (SA := (53, [(0, .ref 9), (1, .int y1), (2, .int y2), (3, .int y3)], [], ab_dD r7.2)) (SB := (40, [(0, .ref 9), (1, .int y1), (2, .int y2), (3, .int y3)], [], ab_dD r7.2)) (fun n => rfl) (fun c8 => ?_) (fun c8 => ?_)
          · replace hf := (if_pos c8).symm.trans hf
            exact sX6_readTerm_J53 d X R IH (fun y1 y2 y3 h => fX6_readTerm_L8 R n y1 y2 y3 h) (fun y1 y2 y3 h z hz => ih y1 y2 y3 h z hz) y1 y3 r7.2 _ hf
          · replace hf := (if_neg c8).symm.trans hf
            refine ab_Ex.blk (k := 2) (pc' := 43) (lv' := [(0, .ref 9), (1, .int y1), (2, .int y2), (3, .int y3)]) (st' := [.int ((-7)), .ref 9]) (sh' := ab_SH) (D' := ab_dD r7.2) (fun n => rfl) ?_
            obtain ⟨r9, hr9, hf⟩ := ab_bind_s hf
            refine ab_Ex.call (d := d + 6) (M2 := 88) (as := [.ref 9, .int ((-7))]) (rest := []) (fun n => rfl) rfl (Nat.not_lt.mpr (Nat.le_of_ble_eq_true rfl)) (sX6_emit (d + 5) X ((-7)) r7.2 _ hr9) (fun r hr => ?_)
            subst hr
            show ab_Ex X (d + 7) 80 46 [(0, .ref 9), (1, .int y1), (2, .int y2), (3, .int y3)] [.int r9.1] ab_SH (ab_dD r9.2) _
            refine ab_Ex.ifc (c := r9.1 = 0) (SA := (53, [(0, .ref 9), (1, .int y1), (2, .int y2), (3, .int y3)], [], ab_dD r9.2)) (SB := (49, [(0, .ref 9), (1, .int y1), (2, .int y2), (3, .int y3)], [], ab_dD r9.2)) (fun n => rfl) (fun c10 => ?_) (fun c10 => ?_)
            · replace hf := (if_pos c10).symm.trans hf
              exact sX6_readTerm_J53 d X R IH (fun y1 y2 y3 h => fX6_readTerm_L8 R n y1 y2 y3 h) (fun y1 y2 y3 h z hz => ih y1 y2 y3 h z hz) y1 y3 r9.2 _ hf
            · replace hf := (if_neg c10).symm.trans hf
              refine ab_Ex.blk (k := 2) (pc' := 54) (lv' := [(0, .ref 9), (1, .int y1), (3, .int y3)]) (st' := [.int 1]) (sh' := ab_SH) (D' := ab_dD r9.2) (fun n => rfl) ?_
              exact sX6_readTerm_J54 d X R IH (fun y1 y2 y3 h => fX6_readTerm_L8 R n y1 y2 y3 h) (fun y1 y2 y3 h z hz => ih y1 y2 y3 h z hz) y1 y3 1 r9.2 _ hf
set_option maxRecDepth 20000 in
theorem sX6_readTerm_b (d : Nat) (X : abX) (R : Nat → Int32 → abJ → Option (Int32 × abJ)) (IH : ∀ (sel : Nat) (a0 : Int32) (h : abJ) (z : (Int32 × abJ)), R sel a0 h = some z → ab_Ex X (d + 6) (([79, 80, 81, 83, 84, 85, 86] : List Nat).getD sel 0) 0 [(0, .ref 9), (1, .int a0)] [] ab_SH (ab_dD h) (fun r => r = (some (.int z.1), ab_SH, ab_dD z.2))) (x0 : Int32) (h : abJ) (z : (Int32 × abJ)) (hf : bX6_readTerm R x0 h = some z) : ab_Ex X (d + 7) 80 0 [(0, .ref 9), (1, .int x0)] [] ab_SH (ab_dD h) (fun r => r = (some (.int z.1), ab_SH, ab_dD z.2)) := by
  unfold bX6_readTerm at hf
  refine ab_Ex.blk (k := 2) (pc' := 2) (lv' := [(0, .ref 9), (1, .int x0)]) (st' := [.int x0, .ref 9]) (sh' := ab_SH) (D' := ab_dD h) (fun n => rfl) ?_
  obtain ⟨r1, hr1, hf⟩ := ab_bind_s hf
  refine ab_Ex.call (d := d + 6) (M2 := 81) (as := [.ref 9, .int x0]) (rest := []) (fun n => rfl) rfl (Nat.not_lt.mpr (Nat.le_of_ble_eq_true rfl)) (IH 2 x0 h _ hr1) (fun r hr => ?_)
  subst hr
  show ab_Ex X (d + 7) 80 5 [(0, .ref 9), (1, .int x0)] [.int r1.1] ab_SH (ab_dD r1.2) _
  refine ab_Ex.blk (k := 3) (pc' := 8) (lv' := [(0, .ref 9), (1, .int x0), (2, .int r1.1), (3, .int 0)]) (st' := []) (sh' := ab_SH) (D' := ab_dD r1.2) (fun n => rfl) ?_
  exact sX6_readTerm_L8 d X R IH  ab_N x0 r1.1 0 r1.2 _ hf
def bX6_readAtom (R : Nat → Int32 → abJ → Option (Int32 × abJ)) (x0 : Int32) (h : abJ) : Option (Int32 × abJ) := (fX6_leafHere h).bind (fun r1 => if r1 ≤ (-5) then (fX6_is 1000013 h).bind (fun r3 => if r3 = 0 then (fX6_is 1000015 h).bind (fun r5 => if r5 = 0 then (fX6_wrong 2 h).bind (fun r7 => ab_ask (¬ (r7.1 = 0 ∨ r7.1 = 1)) (some (r7.1, r7.2))) else (fX6_open x0 h).bind (fun r8 => if r8.1 = 0 then some (0, r8.2) else (R 3 ((x0 + 1)) r8.2).bind (fun r10 => if r10.1 = 0 then some (0, r10.2) else (fX6_take 1000024 r10.2).bind (fun r12 => if r12.1 = 0 then some (0, r12.2) else (R 0 ((x0 + 1)) r12.2).bind (fun r14 => if r14.1 = 0 then some (0, r14.2) else (fX6_take 1000025 r14.2).bind (fun r16 => if r16.1 = 0 then some (0, r16.2) else (R 0 ((x0 + 1)) r16.2).bind (fun r18 => if r18.1 = 0 then some (0, r18.2) else (fX6_take 1000026 r18.2).bind (fun r20 => if r20.1 = 0 then some (0, r20.2) else (fX6_emit ((-14)) r20.2).bind (fun r22 => if r22.1 = 0 then some (0, r22.2) else some (1, r22.2)))))))))) else (fX6_open x0 h).bind (fun r24 => if r24.1 = 0 then some (0, r24.2) else (R 0 ((x0 + 1)) r24.2).bind (fun r26 => if r26.1 = 0 then some (0, r26.2) else (fX6_take 1000014 r26.2).bind (fun r28 => if r28.1 = 0 then some (0, r28.2) else some (1, r28.2))))) else (fX6_advance h).bind (fun r30 => (fX6_emit r1 r30).bind (fun r31 => ab_ask (¬ (r31.1 = 0 ∨ r31.1 = 1)) (some (r31.1, r31.2)))))
set_option maxRecDepth 20000 in
theorem sX6_readAtom_b (d : Nat) (X : abX) (R : Nat → Int32 → abJ → Option (Int32 × abJ)) (IH : ∀ (sel : Nat) (a0 : Int32) (h : abJ) (z : (Int32 × abJ)), R sel a0 h = some z → ab_Ex X (d + 6) (([79, 80, 81, 83, 84, 85, 86] : List Nat).getD sel 0) 0 [(0, .ref 9), (1, .int a0)] [] ab_SH (ab_dD h) (fun r => r = (some (.int z.1), ab_SH, ab_dD z.2))) (x0 : Int32) (h : abJ) (z : (Int32 × abJ)) (hf : bX6_readAtom R x0 h = some z) : ab_Ex X (d + 7) 81 0 [(0, .ref 9), (1, .int x0)] [] ab_SH (ab_dD h) (fun r => r = (some (.int z.1), ab_SH, ab_dD z.2)) := by
  unfold bX6_readAtom at hf
  refine ab_Ex.blk (k := 1) (pc' := 1) (lv' := [(0, .ref 9), (1, .int x0)]) (st' := [.ref 9]) (sh' := ab_SH) (D' := ab_dD h) (fun n => rfl) ?_
  obtain ⟨r1, hr1, hf⟩ := ab_bind_s hf
  refine ab_Ex.call (d := d + 6) (M2 := 82) (as := [.ref 9]) (rest := []) (fun n => rfl) rfl (Nat.not_lt.mpr (Nat.le_of_ble_eq_true rfl)) (sX6_leafHere (d + 1) X  h _ hr1) (fun r hr => ?_)
  subst hr
  show ab_Ex X (d + 7) 81 4 [(0, .ref 9), (1, .int x0)] [.int r1] ab_SH (ab_dD h) _
  refine ab_Ex.blk (k := 3) (pc' := 8) (lv' := [(2, .int r1), (0, .ref 9), (1, .int x0)]) (st' := [.int ((-5)), .int r1]) (sh' := ab_SH) (D' := ab_dD h) (fun n => rfl) ?_
  refine ab_Ex.ifc (c := r1 ≤ (-5)) (SA := (21, [(2, .int r1), (0, .ref 9), (1, .int x0)], [], ab_dD h)) (SB := (11, [(2, .int r1), (0, .ref 9), (1, .int x0)], [], ab_dD h)) (fun n => rfl) (fun c2 => ?_) (fun c2 => ?_)
  · replace hf := (if_pos c2).symm.trans hf
    refine ab_Ex.blk (k := 2) (pc' := 24) (lv' := [(2, .int r1), (0, .ref 9), (1, .int x0)]) (st' := [.ref 1000013, .ref 9]) (sh' := ab_SH) (D' := ab_dD h) (fun n => rfl) ?_
    obtain ⟨r3, hr3, hf⟩ := ab_bind_s hf
    refine ab_Ex.call (d := d + 6) (M2 := 93) (as := [.ref 9, .ref 1000013]) (rest := []) (fun n => rfl) rfl (Nat.not_lt.mpr (Nat.le_of_ble_eq_true rfl)) (sX6_is_1000013 (d + 2) X  h _ hr3) (fun r hr => ?_)
    subst hr
    show ab_Ex X (d + 7) 81 27 [(2, .int r1), (0, .ref 9), (1, .int x0)] [.int r3] ab_SH (ab_dD h) _
    refine ab_Ex.ifc (c := r3 = 0) (SA := (63, [(2, .int r1), (0, .ref 9), (1, .int x0)], [], ab_dD h)) (SB := (30, [(2, .int r1), (0, .ref 9), (1, .int x0)], [], ab_dD h)) (fun n => rfl) (fun c4 => ?_) (fun c4 => ?_)
    · replace hf := (if_pos c4).symm.trans hf
      refine ab_Ex.blk (k := 2) (pc' := 66) (lv' := [(2, .int r1), (0, .ref 9), (1, .int x0)]) (st' := [.ref 1000015, .ref 9]) (sh' := ab_SH) (D' := ab_dD h) (fun n => rfl) ?_
      obtain ⟨r5, hr5, hf⟩ := ab_bind_s hf
      refine ab_Ex.call (d := d + 6) (M2 := 93) (as := [.ref 9, .ref 1000015]) (rest := []) (fun n => rfl) rfl (Nat.not_lt.mpr (Nat.le_of_ble_eq_true rfl)) (sX6_is_1000015 (d + 2) X  h _ hr5) (fun r hr => ?_)
      subst hr
      show ab_Ex X (d + 7) 81 69 [(2, .int r1), (0, .ref 9), (1, .int x0)] [.int r5] ab_SH (ab_dD h) _
      refine ab_Ex.ifc (c := r5 = 0) (SA := (152, [(2, .int r1), (0, .ref 9), (1, .int x0)], [], ab_dD h)) (SB := (72, [(2, .int r1), (0, .ref 9), (1, .int x0)], [], ab_dD h)) (fun n => rfl) (fun c6 => ?_) (fun c6 => ?_)
      · replace hf := (if_pos c6).symm.trans hf
        refine ab_Ex.blk (k := 2) (pc' := 154) (lv' := [(2, .int r1), (0, .ref 9), (1, .int x0)]) (st' := [.int 2, .ref 9]) (sh' := ab_SH) (D' := ab_dD h) (fun n => rfl) ?_
        obtain ⟨r7, hr7, hf⟩ := ab_bind_s hf
        refine ab_Ex.call (d := d + 6) (M2 := 92) (as := [.ref 9, .int 2]) (rest := []) (fun n => rfl) rfl (Nat.not_lt.mpr (Nat.le_of_ble_eq_true rfl)) (sX6_wrong (d + 6) X 2 h _ hr7) (fun r hr => ?_)
        subst hr
        show ab_Ex X (d + 7) 81 157 [(2, .int r1), (0, .ref 9), (1, .int x0)] [.int r7.1] ab_SH (ab_dD r7.2) _
        obtain ⟨c9, hf⟩ := ab_ask_s hf
        obtain rfl := Option.some.inj hf
        exact ab_Ex.retc (fun n => rfl) (Decidable.not_not.mp c9) rfl
      · replace hf := (if_neg c6).symm.trans hf
        refine ab_Ex.blk (k := 2) (pc' := 74) (lv' := [(2, .int r1), (0, .ref 9), (1, .int x0)]) (st' := [.int x0, .ref 9]) (sh' := ab_SH) (D' := ab_dD h) (fun n => rfl) ?_
        obtain ⟨r8, hr8, hf⟩ := ab_bind_s hf
        refine ab_Ex.call (d := d + 6) (M2 := 87) (as := [.ref 9, .int x0]) (rest := []) (fun n => rfl) rfl (Nat.not_lt.mpr (Nat.le_of_ble_eq_true rfl)) (sX6_open (d + 1) X x0 h _ hr8) (fun r hr => ?_)
        subst hr
        show ab_Ex X (d + 7) 81 77 [(2, .int r1), (0, .ref 9), (1, .int x0)] [.int r8.1] ab_SH (ab_dD r8.2) _
        refine ab_Ex.ifc (c := r8.1 = 0) (SA := (150, [(2, .int r1), (0, .ref 9), (1, .int x0)], [], ab_dD r8.2)) (SB := (80, [(2, .int r1), (0, .ref 9), (1, .int x0)], [], ab_dD r8.2)) (fun n => rfl) (fun c9 => ?_) (fun c9 => ?_)
        · replace hf := (if_pos c9).symm.trans hf
          refine ab_Ex.blk (k := 1) (pc' := 151) (lv' := []) (st' := [.int 0]) (sh' := ab_SH) (D' := ab_dD r8.2) (fun n => rfl) ?_
          obtain rfl := Option.some.inj hf
          exact ab_Ex.ret (fun n => rfl) rfl
        · replace hf := (if_neg c9).symm.trans hf
          refine ab_Ex.blk (k := 4) (pc' := 84) (lv' := [(2, .int r1), (0, .ref 9), (1, .int x0)]) (st' := [.int ((x0 + 1)), .ref 9]) (sh' := ab_SH) (D' := ab_dD r8.2) (fun n => rfl) ?_
          obtain ⟨r10, hr10, hf⟩ := ab_bind_s hf
          refine ab_Ex.call (d := d + 6) (M2 := 83) (as := [.ref 9, .int ((x0 + 1))]) (rest := []) (fun n => rfl) rfl (Nat.not_lt.mpr (Nat.le_of_ble_eq_true rfl)) (IH 3 ((x0 + 1)) r8.2 _ hr10) (fun r hr => ?_)
          subst hr
          show ab_Ex X (d + 7) 81 87 [(2, .int r1), (0, .ref 9), (1, .int x0)] [.int r10.1] ab_SH (ab_dD r10.2) _
          refine ab_Ex.ifc (c := r10.1 = 0) (SA := (150, [(2, .int r1), (0, .ref 9), (1, .int x0)], [], ab_dD r10.2)) (SB := (90, [(2, .int r1), (0, .ref 9), (1, .int x0)], [], ab_dD r10.2)) (fun n => rfl) (fun c11 => ?_) (fun c11 => ?_)
          · replace hf := (if_pos c11).symm.trans hf
            refine ab_Ex.blk (k := 1) (pc' := 151) (lv' := []) (st' := [.int 0]) (sh' := ab_SH) (D' := ab_dD r10.2) (fun n => rfl) ?_
            obtain rfl := Option.some.inj hf
            exact ab_Ex.ret (fun n => rfl) rfl
          · replace hf := (if_neg c11).symm.trans hf
            refine ab_Ex.blk (k := 2) (pc' := 93) (lv' := [(2, .int r1), (0, .ref 9), (1, .int x0)]) (st' := [.ref 1000024, .ref 9]) (sh' := ab_SH) (D' := ab_dD r10.2) (fun n => rfl) ?_
            obtain ⟨r12, hr12, hf⟩ := ab_bind_s hf
            refine ab_Ex.call (d := d + 6) (M2 := 89) (as := [.ref 9, .ref 1000024]) (rest := []) (fun n => rfl) rfl (Nat.not_lt.mpr (Nat.le_of_ble_eq_true rfl)) (sX6_take_1000024 (d + 1) X  r10.2 _ hr12) (fun r hr => ?_)
            subst hr
            show ab_Ex X (d + 7) 81 96 [(2, .int r1), (0, .ref 9), (1, .int x0)] [.int r12.1] ab_SH (ab_dD r12.2) _
            refine ab_Ex.ifc (c := r12.1 = 0) (SA := (150, [(2, .int r1), (0, .ref 9), (1, .int x0)], [], ab_dD r12.2)) (SB := (99, [(2, .int r1), (0, .ref 9), (1, .int x0)], [], ab_dD r12.2)) (fun n => rfl) (fun c13 => ?_) (fun c13 => ?_)
            · replace hf := (if_pos c13).symm.trans hf
              refine ab_Ex.blk (k := 1) (pc' := 151) (lv' := []) (st' := [.int 0]) (sh' := ab_SH) (D' := ab_dD r12.2) (fun n => rfl) ?_
              obtain rfl := Option.some.inj hf
              exact ab_Ex.ret (fun n => rfl) rfl
            · replace hf := (if_neg c13).symm.trans hf
              refine ab_Ex.blk (k := 4) (pc' := 103) (lv' := [(2, .int r1), (0, .ref 9), (1, .int x0)]) (st' := [.int ((x0 + 1)), .ref 9]) (sh' := ab_SH) (D' := ab_dD r12.2) (fun n => rfl) ?_
              obtain ⟨r14, hr14, hf⟩ := ab_bind_s hf
              refine ab_Ex.call (d := d + 6) (M2 := 79) (as := [.ref 9, .int ((x0 + 1))]) (rest := []) (fun n => rfl) rfl (Nat.not_lt.mpr (Nat.le_of_ble_eq_true rfl)) (IH 0 ((x0 + 1)) r12.2 _ hr14) (fun r hr => ?_)
              subst hr
              show ab_Ex X (d + 7) 81 106 [(2, .int r1), (0, .ref 9), (1, .int x0)] [.int r14.1] ab_SH (ab_dD r14.2) _
              refine ab_Ex.ifc (c := r14.1 = 0) (SA := (150, [(2, .int r1), (0, .ref 9), (1, .int x0)], [], ab_dD r14.2)) (SB := (109, [(2, .int r1), (0, .ref 9), (1, .int x0)], [], ab_dD r14.2)) (fun n => rfl) (fun c15 => ?_) (fun c15 => ?_)
              · replace hf := (if_pos c15).symm.trans hf
                refine ab_Ex.blk (k := 1) (pc' := 151) (lv' := []) (st' := [.int 0]) (sh' := ab_SH) (D' := ab_dD r14.2) (fun n => rfl) ?_
                obtain rfl := Option.some.inj hf
                exact ab_Ex.ret (fun n => rfl) rfl
              · replace hf := (if_neg c15).symm.trans hf
                refine ab_Ex.blk (k := 2) (pc' := 112) (lv' := [(2, .int r1), (0, .ref 9), (1, .int x0)]) (st' := [.ref 1000025, .ref 9]) (sh' := ab_SH) (D' := ab_dD r14.2) (fun n => rfl) ?_
                obtain ⟨r16, hr16, hf⟩ := ab_bind_s hf
                refine ab_Ex.call (d := d + 6) (M2 := 89) (as := [.ref 9, .ref 1000025]) (rest := []) (fun n => rfl) rfl (Nat.not_lt.mpr (Nat.le_of_ble_eq_true rfl)) (sX6_take_1000025 (d + 1) X  r14.2 _ hr16) (fun r hr => ?_)
                subst hr
                show ab_Ex X (d + 7) 81 115 [(2, .int r1), (0, .ref 9), (1, .int x0)] [.int r16.1] ab_SH (ab_dD r16.2) _
                refine ab_Ex.ifc (c := r16.1 = 0) (SA := (150, [(2, .int r1), (0, .ref 9), (1, .int x0)], [], ab_dD r16.2)) (SB := (118, [(2, .int r1), (0, .ref 9), (1, .int x0)], [], ab_dD r16.2)) (fun n => rfl) (fun c17 => ?_) (fun c17 => ?_)
                · replace hf := (if_pos c17).symm.trans hf
                  refine ab_Ex.blk (k := 1) (pc' := 151) (lv' := []) (st' := [.int 0]) (sh' := ab_SH) (D' := ab_dD r16.2) (fun n => rfl) ?_
                  obtain rfl := Option.some.inj hf
                  exact ab_Ex.ret (fun n => rfl) rfl
                · replace hf := (if_neg c17).symm.trans hf
                  refine ab_Ex.blk (k := 4) (pc' := 122) (lv' := [(2, .int r1), (0, .ref 9), (1, .int x0)]) (st' := [.int ((x0 + 1)), .ref 9]) (sh' := ab_SH) (D' := ab_dD r16.2) (fun n => rfl) ?_
                  obtain ⟨r18, hr18, hf⟩ := ab_bind_s hf
                  refine ab_Ex.call (d := d + 6) (M2 := 79) (as := [.ref 9, .int ((x0 + 1))]) (rest := []) (fun n => rfl) rfl (Nat.not_lt.mpr (Nat.le_of_ble_eq_true rfl)) (IH 0 ((x0 + 1)) r16.2 _ hr18) (fun r hr => ?_)
                  subst hr
                  show ab_Ex X (d + 7) 81 125 [(2, .int r1), (0, .ref 9), (1, .int x0)] [.int r18.1] ab_SH (ab_dD r18.2) _
                  refine ab_Ex.ifc (c := r18.1 = 0) (SA := (150, [(2, .int r1), (0, .ref 9), (1, .int x0)], [], ab_dD r18.2)) (SB := (128, [(2, .int r1), (0, .ref 9), (1, .int x0)], [], ab_dD r18.2)) (fun n => rfl) (fun c19 => ?_) (fun c19 => ?_)
                  · replace hf := (if_pos c19).symm.trans hf
                    refine ab_Ex.blk (k := 1) (pc' := 151) (lv' := []) (st' := [.int 0]) (sh' := ab_SH) (D' := ab_dD r18.2) (fun n => rfl) ?_
                    obtain rfl := Option.some.inj hf
                    exact ab_Ex.ret (fun n => rfl) rfl
                  · replace hf := (if_neg c19).symm.trans hf
                    refine ab_Ex.blk (k := 2) (pc' := 131) (lv' := [(2, .int r1), (0, .ref 9), (1, .int x0)]) (st' := [.ref 1000026, .ref 9]) (sh' := ab_SH) (D' := ab_dD r18.2) (fun n => rfl) ?_
                    obtain ⟨r20, hr20, hf⟩ := ab_bind_s hf
                    refine ab_Ex.call (d := d + 6) (M2 := 89) (as := [.ref 9, .ref 1000026]) (rest := []) (fun n => rfl) rfl (Nat.not_lt.mpr (Nat.le_of_ble_eq_true rfl)) (sX6_take_1000026 (d + 1) X  r18.2 _ hr20) (fun r hr => ?_)
                    subst hr
                    show ab_Ex X (d + 7) 81 134 [(2, .int r1), (0, .ref 9), (1, .int x0)] [.int r20.1] ab_SH (ab_dD r20.2) _
                    refine ab_Ex.ifc (c := r20.1 = 0) (SA := (150, [(2, .int r1), (0, .ref 9), (1, .int x0)], [], ab_dD r20.2)) (SB := (137, [(2, .int r1), (0, .ref 9), (1, .int x0)], [], ab_dD r20.2)) (fun n => rfl) (fun c21 => ?_) (fun c21 => ?_)
                    · replace hf := (if_pos c21).symm.trans hf
                      refine ab_Ex.blk (k := 1) (pc' := 151) (lv' := []) (st' := [.int 0]) (sh' := ab_SH) (D' := ab_dD r20.2) (fun n => rfl) ?_
                      obtain rfl := Option.some.inj hf
                      exact ab_Ex.ret (fun n => rfl) rfl
                    · replace hf := (if_neg c21).symm.trans hf
                      refine ab_Ex.blk (k := 2) (pc' := 140) (lv' := [(2, .int r1), (0, .ref 9), (1, .int x0)]) (st' := [.int ((-14)), .ref 9]) (sh' := ab_SH) (D' := ab_dD r20.2) (fun n => rfl) ?_
                      obtain ⟨r22, hr22, hf⟩ := ab_bind_s hf
                      refine ab_Ex.call (d := d + 6) (M2 := 88) (as := [.ref 9, .int ((-14))]) (rest := []) (fun n => rfl) rfl (Nat.not_lt.mpr (Nat.le_of_ble_eq_true rfl)) (sX6_emit (d + 5) X ((-14)) r20.2 _ hr22) (fun r hr => ?_)
                      subst hr
                      show ab_Ex X (d + 7) 81 143 [(2, .int r1), (0, .ref 9), (1, .int x0)] [.int r22.1] ab_SH (ab_dD r22.2) _
                      refine ab_Ex.ifc (c := r22.1 = 0) (SA := (150, [(2, .int r1), (0, .ref 9), (1, .int x0)], [], ab_dD r22.2)) (SB := (146, [(2, .int r1), (0, .ref 9), (1, .int x0)], [], ab_dD r22.2)) (fun n => rfl) (fun c23 => ?_) (fun c23 => ?_)
                      · replace hf := (if_pos c23).symm.trans hf
                        refine ab_Ex.blk (k := 1) (pc' := 151) (lv' := []) (st' := [.int 0]) (sh' := ab_SH) (D' := ab_dD r22.2) (fun n => rfl) ?_
                        obtain rfl := Option.some.inj hf
                        exact ab_Ex.ret (fun n => rfl) rfl
                      · replace hf := (if_neg c23).symm.trans hf
                        refine ab_Ex.blk (k := 2) (pc' := 151) (lv' := []) (st' := [.int 1]) (sh' := ab_SH) (D' := ab_dD r22.2) (fun n => rfl) ?_
                        obtain rfl := Option.some.inj hf
                        exact ab_Ex.ret (fun n => rfl) rfl
    · replace hf := (if_neg c4).symm.trans hf
      refine ab_Ex.blk (k := 2) (pc' := 32) (lv' := [(2, .int r1), (0, .ref 9), (1, .int x0)]) (st' := [.int x0, .ref 9]) (sh' := ab_SH) (D' := ab_dD h) (fun n => rfl) ?_
      obtain ⟨r24, hr24, hf⟩ := ab_bind_s hf
      refine ab_Ex.call (d := d + 6) (M2 := 87) (as := [.ref 9, .int x0]) (rest := []) (fun n => rfl) rfl (Nat.not_lt.mpr (Nat.le_of_ble_eq_true rfl)) (sX6_open (d + 1) X x0 h _ hr24) (fun r hr => ?_)
      subst hr
      show ab_Ex X (d + 7) 81 35 [(2, .int r1), (0, .ref 9), (1, .int x0)] [.int r24.1] ab_SH (ab_dD r24.2) _
      refine ab_Ex.ifc (c := r24.1 = 0) (SA := (61, [(2, .int r1), (0, .ref 9), (1, .int x0)], [], ab_dD r24.2)) (SB := (38, [(2, .int r1), (0, .ref 9), (1, .int x0)], [], ab_dD r24.2)) (fun n => rfl) (fun c25 => ?_) (fun c25 => ?_)
      · replace hf := (if_pos c25).symm.trans hf
        refine ab_Ex.blk (k := 1) (pc' := 62) (lv' := []) (st' := [.int 0]) (sh' := ab_SH) (D' := ab_dD r24.2) (fun n => rfl) ?_
        obtain rfl := Option.some.inj hf
        exact ab_Ex.ret (fun n => rfl) rfl
      · replace hf := (if_neg c25).symm.trans hf
        refine ab_Ex.blk (k := 4) (pc' := 42) (lv' := [(2, .int r1), (0, .ref 9), (1, .int x0)]) (st' := [.int ((x0 + 1)), .ref 9]) (sh' := ab_SH) (D' := ab_dD r24.2) (fun n => rfl) ?_
        obtain ⟨r26, hr26, hf⟩ := ab_bind_s hf
        refine ab_Ex.call (d := d + 6) (M2 := 79) (as := [.ref 9, .int ((x0 + 1))]) (rest := []) (fun n => rfl) rfl (Nat.not_lt.mpr (Nat.le_of_ble_eq_true rfl)) (IH 0 ((x0 + 1)) r24.2 _ hr26) (fun r hr => ?_)
        subst hr
        show ab_Ex X (d + 7) 81 45 [(2, .int r1), (0, .ref 9), (1, .int x0)] [.int r26.1] ab_SH (ab_dD r26.2) _
        refine ab_Ex.ifc (c := r26.1 = 0) (SA := (61, [(2, .int r1), (0, .ref 9), (1, .int x0)], [], ab_dD r26.2)) (SB := (48, [(2, .int r1), (0, .ref 9), (1, .int x0)], [], ab_dD r26.2)) (fun n => rfl) (fun c27 => ?_) (fun c27 => ?_)
        · replace hf := (if_pos c27).symm.trans hf
          refine ab_Ex.blk (k := 1) (pc' := 62) (lv' := []) (st' := [.int 0]) (sh' := ab_SH) (D' := ab_dD r26.2) (fun n => rfl) ?_
          obtain rfl := Option.some.inj hf
          exact ab_Ex.ret (fun n => rfl) rfl
        · replace hf := (if_neg c27).symm.trans hf
          refine ab_Ex.blk (k := 2) (pc' := 51) (lv' := [(2, .int r1), (0, .ref 9), (1, .int x0)]) (st' := [.ref 1000014, .ref 9]) (sh' := ab_SH) (D' := ab_dD r26.2) (fun n => rfl) ?_
          obtain ⟨r28, hr28, hf⟩ := ab_bind_s hf
          refine ab_Ex.call (d := d + 6) (M2 := 89) (as := [.ref 9, .ref 1000014]) (rest := []) (fun n => rfl) rfl (Nat.not_lt.mpr (Nat.le_of_ble_eq_true rfl)) (sX6_take_1000014 (d + 1) X  r26.2 _ hr28) (fun r hr => ?_)
          subst hr
          show ab_Ex X (d + 7) 81 54 [(2, .int r1), (0, .ref 9), (1, .int x0)] [.int r28.1] ab_SH (ab_dD r28.2) _
          refine ab_Ex.ifc (c := r28.1 = 0) (SA := (61, [(2, .int r1), (0, .ref 9), (1, .int x0)], [], ab_dD r28.2)) (SB := (57, [(2, .int r1), (0, .ref 9), (1, .int x0)], [], ab_dD r28.2)) (fun n => rfl) (fun c29 => ?_) (fun c29 => ?_)
          · replace hf := (if_pos c29).symm.trans hf
            refine ab_Ex.blk (k := 1) (pc' := 62) (lv' := []) (st' := [.int 0]) (sh' := ab_SH) (D' := ab_dD r28.2) (fun n => rfl) ?_
            obtain rfl := Option.some.inj hf
            exact ab_Ex.ret (fun n => rfl) rfl
          · replace hf := (if_neg c29).symm.trans hf
            refine ab_Ex.blk (k := 2) (pc' := 62) (lv' := []) (st' := [.int 1]) (sh' := ab_SH) (D' := ab_dD r28.2) (fun n => rfl) ?_
            obtain rfl := Option.some.inj hf
            exact ab_Ex.ret (fun n => rfl) rfl
  · replace hf := (if_neg c2).symm.trans hf
    refine ab_Ex.blk (k := 1) (pc' := 12) (lv' := [(2, .int r1), (0, .ref 9), (1, .int x0)]) (st' := [.ref 9]) (sh' := ab_SH) (D' := ab_dD h) (fun n => rfl) ?_
    obtain ⟨r30, hr30, hf⟩ := ab_bind_s hf
    refine ab_Ex.call (d := d + 6) (M2 := 94) (as := [.ref 9]) (rest := []) (fun n => rfl) rfl (Nat.not_lt.mpr (Nat.le_of_ble_eq_true rfl)) (sX6_advance (d + 2) X  h _ hr30) (fun r hr => ?_)
    subst hr
    show ab_Ex X (d + 7) 81 15 [(2, .int r1), (0, .ref 9), (1, .int x0)] [] ab_SH (ab_dD r30) _
    refine ab_Ex.blk (k := 2) (pc' := 17) (lv' := [(2, .int r1), (0, .ref 9), (1, .int x0)]) (st' := [.int r1, .ref 9]) (sh' := ab_SH) (D' := ab_dD r30) (fun n => rfl) ?_
    obtain ⟨r31, hr31, hf⟩ := ab_bind_s hf
    refine ab_Ex.call (d := d + 6) (M2 := 88) (as := [.ref 9, .int r1]) (rest := []) (fun n => rfl) rfl (Nat.not_lt.mpr (Nat.le_of_ble_eq_true rfl)) (sX6_emit (d + 5) X r1 r30 _ hr31) (fun r hr => ?_)
    subst hr
    show ab_Ex X (d + 7) 81 20 [(2, .int r1), (0, .ref 9), (1, .int x0)] [.int r31.1] ab_SH (ab_dD r31.2) _
    obtain ⟨c9, hf⟩ := ab_ask_s hf
    obtain rfl := Option.some.inj hf
    exact ab_Ex.retc (fun n => rfl) (Decidable.not_not.mp c9) rfl
def fX6_readTruth_J54 (R : Nat → Int32 → abJ → Option (Int32 × abJ)) (k8 : Int32 → Int32 → Int32 → abJ → Option (Int32 × abJ)) (y1 : Int32) (y3 : Int32) (t0 : Int32) (h : abJ) : Option (Int32 × abJ) := k8 y1 t0 ((y3 + 1)) h
def fX6_readTruth_J53 (R : Nat → Int32 → abJ → Option (Int32 × abJ)) (k8 : Int32 → Int32 → Int32 → abJ → Option (Int32 × abJ)) (y1 : Int32) (y3 : Int32) (h : abJ) : Option (Int32 × abJ) := fX6_readTruth_J54 R k8 y1 y3 0 h
def fX6_readTruth_L8 (R : Nat → Int32 → abJ → Option (Int32 × abJ))  : Nat → Int32 → Int32 → Int32 → abJ → Option (Int32 × abJ)
  | 0, _, _, _, _ => none
  | n + 1, y1, y2, y3, h => if 900 ≤ y3 then ab_ask (¬ (y2 = 0 ∨ y2 = 1)) (some (y2, h)) else if y2 = 0 then ab_ask (¬ (y2 = 0 ∨ y2 = 1)) (some (y2, h)) else (fX6_is 1000023 h).bind (fun r4 => if r4 = 0 then ab_ask (¬ (y2 = 0 ∨ y2 = 1)) (some (y2, h)) else (fX6_advance h).bind (fun r6 => (R 4 y1 r6).bind (fun r7 => if r7.1 = 0 then fX6_readTruth_J53 R (fun y1 y2 y3 h => fX6_readTruth_L8 R n y1 y2 y3 h) y1 y3 r7.2 else (fX6_emit ((-12)) r7.2).bind (fun r9 => if r9.1 = 0 then fX6_readTruth_J53 R (fun y1 y2 y3 h => fX6_readTruth_L8 R n y1 y2 y3 h) y1 y3 r9.2 else fX6_readTruth_J54 R (fun y1 y2 y3 h => fX6_readTruth_L8 R n y1 y2 y3 h) y1 y3 1 r9.2))))
def bX6_readTruth (R : Nat → Int32 → abJ → Option (Int32 × abJ)) (x0 : Int32) (h : abJ) : Option (Int32 × abJ) := (R 4 x0 h).bind (fun r1 => fX6_readTruth_L8 R ab_N x0 r1.1 0 r1.2)
set_option maxRecDepth 20000 in
theorem sX6_readTruth_J54 (d : Nat) (X : abX) (R : Nat → Int32 → abJ → Option (Int32 × abJ)) (IH : ∀ (sel : Nat) (a0 : Int32) (h : abJ) (z : (Int32 × abJ)), R sel a0 h = some z → ab_Ex X (d + 6) (([79, 80, 81, 83, 84, 85, 86] : List Nat).getD sel 0) 0 [(0, .ref 9), (1, .int a0)] [] ab_SH (ab_dD h) (fun r => r = (some (.int z.1), ab_SH, ab_dD z.2))) (k8 : Int32 → Int32 → Int32 → abJ → Option (Int32 × abJ)) (hk8 : ∀ (y1 : Int32) (y2 : Int32) (y3 : Int32) (h : abJ) (z : (Int32 × abJ)), k8 y1 y2 y3 h = some z → ab_Ex X (d + 7) 83 8 [(0, .ref 9), (1, .int y1), (2, .int y2), (3, .int y3)] [] ab_SH (ab_dD h) (fun r => r = (some (.int z.1), ab_SH, ab_dD z.2))) : ∀ (y1 : Int32) (y3 : Int32) (t0 : Int32) (h : abJ) (z : (Int32 × abJ)), fX6_readTruth_J54 R k8 y1 y3 t0 h = some z → ab_Ex X (d + 7) 83 54 [(0, .ref 9), (1, .int y1), (3, .int y3)] [.int t0] ab_SH (ab_dD h) (fun r => r = (some (.int z.1), ab_SH, ab_dD z.2)) := by
  intro y1 y3 t0 h z hf
  unfold fX6_readTruth_J54 at hf
  refine ab_Ex.blk (k := 3) (pc' := 8) (lv' := [(0, .ref 9), (1, .int y1), (2, .int t0), (3, .int ((y3 + 1)))]) (st' := []) (sh' := ab_SH) (D' := ab_dD h) (fun n => rfl) ?_
  exact hk8 y1 t0 ((y3 + 1)) h _ hf
set_option maxRecDepth 20000 in
theorem sX6_readTruth_J53 (d : Nat) (X : abX) (R : Nat → Int32 → abJ → Option (Int32 × abJ)) (IH : ∀ (sel : Nat) (a0 : Int32) (h : abJ) (z : (Int32 × abJ)), R sel a0 h = some z → ab_Ex X (d + 6) (([79, 80, 81, 83, 84, 85, 86] : List Nat).getD sel 0) 0 [(0, .ref 9), (1, .int a0)] [] ab_SH (ab_dD h) (fun r => r = (some (.int z.1), ab_SH, ab_dD z.2))) (k8 : Int32 → Int32 → Int32 → abJ → Option (Int32 × abJ)) (hk8 : ∀ (y1 : Int32) (y2 : Int32) (y3 : Int32) (h : abJ) (z : (Int32 × abJ)), k8 y1 y2 y3 h = some z → ab_Ex X (d + 7) 83 8 [(0, .ref 9), (1, .int y1), (2, .int y2), (3, .int y3)] [] ab_SH (ab_dD h) (fun r => r = (some (.int z.1), ab_SH, ab_dD z.2))) : ∀ (y1 : Int32) (y3 : Int32) (h : abJ) (z : (Int32 × abJ)), fX6_readTruth_J53 R k8 y1 y3 h = some z → ab_Ex X (d + 7) 83 53 [(0, .ref 9), (1, .int y1), (3, .int y3)] [] ab_SH (ab_dD h) (fun r => r = (some (.int z.1), ab_SH, ab_dD z.2)) := by
  intro y1 y3 h z hf
  unfold fX6_readTruth_J53 at hf
  refine ab_Ex.blk (k := 1) (pc' := 54) (lv' := [(0, .ref 9), (1, .int y1), (3, .int y3)]) (st' := [.int 0]) (sh' := ab_SH) (D' := ab_dD h) (fun n => rfl) ?_
  exact sX6_readTruth_J54 d X R IH k8 hk8 y1 y3 0 h _ hf
set_option maxRecDepth 20000 in
theorem sX6_readTruth_L8 (d : Nat) (X : abX) (R : Nat → Int32 → abJ → Option (Int32 × abJ)) (IH : ∀ (sel : Nat) (a0 : Int32) (h : abJ) (z : (Int32 × abJ)), R sel a0 h = some z → ab_Ex X (d + 6) (([79, 80, 81, 83, 84, 85, 86] : List Nat).getD sel 0) 0 [(0, .ref 9), (1, .int a0)] [] ab_SH (ab_dD h) (fun r => r = (some (.int z.1), ab_SH, ab_dD z.2)))   : ∀ (n : Nat), ∀ (y1 : Int32) (y2 : Int32) (y3 : Int32) (h : abJ) (z : (Int32 × abJ)), fX6_readTruth_L8 R n y1 y2 y3 h = some z → ab_Ex X (d + 7) 83 8 [(0, .ref 9), (1, .int y1), (2, .int y2), (3, .int y3)] [] ab_SH (ab_dD h) (fun r => r = (some (.int z.1), ab_SH, ab_dD z.2)) := by
  intro n
  induction n with
  | zero => intro y1 y2 y3 h z hf; cases hf
  | succ n ih =>
    intro y1 y2 y3 h z hf
    rw [fX6_readTruth_L8] at hf
    refine ab_Ex.blk (k := 2) (pc' := 12) (lv' := [(0, .ref 9), (1, .int y1), (2, .int y2), (3, .int y3)]) (st' := [.int 900, .int y3]) (sh' := ab_SH) (D' := ab_dD h) (fun n => rfl) ?_
    refine ab_Ex.ifc (c := 900 ≤ y3) (SA := (61, [(0, .ref 9), (1, .int y1), (2, .int y2), (3, .int y3)], [], ab_dD h)) (SB := (15, [(0, .ref 9), (1, .int y1), (2, .int y2), (3, .int y3)], [], ab_dD h)) (fun n => rfl) (fun c2 => ?_) (fun c2 => ?_)
    · replace hf := (if_pos c2).symm.trans hf
      refine ab_Ex.blk (k := 1) (pc' := 62) (lv' := [(2, .int y2)]) (st' := [.int y2]) (sh' := ab_SH) (D' := ab_dD h) (fun n => rfl) ?_
      obtain ⟨c9, hf⟩ := ab_ask_s hf
      obtain rfl := Option.some.inj hf
      exact ab_Ex.retc (fun n => rfl) (Decidable.not_not.mp c9) rfl
    · replace hf := (if_neg c2).symm.trans hf
      refine ab_Ex.blk (k := 1) (pc' := 16) (lv' := [(0, .ref 9), (1, .int y1), (2, .int y2), (3, .int y3)]) (st' := [.int y2]) (sh' := ab_SH) (D' := ab_dD h) (fun n => rfl) ?_
      refine ab_Ex.ifc (c := y2 = 0) (SA := (61, [(0, .ref 9), (1, .int y1), (2, .int y2), (3, .int y3)], [], ab_dD h)) (SB := (19, [(0, .ref 9), (1, .int y1), (2, .int y2), (3, .int y3)], [], ab_dD h)) (fun n => rfl) (fun c3 => ?_) (fun c3 => ?_)
      · replace hf := (if_pos c3).symm.trans hf
        refine ab_Ex.blk (k := 1) (pc' := 62) (lv' := [(2, .int y2)]) (st' := [.int y2]) (sh' := ab_SH) (D' := ab_dD h) (fun n => rfl) ?_
        obtain ⟨c9, hf⟩ := ab_ask_s hf
        obtain rfl := Option.some.inj hf
        exact ab_Ex.retc (fun n => rfl) (Decidable.not_not.mp c9) rfl
      · replace hf := (if_neg c3).symm.trans hf
        refine ab_Ex.blk (k := 2) (pc' := 22) (lv' := [(0, .ref 9), (1, .int y1), (2, .int y2), (3, .int y3)]) (st' := [.ref 1000023, .ref 9]) (sh' := ab_SH) (D' := ab_dD h) (fun n => rfl) ?_
        obtain ⟨r4, hr4, hf⟩ := ab_bind_s hf
        refine ab_Ex.call (d := d + 6) (M2 := 93) (as := [.ref 9, .ref 1000023]) (rest := []) (fun n => rfl) rfl (Nat.not_lt.mpr (Nat.le_of_ble_eq_true rfl)) (sX6_is_1000023 (d + 2) X  h _ hr4) (fun r hr => ?_)
        subst hr
        show ab_Ex X (d + 7) 83 25 [(0, .ref 9), (1, .int y1), (2, .int y2), (3, .int y3)] [.int r4] ab_SH (ab_dD h) _
        refine ab_Ex.ifc (c := r4 = 0) (SA := (61, [(0, .ref 9), (1, .int y1), (2, .int y2), (3, .int y3)], [], ab_dD h)) (SB := (28, [(0, .ref 9), (1, .int y1), (2, .int y2), (3, .int y3)], [], ab_dD h)) (fun n => rfl) (fun c5 => ?_) (fun c5 => ?_)
        · replace hf := (if_pos c5).symm.trans hf
          refine ab_Ex.blk (k := 1) (pc' := 62) (lv' := [(2, .int y2)]) (st' := [.int y2]) (sh' := ab_SH) (D' := ab_dD h) (fun n => rfl) ?_
          obtain ⟨c9, hf⟩ := ab_ask_s hf
          obtain rfl := Option.some.inj hf
          exact ab_Ex.retc (fun n => rfl) (Decidable.not_not.mp c9) rfl
        · replace hf := (if_neg c5).symm.trans hf
          refine ab_Ex.blk (k := 1) (pc' := 29) (lv' := [(0, .ref 9), (1, .int y1), (2, .int y2), (3, .int y3)]) (st' := [.ref 9]) (sh' := ab_SH) (D' := ab_dD h) (fun n => rfl) ?_
          obtain ⟨r6, hr6, hf⟩ := ab_bind_s hf
          refine ab_Ex.call (d := d + 6) (M2 := 94) (as := [.ref 9]) (rest := []) (fun n => rfl) rfl (Nat.not_lt.mpr (Nat.le_of_ble_eq_true rfl)) (sX6_advance (d + 2) X  h _ hr6) (fun r hr => ?_)
          subst hr
          show ab_Ex X (d + 7) 83 32 [(0, .ref 9), (1, .int y1), (2, .int y2), (3, .int y3)] [] ab_SH (ab_dD r6) _
          refine ab_Ex.blk (k := 2) (pc' := 34) (lv' := [(0, .ref 9), (1, .int y1), (2, .int y2), (3, .int y3)]) (st' := [.int y1, .ref 9]) (sh' := ab_SH) (D' := ab_dD r6) (fun n => rfl) ?_
          obtain ⟨r7, hr7, hf⟩ := ab_bind_s hf
          refine ab_Ex.call (d := d + 6) (M2 := 84) (as := [.ref 9, .int y1]) (rest := []) (fun n => rfl) rfl (Nat.not_lt.mpr (Nat.le_of_ble_eq_true rfl)) (IH 4 y1 r6 _ hr7) (fun r hr => ?_)
          subst hr
          show ab_Ex X (d + 7) 83 37 [(0, .ref 9), (1, .int y1), (2, .int y2), (3, .int y3)] [.int r7.1] ab_SH (ab_dD r7.2) _
          refine ab_Ex.ifc (c := r7.1 = 0) (SA := (53, [(0, .ref 9), (1, .int y1), (2, .int y2), (3, .int y3)], [], ab_dD r7.2)) (SB := (40, [(0, .ref 9), (1, .int y1), (2, .int y2), (3, .int y3)], [], ab_dD r7.2)) (fun n => rfl) (fun c8 => ?_) (fun c8 => ?_)
          · replace hf := (if_pos c8).symm.trans hf
            exact sX6_readTruth_J53 d X R IH (fun y1 y2 y3 h => fX6_readTruth_L8 R n y1 y2 y3 h) (fun y1 y2 y3 h z hz => ih y1 y2 y3 h z hz) y1 y3 r7.2 _ hf
          · replace hf := (if_neg c8).symm.trans hf
            refine ab_Ex.blk (k := 2) (pc' := 43) (lv' := [(0, .ref 9), (1, .int y1), (2, .int y2), (3, .int y3)]) (st' := [.int ((-12)), .ref 9]) (sh' := ab_SH) (D' := ab_dD r7.2) (fun n => rfl) ?_
            obtain ⟨r9, hr9, hf⟩ := ab_bind_s hf
            refine ab_Ex.call (d := d + 6) (M2 := 88) (as := [.ref 9, .int ((-12))]) (rest := []) (fun n => rfl) rfl (Nat.not_lt.mpr (Nat.le_of_ble_eq_true rfl)) (sX6_emit (d + 5) X ((-12)) r7.2 _ hr9) (fun r hr => ?_)
            subst hr
            show ab_Ex X (d + 7) 83 46 [(0, .ref 9), (1, .int y1), (2, .int y2), (3, .int y3)] [.int r9.1] ab_SH (ab_dD r9.2) _
            refine ab_Ex.ifc (c := r9.1 = 0) (SA := (53, [(0, .ref 9), (1, .int y1), (2, .int y2), (3, .int y3)], [], ab_dD r9.2)) (SB := (49, [(0, .ref 9), (1, .int y1), (2, .int y2), (3, .int y3)], [], ab_dD r9.2)) (fun n => rfl) (fun c10 => ?_) (fun c10 => ?_)
            · replace hf := (if_pos c10).symm.trans hf
              exact sX6_readTruth_J53 d X R IH (fun y1 y2 y3 h => fX6_readTruth_L8 R n y1 y2 y3 h) (fun y1 y2 y3 h z hz => ih y1 y2 y3 h z hz) y1 y3 r9.2 _ hf
            · replace hf := (if_neg c10).symm.trans hf
              refine ab_Ex.blk (k := 2) (pc' := 54) (lv' := [(0, .ref 9), (1, .int y1), (3, .int y3)]) (st' := [.int 1]) (sh' := ab_SH) (D' := ab_dD r9.2) (fun n => rfl) ?_
              exact sX6_readTruth_J54 d X R IH (fun y1 y2 y3 h => fX6_readTruth_L8 R n y1 y2 y3 h) (fun y1 y2 y3 h z hz => ih y1 y2 y3 h z hz) y1 y3 1 r9.2 _ hf
set_option maxRecDepth 20000 in
theorem sX6_readTruth_b (d : Nat) (X : abX) (R : Nat → Int32 → abJ → Option (Int32 × abJ)) (IH : ∀ (sel : Nat) (a0 : Int32) (h : abJ) (z : (Int32 × abJ)), R sel a0 h = some z → ab_Ex X (d + 6) (([79, 80, 81, 83, 84, 85, 86] : List Nat).getD sel 0) 0 [(0, .ref 9), (1, .int a0)] [] ab_SH (ab_dD h) (fun r => r = (some (.int z.1), ab_SH, ab_dD z.2))) (x0 : Int32) (h : abJ) (z : (Int32 × abJ)) (hf : bX6_readTruth R x0 h = some z) : ab_Ex X (d + 7) 83 0 [(0, .ref 9), (1, .int x0)] [] ab_SH (ab_dD h) (fun r => r = (some (.int z.1), ab_SH, ab_dD z.2)) := by
  unfold bX6_readTruth at hf
  refine ab_Ex.blk (k := 2) (pc' := 2) (lv' := [(0, .ref 9), (1, .int x0)]) (st' := [.int x0, .ref 9]) (sh' := ab_SH) (D' := ab_dD h) (fun n => rfl) ?_
  obtain ⟨r1, hr1, hf⟩ := ab_bind_s hf
  refine ab_Ex.call (d := d + 6) (M2 := 84) (as := [.ref 9, .int x0]) (rest := []) (fun n => rfl) rfl (Nat.not_lt.mpr (Nat.le_of_ble_eq_true rfl)) (IH 4 x0 h _ hr1) (fun r hr => ?_)
  subst hr
  show ab_Ex X (d + 7) 83 5 [(0, .ref 9), (1, .int x0)] [.int r1.1] ab_SH (ab_dD r1.2) _
  refine ab_Ex.blk (k := 3) (pc' := 8) (lv' := [(0, .ref 9), (1, .int x0), (2, .int r1.1), (3, .int 0)]) (st' := []) (sh' := ab_SH) (D' := ab_dD r1.2) (fun n => rfl) ?_
  exact sX6_readTruth_L8 d X R IH  ab_N x0 r1.1 0 r1.2 _ hf
def fX6_readBoth_J54 (R : Nat → Int32 → abJ → Option (Int32 × abJ)) (k8 : Int32 → Int32 → Int32 → abJ → Option (Int32 × abJ)) (y1 : Int32) (y3 : Int32) (t0 : Int32) (h : abJ) : Option (Int32 × abJ) := k8 y1 t0 ((y3 + 1)) h
def fX6_readBoth_J53 (R : Nat → Int32 → abJ → Option (Int32 × abJ)) (k8 : Int32 → Int32 → Int32 → abJ → Option (Int32 × abJ)) (y1 : Int32) (y3 : Int32) (h : abJ) : Option (Int32 × abJ) := fX6_readBoth_J54 R k8 y1 y3 0 h
def fX6_readBoth_L8 (R : Nat → Int32 → abJ → Option (Int32 × abJ))  : Nat → Int32 → Int32 → Int32 → abJ → Option (Int32 × abJ)
  | 0, _, _, _, _ => none
  | n + 1, y1, y2, y3, h => if 900 ≤ y3 then ab_ask (¬ (y2 = 0 ∨ y2 = 1)) (some (y2, h)) else if y2 = 0 then ab_ask (¬ (y2 = 0 ∨ y2 = 1)) (some (y2, h)) else (fX6_is 1000022 h).bind (fun r4 => if r4 = 0 then ab_ask (¬ (y2 = 0 ∨ y2 = 1)) (some (y2, h)) else (fX6_advance h).bind (fun r6 => (R 5 y1 r6).bind (fun r7 => if r7.1 = 0 then fX6_readBoth_J53 R (fun y1 y2 y3 h => fX6_readBoth_L8 R n y1 y2 y3 h) y1 y3 r7.2 else (fX6_emit ((-11)) r7.2).bind (fun r9 => if r9.1 = 0 then fX6_readBoth_J53 R (fun y1 y2 y3 h => fX6_readBoth_L8 R n y1 y2 y3 h) y1 y3 r9.2 else fX6_readBoth_J54 R (fun y1 y2 y3 h => fX6_readBoth_L8 R n y1 y2 y3 h) y1 y3 1 r9.2))))
def bX6_readBoth (R : Nat → Int32 → abJ → Option (Int32 × abJ)) (x0 : Int32) (h : abJ) : Option (Int32 × abJ) := (R 5 x0 h).bind (fun r1 => fX6_readBoth_L8 R ab_N x0 r1.1 0 r1.2)
set_option maxRecDepth 20000 in
theorem sX6_readBoth_J54 (d : Nat) (X : abX) (R : Nat → Int32 → abJ → Option (Int32 × abJ)) (IH : ∀ (sel : Nat) (a0 : Int32) (h : abJ) (z : (Int32 × abJ)), R sel a0 h = some z → ab_Ex X (d + 6) (([79, 80, 81, 83, 84, 85, 86] : List Nat).getD sel 0) 0 [(0, .ref 9), (1, .int a0)] [] ab_SH (ab_dD h) (fun r => r = (some (.int z.1), ab_SH, ab_dD z.2))) (k8 : Int32 → Int32 → Int32 → abJ → Option (Int32 × abJ)) (hk8 : ∀ (y1 : Int32) (y2 : Int32) (y3 : Int32) (h : abJ) (z : (Int32 × abJ)), k8 y1 y2 y3 h = some z → ab_Ex X (d + 7) 84 8 [(0, .ref 9), (1, .int y1), (2, .int y2), (3, .int y3)] [] ab_SH (ab_dD h) (fun r => r = (some (.int z.1), ab_SH, ab_dD z.2))) : ∀ (y1 : Int32) (y3 : Int32) (t0 : Int32) (h : abJ) (z : (Int32 × abJ)), fX6_readBoth_J54 R k8 y1 y3 t0 h = some z → ab_Ex X (d + 7) 84 54 [(0, .ref 9), (1, .int y1), (3, .int y3)] [.int t0] ab_SH (ab_dD h) (fun r => r = (some (.int z.1), ab_SH, ab_dD z.2)) := by
  intro y1 y3 t0 h z hf
  unfold fX6_readBoth_J54 at hf
  refine ab_Ex.blk (k := 3) (pc' := 8) (lv' := [(0, .ref 9), (1, .int y1), (2, .int t0), (3, .int ((y3 + 1)))]) (st' := []) (sh' := ab_SH) (D' := ab_dD h) (fun n => rfl) ?_
  exact hk8 y1 t0 ((y3 + 1)) h _ hf
set_option maxRecDepth 20000 in
theorem sX6_readBoth_J53 (d : Nat) (X : abX) (R : Nat → Int32 → abJ → Option (Int32 × abJ)) (IH : ∀ (sel : Nat) (a0 : Int32) (h : abJ) (z : (Int32 × abJ)), R sel a0 h = some z → ab_Ex X (d + 6) (([79, 80, 81, 83, 84, 85, 86] : List Nat).getD sel 0) 0 [(0, .ref 9), (1, .int a0)] [] ab_SH (ab_dD h) (fun r => r = (some (.int z.1), ab_SH, ab_dD z.2))) (k8 : Int32 → Int32 → Int32 → abJ → Option (Int32 × abJ)) (hk8 : ∀ (y1 : Int32) (y2 : Int32) (y3 : Int32) (h : abJ) (z : (Int32 × abJ)), k8 y1 y2 y3 h = some z → ab_Ex X (d + 7) 84 8 [(0, .ref 9), (1, .int y1), (2, .int y2), (3, .int y3)] [] ab_SH (ab_dD h) (fun r => r = (some (.int z.1), ab_SH, ab_dD z.2))) : ∀ (y1 : Int32) (y3 : Int32) (h : abJ) (z : (Int32 × abJ)), fX6_readBoth_J53 R k8 y1 y3 h = some z → ab_Ex X (d + 7) 84 53 [(0, .ref 9), (1, .int y1), (3, .int y3)] [] ab_SH (ab_dD h) (fun r => r = (some (.int z.1), ab_SH, ab_dD z.2)) := by
  intro y1 y3 h z hf
  unfold fX6_readBoth_J53 at hf
  refine ab_Ex.blk (k := 1) (pc' := 54) (lv' := [(0, .ref 9), (1, .int y1), (3, .int y3)]) (st' := [.int 0]) (sh' := ab_SH) (D' := ab_dD h) (fun n => rfl) ?_
  exact sX6_readBoth_J54 d X R IH k8 hk8 y1 y3 0 h _ hf
set_option maxRecDepth 20000 in
theorem sX6_readBoth_L8 (d : Nat) (X : abX) (R : Nat → Int32 → abJ → Option (Int32 × abJ)) (IH : ∀ (sel : Nat) (a0 : Int32) (h : abJ) (z : (Int32 × abJ)), R sel a0 h = some z → ab_Ex X (d + 6) (([79, 80, 81, 83, 84, 85, 86] : List Nat).getD sel 0) 0 [(0, .ref 9), (1, .int a0)] [] ab_SH (ab_dD h) (fun r => r = (some (.int z.1), ab_SH, ab_dD z.2)))   : ∀ (n : Nat), ∀ (y1 : Int32) (y2 : Int32) (y3 : Int32) (h : abJ) (z : (Int32 × abJ)), fX6_readBoth_L8 R n y1 y2 y3 h = some z → ab_Ex X (d + 7) 84 8 [(0, .ref 9), (1, .int y1), (2, .int y2), (3, .int y3)] [] ab_SH (ab_dD h) (fun r => r = (some (.int z.1), ab_SH, ab_dD z.2)) := by
  intro n
  induction n with
  | zero => intro y1 y2 y3 h z hf; cases hf
  | succ n ih =>
    intro y1 y2 y3 h z hf
    rw [fX6_readBoth_L8] at hf
    refine ab_Ex.blk (k := 2) (pc' := 12) (lv' := [(0, .ref 9), (1, .int y1), (2, .int y2), (3, .int y3)]) (st' := [.int 900, .int y3]) (sh' := ab_SH) (D' := ab_dD h) (fun n => rfl) ?_
    refine ab_Ex.ifc (c := 900 ≤ y3) (SA := (61, [(0, .ref 9), (1, .int y1), (2, .int y2), (3, .int y3)], [], ab_dD h)) (SB := (15, [(0, .ref 9), (1, .int y1), (2, .int y2), (3, .int y3)], [], ab_dD h)) (fun n => rfl) (fun c2 => ?_) (fun c2 => ?_)
    · replace hf := (if_pos c2).symm.trans hf
      refine ab_Ex.blk (k := 1) (pc' := 62) (lv' := [(2, .int y2)]) (st' := [.int y2]) (sh' := ab_SH) (D' := ab_dD h) (fun n => rfl) ?_
      obtain ⟨c9, hf⟩ := ab_ask_s hf
      obtain rfl := Option.some.inj hf
      exact ab_Ex.retc (fun n => rfl) (Decidable.not_not.mp c9) rfl
    · replace hf := (if_neg c2).symm.trans hf
      refine ab_Ex.blk (k := 1) (pc' := 16) (lv' := [(0, .ref 9), (1, .int y1), (2, .int y2), (3, .int y3)]) (st' := [.int y2]) (sh' := ab_SH) (D' := ab_dD h) (fun n => rfl) ?_
      refine ab_Ex.ifc (c := y2 = 0) (SA := (61, [(0, .ref 9), (1, .int y1), (2, .int y2), (3, .int y3)], [], ab_dD h)) (SB := (19, [(0, .ref 9), (1, .int y1), (2, .int y2), (3, .int y3)], [], ab_dD h)) (fun n => rfl) (fun c3 => ?_) (fun c3 => ?_)
      · replace hf := (if_pos c3).symm.trans hf
        refine ab_Ex.blk (k := 1) (pc' := 62) (lv' := [(2, .int y2)]) (st' := [.int y2]) (sh' := ab_SH) (D' := ab_dD h) (fun n => rfl) ?_
        obtain ⟨c9, hf⟩ := ab_ask_s hf
        obtain rfl := Option.some.inj hf
        exact ab_Ex.retc (fun n => rfl) (Decidable.not_not.mp c9) rfl
      · replace hf := (if_neg c3).symm.trans hf
        refine ab_Ex.blk (k := 2) (pc' := 22) (lv' := [(0, .ref 9), (1, .int y1), (2, .int y2), (3, .int y3)]) (st' := [.ref 1000022, .ref 9]) (sh' := ab_SH) (D' := ab_dD h) (fun n => rfl) ?_
        obtain ⟨r4, hr4, hf⟩ := ab_bind_s hf
        refine ab_Ex.call (d := d + 6) (M2 := 93) (as := [.ref 9, .ref 1000022]) (rest := []) (fun n => rfl) rfl (Nat.not_lt.mpr (Nat.le_of_ble_eq_true rfl)) (sX6_is_1000022 (d + 2) X  h _ hr4) (fun r hr => ?_)
        subst hr
        show ab_Ex X (d + 7) 84 25 [(0, .ref 9), (1, .int y1), (2, .int y2), (3, .int y3)] [.int r4] ab_SH (ab_dD h) _
        refine ab_Ex.ifc (c := r4 = 0) (SA := (61, [(0, .ref 9), (1, .int y1), (2, .int y2), (3, .int y3)], [], ab_dD h)) (SB := (28, [(0, .ref 9), (1, .int y1), (2, .int y2), (3, .int y3)], [], ab_dD h)) (fun n => rfl) (fun c5 => ?_) (fun c5 => ?_)
        · replace hf := (if_pos c5).symm.trans hf
          refine ab_Ex.blk (k := 1) (pc' := 62) (lv' := [(2, .int y2)]) (st' := [.int y2]) (sh' := ab_SH) (D' := ab_dD h) (fun n => rfl) ?_
          obtain ⟨c9, hf⟩ := ab_ask_s hf
          obtain rfl := Option.some.inj hf
          exact ab_Ex.retc (fun n => rfl) (Decidable.not_not.mp c9) rfl
        · replace hf := (if_neg c5).symm.trans hf
          refine ab_Ex.blk (k := 1) (pc' := 29) (lv' := [(0, .ref 9), (1, .int y1), (2, .int y2), (3, .int y3)]) (st' := [.ref 9]) (sh' := ab_SH) (D' := ab_dD h) (fun n => rfl) ?_
          obtain ⟨r6, hr6, hf⟩ := ab_bind_s hf
          refine ab_Ex.call (d := d + 6) (M2 := 94) (as := [.ref 9]) (rest := []) (fun n => rfl) rfl (Nat.not_lt.mpr (Nat.le_of_ble_eq_true rfl)) (sX6_advance (d + 2) X  h _ hr6) (fun r hr => ?_)
          subst hr
          show ab_Ex X (d + 7) 84 32 [(0, .ref 9), (1, .int y1), (2, .int y2), (3, .int y3)] [] ab_SH (ab_dD r6) _
          refine ab_Ex.blk (k := 2) (pc' := 34) (lv' := [(0, .ref 9), (1, .int y1), (2, .int y2), (3, .int y3)]) (st' := [.int y1, .ref 9]) (sh' := ab_SH) (D' := ab_dD r6) (fun n => rfl) ?_
          obtain ⟨r7, hr7, hf⟩ := ab_bind_s hf
          refine ab_Ex.call (d := d + 6) (M2 := 85) (as := [.ref 9, .int y1]) (rest := []) (fun n => rfl) rfl (Nat.not_lt.mpr (Nat.le_of_ble_eq_true rfl)) (IH 5 y1 r6 _ hr7) (fun r hr => ?_)
          subst hr
          show ab_Ex X (d + 7) 84 37 [(0, .ref 9), (1, .int y1), (2, .int y2), (3, .int y3)] [.int r7.1] ab_SH (ab_dD r7.2) _
          refine ab_Ex.ifc (c := r7.1 = 0) (SA := (53, [(0, .ref 9), (1, .int y1), (2, .int y2), (3, .int y3)], [], ab_dD r7.2)) (SB := (40, [(0, .ref 9), (1, .int y1), (2, .int y2), (3, .int y3)], [], ab_dD r7.2)) (fun n => rfl) (fun c8 => ?_) (fun c8 => ?_)
          · replace hf := (if_pos c8).symm.trans hf
            exact sX6_readBoth_J53 d X R IH (fun y1 y2 y3 h => fX6_readBoth_L8 R n y1 y2 y3 h) (fun y1 y2 y3 h z hz => ih y1 y2 y3 h z hz) y1 y3 r7.2 _ hf
          · replace hf := (if_neg c8).symm.trans hf
            refine ab_Ex.blk (k := 2) (pc' := 43) (lv' := [(0, .ref 9), (1, .int y1), (2, .int y2), (3, .int y3)]) (st' := [.int ((-11)), .ref 9]) (sh' := ab_SH) (D' := ab_dD r7.2) (fun n => rfl) ?_
            obtain ⟨r9, hr9, hf⟩ := ab_bind_s hf
            refine ab_Ex.call (d := d + 6) (M2 := 88) (as := [.ref 9, .int ((-11))]) (rest := []) (fun n => rfl) rfl (Nat.not_lt.mpr (Nat.le_of_ble_eq_true rfl)) (sX6_emit (d + 5) X ((-11)) r7.2 _ hr9) (fun r hr => ?_)
            subst hr
            show ab_Ex X (d + 7) 84 46 [(0, .ref 9), (1, .int y1), (2, .int y2), (3, .int y3)] [.int r9.1] ab_SH (ab_dD r9.2) _
            refine ab_Ex.ifc (c := r9.1 = 0) (SA := (53, [(0, .ref 9), (1, .int y1), (2, .int y2), (3, .int y3)], [], ab_dD r9.2)) (SB := (49, [(0, .ref 9), (1, .int y1), (2, .int y2), (3, .int y3)], [], ab_dD r9.2)) (fun n => rfl) (fun c10 => ?_) (fun c10 => ?_)
            · replace hf := (if_pos c10).symm.trans hf
              exact sX6_readBoth_J53 d X R IH (fun y1 y2 y3 h => fX6_readBoth_L8 R n y1 y2 y3 h) (fun y1 y2 y3 h z hz => ih y1 y2 y3 h z hz) y1 y3 r9.2 _ hf
            · replace hf := (if_neg c10).symm.trans hf
              refine ab_Ex.blk (k := 2) (pc' := 54) (lv' := [(0, .ref 9), (1, .int y1), (3, .int y3)]) (st' := [.int 1]) (sh' := ab_SH) (D' := ab_dD r9.2) (fun n => rfl) ?_
              exact sX6_readBoth_J54 d X R IH (fun y1 y2 y3 h => fX6_readBoth_L8 R n y1 y2 y3 h) (fun y1 y2 y3 h z hz => ih y1 y2 y3 h z hz) y1 y3 1 r9.2 _ hf
set_option maxRecDepth 20000 in
theorem sX6_readBoth_b (d : Nat) (X : abX) (R : Nat → Int32 → abJ → Option (Int32 × abJ)) (IH : ∀ (sel : Nat) (a0 : Int32) (h : abJ) (z : (Int32 × abJ)), R sel a0 h = some z → ab_Ex X (d + 6) (([79, 80, 81, 83, 84, 85, 86] : List Nat).getD sel 0) 0 [(0, .ref 9), (1, .int a0)] [] ab_SH (ab_dD h) (fun r => r = (some (.int z.1), ab_SH, ab_dD z.2))) (x0 : Int32) (h : abJ) (z : (Int32 × abJ)) (hf : bX6_readBoth R x0 h = some z) : ab_Ex X (d + 7) 84 0 [(0, .ref 9), (1, .int x0)] [] ab_SH (ab_dD h) (fun r => r = (some (.int z.1), ab_SH, ab_dD z.2)) := by
  unfold bX6_readBoth at hf
  refine ab_Ex.blk (k := 2) (pc' := 2) (lv' := [(0, .ref 9), (1, .int x0)]) (st' := [.int x0, .ref 9]) (sh' := ab_SH) (D' := ab_dD h) (fun n => rfl) ?_
  obtain ⟨r1, hr1, hf⟩ := ab_bind_s hf
  refine ab_Ex.call (d := d + 6) (M2 := 85) (as := [.ref 9, .int x0]) (rest := []) (fun n => rfl) rfl (Nat.not_lt.mpr (Nat.le_of_ble_eq_true rfl)) (IH 5 x0 h _ hr1) (fun r hr => ?_)
  subst hr
  show ab_Ex X (d + 7) 84 5 [(0, .ref 9), (1, .int x0)] [.int r1.1] ab_SH (ab_dD r1.2) _
  refine ab_Ex.blk (k := 3) (pc' := 8) (lv' := [(0, .ref 9), (1, .int x0), (2, .int r1.1), (3, .int 0)]) (st' := []) (sh' := ab_SH) (D' := ab_dD r1.2) (fun n => rfl) ?_
  exact sX6_readBoth_L8 d X R IH  ab_N x0 r1.1 0 r1.2 _ hf
def bX6_readUnit (R : Nat → Int32 → abJ → Option (Int32 × abJ)) (x0 : Int32) (h : abJ) : Option (Int32 × abJ) := (fX6_is 1000016 h).bind (fun r1 => if r1 = 0 then (fX6_is 1000017 h).bind (fun r3 => if r3 = 0 then (R 0 x0 h).bind (fun r5 => if r5.1 = 0 then some (0, r5.2) else (R 6 x0 r5.2).bind (fun r7 => if r7.1 = 0 then some (0, r7.2) else some (1, r7.2))) else (fX6_open x0 h).bind (fun r9 => if r9.1 = 0 then some (0, r9.2) else (R 3 ((x0 + 1)) r9.2).bind (fun r11 => if r11.1 = 0 then some (0, r11.2) else (fX6_take 1000018 r11.2).bind (fun r13 => if r13.1 = 0 then some (0, r13.2) else some (1, r13.2))))) else (fX6_open x0 h).bind (fun r15 => if r15.1 = 0 then some (0, r15.2) else (R 5 ((x0 + 1)) r15.2).bind (fun r17 => if r17.1 = 0 then some (0, r17.2) else (fX6_emit ((-13)) r17.2).bind (fun r19 => if r19.1 = 0 then some (0, r19.2) else some (1, r19.2)))))
set_option maxRecDepth 20000 in
theorem sX6_readUnit_b (d : Nat) (X : abX) (R : Nat → Int32 → abJ → Option (Int32 × abJ)) (IH : ∀ (sel : Nat) (a0 : Int32) (h : abJ) (z : (Int32 × abJ)), R sel a0 h = some z → ab_Ex X (d + 6) (([79, 80, 81, 83, 84, 85, 86] : List Nat).getD sel 0) 0 [(0, .ref 9), (1, .int a0)] [] ab_SH (ab_dD h) (fun r => r = (some (.int z.1), ab_SH, ab_dD z.2))) (x0 : Int32) (h : abJ) (z : (Int32 × abJ)) (hf : bX6_readUnit R x0 h = some z) : ab_Ex X (d + 7) 85 0 [(0, .ref 9), (1, .int x0)] [] ab_SH (ab_dD h) (fun r => r = (some (.int z.1), ab_SH, ab_dD z.2)) := by
  unfold bX6_readUnit at hf
  refine ab_Ex.blk (k := 2) (pc' := 3) (lv' := [(0, .ref 9), (1, .int x0)]) (st' := [.ref 1000016, .ref 9]) (sh' := ab_SH) (D' := ab_dD h) (fun n => rfl) ?_
  obtain ⟨r1, hr1, hf⟩ := ab_bind_s hf
  refine ab_Ex.call (d := d + 6) (M2 := 93) (as := [.ref 9, .ref 1000016]) (rest := []) (fun n => rfl) rfl (Nat.not_lt.mpr (Nat.le_of_ble_eq_true rfl)) (sX6_is_1000016 (d + 2) X  h _ hr1) (fun r hr => ?_)
  subst hr
  show ab_Ex X (d + 7) 85 6 [(0, .ref 9), (1, .int x0)] [.int r1] ab_SH (ab_dD h) _
  refine ab_Ex.ifc (c := r1 = 0) (SA := (42, [(0, .ref 9), (1, .int x0)], [], ab_dD h)) (SB := (9, [(0, .ref 9), (1, .int x0)], [], ab_dD h)) (fun n => rfl) (fun c2 => ?_) (fun c2 => ?_)
  · replace hf := (if_pos c2).symm.trans hf
    refine ab_Ex.blk (k := 2) (pc' := 45) (lv' := [(0, .ref 9), (1, .int x0)]) (st' := [.ref 1000017, .ref 9]) (sh' := ab_SH) (D' := ab_dD h) (fun n => rfl) ?_
    obtain ⟨r3, hr3, hf⟩ := ab_bind_s hf
    refine ab_Ex.call (d := d + 6) (M2 := 93) (as := [.ref 9, .ref 1000017]) (rest := []) (fun n => rfl) rfl (Nat.not_lt.mpr (Nat.le_of_ble_eq_true rfl)) (sX6_is_1000017 (d + 2) X  h _ hr3) (fun r hr => ?_)
    subst hr
    show ab_Ex X (d + 7) 85 48 [(0, .ref 9), (1, .int x0)] [.int r3] ab_SH (ab_dD h) _
    refine ab_Ex.ifc (c := r3 = 0) (SA := (84, [(0, .ref 9), (1, .int x0)], [], ab_dD h)) (SB := (51, [(0, .ref 9), (1, .int x0)], [], ab_dD h)) (fun n => rfl) (fun c4 => ?_) (fun c4 => ?_)
    · replace hf := (if_pos c4).symm.trans hf
      refine ab_Ex.blk (k := 2) (pc' := 86) (lv' := [(0, .ref 9), (1, .int x0)]) (st' := [.int x0, .ref 9]) (sh' := ab_SH) (D' := ab_dD h) (fun n => rfl) ?_
      obtain ⟨r5, hr5, hf⟩ := ab_bind_s hf
      refine ab_Ex.call (d := d + 6) (M2 := 79) (as := [.ref 9, .int x0]) (rest := []) (fun n => rfl) rfl (Nat.not_lt.mpr (Nat.le_of_ble_eq_true rfl)) (IH 0 x0 h _ hr5) (fun r hr => ?_)
      subst hr
      show ab_Ex X (d + 7) 85 89 [(0, .ref 9), (1, .int x0)] [.int r5.1] ab_SH (ab_dD r5.2) _
      refine ab_Ex.ifc (c := r5.1 = 0) (SA := (104, [(0, .ref 9), (1, .int x0)], [], ab_dD r5.2)) (SB := (92, [(0, .ref 9), (1, .int x0)], [], ab_dD r5.2)) (fun n => rfl) (fun c6 => ?_) (fun c6 => ?_)
      · replace hf := (if_pos c6).symm.trans hf
        refine ab_Ex.blk (k := 1) (pc' := 105) (lv' := []) (st' := [.int 0]) (sh' := ab_SH) (D' := ab_dD r5.2) (fun n => rfl) ?_
        obtain rfl := Option.some.inj hf
        exact ab_Ex.ret (fun n => rfl) rfl
      · replace hf := (if_neg c6).symm.trans hf
        refine ab_Ex.blk (k := 2) (pc' := 94) (lv' := [(0, .ref 9), (1, .int x0)]) (st' := [.int x0, .ref 9]) (sh' := ab_SH) (D' := ab_dD r5.2) (fun n => rfl) ?_
        obtain ⟨r7, hr7, hf⟩ := ab_bind_s hf
        refine ab_Ex.call (d := d + 6) (M2 := 86) (as := [.ref 9, .int x0]) (rest := []) (fun n => rfl) rfl (Nat.not_lt.mpr (Nat.le_of_ble_eq_true rfl)) (IH 6 x0 r5.2 _ hr7) (fun r hr => ?_)
        subst hr
        show ab_Ex X (d + 7) 85 97 [(0, .ref 9), (1, .int x0)] [.int r7.1] ab_SH (ab_dD r7.2) _
        refine ab_Ex.ifc (c := r7.1 = 0) (SA := (104, [(0, .ref 9), (1, .int x0)], [], ab_dD r7.2)) (SB := (100, [(0, .ref 9), (1, .int x0)], [], ab_dD r7.2)) (fun n => rfl) (fun c8 => ?_) (fun c8 => ?_)
        · replace hf := (if_pos c8).symm.trans hf
          refine ab_Ex.blk (k := 1) (pc' := 105) (lv' := []) (st' := [.int 0]) (sh' := ab_SH) (D' := ab_dD r7.2) (fun n => rfl) ?_
          obtain rfl := Option.some.inj hf
          exact ab_Ex.ret (fun n => rfl) rfl
        · replace hf := (if_neg c8).symm.trans hf
          refine ab_Ex.blk (k := 2) (pc' := 105) (lv' := []) (st' := [.int 1]) (sh' := ab_SH) (D' := ab_dD r7.2) (fun n => rfl) ?_
          obtain rfl := Option.some.inj hf
          exact ab_Ex.ret (fun n => rfl) rfl
    · replace hf := (if_neg c4).symm.trans hf
      refine ab_Ex.blk (k := 2) (pc' := 53) (lv' := [(0, .ref 9), (1, .int x0)]) (st' := [.int x0, .ref 9]) (sh' := ab_SH) (D' := ab_dD h) (fun n => rfl) ?_
      obtain ⟨r9, hr9, hf⟩ := ab_bind_s hf
      refine ab_Ex.call (d := d + 6) (M2 := 87) (as := [.ref 9, .int x0]) (rest := []) (fun n => rfl) rfl (Nat.not_lt.mpr (Nat.le_of_ble_eq_true rfl)) (sX6_open (d + 1) X x0 h _ hr9) (fun r hr => ?_)
      subst hr
      show ab_Ex X (d + 7) 85 56 [(0, .ref 9), (1, .int x0)] [.int r9.1] ab_SH (ab_dD r9.2) _
      refine ab_Ex.ifc (c := r9.1 = 0) (SA := (82, [(0, .ref 9), (1, .int x0)], [], ab_dD r9.2)) (SB := (59, [(0, .ref 9), (1, .int x0)], [], ab_dD r9.2)) (fun n => rfl) (fun c10 => ?_) (fun c10 => ?_)
      · replace hf := (if_pos c10).symm.trans hf
        refine ab_Ex.blk (k := 1) (pc' := 83) (lv' := []) (st' := [.int 0]) (sh' := ab_SH) (D' := ab_dD r9.2) (fun n => rfl) ?_
        obtain rfl := Option.some.inj hf
        exact ab_Ex.ret (fun n => rfl) rfl
      · replace hf := (if_neg c10).symm.trans hf
        refine ab_Ex.blk (k := 4) (pc' := 63) (lv' := [(0, .ref 9), (1, .int x0)]) (st' := [.int ((x0 + 1)), .ref 9]) (sh' := ab_SH) (D' := ab_dD r9.2) (fun n => rfl) ?_
        obtain ⟨r11, hr11, hf⟩ := ab_bind_s hf
        refine ab_Ex.call (d := d + 6) (M2 := 83) (as := [.ref 9, .int ((x0 + 1))]) (rest := []) (fun n => rfl) rfl (Nat.not_lt.mpr (Nat.le_of_ble_eq_true rfl)) (IH 3 ((x0 + 1)) r9.2 _ hr11) (fun r hr => ?_)
        subst hr
        show ab_Ex X (d + 7) 85 66 [(0, .ref 9), (1, .int x0)] [.int r11.1] ab_SH (ab_dD r11.2) _
        refine ab_Ex.ifc (c := r11.1 = 0) (SA := (82, [(0, .ref 9), (1, .int x0)], [], ab_dD r11.2)) (SB := (69, [(0, .ref 9), (1, .int x0)], [], ab_dD r11.2)) (fun n => rfl) (fun c12 => ?_) (fun c12 => ?_)
        · replace hf := (if_pos c12).symm.trans hf
          refine ab_Ex.blk (k := 1) (pc' := 83) (lv' := []) (st' := [.int 0]) (sh' := ab_SH) (D' := ab_dD r11.2) (fun n => rfl) ?_
          obtain rfl := Option.some.inj hf
          exact ab_Ex.ret (fun n => rfl) rfl
        · replace hf := (if_neg c12).symm.trans hf
          refine ab_Ex.blk (k := 2) (pc' := 72) (lv' := [(0, .ref 9), (1, .int x0)]) (st' := [.ref 1000018, .ref 9]) (sh' := ab_SH) (D' := ab_dD r11.2) (fun n => rfl) ?_
          obtain ⟨r13, hr13, hf⟩ := ab_bind_s hf
          refine ab_Ex.call (d := d + 6) (M2 := 89) (as := [.ref 9, .ref 1000018]) (rest := []) (fun n => rfl) rfl (Nat.not_lt.mpr (Nat.le_of_ble_eq_true rfl)) (sX6_take_1000018 (d + 1) X  r11.2 _ hr13) (fun r hr => ?_)
          subst hr
          show ab_Ex X (d + 7) 85 75 [(0, .ref 9), (1, .int x0)] [.int r13.1] ab_SH (ab_dD r13.2) _
          refine ab_Ex.ifc (c := r13.1 = 0) (SA := (82, [(0, .ref 9), (1, .int x0)], [], ab_dD r13.2)) (SB := (78, [(0, .ref 9), (1, .int x0)], [], ab_dD r13.2)) (fun n => rfl) (fun c14 => ?_) (fun c14 => ?_)
          · replace hf := (if_pos c14).symm.trans hf
            refine ab_Ex.blk (k := 1) (pc' := 83) (lv' := []) (st' := [.int 0]) (sh' := ab_SH) (D' := ab_dD r13.2) (fun n => rfl) ?_
            obtain rfl := Option.some.inj hf
            exact ab_Ex.ret (fun n => rfl) rfl
          · replace hf := (if_neg c14).symm.trans hf
            refine ab_Ex.blk (k := 2) (pc' := 83) (lv' := []) (st' := [.int 1]) (sh' := ab_SH) (D' := ab_dD r13.2) (fun n => rfl) ?_
            obtain rfl := Option.some.inj hf
            exact ab_Ex.ret (fun n => rfl) rfl
  · replace hf := (if_neg c2).symm.trans hf
    refine ab_Ex.blk (k := 2) (pc' := 11) (lv' := [(0, .ref 9), (1, .int x0)]) (st' := [.int x0, .ref 9]) (sh' := ab_SH) (D' := ab_dD h) (fun n => rfl) ?_
    obtain ⟨r15, hr15, hf⟩ := ab_bind_s hf
    refine ab_Ex.call (d := d + 6) (M2 := 87) (as := [.ref 9, .int x0]) (rest := []) (fun n => rfl) rfl (Nat.not_lt.mpr (Nat.le_of_ble_eq_true rfl)) (sX6_open (d + 1) X x0 h _ hr15) (fun r hr => ?_)
    subst hr
    show ab_Ex X (d + 7) 85 14 [(0, .ref 9), (1, .int x0)] [.int r15.1] ab_SH (ab_dD r15.2) _
    refine ab_Ex.ifc (c := r15.1 = 0) (SA := (40, [(0, .ref 9), (1, .int x0)], [], ab_dD r15.2)) (SB := (17, [(0, .ref 9), (1, .int x0)], [], ab_dD r15.2)) (fun n => rfl) (fun c16 => ?_) (fun c16 => ?_)
    · replace hf := (if_pos c16).symm.trans hf
      refine ab_Ex.blk (k := 1) (pc' := 41) (lv' := []) (st' := [.int 0]) (sh' := ab_SH) (D' := ab_dD r15.2) (fun n => rfl) ?_
      obtain rfl := Option.some.inj hf
      exact ab_Ex.ret (fun n => rfl) rfl
    · replace hf := (if_neg c16).symm.trans hf
      refine ab_Ex.blk (k := 4) (pc' := 21) (lv' := [(0, .ref 9), (1, .int x0)]) (st' := [.int ((x0 + 1)), .ref 9]) (sh' := ab_SH) (D' := ab_dD r15.2) (fun n => rfl) ?_
      obtain ⟨r17, hr17, hf⟩ := ab_bind_s hf
      refine ab_Ex.call (d := d + 6) (M2 := 85) (as := [.ref 9, .int ((x0 + 1))]) (rest := []) (fun n => rfl) rfl (Nat.not_lt.mpr (Nat.le_of_ble_eq_true rfl)) (IH 5 ((x0 + 1)) r15.2 _ hr17) (fun r hr => ?_)
      subst hr
      show ab_Ex X (d + 7) 85 24 [(0, .ref 9), (1, .int x0)] [.int r17.1] ab_SH (ab_dD r17.2) _
      refine ab_Ex.ifc (c := r17.1 = 0) (SA := (40, [(0, .ref 9), (1, .int x0)], [], ab_dD r17.2)) (SB := (27, [(0, .ref 9), (1, .int x0)], [], ab_dD r17.2)) (fun n => rfl) (fun c18 => ?_) (fun c18 => ?_)
      · replace hf := (if_pos c18).symm.trans hf
        refine ab_Ex.blk (k := 1) (pc' := 41) (lv' := []) (st' := [.int 0]) (sh' := ab_SH) (D' := ab_dD r17.2) (fun n => rfl) ?_
        obtain rfl := Option.some.inj hf
        exact ab_Ex.ret (fun n => rfl) rfl
      · replace hf := (if_neg c18).symm.trans hf
        refine ab_Ex.blk (k := 2) (pc' := 30) (lv' := [(0, .ref 9), (1, .int x0)]) (st' := [.int ((-13)), .ref 9]) (sh' := ab_SH) (D' := ab_dD r17.2) (fun n => rfl) ?_
        obtain ⟨r19, hr19, hf⟩ := ab_bind_s hf
        refine ab_Ex.call (d := d + 6) (M2 := 88) (as := [.ref 9, .int ((-13))]) (rest := []) (fun n => rfl) rfl (Nat.not_lt.mpr (Nat.le_of_ble_eq_true rfl)) (sX6_emit (d + 5) X ((-13)) r17.2 _ hr19) (fun r hr => ?_)
        subst hr
        show ab_Ex X (d + 7) 85 33 [(0, .ref 9), (1, .int x0)] [.int r19.1] ab_SH (ab_dD r19.2) _
        refine ab_Ex.ifc (c := r19.1 = 0) (SA := (40, [(0, .ref 9), (1, .int x0)], [], ab_dD r19.2)) (SB := (36, [(0, .ref 9), (1, .int x0)], [], ab_dD r19.2)) (fun n => rfl) (fun c20 => ?_) (fun c20 => ?_)
        · replace hf := (if_pos c20).symm.trans hf
          refine ab_Ex.blk (k := 1) (pc' := 41) (lv' := []) (st' := [.int 0]) (sh' := ab_SH) (D' := ab_dD r19.2) (fun n => rfl) ?_
          obtain rfl := Option.some.inj hf
          exact ab_Ex.ret (fun n => rfl) rfl
        · replace hf := (if_neg c20).symm.trans hf
          refine ab_Ex.blk (k := 2) (pc' := 41) (lv' := []) (st' := [.int 1]) (sh' := ab_SH) (D' := ab_dD r19.2) (fun n => rfl) ?_
          obtain rfl := Option.some.inj hf
          exact ab_Ex.ret (fun n => rfl) rfl
def fX6_readComparison_J30 (R : Nat → Int32 → abJ → Option (Int32 × abJ))  (y1 : Int32) (t0 : Int32) (h : abJ) : Option (Int32 × abJ) := if t0 = (-10) then (fX6_is 1000021 h).bind (fun r6 => if r6 = 0 then (fX6_wrong 2 h).bind (fun r8 => ab_ask (¬ (r8.1 = 0 ∨ r8.1 = 1)) (some (r8.1, r8.2))) else (fX6_advance h).bind (fun r9 => (R 0 y1 r9).bind (fun r10 => if r10.1 = 0 then some (0, r10.2) else (fX6_emit t0 r10.2).bind (fun r12 => if r12.1 = 0 then some (0, r12.2) else some (1, r12.2))))) else (fX6_advance h).bind (fun r14 => (R 0 y1 r14).bind (fun r15 => if r15.1 = 0 then some (0, r15.2) else (fX6_emit t0 r15.2).bind (fun r17 => if r17.1 = 0 then some (0, r17.2) else some (1, r17.2))))
def bX6_readComparison (R : Nat → Int32 → abJ → Option (Int32 × abJ)) (x0 : Int32) (h : abJ) : Option (Int32 × abJ) := (fX6_is 1000019 h).bind (fun r1 => if r1 = 0 then (fX6_is 1000020 h).bind (fun r3 => if r3 = 0 then fX6_readComparison_J30 R x0 ((-10)) h else fX6_readComparison_J30 R x0 ((-9)) h) else fX6_readComparison_J30 R x0 ((-8)) h)
set_option maxRecDepth 20000 in
theorem sX6_readComparison_J30 (d : Nat) (X : abX) (R : Nat → Int32 → abJ → Option (Int32 × abJ)) (IH : ∀ (sel : Nat) (a0 : Int32) (h : abJ) (z : (Int32 × abJ)), R sel a0 h = some z → ab_Ex X (d + 6) (([79, 80, 81, 83, 84, 85, 86] : List Nat).getD sel 0) 0 [(0, .ref 9), (1, .int a0)] [] ab_SH (ab_dD h) (fun r => r = (some (.int z.1), ab_SH, ab_dD z.2)))   : ∀ (y1 : Int32) (t0 : Int32) (h : abJ) (z : (Int32 × abJ)), fX6_readComparison_J30 R y1 t0 h = some z → ab_Ex X (d + 7) 86 30 [(0, .ref 9), (1, .int y1)] [.int t0] ab_SH (ab_dD h) (fun r => r = (some (.int z.1), ab_SH, ab_dD z.2)) := by
  intro y1 t0 h z hf
  unfold fX6_readComparison_J30 at hf
  refine ab_Ex.blk (k := 3) (pc' := 34) (lv' := [(2, .int t0), (0, .ref 9), (1, .int y1)]) (st' := [.int ((-10)), .int t0]) (sh' := ab_SH) (D' := ab_dD h) (fun n => rfl) ?_
  refine ab_Ex.ifc (c := t0 = (-10)) (SA := (37, [(2, .int t0), (0, .ref 9), (1, .int y1)], [], ab_dD h)) (SB := (52, [(2, .int t0), (0, .ref 9), (1, .int y1)], [], ab_dD h)) (fun n => rfl) (fun c5 => ?_) (fun c5 => ?_)
  · replace hf := (if_pos c5).symm.trans hf
    refine ab_Ex.blk (k := 2) (pc' := 40) (lv' := [(2, .int t0), (0, .ref 9), (1, .int y1)]) (st' := [.ref 1000021, .ref 9]) (sh' := ab_SH) (D' := ab_dD h) (fun n => rfl) ?_
    obtain ⟨r6, hr6, hf⟩ := ab_bind_s hf
    refine ab_Ex.call (d := d + 6) (M2 := 93) (as := [.ref 9, .ref 1000021]) (rest := []) (fun n => rfl) rfl (Nat.not_lt.mpr (Nat.le_of_ble_eq_true rfl)) (sX6_is_1000021 (d + 2) X  h _ hr6) (fun r hr => ?_)
    subst hr
    show ab_Ex X (d + 7) 86 43 [(2, .int t0), (0, .ref 9), (1, .int y1)] [.int r6] ab_SH (ab_dD h) _
    refine ab_Ex.ifc (c := r6 = 0) (SA := (46, [(2, .int t0), (0, .ref 9), (1, .int y1)], [], ab_dD h)) (SB := (52, [(2, .int t0), (0, .ref 9), (1, .int y1)], [], ab_dD h)) (fun n => rfl) (fun c7 => ?_) (fun c7 => ?_)
    · replace hf := (if_pos c7).symm.trans hf
      refine ab_Ex.blk (k := 2) (pc' := 48) (lv' := [(2, .int t0), (0, .ref 9), (1, .int y1)]) (st' := [.int 2, .ref 9]) (sh' := ab_SH) (D' := ab_dD h) (fun n => rfl) ?_
      obtain ⟨r8, hr8, hf⟩ := ab_bind_s hf
      refine ab_Ex.call (d := d + 6) (M2 := 92) (as := [.ref 9, .int 2]) (rest := []) (fun n => rfl) rfl (Nat.not_lt.mpr (Nat.le_of_ble_eq_true rfl)) (sX6_wrong (d + 6) X 2 h _ hr8) (fun r hr => ?_)
      subst hr
      show ab_Ex X (d + 7) 86 51 [(2, .int t0), (0, .ref 9), (1, .int y1)] [.int r8.1] ab_SH (ab_dD r8.2) _
      obtain ⟨c9, hf⟩ := ab_ask_s hf
      obtain rfl := Option.some.inj hf
      exact ab_Ex.retc (fun n => rfl) (Decidable.not_not.mp c9) rfl
    · replace hf := (if_neg c7).symm.trans hf
      refine ab_Ex.blk (k := 1) (pc' := 53) (lv' := [(0, .ref 9), (1, .int y1), (2, .int t0)]) (st' := [.ref 9]) (sh' := ab_SH) (D' := ab_dD h) (fun n => rfl) ?_
      obtain ⟨r9, hr9, hf⟩ := ab_bind_s hf
      refine ab_Ex.call (d := d + 6) (M2 := 94) (as := [.ref 9]) (rest := []) (fun n => rfl) rfl (Nat.not_lt.mpr (Nat.le_of_ble_eq_true rfl)) (sX6_advance (d + 2) X  h _ hr9) (fun r hr => ?_)
      subst hr
      show ab_Ex X (d + 7) 86 56 [(0, .ref 9), (1, .int y1), (2, .int t0)] [] ab_SH (ab_dD r9) _
      refine ab_Ex.blk (k := 2) (pc' := 58) (lv' := [(0, .ref 9), (1, .int y1), (2, .int t0)]) (st' := [.int y1, .ref 9]) (sh' := ab_SH) (D' := ab_dD r9) (fun n => rfl) ?_
      obtain ⟨r10, hr10, hf⟩ := ab_bind_s hf
      refine ab_Ex.call (d := d + 6) (M2 := 79) (as := [.ref 9, .int y1]) (rest := []) (fun n => rfl) rfl (Nat.not_lt.mpr (Nat.le_of_ble_eq_true rfl)) (IH 0 y1 r9 _ hr10) (fun r hr => ?_)
      subst hr
      show ab_Ex X (d + 7) 86 61 [(0, .ref 9), (1, .int y1), (2, .int t0)] [.int r10.1] ab_SH (ab_dD r10.2) _
      refine ab_Ex.ifc (c := r10.1 = 0) (SA := (76, [(0, .ref 9), (1, .int y1), (2, .int t0)], [], ab_dD r10.2)) (SB := (64, [(0, .ref 9), (1, .int y1), (2, .int t0)], [], ab_dD r10.2)) (fun n => rfl) (fun c11 => ?_) (fun c11 => ?_)
      · replace hf := (if_pos c11).symm.trans hf
        refine ab_Ex.blk (k := 1) (pc' := 77) (lv' := []) (st' := [.int 0]) (sh' := ab_SH) (D' := ab_dD r10.2) (fun n => rfl) ?_
        obtain rfl := Option.some.inj hf
        exact ab_Ex.ret (fun n => rfl) rfl
      · replace hf := (if_neg c11).symm.trans hf
        refine ab_Ex.blk (k := 2) (pc' := 66) (lv' := [(0, .ref 9), (1, .int y1), (2, .int t0)]) (st' := [.int t0, .ref 9]) (sh' := ab_SH) (D' := ab_dD r10.2) (fun n => rfl) ?_
        obtain ⟨r12, hr12, hf⟩ := ab_bind_s hf
        refine ab_Ex.call (d := d + 6) (M2 := 88) (as := [.ref 9, .int t0]) (rest := []) (fun n => rfl) rfl (Nat.not_lt.mpr (Nat.le_of_ble_eq_true rfl)) (sX6_emit (d + 5) X t0 r10.2 _ hr12) (fun r hr => ?_)
        subst hr
        show ab_Ex X (d + 7) 86 69 [(0, .ref 9), (1, .int y1), (2, .int t0)] [.int r12.1] ab_SH (ab_dD r12.2) _
        refine ab_Ex.ifc (c := r12.1 = 0) (SA := (76, [(0, .ref 9), (1, .int y1), (2, .int t0)], [], ab_dD r12.2)) (SB := (72, [(0, .ref 9), (1, .int y1), (2, .int t0)], [], ab_dD r12.2)) (fun n => rfl) (fun c13 => ?_) (fun c13 => ?_)
        · replace hf := (if_pos c13).symm.trans hf
          refine ab_Ex.blk (k := 1) (pc' := 77) (lv' := []) (st' := [.int 0]) (sh' := ab_SH) (D' := ab_dD r12.2) (fun n => rfl) ?_
          obtain rfl := Option.some.inj hf
          exact ab_Ex.ret (fun n => rfl) rfl
        · replace hf := (if_neg c13).symm.trans hf
          refine ab_Ex.blk (k := 2) (pc' := 77) (lv' := []) (st' := [.int 1]) (sh' := ab_SH) (D' := ab_dD r12.2) (fun n => rfl) ?_
          obtain rfl := Option.some.inj hf
          exact ab_Ex.ret (fun n => rfl) rfl
  · replace hf := (if_neg c5).symm.trans hf
    refine ab_Ex.blk (k := 1) (pc' := 53) (lv' := [(0, .ref 9), (1, .int y1), (2, .int t0)]) (st' := [.ref 9]) (sh' := ab_SH) (D' := ab_dD h) (fun n => rfl) ?_
    obtain ⟨r14, hr14, hf⟩ := ab_bind_s hf
    refine ab_Ex.call (d := d + 6) (M2 := 94) (as := [.ref 9]) (rest := []) (fun n => rfl) rfl (Nat.not_lt.mpr (Nat.le_of_ble_eq_true rfl)) (sX6_advance (d + 2) X  h _ hr14) (fun r hr => ?_)
    subst hr
    show ab_Ex X (d + 7) 86 56 [(0, .ref 9), (1, .int y1), (2, .int t0)] [] ab_SH (ab_dD r14) _
    refine ab_Ex.blk (k := 2) (pc' := 58) (lv' := [(0, .ref 9), (1, .int y1), (2, .int t0)]) (st' := [.int y1, .ref 9]) (sh' := ab_SH) (D' := ab_dD r14) (fun n => rfl) ?_
    obtain ⟨r15, hr15, hf⟩ := ab_bind_s hf
    refine ab_Ex.call (d := d + 6) (M2 := 79) (as := [.ref 9, .int y1]) (rest := []) (fun n => rfl) rfl (Nat.not_lt.mpr (Nat.le_of_ble_eq_true rfl)) (IH 0 y1 r14 _ hr15) (fun r hr => ?_)
    subst hr
    show ab_Ex X (d + 7) 86 61 [(0, .ref 9), (1, .int y1), (2, .int t0)] [.int r15.1] ab_SH (ab_dD r15.2) _
    refine ab_Ex.ifc (c := r15.1 = 0) (SA := (76, [(0, .ref 9), (1, .int y1), (2, .int t0)], [], ab_dD r15.2)) (SB := (64, [(0, .ref 9), (1, .int y1), (2, .int t0)], [], ab_dD r15.2)) (fun n => rfl) (fun c16 => ?_) (fun c16 => ?_)
    · replace hf := (if_pos c16).symm.trans hf
      refine ab_Ex.blk (k := 1) (pc' := 77) (lv' := []) (st' := [.int 0]) (sh' := ab_SH) (D' := ab_dD r15.2) (fun n => rfl) ?_
      obtain rfl := Option.some.inj hf
      exact ab_Ex.ret (fun n => rfl) rfl
    · replace hf := (if_neg c16).symm.trans hf
      refine ab_Ex.blk (k := 2) (pc' := 66) (lv' := [(0, .ref 9), (1, .int y1), (2, .int t0)]) (st' := [.int t0, .ref 9]) (sh' := ab_SH) (D' := ab_dD r15.2) (fun n => rfl) ?_
      obtain ⟨r17, hr17, hf⟩ := ab_bind_s hf
      refine ab_Ex.call (d := d + 6) (M2 := 88) (as := [.ref 9, .int t0]) (rest := []) (fun n => rfl) rfl (Nat.not_lt.mpr (Nat.le_of_ble_eq_true rfl)) (sX6_emit (d + 5) X t0 r15.2 _ hr17) (fun r hr => ?_)
      subst hr
      show ab_Ex X (d + 7) 86 69 [(0, .ref 9), (1, .int y1), (2, .int t0)] [.int r17.1] ab_SH (ab_dD r17.2) _
      refine ab_Ex.ifc (c := r17.1 = 0) (SA := (76, [(0, .ref 9), (1, .int y1), (2, .int t0)], [], ab_dD r17.2)) (SB := (72, [(0, .ref 9), (1, .int y1), (2, .int t0)], [], ab_dD r17.2)) (fun n => rfl) (fun c18 => ?_) (fun c18 => ?_)
      · replace hf := (if_pos c18).symm.trans hf
        refine ab_Ex.blk (k := 1) (pc' := 77) (lv' := []) (st' := [.int 0]) (sh' := ab_SH) (D' := ab_dD r17.2) (fun n => rfl) ?_
        obtain rfl := Option.some.inj hf
        exact ab_Ex.ret (fun n => rfl) rfl
      · replace hf := (if_neg c18).symm.trans hf
        refine ab_Ex.blk (k := 2) (pc' := 77) (lv' := []) (st' := [.int 1]) (sh' := ab_SH) (D' := ab_dD r17.2) (fun n => rfl) ?_
        obtain rfl := Option.some.inj hf
        exact ab_Ex.ret (fun n => rfl) rfl
set_option maxRecDepth 20000 in
theorem sX6_readComparison_b (d : Nat) (X : abX) (R : Nat → Int32 → abJ → Option (Int32 × abJ)) (IH : ∀ (sel : Nat) (a0 : Int32) (h : abJ) (z : (Int32 × abJ)), R sel a0 h = some z → ab_Ex X (d + 6) (([79, 80, 81, 83, 84, 85, 86] : List Nat).getD sel 0) 0 [(0, .ref 9), (1, .int a0)] [] ab_SH (ab_dD h) (fun r => r = (some (.int z.1), ab_SH, ab_dD z.2))) (x0 : Int32) (h : abJ) (z : (Int32 × abJ)) (hf : bX6_readComparison R x0 h = some z) : ab_Ex X (d + 7) 86 0 [(0, .ref 9), (1, .int x0)] [] ab_SH (ab_dD h) (fun r => r = (some (.int z.1), ab_SH, ab_dD z.2)) := by
  unfold bX6_readComparison at hf
  refine ab_Ex.blk (k := 2) (pc' := 3) (lv' := [(0, .ref 9), (1, .int x0)]) (st' := [.ref 1000019, .ref 9]) (sh' := ab_SH) (D' := ab_dD h) (fun n => rfl) ?_
  obtain ⟨r1, hr1, hf⟩ := ab_bind_s hf
  refine ab_Ex.call (d := d + 6) (M2 := 93) (as := [.ref 9, .ref 1000019]) (rest := []) (fun n => rfl) rfl (Nat.not_lt.mpr (Nat.le_of_ble_eq_true rfl)) (sX6_is_1000019 (d + 2) X  h _ hr1) (fun r hr => ?_)
  subst hr
  show ab_Ex X (d + 7) 86 6 [(0, .ref 9), (1, .int x0)] [.int r1] ab_SH (ab_dD h) _
  refine ab_Ex.ifc (c := r1 = 0) (SA := (14, [(0, .ref 9), (1, .int x0)], [], ab_dD h)) (SB := (9, [(0, .ref 9), (1, .int x0)], [], ab_dD h)) (fun n => rfl) (fun c2 => ?_) (fun c2 => ?_)
  · replace hf := (if_pos c2).symm.trans hf
    refine ab_Ex.blk (k := 2) (pc' := 17) (lv' := [(0, .ref 9), (1, .int x0)]) (st' := [.ref 1000020, .ref 9]) (sh' := ab_SH) (D' := ab_dD h) (fun n => rfl) ?_
    obtain ⟨r3, hr3, hf⟩ := ab_bind_s hf
    refine ab_Ex.call (d := d + 6) (M2 := 93) (as := [.ref 9, .ref 1000020]) (rest := []) (fun n => rfl) rfl (Nat.not_lt.mpr (Nat.le_of_ble_eq_true rfl)) (sX6_is_1000020 (d + 2) X  h _ hr3) (fun r hr => ?_)
    subst hr
    show ab_Ex X (d + 7) 86 20 [(0, .ref 9), (1, .int x0)] [.int r3] ab_SH (ab_dD h) _
    refine ab_Ex.ifc (c := r3 = 0) (SA := (28, [(0, .ref 9), (1, .int x0)], [], ab_dD h)) (SB := (23, [(0, .ref 9), (1, .int x0)], [], ab_dD h)) (fun n => rfl) (fun c4 => ?_) (fun c4 => ?_)
    · replace hf := (if_pos c4).symm.trans hf
      refine ab_Ex.blk (k := 1) (pc' := 30) (lv' := [(0, .ref 9), (1, .int x0)]) (st' := [.int ((-10))]) (sh' := ab_SH) (D' := ab_dD h) (fun n => rfl) ?_
      exact sX6_readComparison_J30 d X R IH  x0 ((-10)) h _ hf
    · replace hf := (if_neg c4).symm.trans hf
      refine ab_Ex.blk (k := 2) (pc' := 30) (lv' := [(0, .ref 9), (1, .int x0)]) (st' := [.int ((-9))]) (sh' := ab_SH) (D' := ab_dD h) (fun n => rfl) ?_
      exact sX6_readComparison_J30 d X R IH  x0 ((-9)) h _ hf
  · replace hf := (if_neg c2).symm.trans hf
    refine ab_Ex.blk (k := 2) (pc' := 30) (lv' := [(0, .ref 9), (1, .int x0)]) (st' := [.int ((-8))]) (sh' := ab_SH) (D' := ab_dD h) (fun n => rfl) ?_
    exact sX6_readComparison_J30 d X R IH  x0 ((-8)) h _ hf
def fPX6 : Nat → Nat → Int32 → abJ → Option (Int32 × abJ)
  | 0, _, _, _ => none
  | n + 1, sel, a0, h => match sel with
    | 0 => bX6_readSum (fPX6 n) a0 h
    | 1 => bX6_readTerm (fPX6 n) a0 h
    | 2 => bX6_readAtom (fPX6 n) a0 h
    | 3 => bX6_readTruth (fPX6 n) a0 h
    | 4 => bX6_readBoth (fPX6 n) a0 h
    | 5 => bX6_readUnit (fPX6 n) a0 h
    | 6 => bX6_readComparison (fPX6 n) a0 h
    | _ => none
set_option maxRecDepth 20000 in
theorem sPX6 (d : Nat) (X : abX) : ∀ (n sel : Nat) (a0 : Int32) (h : abJ) (z : (Int32 × abJ)), fPX6 n sel a0 h = some z → ab_Ex X (d + n + 6) (([79, 80, 81, 83, 84, 85, 86] : List Nat).getD sel 0) 0 [(0, .ref 9), (1, .int a0)] [] ab_SH (ab_dD h) (fun r => r = (some (.int z.1), ab_SH, ab_dD z.2)) := by
  intro n
  induction n with
  | zero => intro sel a0 h z hf; cases hf
  | succ n ih =>
    intro sel a0 h z hf
    match sel, hf with
    | 0, hf => exact sX6_readSum_b (d + n) X (fPX6 n) ih a0 h z hf
    | 1, hf => exact sX6_readTerm_b (d + n) X (fPX6 n) ih a0 h z hf
    | 2, hf => exact sX6_readAtom_b (d + n) X (fPX6 n) ih a0 h z hf
    | 3, hf => exact sX6_readTruth_b (d + n) X (fPX6 n) ih a0 h z hf
    | 4, hf => exact sX6_readBoth_b (d + n) X (fPX6 n) ih a0 h z hf
    | 5, hf => exact sX6_readUnit_b (d + n) X (fPX6 n) ih a0 h z hf
    | 6, hf => exact sX6_readComparison_b (d + n) X (fPX6 n) ih a0 h z hf
    | s + 7, hf => cases hf
def fX6_readSum (a0 : Int32) (h : abJ) : Option (Int32 × abJ) := fPX6 100 0 a0 h
set_option maxRecDepth 20000 in
theorem sX6_readSum (d : Nat) (X : abX) (a0 : Int32) (h : abJ) (z : (Int32 × abJ)) (hf : fX6_readSum a0 h = some z) : ab_Ex X (d + 106) 79 0 [(0, .ref 9), (1, .int a0)] [] ab_SH (ab_dD h) (fun r => r = (some (.int z.1), ab_SH, ab_dD z.2)) := sPX6 d X 100 0 a0 h z hf
def fX6_readTerm (a0 : Int32) (h : abJ) : Option (Int32 × abJ) := fPX6 100 1 a0 h
set_option maxRecDepth 20000 in
theorem sX6_readTerm (d : Nat) (X : abX) (a0 : Int32) (h : abJ) (z : (Int32 × abJ)) (hf : fX6_readTerm a0 h = some z) : ab_Ex X (d + 106) 80 0 [(0, .ref 9), (1, .int a0)] [] ab_SH (ab_dD h) (fun r => r = (some (.int z.1), ab_SH, ab_dD z.2)) := sPX6 d X 100 1 a0 h z hf
def fX6_readAtom (a0 : Int32) (h : abJ) : Option (Int32 × abJ) := fPX6 100 2 a0 h
set_option maxRecDepth 20000 in
theorem sX6_readAtom (d : Nat) (X : abX) (a0 : Int32) (h : abJ) (z : (Int32 × abJ)) (hf : fX6_readAtom a0 h = some z) : ab_Ex X (d + 106) 81 0 [(0, .ref 9), (1, .int a0)] [] ab_SH (ab_dD h) (fun r => r = (some (.int z.1), ab_SH, ab_dD z.2)) := sPX6 d X 100 2 a0 h z hf
def fX6_readTruth (a0 : Int32) (h : abJ) : Option (Int32 × abJ) := fPX6 100 3 a0 h
set_option maxRecDepth 20000 in
theorem sX6_readTruth (d : Nat) (X : abX) (a0 : Int32) (h : abJ) (z : (Int32 × abJ)) (hf : fX6_readTruth a0 h = some z) : ab_Ex X (d + 106) 83 0 [(0, .ref 9), (1, .int a0)] [] ab_SH (ab_dD h) (fun r => r = (some (.int z.1), ab_SH, ab_dD z.2)) := sPX6 d X 100 3 a0 h z hf
def fX6_readBoth (a0 : Int32) (h : abJ) : Option (Int32 × abJ) := fPX6 100 4 a0 h
set_option maxRecDepth 20000 in
theorem sX6_readBoth (d : Nat) (X : abX) (a0 : Int32) (h : abJ) (z : (Int32 × abJ)) (hf : fX6_readBoth a0 h = some z) : ab_Ex X (d + 106) 84 0 [(0, .ref 9), (1, .int a0)] [] ab_SH (ab_dD h) (fun r => r = (some (.int z.1), ab_SH, ab_dD z.2)) := sPX6 d X 100 4 a0 h z hf
def fX6_readUnit (a0 : Int32) (h : abJ) : Option (Int32 × abJ) := fPX6 100 5 a0 h
set_option maxRecDepth 20000 in
theorem sX6_readUnit (d : Nat) (X : abX) (a0 : Int32) (h : abJ) (z : (Int32 × abJ)) (hf : fX6_readUnit a0 h = some z) : ab_Ex X (d + 106) 85 0 [(0, .ref 9), (1, .int a0)] [] ab_SH (ab_dD h) (fun r => r = (some (.int z.1), ab_SH, ab_dD z.2)) := sPX6 d X 100 5 a0 h z hf
def fX6_readComparison (a0 : Int32) (h : abJ) : Option (Int32 × abJ) := fPX6 100 6 a0 h
set_option maxRecDepth 20000 in
theorem sX6_readComparison (d : Nat) (X : abX) (a0 : Int32) (h : abJ) (z : (Int32 × abJ)) (hf : fX6_readComparison a0 h = some z) : ab_Ex X (d + 106) 86 0 [(0, .ref 9), (1, .int a0)] [] ab_SH (ab_dD h) (fun r => r = (some (.int z.1), ab_SH, ab_dD z.2)) := sPX6 d X 100 6 a0 h z hf
