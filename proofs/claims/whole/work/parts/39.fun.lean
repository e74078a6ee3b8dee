def fX10_lay (o : Nat) (x0 : Int32) (x1 : Int32) (h : abJ) : Option abJ := if x1 < 0 then (fJ7_fill_d0a16 (o + 1) 0 (ab_wI (ab_wI (ab_wI h o 0 0) o 1 x0) o 2 0)).bind (fun r2 => some r2) else if x1 ≤ 40 then (fJ7_fill_d0a16 (o + 1) 0 (ab_wI (ab_wI (ab_wI h o 0 0) o 1 x0) o 2 x1)).bind (fun r4 => some r4) else (fJ7_fill_d0a16 (o + 1) 0 (ab_wI (ab_wI (ab_wI h o 0 0) o 1 x0) o 2 0)).bind (fun r5 => some r5)
set_option maxRecDepth 20000 in
theorem sX10_lay_44 (d : Nat) (X : abX) (x0 : Int32) (x1 : Int32) (h : abJ) (z : abJ) (hf : fX10_lay 44 x0 x1 h = some z) : ab_Ex X (d + 1) 121 0 [(0, .ref 44), (1, .int x0), (2, .int x1)] [] ab_SH (ab_dD h) (fun r => r = (none, ab_SH, ab_dD z)) := by
  unfold fX10_lay at hf
  try simp only [Nat.reduceAdd] at hf
  refine ab_Ex.blk (k := 8) (pc' := 12) (lv' := [(0, .ref 44), (1, .int x0), (2, .int x1)]) (st' := [.int x1, .ref 44]) (sh' := ab_SH) (D' := ab_dD (ab_wI (ab_wI h 44 0 0) 44 1 x0)) (fun n => rfl) ?_
  refine ab_Ex.ifc (c := x1 < 0) (SA := (21, [(0, .ref 44), (1, .int x0), (2, .int x1)], [.ref 44], ab_dD (ab_wI (ab_wI h 44 0 0) 44 1 x0))) (SB := (15, [(0, .ref 44), (1, .int x0), (2, .int x1)], [.ref 44], ab_dD (ab_wI (ab_wI h 44 0 0) 44 1 x0))) (fun n => rfl) (fun c1 => ?_) (fun c1 => ?_)
  · replace hf := (if_pos c1).symm.trans hf
    refine ab_Ex.blk (k := 6) (pc' := 34) (lv' := [(0, .ref 44)]) (st' := [.long 0, .ref 45]) (sh' := ab_SH) (D' := ab_dD (ab_wI (ab_wI (ab_wI h 44 0 0) 44 1 x0) 44 2 0)) (fun n => rfl) ?_
    obtain ⟨r2, hr2, hf⟩ := ab_bind_s hf
    refine ab_Ex.call (d := d + 0) (M2 := 316) (as := [.ref 45, .long 0]) (rest := []) (fun n => rfl) rfl (Nat.not_lt.mpr (Nat.le_of_ble_eq_true rfl)) (sJ7_fill_d0a16_45 (d) X 0 (ab_wI (ab_wI (ab_wI h 44 0 0) 44 1 x0) 44 2 0) _ hr2) (fun r hr => ?_)
    subst hr
    show ab_Ex X (d + 1) 121 37 [(0, .ref 44)] [] ab_SH (ab_dD r2) _
    obtain rfl := Option.some.inj hf
    exact ab_Ex.ret (fun n => rfl) rfl
  · replace hf := (if_neg c1).symm.trans hf
    refine ab_Ex.blk (k := 2) (pc' := 18) (lv' := [(0, .ref 44), (1, .int x0), (2, .int x1)]) (st' := [.int 40, .int x1, .ref 44]) (sh' := ab_SH) (D' := ab_dD (ab_wI (ab_wI h 44 0 0) 44 1 x0)) (fun n => rfl) ?_
    refine ab_Ex.ifc (c := x1 ≤ 40) (SA := (25, [(0, .ref 44), (1, .int x0), (2, .int x1)], [.ref 44], ab_dD (ab_wI (ab_wI h 44 0 0) 44 1 x0))) (SB := (21, [(0, .ref 44), (1, .int x0), (2, .int x1)], [.ref 44], ab_dD (ab_wI (ab_wI h 44 0 0) 44 1 x0))) (fun n => rfl) (fun c3 => ?_) (fun c3 => ?_)
    · replace hf := (if_pos c3).symm.trans hf
      refine ab_Ex.blk (k := 5) (pc' := 34) (lv' := [(0, .ref 44)]) (st' := [.long 0, .ref 45]) (sh' := ab_SH) (D' := ab_dD (ab_wI (ab_wI (ab_wI h 44 0 0) 44 1 x0) 44 2 x1)) (fun n => rfl) ?_
      obtain ⟨r4, hr4, hf⟩ := ab_bind_s hf
      refine ab_Ex.call (d := d + 0) (M2 := 316) (as := [.ref 45, .long 0]) (rest := []) (fun n => rfl) rfl (Nat.not_lt.mpr (Nat.le_of_ble_eq_true rfl)) (sJ7_fill_d0a16_45 (d) X 0 (ab_wI (ab_wI (ab_wI h 44 0 0) 44 1 x0) 44 2 x1) _ hr4) (fun r hr => ?_)
      subst hr
      show ab_Ex X (d + 1) 121 37 [(0, .ref 44)] [] ab_SH (ab_dD r4) _
      obtain rfl := Option.some.inj hf
      exact ab_Ex.ret (fun n => rfl) rfl
    · replace hf := (if_neg c3).symm.trans hf
      refine ab_Ex.blk (k := 6) (pc' := 34) (lv' := [(0, .ref 44)]) (st' := [.long 0, .ref 45]) (sh' := ab_SH) (D' := ab_dD (ab_wI (ab_wI (ab_wI h 44 0 0) 44 1 x0) 44 2 0)) (fun n => rfl) ?_
      obtain ⟨r5, hr5, hf⟩ := ab_bind_s hf
      refine ab_Ex.call (d := d + 0) (M2 := 316) (as := [.ref 45, .long 0]) (rest := []) (fun n => rfl) rfl (Nat.not_lt.mpr (Nat.le_of_ble_eq_true rfl)) (sJ7_fill_d0a16_45 (d) X 0 (ab_wI (ab_wI (ab_wI h 44 0 0) 44 1 x0) 44 2 0) _ hr5) (fun r hr => ?_)
      subst hr
      show ab_Ex X (d + 1) 121 37 [(0, .ref 44)] [] ab_SH (ab_dD r5) _
      obtain rfl := Option.some.inj hf
      exact ab_Ex.ret (fun n => rfl) rfl
set_option maxRecDepth 20000 in
theorem sX10_lay_46 (d : Nat) (X : abX) (x0 : Int32) (x1 : Int32) (h : abJ) (z : abJ) (hf : fX10_lay 46 x0 x1 h = some z) : ab_Ex X (d + 1) 121 0 [(0, .ref 46), (1, .int x0), (2, .int x1)] [] ab_SH (ab_dD h) (fun r => r = (none, ab_SH, ab_dD z)) := by
  unfold fX10_lay at hf
  try simp only [Nat.reduceAdd] at hf
  refine ab_Ex.blk (k := 8) (pc' := 12) (lv' := [(0, .ref 46), (1, .int x0), (2, .int x1)]) (st' := [.int x1, .ref 46]) (sh' := ab_SH) (D' := ab_dD (ab_wI (ab_wI h 46 0 0) 46 1 x0)) (fun n => rfl) ?_
  refine ab_Ex.ifc (c := x1 < 0) (SA := (21, [(0, .ref 46), (1, .int x0), (2, .int x1)], [.ref 46], ab_dD (ab_wI (ab_wI h 46 0 0) 46 1 x0))) (SB := (15, [(0, .ref 46), (1, .int x0), (2, .int x1)], [.ref 46], ab_dD (ab_wI (ab_wI h 46 0 0) 46 1 x0))) (fun n => rfl) (fun c1 => ?_) (fun c1 => ?_)
  · replace hf := (if_pos c1).symm.trans hf
    refine ab_Ex.blk (k := 6) (pc' := 34) (lv' := [(0, .ref 46)]) (st' := [.long 0, .ref 47]) (sh' := ab_SH) (D' := ab_dD (ab_wI (ab_wI (ab_wI h 46 0 0) 46 1 x0) 46 2 0)) (fun n => rfl) ?_
    obtain ⟨r2, hr2, hf⟩ := ab_bind_s hf
    refine ab_Ex.call (d := d + 0) (M2 := 316) (as := [.ref 47, .long 0]) (rest := []) (fun n => rfl) rfl (Nat.not_lt.mpr (Nat.le_of_ble_eq_true rfl)) (sJ7_fill_d0a16_47 (d) X 0 (ab_wI (ab_wI (ab_wI h 46 0 0) 46 1 x0) 46 2 0) _ hr2) (fun r hr => ?_)
    subst hr
    show ab_Ex X (d + 1) 121 37 [(0, .ref 46)] [] ab_SH (ab_dD r2) _
    obtain rfl := Option.some.inj hf
    exact ab_Ex.ret (fun n => rfl) rfl
  · replace hf := (if_neg c1).symm.trans hf
    refine ab_Ex.blk (k := 2) (pc' := 18) (lv' := [(0, .ref 46), (1, .int x0), (2, .int x1)]) (st' := [.int 40, .int x1, .ref 46]) (sh' := ab_SH) (D' := ab_dD (ab_wI (ab_wI h 46 0 0) 46 1 x0)) (fun n => rfl) ?_
    refine ab_Ex.ifc (c := x1 ≤ 40) (SA := (25, [(0, .ref 46), (1, .int x0), (2, .int x1)], [.ref 46], ab_dD (ab_wI (ab_wI h 46 0 0) 46 1 x0))) (SB := (21, [(0, .ref 46), (1, .int x0), (2, .int x1)], [.ref 46], ab_dD (ab_wI (ab_wI h 46 0 0) 46 1 x0))) (fun n => rfl) (fun c3 => ?_) (fun c3 => ?_)
    · replace hf := (if_pos c3).symm.trans hf
      refine ab_Ex.blk (k := 5) (pc' := 34) (lv' := [(0, .ref 46)]) (st' := [.long 0, .ref 47]) (sh' := ab_SH) (D' := ab_dD (ab_wI (ab_wI (ab_wI h 46 0 0) 46 1 x0) 46 2 x1)) (fun n => rfl) ?_
      obtain ⟨r4, hr4, hf⟩ := ab_bind_s hf
      refine ab_Ex.call (d := d + 0) (M2 := 316) (as := [.ref 47, .long 0]) (rest := []) (fun n => rfl) rfl (Nat.not_lt.mpr (Nat.le_of_ble_eq_true rfl)) (sJ7_fill_d0a16_47 (d) X 0 (ab_wI (ab_wI (ab_wI h 46 0 0) 46 1 x0) 46 2 x1) _ hr4) (fun r hr => ?_)
      subst hr
      show ab_Ex X (d + 1) 121 37 [(0, .ref 46)] [] ab_SH (ab_dD r4) _
      obtain rfl := Option.some.inj hf
      exact ab_Ex.ret (fun n => rfl) rfl
    · replace hf := (if_neg c3).symm.trans hf
      refine ab_Ex.blk (k := 6) (pc' := 34) (lv' := [(0, .ref 46)]) (st' := [.long 0, .ref 47]) (sh' := ab_SH) (D' := ab_dD (ab_wI (ab_wI (ab_wI h 46 0 0) 46 1 x0) 46 2 0)) (fun n => rfl) ?_
      obtain ⟨r5, hr5, hf⟩ := ab_bind_s hf
      refine ab_Ex.call (d := d + 0) (M2 := 316) (as := [.ref 47, .long 0]) (rest := []) (fun n => rfl) rfl (Nat.not_lt.mpr (Nat.le_of_ble_eq_true rfl)) (sJ7_fill_d0a16_47 (d) X 0 (ab_wI (ab_wI (ab_wI h 46 0 0) 46 1 x0) 46 2 0) _ hr5) (fun r hr => ?_)
      subst hr
      show ab_Ex X (d + 1) 121 37 [(0, .ref 46)] [] ab_SH (ab_dD r5) _
      obtain rfl := Option.some.inj hf
      exact ab_Ex.ret (fun n => rfl) rfl
set_option maxRecDepth 20000 in
theorem sX10_lay_48 (d : Nat) (X : abX) (x0 : Int32) (x1 : Int32) (h : abJ) (z : abJ) (hf : fX10_lay 48 x0 x1 h = some z) : ab_Ex X (d + 1) 121 0 [(0, .ref 48), (1, .int x0), (2, .int x1)] [] ab_SH (ab_dD h) (fun r => r = (none, ab_SH, ab_dD z)) := by
  unfold fX10_lay at hf
  try simp only [Nat.reduceAdd] at hf
  refine ab_Ex.blk (k := 8) (pc' := 12) (lv' := [(0, .ref 48), (1, .int x0), (2, .int x1)]) (st' := [.int x1, .ref 48]) (sh' := ab_SH) (D' := ab_dD (ab_wI (ab_wI h 48 0 0) 48 1 x0)) (fun n => rfl) ?_
  refine ab_Ex.ifc (c := x1 < 0) (SA := (21, [(0, .ref 48), (1, .int x0), (2, .int x1)], [.ref 48], ab_dD (ab_wI (ab_wI h 48 0 0) 48 1 x0))) (SB := (15, [(0, .ref 48), (1, .int x0), (2, .int x1)], [.ref 48], ab_dD (ab_wI (ab_wI h 48 0 0) 48 1 x0))) (fun n => rfl) (fun c1 => ?_) (fun c1 => ?_)
  · replace hf := (if_pos c1).symm.trans hf
    refine ab_Ex.blk (k := 6) (pc' := 34) (lv' := [(0, .ref 48)]) (st' := [.long 0, .ref 49]) (sh' := ab_SH) (D' := ab_dD (ab_wI (ab_wI (ab_wI h 48 0 0) 48 1 x0) 48 2 0)) (fun n => rfl) ?_
    obtain ⟨r2, hr2, hf⟩ := ab_bind_s hf
    refine ab_Ex.call (d := d + 0) (M2 := 316) (as := [.ref 49, .long 0]) (rest := []) (fun n => rfl) rfl (Nat.not_lt.mpr (Nat.le_of_ble_eq_true rfl)) (sJ7_fill_d0a16_49 (d) X 0 (ab_wI (ab_wI (ab_wI h 48 0 0) 48 1 x0) 48 2 0) _ hr2) (fun r hr => ?_)
    subst hr
    show ab_Ex X (d + 1) 121 37 [(0, .ref 48)] [] ab_SH (ab_dD r2) _
    obtain rfl := Option.some.inj hf
    exact ab_Ex.ret (fun n => rfl) rfl
  · replace hf := (if_neg c1).symm.trans hf
    refine ab_Ex.blk (k := 2) (pc' := 18) (lv' := [(0, .ref 48), (1, .int x0), (2, .int x1)]) (st' := [.int 40, .int x1, .ref 48]) (sh' := ab_SH) (D' := ab_dD (ab_wI (ab_wI h 48 0 0) 48 1 x0)) (fun n => rfl) ?_
    refine ab_Ex.ifc (c := x1 ≤ 40) (SA := (25, [(0, .ref 48), (1, .int x0), (2, .int x1)], [.ref 48], ab_dD (ab_wI (ab_wI h 48 0 0) 48 1 x0))) (SB := (21, [(0, .ref 48), (1, .int x0), (2, .int x1)], [.ref 48], ab_dD (ab_wI (ab_wI h 48 0 0) 48 1 x0))) (fun n => rfl) (fun c3 => ?_) (fun c3 => ?_)
    · replace hf := (if_pos c3).symm.trans hf
      refine ab_Ex.blk (k := 5) (pc' := 34) (lv' := [(0, .ref 48)]) (st' := [.long 0, .ref 49]) (sh' := ab_SH) (D' := ab_dD (ab_wI (ab_wI (ab_wI h 48 0 0) 48 1 x0) 48 2 x1)) (fun n => rfl) ?_
      obtain ⟨r4, hr4, hf⟩ := ab_bind_s hf
      refine ab_Ex.call (d := d + 0) (M2 := 316) (as := [.ref 49, .long 0]) (rest := []) (fun n => rfl) rfl (Nat.not_lt.mpr (Nat.le_of_ble_eq_true rfl)) (sJ7_fill_d0a16_49 (d) X 0 (ab_wI (ab_wI (ab_wI h 48 0 0) 48 1 x0) 48 2 x1) _ hr4) (fun r hr => ?_)
      subst hr
      show ab_Ex X (d + 1) 121 37 [(0, .ref 48)] [] ab_SH (ab_dD r4) _
      obtain rfl := Option.some.inj hf
      exact ab_Ex.ret (fun n => rfl) rfl
    · replace hf := (if_neg c3).symm.trans hf
      refine ab_Ex.blk (k := 6) (pc' := 34) (lv' := [(0, .ref 48)]) (st' := [.long 0, .ref 49]) (sh' := ab_SH) (D' := ab_dD (ab_wI (ab_wI (ab_wI h 48 0 0) 48 1 x0) 48 2 0)) (fun n => rfl) ?_
      obtain ⟨r5, hr5, hf⟩ := ab_bind_s hf
      refine ab_Ex.call (d := d + 0) (M2 := 316) (as := [.ref 49, .long 0]) (rest := []) (fun n => rfl) rfl (Nat.not_lt.mpr (Nat.le_of_ble_eq_true rfl)) (sJ7_fill_d0a16_49 (d) X 0 (ab_wI (ab_wI (ab_wI h 48 0 0) 48 1 x0) 48 2 0) _ hr5) (fun r hr => ?_)
      subst hr
      show ab_Ex X (d + 1) 121 37 [(0, .ref 48)] [] ab_SH (ab_dD r5) _
      obtain rfl := Option.some.inj hf
      exact ab_Ex.ret (fun n => rfl) rfl
set_option maxRecDepth 20000 in
theorem sX10_lay_50 (d : Nat) (X : abX) (x0 : Int32) (x1 : Int32) (h : abJ) (z : abJ) (hf : fX10_lay 50 x0 x1 h = some z) : ab_Ex X (d + 1) 121 0 [(0, .ref 50), (1, .int x0), (2, .int x1)] [] ab_SH (ab_dD h) (fun r => r = (none, ab_SH, ab_dD z)) := by
  unfold fX10_lay at hf
  try simp only [Nat.reduceAdd] at hf
  refine ab_Ex.blk (k := 8) (pc' := 12) (lv' := [(0, .ref 50), (1, .int x0), (2, .int x1)]) (st' := [.int x1, .ref 50]) (sh' := ab_SH) (D' := ab_dD (ab_wI (ab_wI h 50 0 0) 50 1 x0)) (fun n => rfl) ?_
  refine ab_Ex.ifc (c := x1 < 0) (SA := (21, [(0, .ref 50), (1, .int x0), (2, .int x1)], [.ref 50], ab_dD (ab_wI (ab_wI h 50 0 0) 50 1 x0))) (SB := (15, [(0, .ref 50), (1, .int x0), (2, .int x1)], [.ref 50], ab_dD (ab_wI (ab_wI h 50 0 0) 50 1 x0))) (fun n => rfl) (fun c1 => ?_) (fun c1 => ?_)
  · replace hf := (if_pos c1).symm.trans hf
    refine ab_Ex.blk (k := 6) (pc' := 34) (lv' := [(0, .ref 50)]) (st' := [.long 0, .ref 51]) (sh' := ab_SH) (D' := ab_dD (ab_wI (ab_wI (ab_wI h 50 0 0) 50 1 x0) 50 2 0)) (fun n => rfl) ?_
    obtain ⟨r2, hr2, hf⟩ := ab_bind_s hf
    refine ab_Ex.call (d := d + 0) (M2 := 316) (as := [.ref 51, .long 0]) (rest := []) (fun n => rfl) rfl (Nat.not_lt.mpr (Nat.le_of_ble_eq_true rfl)) (sJ7_fill_d0a16_51 (d) X 0 (ab_wI (ab_wI (ab_wI h 50 0 0) 50 1 x0) 50 2 0) _ hr2) (fun r hr => ?_)
    subst hr
    show ab_Ex X (d + 1) 121 37 [(0, .ref 50)] [] ab_SH (ab_dD r2) _
    obtain rfl := Option.some.inj hf
    exact ab_Ex.ret (fun n => rfl) rfl
  · replace hf := (if_neg c1).symm.trans hf
    refine ab_Ex.blk (k := 2) (pc' := 18) (lv' := [(0, .ref 50), (1, .int x0), (2, .int x1)]) (st' := [.int 40, .int x1, .ref 50]) (sh' := ab_SH) (D' := ab_dD (ab_wI (ab_wI h 50 0 0) 50 1 x0)) (fun n => rfl) ?_
    refine ab_Ex.ifc (c := x1 ≤ 40) (SA := (25, [(0, .ref 50), (1, .int x0), (2, .int x1)], [.ref 50], ab_dD (ab_wI (ab_wI h 50 0 0) 50 1 x0))) (SB := (21, [(0, .ref 50), (1, .int x0), (2, .int x1)], [.ref 50], ab_dD (ab_wI (ab_wI h 50 0 0) 50 1 x0))) (fun n => rfl) (fun c3 => ?_) (fun c3 => ?_)
    · replace hf := (if_pos c3).symm.trans hf
      refine ab_Ex.blk (k := 5) (pc' := 34) (lv' := [(0, .ref 50)]) (st' := [.long 0, .ref 51]) (sh' := ab_SH) (D' := ab_dD (ab_wI (ab_wI (ab_wI h 50 0 0) 50 1 x0) 50 2 x1)) (fun n => rfl) ?_
      obtain ⟨r4, hr4, hf⟩ := ab_bind_s hf
      refine ab_Ex.call (d := d + 0) (M2 := 316) (as := [.ref 51, .long 0]) (rest := []) (fun n => rfl) rfl (Nat.not_lt.mpr (Nat.le_of_ble_eq_true rfl)) (sJ7_fill_d0a16_51 (d) X 0 (ab_wI (ab_wI (ab_wI h 50 0 0) 50 1 x0) 50 2 x1) _ hr4) (fun r hr => ?_)
      subst hr
      show ab_Ex X (d + 1) 121 37 [(0, .ref 50)] [] ab_SH (ab_dD r4) _
      obtain rfl := Option.some.inj hf
      exact ab_Ex.ret (fun n => rfl) rfl
    · replace hf := (if_neg c3).symm.trans hf
      refine ab_Ex.blk (k := 6) (pc' := 34) (lv' := [(0, .ref 50)]) (st' := [.long 0, .ref 51]) (sh' := ab_SH) (D' := ab_dD (ab_wI (ab_wI (ab_wI h 50 0 0) 50 1 x0) 50 2 0)) (fun n => rfl) ?_
      obtain ⟨r5, hr5, hf⟩ := ab_bind_s hf
      refine ab_Ex.call (d := d + 0) (M2 := 316) (as := [.ref 51, .long 0]) (rest := []) (fun n => rfl) rfl (Nat.not_lt.mpr (Nat.le_of_ble_eq_true rfl)) (sJ7_fill_d0a16_51 (d) X 0 (ab_wI (ab_wI (ab_wI h 50 0 0) 50 1 x0) 50 2 0) _ hr5) (fun r hr => ?_)
      subst hr
      show ab_Ex X (d + 1) 121 37 [(0, .ref 50)] [] ab_SH (ab_dD r5) _
      obtain rfl := Option.some.inj hf
      exact ab_Ex.ret (fun n => rfl) rfl
def fX10_cut (o : Nat) (x0 : Int64) (h : abJ) : Option Int64 := if (h.1 o 1) = 0 then some (((x0 : Int64).toInt32 : Int32).toInt8.toInt32 : Int32).toInt64 else if (h.1 o 1) = 1 then some (((x0 : Int64).toInt32 : Int32).toInt16.toInt32 : Int32).toInt64 else if (h.1 o 1) = 2 then some ((x0 : Int64).toInt32 : Int32).toInt64 else some x0
set_option maxRecDepth 20000 in
theorem sX10_cut_44 (d : Nat) (X : abX) (x0 : Int64) (h : abJ) (z : Int64) (hf : fX10_cut 44 x0 h = some z) : ab_Ex X (d + 0) 124 0 [(0, .ref 44), (1, .long x0)] [] ab_SH (ab_dD h) (fun r => r = (some (.long z), ab_SH, ab_dD h)) := by
  unfold fX10_cut at hf
  try simp only [Nat.reduceAdd] at hf
  refine ab_Ex.blk (k := 2) (pc' := 4) (lv' := [(0, .ref 44), (1, .long x0)]) (st' := [.int ((h.1 44 1))]) (sh' := ab_SH) (D' := ab_dD h) (fun n => rfl) ?_
  by_cases c1 : (h.1 44 1) = 0
  · replace hf := (if_pos c1).symm.trans hf
    refine ab_Ex.blk (k := 1) (pc' := 32) (lv' := [(0, .ref 44), (1, .long x0)]) (st' := []) (sh' := ab_SH) (D' := ab_dD h) (fun n => by rw [c1]; rfl) ?_
    refine ab_Ex.blk (k := 4) (pc' := 36) (lv' := [(0, .ref 44), (1, .long x0)]) (st' := [.long ((((x0 : Int64).toInt32 : Int32).toInt8.toInt32 : Int32).toInt64)]) (sh' := ab_SH) (D' := ab_dD h) (fun n => rfl) ?_
    obtain rfl := Option.some.inj hf
    exact ab_Ex.ret (fun n => rfl) rfl
  · replace hf := (if_neg c1).symm.trans hf
    by_cases c2 : (h.1 44 1) = 1
    · replace hf := (if_pos c2).symm.trans hf
      refine ab_Ex.blk (k := 1) (pc' := 37) (lv' := [(0, .ref 44), (1, .long x0)]) (st' := []) (sh' := ab_SH) (D' := ab_dD h) (fun n => by rw [c2]; rfl) ?_
      refine ab_Ex.blk (k := 4) (pc' := 41) (lv' := [(0, .ref 44), (1, .long x0)]) (st' := [.long ((((x0 : Int64).toInt32 : Int32).toInt16.toInt32 : Int32).toInt64)]) (sh' := ab_SH) (D' := ab_dD h) (fun n => rfl) ?_
      obtain rfl := Option.some.inj hf
      exact ab_Ex.ret (fun n => rfl) rfl
    · replace hf := (if_neg c2).symm.trans hf
      by_cases c3 : (h.1 44 1) = 2
      · replace hf := (if_pos c3).symm.trans hf
        refine ab_Ex.blk (k := 1) (pc' := 42) (lv' := [(0, .ref 44), (1, .long x0)]) (st' := []) (sh' := ab_SH) (D' := ab_dD h) (fun n => by rw [c3]; rfl) ?_
        refine ab_Ex.blk (k := 3) (pc' := 45) (lv' := [(0, .ref 44), (1, .long x0)]) (st' := [.long (((x0 : Int64).toInt32 : Int32).toInt64)]) (sh' := ab_SH) (D' := ab_dD h) (fun n => rfl) ?_
        obtain rfl := Option.some.inj hf
        exact ab_Ex.ret (fun n => rfl) rfl
      · replace hf := (if_neg c3).symm.trans hf
        have qc1 := lv_neT c1 (show (0 : Int32).toInt = 0 by decide)
        have qc2 := lv_neT c2 (show (1 : Int32).toInt = 1 by decide)
        have qc3 := lv_neT c3 (show (2 : Int32).toInt = 2 by decide)
        refine ab_Ex.tsw (c := ((h.1 44 1) : Int32).toInt < 0 ∨ 2 < ((h.1 44 1) : Int32).toInt) (S := (46, [(0, .ref 44), (1, .long x0)], [], ab_dD h)) (fun n => rfl) (by omega) ?_
        refine ab_Ex.blk (k := 1) (pc' := 47) (lv' := [(0, .ref 44), (1, .long x0)]) (st' := [.long x0]) (sh' := ab_SH) (D' := ab_dD h) (fun n => rfl) ?_
        obtain rfl := Option.some.inj hf
        exact ab_Ex.ret (fun n => rfl) rfl
set_option maxRecDepth 20000 in
theorem sX10_cut_46 (d : Nat) (X : abX) (x0 : Int64) (h : abJ) (z : Int64) (hf : fX10_cut 46 x0 h = some z) : ab_Ex X (d + 0) 124 0 [(0, .ref 46), (1, .long x0)] [] ab_SH (ab_dD h) (fun r => r = (some (.long z), ab_SH, ab_dD h)) := by
  unfold fX10_cut at hf
  try simp only [Nat.reduceAdd] at hf
  refine ab_Ex.blk (k := 2) (pc' := 4) (lv' := [(0, .ref 46), (1, .long x0)]) (st' := [.int ((h.1 46 1))]) (sh' := ab_SH) (D' := ab_dD h) (fun n => rfl) ?_
  by_cases c1 : (h.1 46 1) = 0
  · replace hf := (if_pos c1).symm.trans hf
    refine ab_Ex.blk (k := 1) (pc' := 32) (lv' := [(0, .ref 46), (1, .long x0)]) (st' := []) (sh' := ab_SH) (D' := ab_dD h) (fun n => by rw [c1]; rfl) ?_
    refine ab_Ex.blk (k := 4) (pc' := 36) (lv' := [(0, .ref 46), (1, .long x0)]) (st' := [.long ((((x0 : Int64).toInt32 : Int32).toInt8.toInt32 : Int32).toInt64)]) (sh' := ab_SH) (D' := ab_dD h) (fun n => rfl) ?_
    obtain rfl := Option.some.inj hf
    exact ab_Ex.ret (fun n => rfl) rfl
  · replace hf := (if_neg c1).symm.trans hf
    by_cases c2 : (h.1 46 1) = 1
    · replace hf := (if_pos c2).symm.trans hf
      refine ab_Ex.blk (k := 1) (pc' := 37) (lv' := [(0, .ref 46), (1, .long x0)]) (st' := []) (sh' := ab_SH) (D' := ab_dD h) (fun n => by rw [c2]; rfl) ?_
      refine ab_Ex.blk (k := 4) (pc' := 41) (lv' := [(0, .ref 46), (1, .long x0)]) (st' := [.long ((((x0 : Int64).toInt32 : Int32).toInt16.toInt32 : Int32).toInt64)]) (sh' := ab_SH) (D' := ab_dD h) (fun n => rfl) ?_
      obtain rfl := Option.some.inj hf
      exact ab_Ex.ret (fun n => rfl) rfl
    · replace hf := (if_neg c2).symm.trans hf
      by_cases c3 : (h.1 46 1) = 2
      · replace hf := (if_pos c3).symm.trans hf
        refine ab_Ex.blk (k := 1) (pc' := 42) (lv' := [(0, .ref 46), (1, .long x0)]) (st' := []) (sh' := ab_SH) (D' := ab_dD h) (fun n => by rw [c3]; rfl) ?_
        refine ab_Ex.blk (k := 3) (pc' := 45) (lv' := [(0, .ref 46), (1, .long x0)]) (st' := [.long (((x0 : Int64).toInt32 : Int32).toInt64)]) (sh' := ab_SH) (D' := ab_dD h) (fun n => rfl) ?_
        obtain rfl := Option.some.inj hf
        exact ab_Ex.ret (fun n => rfl) rfl
      · replace hf := (if_neg c3).symm.trans hf
        have qc1 := lv_neT c1 (show (0 : Int32).toInt = 0 by decide)
        have qc2 := lv_neT c2 (show (1 : Int32).toInt = 1 by decide)
        have qc3 := lv_neT c3 (show (2 : Int32).toInt = 2 by decide)
        refine ab_Ex.tsw (c := ((h.1 46 1) : Int32).toInt < 0 ∨ 2 < ((h.1 46 1) : Int32).toInt) (S := (46, [(0, .ref 46), (1, .long x0)], [], ab_dD h)) (fun n => rfl) (by omega) ?_
        refine ab_Ex.blk (k := 1) (pc' := 47) (lv' := [(0, .ref 46), (1, .long x0)]) (st' := [.long x0]) (sh' := ab_SH) (D' := ab_dD h) (fun n => rfl) ?_
        obtain rfl := Option.some.inj hf
        exact ab_Ex.ret (fun n => rfl) rfl
set_option maxRecDepth 20000 in
theorem sX10_cut_48 (d : Nat) (X : abX) (x0 : Int64) (h : abJ) (z : Int64) (hf : fX10_cut 48 x0 h = some z) : ab_Ex X (d + 0) 124 0 [(0, .ref 48), (1, .long x0)] [] ab_SH (ab_dD h) (fun r => r = (some (.long z), ab_SH, ab_dD h)) := by
  unfold fX10_cut at hf
  try simp only [Nat.reduceAdd] at hf
  refine ab_Ex.blk (k := 2) (pc' := 4) (lv' := [(0, .ref 48), (1, .long x0)]) (st' := [.int ((h.1 48 1))]) (sh' := ab_SH) (D' := ab_dD h) (fun n => rfl) ?_
  by_cases c1 : (h.1 48 1) = 0
  · replace hf := (if_pos c1).symm.trans hf
    refine ab_Ex.blk (k := 1) (pc' := 32) (lv' := [(0, .ref 48), (1, .long x0)]) (st' := []) (sh' := ab_SH) (D' := ab_dD h) (fun n => by rw [c1]; rfl) ?_
    refine ab_Ex.blk (k := 4) (pc' := 36) (lv' := [(0, .ref 48), (1, .long x0)]) (st' := [.long ((((x0 : Int64).toInt32 : Int32).toInt8.toInt32 : Int32).toInt64)]) (sh' := ab_SH) (D' := ab_dD h) (fun n => rfl) ?_
    obtain rfl := Option.some.inj hf
    exact ab_Ex.ret (fun n => rfl) rfl
  · replace hf := (if_neg c1).symm.trans hf
    by_cases c2 : (h.1 48 1) = 1
    · replace hf := (if_pos c2).symm.trans hf
      refine ab_Ex.blk (k := 1) (pc' := 37) (lv' := [(0, .ref 48), (1, .long x0)]) (st' := []) (sh' := ab_SH) (D' := ab_dD h) (fun n => by rw [c2]; rfl) ?_
      refine ab_Ex.blk (k := 4) (pc' := 41) (lv' := [(0, .ref 48), (1, .long x0)]) (st' := [.long ((((x0 : Int64).toInt32 : Int32).toInt16.toInt32 : Int32).toInt64)]) (sh' := ab_SH) (D' := ab_dD h) (fun n => rfl) ?_
      obtain rfl := Option.some.inj hf
      exact ab_Ex.ret (fun n => rfl) rfl
    · replace hf := (if_neg c2).symm.trans hf
      by_cases c3 : (h.1 48 1) = 2
      · replace hf := (if_pos c3).symm.trans hf
        refine ab_Ex.blk (k := 1) (pc' := 42) (lv' := [(0, .ref 48), (1, .long x0)]) (st' := []) (sh' := ab_SH) (D' := ab_dD h) (fun n => by rw [c3]; rfl) ?_
        refine ab_Ex.blk (k := 3) (pc' := 45) (lv' := [(0, .ref 48), (1, .long x0)]) (st' := [.long (((x0 : Int64).toInt32 : Int32).toInt64)]) (sh' := ab_SH) (D' := ab_dD h) (fun n => rfl) ?_
        obtain rfl := Option.some.inj hf
        exact ab_Ex.ret (fun n => rfl) rfl
      · replace hf := (if_neg c3).symm.trans hf
        have qc1 := lv_neT c1 (show (0 : Int32).toInt = 0 by decide)
        have qc2 := lv_neT c2 (show (1 : Int32).toInt = 1 by decide)
        have qc3 := lv_neT c3 (show (2 : Int32).toInt = 2 by decide)
        refine ab_Ex.tsw (c := ((h.1 48 1) : Int32).toInt < 0 ∨ 2 < ((h.1 48 1) : Int32).toInt) (S := (46, [(0, .ref 48), (1, .long x0)], [], ab_dD h)) (fun n => rfl) (by omega) ?_
        refine ab_Ex.blk (k := 1) (pc' := 47) (lv' := [(0, .ref 48), (1, .long x0)]) (st' := [.long x0]) (sh' := ab_SH) (D' := ab_dD h) (fun n => rfl) ?_
        obtain rfl := Option.some.inj hf
        exact ab_Ex.ret (fun n => rfl) rfl
set_option maxRecDepth 20000 in
theorem sX10_cut_50 (d : Nat) (X : abX) (x0 : Int64) (h : abJ) (z : Int64) (hf : fX10_cut 50 x0 h = some z) : ab_Ex X (d + 0) 124 0 [(0, .ref 50), (1, .long x0)] [] ab_SH (ab_dD h) (fun r => r = (some (.long z), ab_SH, ab_dD h)) := by
  unfold fX10_cut at hf
  try simp only [Nat.reduceAdd] at hf
  refine ab_Ex.blk (k := 2) (pc' := 4) (lv' := [(0, .ref 50), (1, .long x0)]) (st' := [.int ((h.1 50 1))]) (sh' := ab_SH) (D' := ab_dD h) (fun n => rfl) ?_
  by_cases c1 : (h.1 50 1) = 0
  · replace hf := (if_pos c1).symm.trans hf
    refine ab_Ex.blk (k := 1) (pc' := 32) (lv' := [(0, .ref 50), (1, .long x0)]) (st' := []) (sh' := ab_SH) (D' := ab_dD h) (fun n => by rw [c1]; rfl) ?_
    refine ab_Ex.blk (k := 4) (pc' := 36) (lv' := [(0, .ref 50), (1, .long x0)]) (st' := [.long ((((x0 : Int64).toInt32 : Int32).toInt8.toInt32 : Int32).toInt64)]) (sh' := ab_SH) (D' := ab_dD h) (fun n => rfl) ?_
    obtain rfl := Option.some.inj hf
    exact ab_Ex.ret (fun n => rfl) rfl
  · replace hf := (if_neg c1).symm.trans hf
    by_cases c2 : (h.1 50 1) = 1
    · replace hf := (if_pos c2).symm.trans hf
      refine ab_Ex.blk (k := 1) (pc' := 37) (lv' := [(0, .ref 50), (1, .long x0)]) (st' := []) (sh' := ab_SH) (D' := ab_dD h) (fun n => by rw [c2]; rfl) ?_
      refine ab_Ex.blk (k := 4) (pc' := 41) (lv' := [(0, .ref 50), (1, .long x0)]) (st' := [.long ((((x0 : Int64).toInt32 : Int32).toInt16.toInt32 : Int32).toInt64)]) (sh' := ab_SH) (D' := ab_dD h) (fun n => rfl) ?_
      obtain rfl := Option.some.inj hf
      exact ab_Ex.ret (fun n => rfl) rfl
    · replace hf := (if_neg c2).symm.trans hf
      by_cases c3 : (h.1 50 1) = 2
      · replace hf := (if_pos c3).symm.trans hf
        refine ab_Ex.blk (k := 1) (pc' := 42) (lv' := [(0, .ref 50), (1, .long x0)]) (st' := []) (sh' := ab_SH) (D' := ab_dD h) (fun n => by rw [c3]; rfl) ?_
        refine ab_Ex.blk (k := 3) (pc' := 45) (lv' := [(0, .ref 50), (1, .long x0)]) (st' := [.long (((x0 : Int64).toInt32 : Int32).toInt64)]) (sh' := ab_SH) (D' := ab_dD h) (fun n => rfl) ?_
        obtain rfl := Option.some.inj hf
        exact ab_Ex.ret (fun n => rfl) rfl
      · replace hf := (if_neg c3).symm.trans hf
        have qc1 := lv_neT c1 (show (0 : Int32).toInt = 0 by decide)
        have qc2 := lv_neT c2 (show (1 : Int32).toInt = 1 by decide)
        have qc3 := lv_neT c3 (show (2 : Int32).toInt = 2 by decide)
        refine ab_Ex.tsw (c := ((h.1 50 1) : Int32).toInt < 0 ∨ 2 < ((h.1 50 1) : Int32).toInt) (S := (46, [(0, .ref 50), (1, .long x0)], [], ab_dD h)) (fun n => rfl) (by omega) ?_
        refine ab_Ex.blk (k := 1) (pc' := 47) (lv' := [(0, .ref 50), (1, .long x0)]) (st' := [.long x0]) (sh' := ab_SH) (D' := ab_dD h) (fun n => rfl) ?_
        obtain rfl := Option.some.inj hf
        exact ab_Ex.ret (fun n => rfl) rfl
def fX10_put (o : Nat) (x0 : Int32) (x1 : Int64) (h : abJ) : Option abJ := if x0 < 0 then some h else if (h.1 o 2) ≤ x0 then some h else (fX10_cut o x1 h).bind (fun r3 => ab_ask (x0 < 0 ∨ 40 ≤ (x0 : Int32).toNatClampNeg) (some (ab_wL h (o + 1) (x0 : Int32).toNatClampNeg r3)))
set_option maxRecDepth 20000 in
theorem sX10_put_44 (d : Nat) (X : abX) (x0 : Int32) (x1 : Int64) (h : abJ) (z : abJ) (hf : fX10_put 44 x0 x1 h = some z) : ab_Ex X (d + 1) 123 0 [(0, .ref 44), (1, .int x0), (2, .long x1)] [] ab_SH (ab_dD h) (fun r => r = (none, ab_SH, ab_dD z)) := by
  unfold fX10_put at hf
  try simp only [Nat.reduceAdd] at hf
  refine ab_Ex.blk (k := 1) (pc' := 1) (lv' := [(0, .ref 44), (1, .int x0), (2, .long x1)]) (st' := [.int x0]) (sh' := ab_SH) (D' := ab_dD h) (fun n => rfl) ?_
  refine ab_Ex.ifc (c := x0 < 0) (SA := (23, [(0, .ref 44), (1, .int x0), (2, .long x1)], [], ab_dD h)) (SB := (4, [(0, .ref 44), (1, .int x0), (2, .long x1)], [], ab_dD h)) (fun n => rfl) (fun c1 => ?_) (fun c1 => ?_)
  · replace hf := (if_pos c1).symm.trans hf
    obtain rfl := Option.some.inj hf
    exact ab_Ex.ret (fun n => rfl) rfl
  · replace hf := (if_neg c1).symm.trans hf
    refine ab_Ex.blk (k := 3) (pc' := 9) (lv' := [(0, .ref 44), (1, .int x0), (2, .long x1)]) (st' := [.int ((h.1 44 2)), .int x0]) (sh' := ab_SH) (D' := ab_dD h) (fun n => rfl) ?_
    refine ab_Ex.ifc (c := (h.1 44 2) ≤ x0) (SA := (23, [(0, .ref 44), (1, .int x0), (2, .long x1)], [], ab_dD h)) (SB := (12, [(0, .ref 44), (1, .int x0), (2, .long x1)], [], ab_dD h)) (fun n => rfl) (fun c2 => ?_) (fun c2 => ?_)
    · replace hf := (if_pos c2).symm.trans hf
      obtain rfl := Option.some.inj hf
      exact ab_Ex.ret (fun n => rfl) rfl
    · replace hf := (if_neg c2).symm.trans hf
      refine ab_Ex.blk (k := 5) (pc' := 19) (lv' := [(0, .ref 44), (1, .int x0), (2, .long x1)]) (st' := [.long x1, .ref 44, .int x0, .ref 45]) (sh' := ab_SH) (D' := ab_dD h) (fun n => rfl) ?_
      obtain ⟨r3, hr3, hf⟩ := ab_bind_s hf
      refine ab_Ex.call (d := d + 0) (M2 := 124) (as := [.ref 44, .long x1]) (rest := [.int x0, .ref 45]) (fun n => rfl) rfl (Nat.not_lt.mpr (Nat.le_of_ble_eq_true rfl)) (sX10_cut_44 (d) X x1 h _ hr3) (fun r hr => ?_)
      subst hr
      show ab_Ex X (d + 1) 123 22 [(0, .ref 44), (1, .int x0), (2, .long x1)] [.long r3, .int x0, .ref 45] ab_SH (ab_dD h) _
      obtain ⟨c4, hf⟩ := ab_ask_s hf
      refine ab_Ex.grd (c := x0 < 0 ∨ 40 ≤ (x0 : Int32).toNatClampNeg) (S := (23, [(0, .ref 44), (1, .int x0), (2, .long x1)], [], ab_dD (ab_wL h 45 (x0 : Int32).toNatClampNeg r3))) (fun n => rfl) c4 ?_
      obtain rfl := Option.some.inj hf
      exact ab_Ex.ret (fun n => rfl) rfl
set_option maxRecDepth 20000 in
theorem sX10_put_46 (d : Nat) (X : abX) (x0 : Int32) (x1 : Int64) (h : abJ) (z : abJ) (hf : fX10_put 46 x0 x1 h = some z) : ab_Ex X (d + 1) 123 0 [(0, .ref 46), (1, .int x0), (2, .long x1)] [] ab_SH (ab_dD h) (fun r => r = (none, ab_SH, ab_dD z)) := by
  unfold fX10_put at hf
  try simp only [Nat.reduceAdd] at hf
  refine ab_Ex.blk (k := 1) (pc' := 1) (lv' := [(0, .ref 46), (1, .int x0), (2, .long x1)]) (st' := [.int x0]) (sh' := ab_SH) (D' := ab_dD h) (fun n => rfl) ?_
  refine ab_Ex.ifc (c := x0 < 0) (SA := (23, [(0, .ref 46), (1, .int x0), (2, .long x1)], [], ab_dD h)) (SB := (4, [(0, .ref 46), (1, .int x0), (2, .long x1)], [], ab_dD h)) (fun n => rfl) (fun c1 => ?_) (fun c1 => ?_)
  · replace hf := (if_pos c1).symm.trans hf
    obtain rfl := Option.some.inj hf
    exact ab_Ex.ret (fun n => rfl) rfl
  · replace hf := (if_neg c1).symm.trans hf
    refine ab_Ex.blk (k := 3) (pc' := 9) (lv' := [(0, .ref 46), (1, .int x0), (2, .long x1)]) (st' := [.int ((h.1 46 2)), .int x0]) (sh' := ab_SH) (D' := ab_dD h) (fun n => rfl) ?_
    refine ab_Ex.ifc (c := (h.1 46 2) ≤ x0) (SA := (23, [(0, .ref 46), (1, .int x0), (2, .long x1)], [], ab_dD h)) (SB := (12, [(0, .ref 46), (1, .int x0), (2, .long x1)], [], ab_dD h)) (fun n => rfl) (fun c2 => ?_) (fun c2 => ?_)
    · replace hf := (if_pos c2).symm.trans hf
      obtain rfl := Option.some.inj hf
      exact ab_Ex.ret (fun n => rfl) rfl
    · replace hf := (if_neg c2).symm.trans hf
      refine ab_Ex.blk (k := 5) (pc' := 19) (lv' := [(0, .ref 46), (1, .int x0), (2, .long x1)]) (st' := [.long x1, .ref 46, .int x0, .ref 47]) (sh' := ab_SH) (D' := ab_dD h) (fun n => rfl) ?_
      obtain ⟨r3, hr3, hf⟩ := ab_bind_s hf
      refine ab_Ex.call (d := d + 0) (M2 := 124) (as := [.ref 46, .long x1]) (rest := [.int x0, .ref 47]) (fun n => rfl) rfl (Nat.not_lt.mpr (Nat.le_of_ble_eq_true rfl)) (sX10_cut_46 (d) X x1 h _ hr3) (fun r hr => ?_)
      subst hr
      show ab_Ex X (d + 1) 123 22 [(0, .ref 46), (1, .int x0), (2, .long x1)] [.long r3, .int x0, .ref 47] ab_SH (ab_dD h) _
      obtain ⟨c4, hf⟩ := ab_ask_s hf
      refine ab_Ex.grd (c := x0 < 0 ∨ 40 ≤ (x0 : Int32).toNatClampNeg) (S := (23, [(0, .ref 46), (1, .int x0), (2, .long x1)], [], ab_dD (ab_wL h 47 (x0 : Int32).toNatClampNeg r3))) (fun n => rfl) c4 ?_
      obtain rfl := Option.some.inj hf
      exact ab_Ex.ret (fun n => rfl) rfl
set_option maxRecDepth 20000 in
theorem sX10_put_48 (d : Nat) (X : abX) (x0 : Int32) (x1 : Int64) (h : abJ) (z : abJ) (hf : fX10_put 48 x0 x1 h = some z) : ab_Ex X (d + 1) 123 0 [(0, .ref 48), (1, .int x0), (2, .long x1)] [] ab_SH (ab_dD h) (fun r => r = (none, ab_SH, ab_dD z)) := by
  unfold fX10_put at hf
  try simp only [Nat.reduceAdd] at hf
  refine ab_Ex.blk (k := 1) (pc' := 1) (lv' := [(0, .ref 48), (1, .int x0), (2, .long x1)]) (st' := [.int x0]) (sh' := ab_SH) (D' := ab_dD h) (fun n => rfl) ?_
  refine ab_Ex.ifc (c := x0 < 0) (SA := (23, [(0, .ref 48), (1, .int x0), (2, .long x1)], [], ab_dD h)) (SB := (4, [(0, .ref 48), (1, .int x0), (2, .long x1)], [], ab_dD h)) (fun n => rfl) (fun c1 => ?_) (fun c1 => ?_)
  · replace hf := (if_pos c1).symm.trans hf
    obtain rfl := Option.some.inj hf
    exact ab_Ex.ret (fun n => rfl) rfl
  · replace hf := (if_neg c1).symm.trans hf
    refine ab_Ex.blk (k := 3) (pc' := 9) (lv' := [(0, .ref 48), (1, .int x0), (2, .long x1)]) (st' := [.int ((h.1 48 2)), .int x0]) (sh' := ab_SH) (D' := ab_dD h) (fun n => rfl) ?_
    refine ab_Ex.ifc (c := (h.1 48 2) ≤ x0) (SA := (23, [(0, .ref 48), (1, .int x0), (2, .long x1)], [], ab_dD h)) (SB := (12, [(0, .ref 48), (1, .int x0), (2, .long x1)], [], ab_dD h)) (fun n => rfl) (fun c2 => ?_) (fun c2 => ?_)
    · replace hf := (if_pos c2).symm.trans hf
      obtain rfl := Option.some.inj hf
      exact ab_Ex.ret (fun n => rfl) rfl
    · replace hf := (if_neg c2).symm.trans hf
      refine ab_Ex.blk (k := 5) (pc' := 19) (lv' := [(0, .ref 48), (1, .int x0), (2, .long x1)]) (st' := [.long x1, .ref 48, .int x0, .ref 49]) (sh' := ab_SH) (D' := ab_dD h) (fun n => rfl) ?_
      obtain ⟨r3, hr3, hf⟩ := ab_bind_s hf
      refine ab_Ex.call (d := d + 0) (M2 := 124) (as := [.ref 48, .long x1]) (rest := [.int x0, .ref 49]) (fun n => rfl) rfl (Nat.not_lt.mpr (Nat.le_of_ble_eq_true rfl)) (sX10_cut_48 (d) X x1 h _ hr3) (fun r hr => ?_)
      subst hr
      show ab_Ex X (d + 1) 123 22 [(0, .ref 48), (1, .int x0), (2, .long x1)] [.long r3, .int x0, .ref 49] ab_SH (ab_dD h) _
      obtain ⟨c4, hf⟩ := ab_ask_s hf
      refine ab_Ex.grd (c := x0 < 0 ∨ 40 ≤ (x0 : Int32).toNatClampNeg) (S := (23, [(0, .ref 48), (1, .int x0), (2, .long x1)], [], ab_dD (ab_wL h 49 (x0 : Int32).toNatClampNeg r3))) (fun n => rfl) c4 ?_
      obtain rfl := Option.some.inj hf
      exact ab_Ex.ret (fun n => rfl) rfl
set_option maxRecDepth 20000 in
theorem sX10_put_50 (d : Nat) (X : abX) (x0 : Int32) (x1 : Int64) (h : abJ) (z : abJ) (hf : fX10_put 50 x0 x1 h = some z) : ab_Ex X (d + 1) 123 0 [(0, .ref 50), (1, .int x0), (2, .long x1)] [] ab_SH (ab_dD h) (fun r => r = (none, ab_SH, ab_dD z)) := by
  unfold fX10_put at hf
  try simp only [Nat.reduceAdd] at hf
  refine ab_Ex.blk (k := 1) (pc' := 1) (lv' := [(0, .ref 50), (1, .int x0), (2, .long x1)]) (st' := [.int x0]) (sh' := ab_SH) (D' := ab_dD h) (fun n => rfl) ?_
  refine ab_Ex.ifc (c := x0 < 0) (SA := (23, [(0, .ref 50), (1, .int x0), (2, .long x1)], [], ab_dD h)) (SB := (4, [(0, .ref 50), (1, .int x0), (2, .long x1)], [], ab_dD h)) (fun n => rfl) (fun c1 => ?_) (fun c1 => ?_)
  · replace hf := (if_pos c1).symm.trans hf
    obtain rfl := Option.some.inj hf
    exact ab_Ex.ret (fun n => rfl) rfl
  · replace hf := (if_neg c1).symm.trans hf
    refine ab_Ex.blk (k := 3) (pc' := 9) (lv' := [(0, .ref 50), (1, .int x0), (2, .long x1)]) (st' := [.int ((h.1 50 2)), .int x0]) (sh' := ab_SH) (D' := ab_dD h) (fun n => rfl) ?_
    refine ab_Ex.ifc (c := (h.1 50 2) ≤ x0) (SA := (23, [(0, .ref 50), (1, .int x0), (2, .long x1)], [], ab_dD h)) (SB := (12, [(0, .ref 50), (1, .int x0), (2, .long x1)], [], ab_dD h)) (fun n => rfl) (fun c2 => ?_) (fun c2 => ?_)
    · replace hf := (if_pos c2).symm.trans hf
      obtain rfl := Option.some.inj hf
      exact ab_Ex.ret (fun n => rfl) rfl
    · replace hf := (if_neg c2).symm.trans hf
      refine ab_Ex.blk (k := 5) (pc' := 19) (lv' := [(0, .ref 50), (1, .int x0), (2, .long x1)]) (st' := [.long x1, .ref 50, .int x0, .ref 51]) (sh' := ab_SH) (D' := ab_dD h) (fun n => rfl) ?_
      obtain ⟨r3, hr3, hf⟩ := ab_bind_s hf
      refine ab_Ex.call (d := d + 0) (M2 := 124) (as := [.ref 50, .long x1]) (rest := [.int x0, .ref 51]) (fun n => rfl) rfl (Nat.not_lt.mpr (Nat.le_of_ble_eq_true rfl)) (sX10_cut_50 (d) X x1 h _ hr3) (fun r hr => ?_)
      subst hr
      show ab_Ex X (d + 1) 123 22 [(0, .ref 50), (1, .int x0), (2, .long x1)] [.long r3, .int x0, .ref 51] ab_SH (ab_dD h) _
      obtain ⟨c4, hf⟩ := ab_ask_s hf
      refine ab_Ex.grd (c := x0 < 0 ∨ 40 ≤ (x0 : Int32).toNatClampNeg) (S := (23, [(0, .ref 50), (1, .int x0), (2, .long x1)], [], ab_dD (ab_wL h 51 (x0 : Int32).toNatClampNeg r3))) (fun n => rfl) c4 ?_
      obtain rfl := Option.some.inj hf
      exact ab_Ex.ret (fun n => rfl) rfl
def fX11_feed (x0 : Int32) (x1 : Int32) (x2 : Int32) (x3 : Int32) (x4 : Int32) (h : abJ) : Option (Int32 × abJ) := if ((h.1 9 4) + 20) ≤ 900 then (fX6_append x0 h).bind (fun r2 => (fX6_append x1 r2).bind (fun r3 => (fX6_append x2 r3).bind (fun r4 => (fX6_append x3 r4).bind (fun r5 => (fX6_append x4 r5).bind (fun r6 => some (((r6).1 9 4), r6)))))) else some ((-5), h)
set_option maxRecDepth 20000 in
theorem sX11_feed (d : Nat) (X : abX) (x0 : Int32) (x1 : Int32) (x2 : Int32) (x3 : Int32) (x4 : Int32) (h : abJ) (z : (Int32 × abJ)) (hf : fX11_feed x0 x1 x2 x3 x4 h = some z) : ab_Ex X (d + 1) 126 0 [(0, .ref 0), (1, .int x0), (2, .int x1), (3, .int x2), (4, .int x3), (5, .int x4)] [] ab_SH (ab_dD h) (fun r => r = (some (.int z.1), ab_SH, ab_dD z.2)) := by
  unfold fX11_feed at hf
  refine ab_Ex.blk (k := 6) (pc' := 13) (lv' := [(0, .ref 0), (1, .int x0), (2, .int x1), (3, .int x2), (4, .int x3), (5, .int x4)]) (st' := [.int 900, .int (((h.1 9 4) + 20))]) (sh' := ab_SH) (D' := ab_dD h) (fun n => rfl) ?_
  refine ab_Ex.ifc (c := ((h.1 9 4) + 20) ≤ 900) (SA := (19, [(0, .ref 0), (1, .int x0), (2, .int x1), (3, .int x2), (4, .int x3), (5, .int x4)], [], ab_dD h)) (SB := (16, [(0, .ref 0), (1, .int x0), (2, .int x1), (3, .int x2), (4, .int x3), (5, .int x4)], [], ab_dD h)) (fun n => rfl) (fun c1 => ?_) (fun c1 => ?_)
  · replace hf := (if_pos c1).symm.trans hf
    refine ab_Ex.blk (k := 3) (pc' := 24) (lv' := [(0, .ref 0), (1, .int x0), (2, .int x1), (3, .int x2), (4, .int x3), (5, .int x4)]) (st' := [.int x0, .ref 9]) (sh' := ab_SH) (D' := ab_dD h) (fun n => rfl) ?_
    obtain ⟨r2, hr2, hf⟩ := ab_bind_s hf
    refine ab_Ex.call (d := d + 0) (M2 := 67) (as := [.ref 9, .int x0]) (rest := []) (fun n => rfl) rfl (Nat.not_lt.mpr (Nat.le_of_ble_eq_true rfl)) (sX6_append (d) X x0 h _ hr2) (fun r hr => ?_)
    subst hr
    show ab_Ex X (d + 1) 126 27 [(0, .ref 0), (1, .int x0), (2, .int x1), (3, .int x2), (4, .int x3), (5, .int x4)] [] ab_SH (ab_dD r2) _
    refine ab_Ex.blk (k := 3) (pc' := 32) (lv' := [(0, .ref 0), (1, .int x0), (2, .int x1), (3, .int x2), (4, .int x3), (5, .int x4)]) (st' := [.int x1, .ref 9]) (sh' := ab_SH) (D' := ab_dD r2) (fun n => rfl) ?_
    obtain ⟨r3, hr3, hf⟩ := ab_bind_s hf
    refine ab_Ex.call (d := d + 0) (M2 := 67) (as := [.ref 9, .int x1]) (rest := []) (fun n => rfl) rfl (Nat.not_lt.mpr (Nat.le_of_ble_eq_true rfl)) (sX6_append (d) X x1 r2 _ hr3) (fun r hr => ?_)
    subst hr
    show ab_Ex X (d + 1) 126 35 [(0, .ref 0), (1, .int x0), (2, .int x1), (3, .int x2), (4, .int x3), (5, .int x4)] [] ab_SH (ab_dD r3) _
    refine ab_Ex.blk (k := 3) (pc' := 40) (lv' := [(0, .ref 0), (1, .int x0), (2, .int x1), (3, .int x2), (4, .int x3), (5, .int x4)]) (st' := [.int x2, .ref 9]) (sh' := ab_SH) (D' := ab_dD r3) (fun n => rfl) ?_
    obtain ⟨r4, hr4, hf⟩ := ab_bind_s hf
    refine ab_Ex.call (d := d + 0) (M2 := 67) (as := [.ref 9, .int x2]) (rest := []) (fun n => rfl) rfl (Nat.not_lt.mpr (Nat.le_of_ble_eq_true rfl)) (sX6_append (d) X x2 r3 _ hr4) (fun r hr => ?_)
    subst hr
    show ab_Ex X (d + 1) 126 43 [(0, .ref 0), (1, .int x0), (2, .int x1), (3, .int x2), (4, .int x3), (5, .int x4)] [] ab_SH (ab_dD r4) _
    refine ab_Ex.blk (k := 3) (pc' := 49) (lv' := [(0, .ref 0), (1, .int x0), (2, .int x1), (3, .int x2), (4, .int x3), (5, .int x4)]) (st' := [.int x3, .ref 9]) (sh' := ab_SH) (D' := ab_dD r4) (fun n => rfl) ?_
    obtain ⟨r5, hr5, hf⟩ := ab_bind_s hf
    refine ab_Ex.call (d := d + 0) (M2 := 67) (as := [.ref 9, .int x3]) (rest := []) (fun n => rfl) rfl (Nat.not_lt.mpr (Nat.le_of_ble_eq_true rfl)) (sX6_append (d) X x3 r4 _ hr5) (fun r hr => ?_)
    subst hr
    show ab_Ex X (d + 1) 126 52 [(0, .ref 0), (1, .int x0), (2, .int x1), (3, .int x2), (4, .int x3), (5, .int x4)] [] ab_SH (ab_dD r5) _
    refine ab_Ex.blk (k := 3) (pc' := 58) (lv' := [(0, .ref 0), (1, .int x0), (2, .int x1), (3, .int x2), (4, .int x3), (5, .int x4)]) (st' := [.int x4, .ref 9]) (sh' := ab_SH) (D' := ab_dD r5) (fun n => rfl) ?_
    obtain ⟨r6, hr6, hf⟩ := ab_bind_s hf
    refine ab_Ex.call (d := d + 0) (M2 := 67) (as := [.ref 9, .int x4]) (rest := []) (fun n => rfl) rfl (Nat.not_lt.mpr (Nat.le_of_ble_eq_true rfl)) (sX6_append (d) X x4 r5 _ hr6) (fun r hr => ?_)
    subst hr
    show ab_Ex X (d + 1) 126 61 [(0, .ref 0), (1, .int x0), (2, .int x1), (3, .int x2), (4, .int x3), (5, .int x4)] [] ab_SH (ab_dD r6) _
    refine ab_Ex.blk (k := 3) (pc' := 68) (lv' := [(0, .ref 0), (1, .int x0), (2, .int x1), (3, .int x2), (4, .int x3), (5, .int x4)]) (st' := [.int (((r6).1 9 4))]) (sh' := ab_SH) (D' := ab_dD r6) (fun n => rfl) ?_
    obtain rfl := Option.some.inj hf
    exact ab_Ex.ret (fun n => rfl) rfl
  · replace hf := (if_neg c1).symm.trans hf
    refine ab_Ex.blk (k := 1) (pc' := 18) (lv' := [(0, .ref 0), (1, .int x0), (2, .int x1), (3, .int x2), (4, .int x3), (5, .int x4)]) (st' := [.int ((-5))]) (sh' := ab_SH) (D' := ab_dD h) (fun n => rfl) ?_
    obtain rfl := Option.some.inj hf
    exact ab_Ex.ret (fun n => rfl) rfl
def fX11_moor (x0 : Int32) (h : abJ) : Option (Int32 × abJ) := if x0 < 0 then some ((-3), h) else if x0 ≤ (h.1 9 4) then (fX6_read x0 h).bind (fun r3 => if (((ab_wI r3 9 4 0)).1 9 10) = 0 then (fX3_copy 1 5 (ab_wI r3 9 4 0)).bind (fun r5 => (fX9_copy 12 10 r5).bind (fun r6 => (fX7_forget (ab_wI r6 16 6 0)).bind (fun r7 => (fX7_prepare (((r7).1 12 2)) r7).bind (fun r8 => some (((r8).1 1 1), r8))))) else some (((-30) - (((ab_wI r3 9 4 0)).1 9 10)), (ab_wI r3 9 4 0))) else some ((-3), h)
set_option maxRecDepth 20000 in
theorem sX11_moor (d : Nat) (X : abX) (x0 : Int32) (h : abJ) (z : (Int32 × abJ)) (hf : fX11_moor x0 h = some z) : ab_Ex X (d + 110) 127 0 [(0, .ref 0), (1, .int x0)] [] ab_SH (ab_dD h) (fun r => r = (some (.int z.1), ab_SH, ab_dD z.2)) := by
  unfold fX11_moor at hf
  refine ab_Ex.blk (k := 1) (pc' := 1) (lv' := [(0, .ref 0), (1, .int x0)]) (st' := [.int x0]) (sh' := ab_SH) (D' := ab_dD h) (fun n => rfl) ?_
  refine ab_Ex.ifc (c := x0 < 0) (SA := (15, [(0, .ref 0), (1, .int x0)], [], ab_dD h)) (SB := (4, [(0, .ref 0), (1, .int x0)], [], ab_dD h)) (fun n => rfl) (fun c1 => ?_) (fun c1 => ?_)
  · replace hf := (if_pos c1).symm.trans hf
    refine ab_Ex.blk (k := 1) (pc' := 17) (lv' := []) (st' := [.int ((-3))]) (sh' := ab_SH) (D' := ab_dD h) (fun n => rfl) ?_
    obtain rfl := Option.some.inj hf
    exact ab_Ex.ret (fun n => rfl) rfl
  · replace hf := (if_neg c1).symm.trans hf
    refine ab_Ex.blk (k := 4) (pc' := 12) (lv' := [(0, .ref 0), (1, .int x0)]) (st' := [.int ((h.1 9 4)), .int x0]) (sh' := ab_SH) (D' := ab_dD h) (fun n => rfl) ?_
    refine ab_Ex.ifc (c := x0 ≤ (h.1 9 4)) (SA := (18, [(0, .ref 0), (1, .int x0)], [], ab_dD h)) (SB := (15, [(0, .ref 0), (1, .int x0)], [], ab_dD h)) (fun n => rfl) (fun c2 => ?_) (fun c2 => ?_)
    · replace hf := (if_pos c2).symm.trans hf
      refine ab_Ex.blk (k := 3) (pc' := 23) (lv' := [(0, .ref 0), (1, .int x0)]) (st' := [.int x0, .ref 9]) (sh' := ab_SH) (D' := ab_dD h) (fun n => rfl) ?_
      obtain ⟨r3, hr3, hf⟩ := ab_bind_s hf
      refine ab_Ex.call (d := d + 109) (M2 := 68) (as := [.ref 9, .int x0]) (rest := []) (fun n => rfl) rfl (Nat.not_lt.mpr (Nat.le_of_ble_eq_true rfl)) (sX6_read (d) X x0 h _ hr3) (fun r hr => ?_)
      subst hr
      show ab_Ex X (d + 110) 127 26 [(0, .ref 0), (1, .int x0)] [] ab_SH (ab_dD r3) _
      refine ab_Ex.blk (k := 7) (pc' := 41) (lv' := [(0, .ref 0), (1, .int x0)]) (st' := [.int ((((ab_wI r3 9 4 0)).1 9 10))]) (sh' := ab_SH) (D' := ab_dD (ab_wI r3 9 4 0)) (fun n => rfl) ?_
      refine ab_Ex.ifc (c := (((ab_wI r3 9 4 0)).1 9 10) = 0) (SA := (55, [(0, .ref 0), (1, .int x0)], [], ab_dD (ab_wI r3 9 4 0))) (SB := (44, [(0, .ref 0), (1, .int x0)], [], ab_dD (ab_wI r3 9 4 0))) (fun n => rfl) (fun c4 => ?_) (fun c4 => ?_)
      · replace hf := (if_pos c4).symm.trans hf
        refine ab_Ex.blk (k := 4) (pc' := 63) (lv' := [(0, .ref 0), (1, .int x0)]) (st' := [.ref 5, .ref 1]) (sh' := ab_SH) (D' := ab_dD (ab_wI r3 9 4 0)) (fun n => rfl) ?_
        obtain ⟨r5, hr5, hf⟩ := ab_bind_s hf
        refine ab_Ex.call (d := d + 109) (M2 := 33) (as := [.ref 1, .ref 5]) (rest := []) (fun n => rfl) rfl (Nat.not_lt.mpr (Nat.le_of_ble_eq_true rfl)) (sX3_copy_1_5 (d + 109) X  (ab_wI r3 9 4 0) _ hr5) (fun r hr => ?_)
        subst hr
        show ab_Ex X (d + 110) 127 66 [(0, .ref 0), (1, .int x0)] [] ab_SH (ab_dD r5) _
        refine ab_Ex.blk (k := 5) (pc' := 77) (lv' := [(0, .ref 0), (1, .int x0)]) (st' := [.ref 10, .ref 12]) (sh' := ab_SH) (D' := ab_dD r5) (fun n => rfl) ?_
        obtain ⟨r6, hr6, hf⟩ := ab_bind_s hf
        refine ab_Ex.call (d := d + 109) (M2 := 117) (as := [.ref 12, .ref 10]) (rest := []) (fun n => rfl) rfl (Nat.not_lt.mpr (Nat.le_of_ble_eq_true rfl)) (sX9_copy_12_10 (d + 109) X  r5 _ hr6) (fun r hr => ?_)
        subst hr
        show ab_Ex X (d + 110) 127 80 [(0, .ref 0), (1, .int x0)] [] ab_SH (ab_dD r6) _
        refine ab_Ex.blk (k := 6) (pc' := 92) (lv' := [(0, .ref 0), (1, .int x0)]) (st' := [.ref 13]) (sh' := ab_SH) (D' := ab_dD (ab_wI r6 16 6 0)) (fun n => rfl) ?_
        obtain ⟨r7, hr7, hf⟩ := ab_bind_s hf
        refine ab_Ex.call (d := d + 109) (M2 := 96) (as := [.ref 13]) (rest := []) (fun n => rfl) rfl (Nat.not_lt.mpr (Nat.le_of_ble_eq_true rfl)) (sX7_forget (d + 108) X  (ab_wI r6 16 6 0) _ hr7) (fun r hr => ?_)
        subst hr
        show ab_Ex X (d + 110) 127 95 [(0, .ref 0), (1, .int x0)] [] ab_SH (ab_dD r7) _
        refine ab_Ex.blk (k := 5) (pc' := 106) (lv' := [(0, .ref 0), (1, .int x0)]) (st' := [.int (((r7).1 12 2)), .ref 13]) (sh' := ab_SH) (D' := ab_dD r7) (fun n => rfl) ?_
        obtain ⟨r8, hr8, hf⟩ := ab_bind_s hf
        refine ab_Ex.call (d := d + 109) (M2 := 97) (as := [.ref 13, .int (((r7).1 12 2))]) (rest := []) (fun n => rfl) rfl (Nat.not_lt.mpr (Nat.le_of_ble_eq_true rfl)) (sX7_prepare (d + 106) X (((r7).1 12 2)) r7 _ hr8) (fun r hr => ?_)
        subst hr
        show ab_Ex X (d + 110) 127 109 [(0, .ref 0), (1, .int x0)] [] ab_SH (ab_dD r8) _
        refine ab_Ex.blk (k := 3) (pc' := 116) (lv' := [(0, .ref 0), (1, .int x0)]) (st' := [.int (((r8).1 1 1))]) (sh' := ab_SH) (D' := ab_dD r8) (fun n => rfl) ?_
        obtain rfl := Option.some.inj hf
        exact ab_Ex.ret (fun n => rfl) rfl
      · replace hf := (if_neg c4).symm.trans hf
        refine ab_Ex.blk (k := 5) (pc' := 54) (lv' := [(0, .ref 0), (1, .int x0)]) (st' := [.int (((-30) - (((ab_wI r3 9 4 0)).1 9 10)))]) (sh' := ab_SH) (D' := ab_dD (ab_wI r3 9 4 0)) (fun n => rfl) ?_
        obtain rfl := Option.some.inj hf
        exact ab_Ex.ret (fun n => rfl) rfl
    · replace hf := (if_neg c2).symm.trans hf
      refine ab_Ex.blk (k := 1) (pc' := 17) (lv' := []) (st' := [.int ((-3))]) (sh' := ab_SH) (D' := ab_dD h) (fun n => rfl) ?_
      obtain rfl := Option.some.inj hf
      exact ab_Ex.ret (fun n => rfl) rfl
def fX11_fault (x0 : Int32) (h : abJ) : Option Int32 := if x0 = 0 then some (h.1 9 10) else if x0 = 1 then some (h.1 9 11) else some (-1)
set_option maxRecDepth 20000 in
theorem sX11_fault (d : Nat) (X : abX) (x0 : Int32) (h : abJ) (z : Int32) (hf : fX11_fault x0 h = some z) : ab_Ex X (d + 0) 128 0 [(0, .ref 0), (1, .int x0)] [] ab_SH (ab_dD h) (fun r => r = (some (.int z), ab_SH, ab_dD h)) := by
  unfold fX11_fault at hf
  refine ab_Ex.blk (k := 1) (pc' := 1) (lv' := [(0, .ref 0), (1, .int x0)]) (st' := [.int x0]) (sh' := ab_SH) (D' := ab_dD h) (fun n => rfl) ?_
  refine ab_Ex.ifc (c := x0 = 0) (SA := (4, [(0, .ref 0), (1, .int x0)], [], ab_dD h)) (SB := (12, [(0, .ref 0), (1, .int x0)], [], ab_dD h)) (fun n => rfl) (fun c1 => ?_) (fun c1 => ?_)
  · replace hf := (if_pos c1).symm.trans hf
    refine ab_Ex.blk (k := 3) (pc' := 11) (lv' := [(0, .ref 0), (1, .int x0)]) (st' := [.int ((h.1 9 10))]) (sh' := ab_SH) (D' := ab_dD h) (fun n => rfl) ?_
    obtain rfl := Option.some.inj hf
    exact ab_Ex.ret (fun n => rfl) rfl
  · replace hf := (if_neg c1).symm.trans hf
    refine ab_Ex.blk (k := 2) (pc' := 14) (lv' := [(0, .ref 0), (1, .int x0)]) (st' := [.int 1, .int x0]) (sh' := ab_SH) (D' := ab_dD h) (fun n => rfl) ?_
    refine ab_Ex.ifc (c := x0 = 1) (SA := (17, [(0, .ref 0), (1, .int x0)], [], ab_dD h)) (SB := (27, [(0, .ref 0), (1, .int x0)], [], ab_dD h)) (fun n => rfl) (fun c2 => ?_) (fun c2 => ?_)
    · replace hf := (if_pos c2).symm.trans hf
      refine ab_Ex.blk (k := 4) (pc' := 28) (lv' := []) (st' := [.int ((h.1 9 11))]) (sh' := ab_SH) (D' := ab_dD h) (fun n => rfl) ?_
      obtain rfl := Option.some.inj hf
      exact ab_Ex.ret (fun n => rfl) rfl
    · replace hf := (if_neg c2).symm.trans hf
      refine ab_Ex.blk (k := 1) (pc' := 28) (lv' := []) (st' := [.int ((-1))]) (sh' := ab_SH) (D' := ab_dD h) (fun n => rfl) ?_
      obtain rfl := Option.some.inj hf
      exact ab_Ex.ret (fun n => rfl) rfl
def fX11_post (x0 : Int32) (x1 : Int32) (h : abJ) : Option Int32 := (fX3_has 1 x0 h).bind (fun r1 => if r1 = 0 then some (-2) else if x1 = 0 then (fX11_armOf ((h.1 12 1)) x0 h).bind (fun r4 => some r4) else if x1 = 1 then (fX3_roadsOf 1 x0 h).bind (fun r6 => some r6) else if x1 = 2 then (fX3_isHome x0 h).bind (fun r8 => if r8 = 0 then some 0 else some 1) else if x1 < 10 then some (-2) else (fX3_roadsOf 1 x0 h).bind (fun r11 => if x1 < (10 + r11) then (fX3_leadsTo x0 ((x1 - 10)) h).bind (fun r13 => some r13) else some (-2)))
set_option maxRecDepth 20000 in
theorem sX11_post (d : Nat) (X : abX) (x0 : Int32) (x1 : Int32) (h : abJ) (z : Int32) (hf : fX11_post x0 x1 h = some z) : ab_Ex X (d + 2) 129 0 [(0, .ref 0), (1, .int x0), (2, .int x1)] [] ab_SH (ab_dD h) (fun r => r = (some (.int z), ab_SH, ab_dD h)) := by
  unfold fX11_post at hf
  refine ab_Ex.blk (k := 3) (pc' := 5) (lv' := [(0, .ref 0), (1, .int x0), (2, .int x1)]) (st' := [.int x0, .ref 1]) (sh' := ab_SH) (D' := ab_dD h) (fun n => rfl) ?_
  obtain ⟨r1, hr1, hf⟩ := ab_bind_s hf
  refine ab_Ex.call (d := d + 1) (M2 := 34) (as := [.ref 1, .int x0]) (rest := []) (fun n => rfl) rfl (Nat.not_lt.mpr (Nat.le_of_ble_eq_true rfl)) (sX3_has_1 (d + 1) X x0 h _ hr1) (fun r hr => ?_)
  subst hr
  show ab_Ex X (d + 2) 129 8 [(0, .ref 0), (1, .int x0), (2, .int x1)] [.int r1] ab_SH (ab_dD h) _
  refine ab_Ex.ifc (c := r1 = 0) (SA := (11, [(0, .ref 0), (1, .int x0), (2, .int x1)], [], ab_dD h)) (SB := (14, [(0, .ref 0), (1, .int x0), (2, .int x1)], [], ab_dD h)) (fun n => rfl) (fun c2 => ?_) (fun c2 => ?_)
  · replace hf := (if_pos c2).symm.trans hf
    refine ab_Ex.blk (k := 1) (pc' := 13) (lv' := [(0, .ref 0), (1, .int x0), (2, .int x1)]) (st' := [.int ((-2))]) (sh' := ab_SH) (D' := ab_dD h) (fun n => rfl) ?_
    obtain rfl := Option.some.inj hf
    exact ab_Ex.ret (fun n => rfl) rfl
  · replace hf := (if_neg c2).symm.trans hf
    refine ab_Ex.blk (k := 1) (pc' := 15) (lv' := [(0, .ref 0), (1, .int x0), (2, .int x1)]) (st' := [.int x1]) (sh' := ab_SH) (D' := ab_dD h) (fun n => rfl) ?_
    refine ab_Ex.ifc (c := x1 = 0) (SA := (18, [(0, .ref 0), (1, .int x0), (2, .int x1)], [], ab_dD h)) (SB := (30, [(0, .ref 0), (1, .int x0), (2, .int x1)], [], ab_dD h)) (fun n => rfl) (fun c3 => ?_) (fun c3 => ?_)
    · replace hf := (if_pos c3).symm.trans hf
      refine ab_Ex.blk (k := 4) (pc' := 26) (lv' := [(0, .ref 0), (1, .int x0), (2, .int x1)]) (st' := [.int x0, .int ((h.1 12 1))]) (sh' := ab_SH) (D' := ab_dD h) (fun n => rfl) ?_
      obtain ⟨r4, hr4, hf⟩ := ab_bind_s hf
      refine ab_Ex.call (d := d + 1) (M2 := 172) (as := [.int ((h.1 12 1)), .int x0]) (rest := []) (fun n => rfl) rfl (Nat.not_lt.mpr (Nat.le_of_ble_eq_true rfl)) (sX11_armOf (d + 1) X ((h.1 12 1)) x0 h _ hr4) (fun r hr => ?_)
      subst hr
      show ab_Ex X (d + 2) 129 29 [(0, .ref 0), (1, .int x0), (2, .int x1)] [.int r4] ab_SH (ab_dD h) _
      obtain rfl := Option.some.inj hf
      exact ab_Ex.ret (fun n => rfl) rfl
    · replace hf := (if_neg c3).symm.trans hf
      refine ab_Ex.blk (k := 2) (pc' := 32) (lv' := [(0, .ref 0), (1, .int x0), (2, .int x1)]) (st' := [.int 1, .int x1]) (sh' := ab_SH) (D' := ab_dD h) (fun n => rfl) ?_
      refine ab_Ex.ifc (c := x1 = 1) (SA := (35, [(0, .ref 0), (1, .int x0), (2, .int x1)], [], ab_dD h)) (SB := (44, [(0, .ref 0), (1, .int x0), (2, .int x1)], [], ab_dD h)) (fun n => rfl) (fun c5 => ?_) (fun c5 => ?_)
      · replace hf := (if_pos c5).symm.trans hf
        refine ab_Ex.blk (k := 3) (pc' := 40) (lv' := [(0, .ref 0), (1, .int x0), (2, .int x1)]) (st' := [.int x0, .ref 1]) (sh' := ab_SH) (D' := ab_dD h) (fun n => rfl) ?_
        obtain ⟨r6, hr6, hf⟩ := ab_bind_s hf
        refine ab_Ex.call (d := d + 1) (M2 := 35) (as := [.ref 1, .int x0]) (rest := []) (fun n => rfl) rfl (Nat.not_lt.mpr (Nat.le_of_ble_eq_true rfl)) (sX3_roadsOf_1 (d + 1) X x0 h _ hr6) (fun r hr => ?_)
        subst hr
        show ab_Ex X (d + 2) 129 43 [(0, .ref 0), (1, .int x0), (2, .int x1)] [.int r6] ab_SH (ab_dD h) _
        obtain rfl := Option.some.inj hf
        exact ab_Ex.ret (fun n => rfl) rfl
      · replace hf := (if_neg c5).symm.trans hf
        refine ab_Ex.blk (k := 2) (pc' := 46) (lv' := [(0, .ref 0), (1, .int x0), (2, .int x1)]) (st' := [.int 2, .int x1]) (sh' := ab_SH) (D' := ab_dD h) (fun n => rfl) ?_
        refine ab_Ex.ifc (c := x1 = 2) (SA := (49, [(0, .ref 0), (1, .int x0), (2, .int x1)], [], ab_dD h)) (SB := (66, [(0, .ref 0), (1, .int x0), (2, .int x1)], [], ab_dD h)) (fun n => rfl) (fun c7 => ?_) (fun c7 => ?_)
        · replace hf := (if_pos c7).symm.trans hf
          refine ab_Ex.blk (k := 3) (pc' := 54) (lv' := [(0, .ref 0), (1, .int x0), (2, .int x1)]) (st' := [.int x0, .ref 1]) (sh' := ab_SH) (D' := ab_dD h) (fun n => rfl) ?_
          obtain ⟨r8, hr8, hf⟩ := ab_bind_s hf
          refine ab_Ex.call (d := d + 1) (M2 := 37) (as := [.ref 1, .int x0]) (rest := []) (fun n => rfl) rfl (Nat.not_lt.mpr (Nat.le_of_ble_eq_true rfl)) (sX3_isHome (d) X x0 h _ hr8) (fun r hr => ?_)
          subst hr
          show ab_Ex X (d + 2) 129 57 [(0, .ref 0), (1, .int x0), (2, .int x1)] [.int r8] ab_SH (ab_dD h) _
          refine ab_Ex.ifc (c := r8 = 0) (SA := (64, [(0, .ref 0), (1, .int x0), (2, .int x1)], [], ab_dD h)) (SB := (60, [(0, .ref 0), (1, .int x0), (2, .int x1)], [], ab_dD h)) (fun n => rfl) (fun c9 => ?_) (fun c9 => ?_)
          · replace hf := (if_pos c9).symm.trans hf
            refine ab_Ex.blk (k := 1) (pc' := 65) (lv' := []) (st' := [.int 0]) (sh' := ab_SH) (D' := ab_dD h) (fun n => rfl) ?_
            obtain rfl := Option.some.inj hf
            exact ab_Ex.ret (fun n => rfl) rfl
          · replace hf := (if_neg c9).symm.trans hf
            refine ab_Ex.blk (k := 2) (pc' := 65) (lv' := []) (st' := [.int 1]) (sh' := ab_SH) (D' := ab_dD h) (fun n => rfl) ?_
            obtain rfl := Option.some.inj hf
            exact ab_Ex.ret (fun n => rfl) rfl
        · replace hf := (if_neg c7).symm.trans hf
          refine ab_Ex.blk (k := 2) (pc' := 69) (lv' := [(0, .ref 0), (1, .int x0), (2, .int x1)]) (st' := [.int 10, .int x1]) (sh' := ab_SH) (D' := ab_dD h) (fun n => rfl) ?_
          refine ab_Ex.ifc (c := x1 < 10) (SA := (87, [(0, .ref 0), (1, .int x0), (2, .int x1)], [], ab_dD h)) (SB := (72, [(0, .ref 0), (1, .int x0), (2, .int x1)], [], ab_dD h)) (fun n => rfl) (fun c10 => ?_) (fun c10 => ?_)
          · replace hf := (if_pos c10).symm.trans hf
            refine ab_Ex.blk (k := 1) (pc' := 89) (lv' := []) (st' := [.int ((-2))]) (sh' := ab_SH) (D' := ab_dD h) (fun n => rfl) ?_
            obtain rfl := Option.some.inj hf
            exact ab_Ex.ret (fun n => rfl) rfl
          · replace hf := (if_neg c10).symm.trans hf
            refine ab_Ex.blk (k := 5) (pc' := 80) (lv' := [(0, .ref 0), (1, .int x0), (2, .int x1)]) (st' := [.int x0, .ref 1, .int 10, .int x1]) (sh' := ab_SH) (D' := ab_dD h) (fun n => rfl) ?_
            obtain ⟨r11, hr11, hf⟩ := ab_bind_s hf
            refine ab_Ex.call (d := d + 1) (M2 := 35) (as := [.ref 1, .int x0]) (rest := [.int 10, .int x1]) (fun n => rfl) rfl (Nat.not_lt.mpr (Nat.le_of_ble_eq_true rfl)) (sX3_roadsOf_1 (d + 1) X x0 h _ hr11) (fun r hr => ?_)
            subst hr
            show ab_Ex X (d + 2) 129 83 [(0, .ref 0), (1, .int x0), (2, .int x1)] [.int r11, .int 10, .int x1] ab_SH (ab_dD h) _
            refine ab_Ex.blk (k := 1) (pc' := 84) (lv' := [(0, .ref 0), (1, .int x0), (2, .int x1)]) (st' := [.int ((10 + r11)), .int x1]) (sh' := ab_SH) (D' := ab_dD h) (fun n => rfl) ?_
            refine ab_Ex.ifc (c := x1 < (10 + r11)) (SA := (90, [(0, .ref 0), (1, .int x0), (2, .int x1)], [], ab_dD h)) (SB := (87, [(0, .ref 0), (1, .int x0), (2, .int x1)], [], ab_dD h)) (fun n => rfl) (fun c12 => ?_) (fun c12 => ?_)
            · replace hf := (if_pos c12).symm.trans hf
              refine ab_Ex.blk (k := 6) (pc' := 99) (lv' := [(0, .ref 0), (1, .int x0), (2, .int x1)]) (st' := [.int ((x1 - 10)), .int x0, .ref 1]) (sh' := ab_SH) (D' := ab_dD h) (fun n => rfl) ?_
              obtain ⟨r13, hr13, hf⟩ := ab_bind_s hf
              refine ab_Ex.call (d := d + 1) (M2 := 36) (as := [.ref 1, .int x0, .int ((x1 - 10))]) (rest := []) (fun n => rfl) rfl (Nat.not_lt.mpr (Nat.le_of_ble_eq_true rfl)) (sX3_leadsTo (d) X x0 ((x1 - 10)) h _ hr13) (fun r hr => ?_)
              subst hr
              show ab_Ex X (d + 2) 129 102 [(0, .ref 0), (1, .int x0), (2, .int x1)] [.int r13] ab_SH (ab_dD h) _
              obtain rfl := Option.some.inj hf
              exact ab_Ex.ret (fun n => rfl) rfl
            · replace hf := (if_neg c12).symm.trans hf
              refine ab_Ex.blk (k := 1) (pc' := 89) (lv' := []) (st' := [.int ((-2))]) (sh' := ab_SH) (D' := ab_dD h) (fun n => rfl) ?_
              obtain rfl := Option.some.inj hf
              exact ab_Ex.ret (fun n => rfl) rfl
def fX11_by (x0 : Int32) (x1 : Int32) (h : abJ) : Option Int32 := (fX3_has 1 x0 h).bind (fun r1 => if r1 = 0 then some (-2) else if x1 < 0 then some (-2) else if x1 ≤ 1 then (fX11_armOf ((h.1 12 1)) x0 h).bind (fun r5 => (fX7_behind ((h.1 12 2)) x0 r5 h).bind (fun r6 => if r6 = (-1) then some (-5) else if x1 = 0 then some (r6 / 3) else some (r6 - r6 / 3 * 3))) else some (-2))
set_option maxRecDepth 20000 in
theorem sX11_by (d : Nat) (X : abX) (x0 : Int32) (x1 : Int32) (h : abJ) (z : Int32) (hf : fX11_by x0 x1 h = some z) : ab_Ex X (d + 1) 130 0 [(0, .ref 0), (1, .int x0), (2, .int x1)] [] ab_SH (ab_dD h) (fun r => r = (some (.int z), ab_SH, ab_dD h)) := by
  unfold fX11_by at hf
  refine ab_Ex.blk (k := 3) (pc' := 5) (lv' := [(0, .ref 0), (1, .int x0), (2, .int x1)]) (st' := [.int x0, .ref 1]) (sh' := ab_SH) (D' := ab_dD h) (fun n => rfl) ?_
  obtain ⟨r1, hr1, hf⟩ := ab_bind_s hf
  refine ab_Ex.call (d := d + 0) (M2 := 34) (as := [.ref 1, .int x0]) (rest := []) (fun n => rfl) rfl (Nat.not_lt.mpr (Nat.le_of_ble_eq_true rfl)) (sX3_has_1 (d) X x0 h _ hr1) (fun r hr => ?_)
  subst hr
  show ab_Ex X (d + 1) 130 8 [(0, .ref 0), (1, .int x0), (2, .int x1)] [.int r1] ab_SH (ab_dD h) _
  refine ab_Ex.ifc (c := r1 = 0) (SA := (20, [(0, .ref 0), (1, .int x0), (2, .int x1)], [], ab_dD h)) (SB := (11, [(0, .ref 0), (1, .int x0), (2, .int x1)], [], ab_dD h)) (fun n => rfl) (fun c2 => ?_) (fun c2 => ?_)
  · replace hf := (if_pos c2).symm.trans hf
    refine ab_Ex.blk (k := 1) (pc' := 22) (lv' := []) (st' := [.int ((-2))]) (sh' := ab_SH) (D' := ab_dD h) (fun n => rfl) ?_
    obtain rfl := Option.some.inj hf
    exact ab_Ex.ret (fun n => rfl) rfl
  · replace hf := (if_neg c2).symm.trans hf
    refine ab_Ex.blk (k := 1) (pc' := 12) (lv' := [(0, .ref 0), (1, .int x0), (2, .int x1)]) (st' := [.int x1]) (sh' := ab_SH) (D' := ab_dD h) (fun n => rfl) ?_
    refine ab_Ex.ifc (c := x1 < 0) (SA := (20, [(0, .ref 0), (1, .int x0), (2, .int x1)], [], ab_dD h)) (SB := (15, [(0, .ref 0), (1, .int x0), (2, .int x1)], [], ab_dD h)) (fun n => rfl) (fun c3 => ?_) (fun c3 => ?_)
    · replace hf := (if_pos c3).symm.trans hf
      refine ab_Ex.blk (k := 1) (pc' := 22) (lv' := []) (st' := [.int ((-2))]) (sh' := ab_SH) (D' := ab_dD h) (fun n => rfl) ?_
      obtain rfl := Option.some.inj hf
      exact ab_Ex.ret (fun n => rfl) rfl
    · replace hf := (if_neg c3).symm.trans hf
      refine ab_Ex.blk (k := 2) (pc' := 17) (lv' := [(0, .ref 0), (1, .int x0), (2, .int x1)]) (st' := [.int 1, .int x1]) (sh' := ab_SH) (D' := ab_dD h) (fun n => rfl) ?_
      refine ab_Ex.ifc (c := x1 ≤ 1) (SA := (23, [(0, .ref 0), (1, .int x0), (2, .int x1)], [], ab_dD h)) (SB := (20, [(0, .ref 0), (1, .int x0), (2, .int x1)], [], ab_dD h)) (fun n => rfl) (fun c4 => ?_) (fun c4 => ?_)
      · replace hf := (if_pos c4).symm.trans hf
        refine ab_Ex.blk (k := 10) (pc' := 43) (lv' := [(0, .ref 0), (1, .int x0), (2, .int x1)]) (st' := [.int x0, .int ((h.1 12 1)), .int x0, .int ((h.1 12 2)), .ref 13]) (sh' := ab_SH) (D' := ab_dD h) (fun n => rfl) ?_
        obtain ⟨r5, hr5, hf⟩ := ab_bind_s hf
        refine ab_Ex.call (d := d + 0) (M2 := 172) (as := [.int ((h.1 12 1)), .int x0]) (rest := [.int x0, .int ((h.1 12 2)), .ref 13]) (fun n => rfl) rfl (Nat.not_lt.mpr (Nat.le_of_ble_eq_true rfl)) (sX11_armOf (d) X ((h.1 12 1)) x0 h _ hr5) (fun r hr => ?_)
        subst hr
        show ab_Ex X (d + 1) 130 46 [(0, .ref 0), (1, .int x0), (2, .int x1)] [.int r5, .int x0, .int ((h.1 12 2)), .ref 13] ab_SH (ab_dD h) _
        obtain ⟨r6, hr6, hf⟩ := ab_bind_s hf
        refine ab_Ex.call (d := d + 0) (M2 := 98) (as := [.ref 13, .int ((h.1 12 2)), .int x0, .int r5]) (rest := []) (fun n => rfl) rfl (Nat.not_lt.mpr (Nat.le_of_ble_eq_true rfl)) (sX7_behind (d) X ((h.1 12 2)) x0 r5 h _ hr6) (fun r hr => ?_)
        subst hr
        show ab_Ex X (d + 1) 130 49 [(0, .ref 0), (1, .int x0), (2, .int x1)] [.int r6] ab_SH (ab_dD h) _
        refine ab_Ex.blk (k := 3) (pc' := 52) (lv' := [(3, .int r6), (0, .ref 0), (1, .int x0), (2, .int x1)]) (st' := [.int ((-1)), .int r6]) (sh' := ab_SH) (D' := ab_dD h) (fun n => rfl) ?_
        refine ab_Ex.ifc (c := r6 = (-1)) (SA := (55, [(3, .int r6), (0, .ref 0), (1, .int x0), (2, .int x1)], [], ab_dD h)) (SB := (58, [(3, .int r6), (0, .ref 0), (1, .int x0), (2, .int x1)], [], ab_dD h)) (fun n => rfl) (fun c7 => ?_) (fun c7 => ?_)
        · replace hf := (if_pos c7).symm.trans hf
          refine ab_Ex.blk (k := 1) (pc' := 57) (lv' := [(3, .int r6), (0, .ref 0), (1, .int x0), (2, .int x1)]) (st' := [.int ((-5))]) (sh' := ab_SH) (D' := ab_dD h) (fun n => rfl) ?_
          obtain rfl := Option.some.inj hf
          exact ab_Ex.ret (fun n => rfl) rfl
        · replace hf := (if_neg c7).symm.trans hf
          refine ab_Ex.blk (k := 1) (pc' := 59) (lv' := [(3, .int r6), (0, .ref 0), (1, .int x0), (2, .int x1)]) (st' := [.int x1]) (sh' := ab_SH) (D' := ab_dD h) (fun n => rfl) ?_
          refine ab_Ex.ifc (c := x1 = 0) (SA := (62, [(3, .int r6), (0, .ref 0), (1, .int x0), (2, .int x1)], [], ab_dD h)) (SB := (68, [(3, .int r6), (0, .ref 0), (1, .int x0), (2, .int x1)], [], ab_dD h)) (fun n => rfl) (fun c8 => ?_) (fun c8 => ?_)
          · replace hf := (if_pos c8).symm.trans hf
            refine ab_Ex.blk (k := 2) (pc' := 64) (lv' := [(3, .int r6), (0, .ref 0), (1, .int x0), (2, .int x1)]) (st' := [.int 3, .int r6]) (sh' := ab_SH) (D' := ab_dD h) (fun n => rfl) ?_
            refine ab_Ex.blk (k := 1) (pc' := 65) (lv' := [(3, .int r6), (0, .ref 0), (1, .int x0), (2, .int x1)]) (st' := [.int ((r6 / 3))]) (sh' := ab_SH) (D' := ab_dD h) (fun n => rfl) ?_
            refine ab_Ex.blk (k := 1) (pc' := 71) (lv' := []) (st' := [.int ((r6 / 3))]) (sh' := ab_SH) (D' := ab_dD h) (fun n => rfl) ?_
            obtain rfl := Option.some.inj hf
            exact ab_Ex.ret (fun n => rfl) rfl
          · replace hf := (if_neg c8).symm.trans hf
            refine ab_Ex.blk (k := 2) (pc' := 70) (lv' := [(3, .int r6), (0, .ref 0), (1, .int x0), (2, .int x1)]) (st' := [.int 3, .int r6]) (sh' := ab_SH) (D' := ab_dD h) (fun n => rfl) ?_
            refine ab_Ex.blk (k := 1) (pc' := 71) (lv' := []) (st' := [.int ((r6 - r6 / 3 * 3))]) (sh' := ab_SH) (D' := ab_dD h) (fun n => rfl) ?_
            obtain rfl := Option.some.inj hf
            exact ab_Ex.ret (fun n => rfl) rfl
      · replace hf := (if_neg c4).symm.trans hf
        refine ab_Ex.blk (k := 1) (pc' := 22) (lv' := []) (st' := [.int ((-2))]) (sh' := ab_SH) (D' := ab_dD h) (fun n => rfl) ?_
        obtain rfl := Option.some.inj hf
        exact ab_Ex.ret (fun n => rfl) rfl
def fX11_ended (x0 : Int32) (x1 : Int32) (h : abJ) : Option (Int32 × abJ) := if x0 = 0 then (fX0_end 1 h).bind (fun r2 => some (x1, r2)) else some (((-10) - x0), h)
set_option maxRecDepth 20000 in
theorem sX11_ended (d : Nat) (X : abX) (x0 : Int32) (x1 : Int32) (h : abJ) (z : (Int32 × abJ)) (hf : fX11_ended x0 x1 h = some z) : ab_Ex X (d + 2) 169 0 [(0, .ref 0), (1, .int x0), (2, .int x1)] [] ab_SH (ab_dD h) (fun r => r = (some (.int z.1), ab_SH, ab_dD z.2)) := by
  unfold fX11_ended at hf
  refine ab_Ex.blk (k := 1) (pc' := 1) (lv' := [(0, .ref 0), (1, .int x0), (2, .int x1)]) (st' := [.int x0]) (sh' := ab_SH) (D' := ab_dD h) (fun n => rfl) ?_
  refine ab_Ex.ifc (c := x0 = 0) (SA := (9, [(0, .ref 0), (1, .int x0), (2, .int x1)], [], ab_dD h)) (SB := (4, [(0, .ref 0), (1, .int x0), (2, .int x1)], [], ab_dD h)) (fun n => rfl) (fun c1 => ?_) (fun c1 => ?_)
  · replace hf := (if_pos c1).symm.trans hf
    refine ab_Ex.blk (k := 3) (pc' := 14) (lv' := [(0, .ref 0), (1, .int x0), (2, .int x1)]) (st' := [.int 1, .ref 16]) (sh' := ab_SH) (D' := ab_dD h) (fun n => rfl) ?_
    obtain ⟨r2, hr2, hf⟩ := ab_bind_s hf
    refine ab_Ex.call (d := d + 1) (M2 := 2) (as := [.ref 16, .int 1]) (rest := []) (fun n => rfl) rfl (Nat.not_lt.mpr (Nat.le_of_ble_eq_true rfl)) (sX0_end (d) X 1 h _ hr2) (fun r hr => ?_)
    subst hr
    show ab_Ex X (d + 2) 169 17 [(0, .ref 0), (1, .int x0), (2, .int x1)] [] ab_SH (ab_dD r2) _
    refine ab_Ex.blk (k := 1) (pc' := 18) (lv' := [(0, .ref 0), (1, .int x0), (2, .int x1)]) (st' := [.int x1]) (sh' := ab_SH) (D' := ab_dD r2) (fun n => rfl) ?_
    obtain rfl := Option.some.inj hf
    exact ab_Ex.ret (fun n => rfl) rfl
  · replace hf := (if_neg c1).symm.trans hf
    refine ab_Ex.blk (k := 3) (pc' := 8) (lv' := [(0, .ref 0), (1, .int x0), (2, .int x1)]) (st' := [.int (((-10) - x0))]) (sh' := ab_SH) (D' := ab_dD h) (fun n => rfl) ?_
    obtain rfl := Option.some.inj hf
    exact ab_Ex.ret (fun n => rfl) rfl
def fX11_step  (h : abJ) : Option (Int32 × abJ) := (fX0_begin h).bind (fun r1 => (fX0_goOn 12 r1).bind (fun r2 => (fX11_ended (r2.1) (((r2.2).1 12 0)) r2.2).bind (fun r3 => some (r3.1, r3.2))))
set_option maxRecDepth 20000 in
theorem sX11_step (d : Nat) (X : abX)  (h : abJ) (z : (Int32 × abJ)) (hf : fX11_step  h = some z) : ab_Ex X (d + 4) 131 0 [(0, .ref 0)] [] ab_SH (ab_dD h) (fun r => r = (some (.int z.1), ab_SH, ab_dD z.2)) := by
  unfold fX11_step at hf
  refine ab_Ex.blk (k := 2) (pc' := 4) (lv' := [(0, .ref 0)]) (st' := [.ref 16]) (sh' := ab_SH) (D' := ab_dD h) (fun n => rfl) ?_
  obtain ⟨r1, hr1, hf⟩ := ab_bind_s hf
  refine ab_Ex.call (d := d + 3) (M2 := 1) (as := [.ref 16]) (rest := []) (fun n => rfl) rfl (Nat.not_lt.mpr (Nat.le_of_ble_eq_true rfl)) (sX0_begin (d + 2) X  h _ hr1) (fun r hr => ?_)
  subst hr
  show ab_Ex X (d + 4) 131 7 [(0, .ref 0)] [] ab_SH (ab_dD r1) _
  refine ab_Ex.blk (k := 4) (pc' := 15) (lv' := [(0, .ref 0)]) (st' := [.ref 12, .ref 16]) (sh' := ab_SH) (D' := ab_dD r1) (fun n => rfl) ?_
  obtain ⟨r2, hr2, hf⟩ := ab_bind_s hf
  refine ab_Ex.call (d := d + 3) (M2 := 4) (as := [.ref 16, .ref 12]) (rest := []) (fun n => rfl) rfl (Nat.not_lt.mpr (Nat.le_of_ble_eq_true rfl)) (sX0_goOn_12 (d) X  r1 _ hr2) (fun r hr => ?_)
  subst hr
  show ab_Ex X (d + 4) 131 18 [(0, .ref 0)] [.int r2.1] ab_SH (ab_dD r2.2) _
  refine ab_Ex.blk (k := 6) (pc' := 28) (lv' := [(1, .int r2.1), (0, .ref 0)]) (st' := [.int (((r2.2).1 12 0)), .int r2.1, .ref 0]) (sh' := ab_SH) (D' := ab_dD r2.2) (fun n => rfl) ?_
  obtain ⟨r3, hr3, hf⟩ := ab_bind_s hf
  refine ab_Ex.call (d := d + 3) (M2 := 169) (as := [.ref 0, .int r2.1, .int (((r2.2).1 12 0))]) (rest := []) (fun n => rfl) rfl (Nat.not_lt.mpr (Nat.le_of_ble_eq_true rfl)) (sX11_ended (d + 1) X (r2.1) (((r2.2).1 12 0)) r2.2 _ hr3) (fun r hr => ?_)
  subst hr
  show ab_Ex X (d + 4) 131 31 [(1, .int r2.1), (0, .ref 0)] [.int r3.1] ab_SH (ab_dD r3.2) _
  obtain rfl := Option.some.inj hf
  exact ab_Ex.ret (fun n => rfl) rfl
def fX11_steps_L23   : Nat → Int32 → Int32 → abJ → Option (Int32 × abJ)
  | 0, _, _, _ => none
  | n + 1, y1, y2, h => if y1 ≤ y2 then (fX0_end y2 h).bind (fun r5 => some (y2, r5)) else (fX0_goOn 12 h).bind (fun r6 => if r6.1 = 0 then fX11_steps_L23 n y1 ((y2 + 1)) r6.2 else (fX0_end y2 r6.2).bind (fun r8 => some (y2, r8)))
def fX11_steps (x0 : Int32) (h : abJ) : Option (Int32 × abJ) := if x0 < 1 then some ((-3), h) else if x0 ≤ 99 then (fX0_begin h).bind (fun r3 => fX11_steps_L23 ab_N x0 0 r3) else some ((-3), h)
set_option maxRecDepth 20000 in
theorem sX11_steps_L23 (d : Nat) (X : abX)   : ∀ (n : Nat), ∀ (y1 : Int32) (y2 : Int32) (h : abJ) (z : (Int32 × abJ)), fX11_steps_L23 n y1 y2 h = some z → ab_Ex X (d + 4) 132 23 [(0, .ref 0), (1, .int y1), (2, .int y2)] [] ab_SH (ab_dD h) (fun r => r = (some (.int z.1), ab_SH, ab_dD z.2)) := by
  intro n
  induction n with
  | zero => intro y1 y2 h z hf; cases hf
  | succ n ih =>
    intro y1 y2 h z hf
    rw [fX11_steps_L23] at hf
    refine ab_Ex.blk (k := 2) (pc' := 25) (lv' := [(0, .ref 0), (1, .int y1), (2, .int y2)]) (st' := [.int y1, .int y2]) (sh' := ab_SH) (D' := ab_dD h) (fun n => rfl) ?_
    refine ab_Ex.ifc (c := y1 ≤ y2) (SA := (48, [(0, .ref 0), (1, .int y1), (2, .int y2)], [], ab_dD h)) (SB := (28, [(0, .ref 0), (1, .int y1), (2, .int y2)], [], ab_dD h)) (fun n => rfl) (fun c4 => ?_) (fun c4 => ?_)
    · replace hf := (if_pos c4).symm.trans hf
      refine ab_Ex.blk (k := 3) (pc' := 53) (lv' := [(0, .ref 0), (2, .int y2)]) (st' := [.int y2, .ref 16]) (sh' := ab_SH) (D' := ab_dD h) (fun n => rfl) ?_
      obtain ⟨r5, hr5, hf⟩ := ab_bind_s hf
      refine ab_Ex.call (d := d + 3) (M2 := 2) (as := [.ref 16, .int y2]) (rest := []) (fun n => rfl) rfl (Nat.not_lt.mpr (Nat.le_of_ble_eq_true rfl)) (sX0_end (d + 2) X y2 h _ hr5) (fun r hr => ?_)
      subst hr
      show ab_Ex X (d + 4) 132 56 [(0, .ref 0), (2, .int y2)] [] ab_SH (ab_dD r5) _
      refine ab_Ex.blk (k := 1) (pc' := 57) (lv' := [(0, .ref 0), (2, .int y2)]) (st' := [.int y2]) (sh' := ab_SH) (D' := ab_dD r5) (fun n => rfl) ?_
      obtain rfl := Option.some.inj hf
      exact ab_Ex.ret (fun n => rfl) rfl
    · replace hf := (if_neg c4).symm.trans hf
      refine ab_Ex.blk (k := 4) (pc' := 36) (lv' := [(0, .ref 0), (1, .int y1), (2, .int y2)]) (st' := [.ref 12, .ref 16]) (sh' := ab_SH) (D' := ab_dD h) (fun n => rfl) ?_
      obtain ⟨r6, hr6, hf⟩ := ab_bind_s hf
      refine ab_Ex.call (d := d + 3) (M2 := 4) (as := [.ref 16, .ref 12]) (rest := []) (fun n => rfl) rfl (Nat.not_lt.mpr (Nat.le_of_ble_eq_true rfl)) (sX0_goOn_12 (d) X  h _ hr6) (fun r hr => ?_)
      subst hr
      show ab_Ex X (d + 4) 132 39 [(0, .ref 0), (1, .int y1), (2, .int y2)] [.int r6.1] ab_SH (ab_dD r6.2) _
      refine ab_Ex.ifc (c := r6.1 = 0) (SA := (42, [(0, .ref 0), (1, .int y1), (2, .int y2)], [], ab_dD r6.2)) (SB := (48, [(0, .ref 0), (1, .int y1), (2, .int y2)], [], ab_dD r6.2)) (fun n => rfl) (fun c7 => ?_) (fun c7 => ?_)
      · replace hf := (if_pos c7).symm.trans hf
        refine ab_Ex.blk (k := 2) (pc' := 23) (lv' := [(0, .ref 0), (1, .int y1), (2, .int ((y2 + 1)))]) (st' := []) (sh' := ab_SH) (D' := ab_dD r6.2) (fun n => rfl) ?_
        exact ih y1 ((y2 + 1)) r6.2 _ hf
      · replace hf := (if_neg c7).symm.trans hf
        refine ab_Ex.blk (k := 3) (pc' := 53) (lv' := [(0, .ref 0), (2, .int y2)]) (st' := [.int y2, .ref 16]) (sh' := ab_SH) (D' := ab_dD r6.2) (fun n => rfl) ?_
        obtain ⟨r8, hr8, hf⟩ := ab_bind_s hf
        refine ab_Ex.call (d := d + 3) (M2 := 2) (as := [.ref 16, .int y2]) (rest := []) (fun n => rfl) rfl (Nat.not_lt.mpr (Nat.le_of_ble_eq_true rfl)) (sX0_end (d + 2) X y2 r6.2 _ hr8) (fun r hr => ?_)
        subst hr
        show ab_Ex X (d + 4) 132 56 [(0, .ref 0), (2, .int y2)] [] ab_SH (ab_dD r8) _
        refine ab_Ex.blk (k := 1) (pc' := 57) (lv' := [(0, .ref 0), (2, .int y2)]) (st' := [.int y2]) (sh' := ab_SH) (D' := ab_dD r8) (fun n => rfl) ?_
        obtain rfl := Option.some.inj hf
        exact ab_Ex.ret (fun n => rfl) rfl
set_option maxRecDepth 20000 in
theorem sX11_steps (d : Nat) (X : abX) (x0 : Int32) (h : abJ) (z : (Int32 × abJ)) (hf : fX11_steps x0 h = some z) : ab_Ex X (d + 4) 132 0 [(0, .ref 0), (1, .int x0)] [] ab_SH (ab_dD h) (fun r => r = (some (.int z.1), ab_SH, ab_dD z.2)) := by
  unfold fX11_steps at hf
  refine ab_Ex.blk (k := 2) (pc' := 2) (lv' := [(0, .ref 0), (1, .int x0)]) (st' := [.int 1, .int x0]) (sh' := ab_SH) (D' := ab_dD h) (fun n => rfl) ?_
  refine ab_Ex.ifc (c := x0 < 1) (SA := (11, [(0, .ref 0), (1, .int x0)], [], ab_dD h)) (SB := (5, [(0, .ref 0), (1, .int x0)], [], ab_dD h)) (fun n => rfl) (fun c1 => ?_) (fun c1 => ?_)
  · replace hf := (if_pos c1).symm.trans hf
    refine ab_Ex.blk (k := 1) (pc' := 13) (lv' := []) (st' := [.int ((-3))]) (sh' := ab_SH) (D' := ab_dD h) (fun n => rfl) ?_
    obtain rfl := Option.some.inj hf
    exact ab_Ex.ret (fun n => rfl) rfl
  · replace hf := (if_neg c1).symm.trans hf
    refine ab_Ex.blk (k := 2) (pc' := 8) (lv' := [(0, .ref 0), (1, .int x0)]) (st' := [.int 99, .int x0]) (sh' := ab_SH) (D' := ab_dD h) (fun n => rfl) ?_
    refine ab_Ex.ifc (c := x0 ≤ 99) (SA := (14, [(0, .ref 0), (1, .int x0)], [], ab_dD h)) (SB := (11, [(0, .ref 0), (1, .int x0)], [], ab_dD h)) (fun n => rfl) (fun c2 => ?_) (fun c2 => ?_)
    · replace hf := (if_pos c2).symm.trans hf
      refine ab_Ex.blk (k := 2) (pc' := 18) (lv' := [(0, .ref 0), (1, .int x0)]) (st' := [.ref 16]) (sh' := ab_SH) (D' := ab_dD h) (fun n => rfl) ?_
      obtain ⟨r3, hr3, hf⟩ := ab_bind_s hf
      refine ab_Ex.call (d := d + 3) (M2 := 1) (as := [.ref 16]) (rest := []) (fun n => rfl) rfl (Nat.not_lt.mpr (Nat.le_of_ble_eq_true rfl)) (sX0_begin (d + 2) X  h _ hr3) (fun r hr => ?_)
      subst hr
      show ab_Ex X (d + 4) 132 21 [(0, .ref 0), (1, .int x0)] [] ab_SH (ab_dD r3) _
      refine ab_Ex.blk (k := 2) (pc' := 23) (lv' := [(0, .ref 0), (1, .int x0), (2, .int 0)]) (st' := []) (sh' := ab_SH) (D' := ab_dD r3) (fun n => rfl) ?_
      exact sX11_steps_L23 d X  ab_N x0 0 r3 _ hf
    · replace hf := (if_neg c2).symm.trans hf
      refine ab_Ex.blk (k := 1) (pc' := 13) (lv' := []) (st' := [.int ((-3))]) (sh' := ab_SH) (D' := ab_dD h) (fun n => rfl) ?_
      obtain rfl := Option.some.inj hf
      exact ab_Ex.ret (fun n => rfl) rfl
def fX11_turn (x0 : Int32) (x1 : Int32) (h : abJ) : Option (Int32 × abJ) := (fX0_begin h).bind (fun r1 => (fX11_armOf (((r1).1 12 1)) x0 r1).bind (fun r2 => (fX0_turnArm 12 x0 x1 r1).bind (fun r3 => (fX11_ended (r3.1) r2 r3.2).bind (fun r4 => some (r4.1, r4.2)))))
set_option maxRecDepth 20000 in
theorem sX11_turn (d : Nat) (X : abX) (x0 : Int32) (x1 : Int32) (h : abJ) (z : (Int32 × abJ)) (hf : fX11_turn x0 x1 h = some z) : ab_Ex X (d + 3) 133 0 [(0, .ref 0), (1, .int x0), (2, .int x1)] [] ab_SH (ab_dD h) (fun r => r = (some (.int z.1), ab_SH, ab_dD z.2)) := by
  unfold fX11_turn at hf
  refine ab_Ex.blk (k := 2) (pc' := 4) (lv' := [(0, .ref 0), (1, .int x0), (2, .int x1)]) (st' := [.ref 16]) (sh' := ab_SH) (D' := ab_dD h) (fun n => rfl) ?_
  obtain ⟨r1, hr1, hf⟩ := ab_bind_s hf
  refine ab_Ex.call (d := d + 2) (M2 := 1) (as := [.ref 16]) (rest := []) (fun n => rfl) rfl (Nat.not_lt.mpr (Nat.le_of_ble_eq_true rfl)) (sX0_begin (d + 1) X  h _ hr1) (fun r hr => ?_)
  subst hr
  show ab_Ex X (d + 3) 133 7 [(0, .ref 0), (1, .int x0), (2, .int x1)] [] ab_SH (ab_dD r1) _
  refine ab_Ex.blk (k := 4) (pc' := 15) (lv' := [(0, .ref 0), (1, .int x0), (2, .int x1)]) (st' := [.int x0, .int (((r1).1 12 1))]) (sh' := ab_SH) (D' := ab_dD r1) (fun n => rfl) ?_
  obtain ⟨r2, hr2, hf⟩ := ab_bind_s hf
  refine ab_Ex.call (d := d + 2) (M2 := 172) (as := [.int (((r1).1 12 1)), .int x0]) (rest := []) (fun n => rfl) rfl (Nat.not_lt.mpr (Nat.le_of_ble_eq_true rfl)) (sX11_armOf (d + 2) X (((r1).1 12 1)) x0 r1 _ hr2) (fun r hr => ?_)
  subst hr
  show ab_Ex X (d + 3) 133 18 [(0, .ref 0), (1, .int x0), (2, .int x1)] [.int r2] ab_SH (ab_dD r1) _
  refine ab_Ex.blk (k := 8) (pc' := 30) (lv' := [(3, .int r2), (0, .ref 0), (1, .int x0), (2, .int x1)]) (st' := [.int x1, .int x0, .ref 12, .ref 16, .ref 0]) (sh' := ab_SH) (D' := ab_dD r1) (fun n => rfl) ?_
  obtain ⟨r3, hr3, hf⟩ := ab_bind_s hf
  refine ab_Ex.call (d := d + 2) (M2 := 5) (as := [.ref 16, .ref 12, .int x0, .int x1]) (rest := [.ref 0]) (fun n => rfl) rfl (Nat.not_lt.mpr (Nat.le_of_ble_eq_true rfl)) (sX0_turnArm_12 (d) X x0 x1 r1 _ hr3) (fun r hr => ?_)
  subst hr
  show ab_Ex X (d + 3) 133 33 [(3, .int r2), (0, .ref 0), (1, .int x0), (2, .int x1)] [.int r3.1, .ref 0] ab_SH (ab_dD r3.2) _
  refine ab_Ex.blk (k := 1) (pc' := 34) (lv' := [(3, .int r2), (0, .ref 0), (1, .int x0), (2, .int x1)]) (st' := [.int r2, .int r3.1, .ref 0]) (sh' := ab_SH) (D' := ab_dD r3.2) (fun n => rfl) ?_
  obtain ⟨r4, hr4, hf⟩ := ab_bind_s hf
  refine ab_Ex.call (d := d + 2) (M2 := 169) (as := [.ref 0, .int r3.1, .int r2]) (rest := []) (fun n => rfl) rfl (Nat.not_lt.mpr (Nat.le_of_ble_eq_true rfl)) (sX11_ended (d) X (r3.1) r2 r3.2 _ hr4) (fun r hr => ?_)
  subst hr
  show ab_Ex X (d + 3) 133 37 [(3, .int r2), (0, .ref 0), (1, .int x0), (2, .int x1)] [.int r4.1] ab_SH (ab_dD r4.2) _
  obtain rfl := Option.some.inj hf
  exact ab_Ex.ret (fun n => rfl) rfl
def fX11_setsOut (x0 : Int32) (h : abJ) : Option (Int32 × abJ) := (fX0_begin h).bind (fun r1 => (fX0_setOut 12 x0 r1).bind (fun r2 => (fX11_ended (r2.1) (((r1).1 12 0)) r2.2).bind (fun r3 => some (r3.1, r3.2))))
set_option maxRecDepth 20000 in
theorem sX11_setsOut (d : Nat) (X : abX) (x0 : Int32) (h : abJ) (z : (Int32 × abJ)) (hf : fX11_setsOut x0 h = some z) : ab_Ex X (d + 3) 134 0 [(0, .ref 0), (1, .int x0)] [] ab_SH (ab_dD h) (fun r => r = (some (.int z.1), ab_SH, ab_dD z.2)) := by
  unfold fX11_setsOut at hf
  refine ab_Ex.blk (k := 2) (pc' := 4) (lv' := [(0, .ref 0), (1, .int x0)]) (st' := [.ref 16]) (sh' := ab_SH) (D' := ab_dD h) (fun n => rfl) ?_
  obtain ⟨r1, hr1, hf⟩ := ab_bind_s hf
  refine ab_Ex.call (d := d + 2) (M2 := 1) (as := [.ref 16]) (rest := []) (fun n => rfl) rfl (Nat.not_lt.mpr (Nat.le_of_ble_eq_true rfl)) (sX0_begin (d + 1) X  h _ hr1) (fun r hr => ?_)
  subst hr
  show ab_Ex X (d + 3) 134 7 [(0, .ref 0), (1, .int x0)] [] ab_SH (ab_dD r1) _
  refine ab_Ex.blk (k := 10) (pc' := 25) (lv' := [(2, .int (((r1).1 12 0))), (0, .ref 0), (1, .int x0)]) (st' := [.int x0, .ref 12, .ref 16, .ref 0]) (sh' := ab_SH) (D' := ab_dD r1) (fun n => rfl) ?_
  obtain ⟨r2, hr2, hf⟩ := ab_bind_s hf
  refine ab_Ex.call (d := d + 2) (M2 := 6) (as := [.ref 16, .ref 12, .int x0]) (rest := [.ref 0]) (fun n => rfl) rfl (Nat.not_lt.mpr (Nat.le_of_ble_eq_true rfl)) (sX0_setOut_12 (d + 1) X x0 r1 _ hr2) (fun r hr => ?_)
  subst hr
  show ab_Ex X (d + 3) 134 28 [(2, .int (((r1).1 12 0))), (0, .ref 0), (1, .int x0)] [.int r2.1, .ref 0] ab_SH (ab_dD r2.2) _
  refine ab_Ex.blk (k := 1) (pc' := 29) (lv' := [(2, .int (((r1).1 12 0))), (0, .ref 0), (1, .int x0)]) (st' := [.int (((r1).1 12 0)), .int r2.1, .ref 0]) (sh' := ab_SH) (D' := ab_dD r2.2) (fun n => rfl) ?_
  obtain ⟨r3, hr3, hf⟩ := ab_bind_s hf
  refine ab_Ex.call (d := d + 2) (M2 := 169) (as := [.ref 0, .int r2.1, .int (((r1).1 12 0))]) (rest := []) (fun n => rfl) rfl (Nat.not_lt.mpr (Nat.le_of_ble_eq_true rfl)) (sX11_ended (d) X (r2.1) (((r1).1 12 0)) r2.2 _ hr3) (fun r hr => ?_)
  subst hr
  show ab_Ex X (d + 3) 134 32 [(2, .int (((r1).1 12 0))), (0, .ref 0), (1, .int x0)] [.int r3.1] ab_SH (ab_dD r3.2) _
  obtain rfl := Option.some.inj hf
  exact ab_Ex.ret (fun n => rfl) rfl
def fX11_fog (x0 : Int32) (h : abJ) : Option (Int32 × abJ) := (fX0_begin h).bind (fun r1 => (fX0_befog 12 x0 r1).bind (fun r2 => (fX11_ended (r2.1) (((r1).1 12 2)) r2.2).bind (fun r3 => some (r3.1, r3.2))))
set_option maxRecDepth 20000 in
theorem sX11_fog (d : Nat) (X : abX) (x0 : Int32) (h : abJ) (z : (Int32 × abJ)) (hf : fX11_fog x0 h = some z) : ab_Ex X (d + 5) 135 0 [(0, .ref 0), (1, .int x0)] [] ab_SH (ab_dD h) (fun r => r = (some (.int z.1), ab_SH, ab_dD z.2)) := by
  unfold fX11_fog at hf
  refine ab_Ex.blk (k := 2) (pc' := 4) (lv' := [(0, .ref 0), (1, .int x0)]) (st' := [.ref 16]) (sh' := ab_SH) (D' := ab_dD h) (fun n => rfl) ?_
  obtain ⟨r1, hr1, hf⟩ := ab_bind_s hf
  refine ab_Ex.call (d := d + 4) (M2 := 1) (as := [.ref 16]) (rest := []) (fun n => rfl) rfl (Nat.not_lt.mpr (Nat.le_of_ble_eq_true rfl)) (sX0_begin (d + 3) X  h _ hr1) (fun r hr => ?_)
  subst hr
  show ab_Ex X (d + 5) 135 7 [(0, .ref 0), (1, .int x0)] [] ab_SH (ab_dD r1) _
  refine ab_Ex.blk (k := 10) (pc' := 25) (lv' := [(2, .int (((r1).1 12 2))), (0, .ref 0), (1, .int x0)]) (st' := [.int x0, .ref 12, .ref 16, .ref 0]) (sh' := ab_SH) (D' := ab_dD r1) (fun n => rfl) ?_
  obtain ⟨r2, hr2, hf⟩ := ab_bind_s hf
  refine ab_Ex.call (d := d + 4) (M2 := 7) (as := [.ref 16, .ref 12, .int x0]) (rest := [.ref 0]) (fun n => rfl) rfl (Nat.not_lt.mpr (Nat.le_of_ble_eq_true rfl)) (sX0_befog_12 (d) X x0 r1 _ hr2) (fun r hr => ?_)
  subst hr
  show ab_Ex X (d + 5) 135 28 [(2, .int (((r1).1 12 2))), (0, .ref 0), (1, .int x0)] [.int r2.1, .ref 0] ab_SH (ab_dD r2.2) _
  refine ab_Ex.blk (k := 1) (pc' := 29) (lv' := [(2, .int (((r1).1 12 2))), (0, .ref 0), (1, .int x0)]) (st' := [.int (((r1).1 12 2)), .int r2.1, .ref 0]) (sh' := ab_SH) (D' := ab_dD r2.2) (fun n => rfl) ?_
  obtain ⟨r3, hr3, hf⟩ := ab_bind_s hf
  refine ab_Ex.call (d := d + 4) (M2 := 169) (as := [.ref 0, .int r2.1, .int (((r1).1 12 2))]) (rest := []) (fun n => rfl) rfl (Nat.not_lt.mpr (Nat.le_of_ble_eq_true rfl)) (sX11_ended (d + 2) X (r2.1) (((r1).1 12 2)) r2.2 _ hr3) (fun r hr => ?_)
  subst hr
  show ab_Ex X (d + 5) 135 32 [(2, .int (((r1).1 12 2))), (0, .ref 0), (1, .int x0)] [.int r3.1] ab_SH (ab_dD r3.2) _
  obtain rfl := Option.some.inj hf
  exact ab_Ex.ret (fun n => rfl) rfl
def fX11_undo (x0 : Int32) (h : abJ) : Option (Int32 × abJ) := if x0 < 1 then some ((-3), h) else if 10 < x0 then some ((-3), h) else if x0 ≤ (h.1 16 6) then (fX0_takeBack x0 h).bind (fun r4 => some (((r4).1 16 6), r4)) else some ((-3), h)
set_option maxRecDepth 20000 in
theorem sX11_undo (d : Nat) (X : abX) (x0 : Int32) (h : abJ) (z : (Int32 × abJ)) (hf : fX11_undo x0 h = some z) : ab_Ex X (d + 2) 136 0 [(0, .ref 0), (1, .int x0)] [] ab_SH (ab_dD h) (fun r => r = (some (.int z.1), ab_SH, ab_dD z.2)) := by
  unfold fX11_undo at hf
  refine ab_Ex.blk (k := 2) (pc' := 2) (lv' := [(0, .ref 0), (1, .int x0)]) (st' := [.int 1, .int x0]) (sh' := ab_SH) (D' := ab_dD h) (fun n => rfl) ?_
  refine ab_Ex.ifc (c := x0 < 1) (SA := (22, [(0, .ref 0), (1, .int x0)], [], ab_dD h)) (SB := (5, [(0, .ref 0), (1, .int x0)], [], ab_dD h)) (fun n => rfl) (fun c1 => ?_) (fun c1 => ?_)
  · replace hf := (if_pos c1).symm.trans hf
    refine ab_Ex.blk (k := 1) (pc' := 24) (lv' := []) (st' := [.int ((-3))]) (sh' := ab_SH) (D' := ab_dD h) (fun n => rfl) ?_
    obtain rfl := Option.some.inj hf
    exact ab_Ex.ret (fun n => rfl) rfl
  · replace hf := (if_neg c1).symm.trans hf
    refine ab_Ex.blk (k := 2) (pc' := 8) (lv' := [(0, .ref 0), (1, .int x0)]) (st' := [.int 10, .int x0]) (sh' := ab_SH) (D' := ab_dD h) (fun n => rfl) ?_
    refine ab_Ex.ifc (c := 10 < x0) (SA := (22, [(0, .ref 0), (1, .int x0)], [], ab_dD h)) (SB := (11, [(0, .ref 0), (1, .int x0)], [], ab_dD h)) (fun n => rfl) (fun c2 => ?_) (fun c2 => ?_)
    · replace hf := (if_pos c2).symm.trans hf
      refine ab_Ex.blk (k := 1) (pc' := 24) (lv' := []) (st' := [.int ((-3))]) (sh' := ab_SH) (D' := ab_dD h) (fun n => rfl) ?_
      obtain rfl := Option.some.inj hf
      exact ab_Ex.ret (fun n => rfl) rfl
    · replace hf := (if_neg c2).symm.trans hf
      refine ab_Ex.blk (k := 4) (pc' := 19) (lv' := [(0, .ref 0), (1, .int x0)]) (st' := [.int ((h.1 16 6)), .int x0]) (sh' := ab_SH) (D' := ab_dD h) (fun n => rfl) ?_
      refine ab_Ex.ifc (c := x0 ≤ (h.1 16 6)) (SA := (25, [(0, .ref 0), (1, .int x0)], [], ab_dD h)) (SB := (22, [(0, .ref 0), (1, .int x0)], [], ab_dD h)) (fun n => rfl) (fun c3 => ?_) (fun c3 => ?_)
      · replace hf := (if_pos c3).symm.trans hf
        refine ab_Ex.blk (k := 3) (pc' := 30) (lv' := [(0, .ref 0), (1, .int x0)]) (st' := [.int x0, .ref 16]) (sh' := ab_SH) (D' := ab_dD h) (fun n => rfl) ?_
        obtain ⟨r4, hr4, hf⟩ := ab_bind_s hf
        refine ab_Ex.call (d := d + 1) (M2 := 3) (as := [.ref 16, .int x0]) (rest := []) (fun n => rfl) rfl (Nat.not_lt.mpr (Nat.le_of_ble_eq_true rfl)) (sX0_takeBack (d) X x0 h _ hr4) (fun r hr => ?_)
        subst hr
        show ab_Ex X (d + 2) 136 33 [(0, .ref 0), (1, .int x0)] [] ab_SH (ab_dD r4) _
        refine ab_Ex.blk (k := 3) (pc' := 40) (lv' := [(0, .ref 0), (1, .int x0)]) (st' := [.int (((r4).1 16 6))]) (sh' := ab_SH) (D' := ab_dD r4) (fun n => rfl) ?_
        obtain rfl := Option.some.inj hf
        exact ab_Ex.ret (fun n => rfl) rfl
      · replace hf := (if_neg c3).symm.trans hf
        refine ab_Ex.blk (k := 1) (pc' := 24) (lv' := []) (st' := [.int ((-3))]) (sh' := ab_SH) (D' := ab_dD h) (fun n => rfl) ?_
        obtain rfl := Option.some.inj hf
        exact ab_Ex.ret (fun n => rfl) rfl
def fX11_noTray (x0 : Int32) (h : abJ) : Option Int32 := if x0 < 0 then some 1 else if x0 < 4 then some 0 else some 1
set_option maxRecDepth 20000 in
theorem sX11_noTray (d : Nat) (X : abX) (x0 : Int32) (h : abJ) (z : Int32) (hf : fX11_noTray x0 h = some z) : ab_Ex X (d + 0) 170 0 [(0, .int x0)] [] ab_SH (ab_dD h) (fun r => r = (some (.int z), ab_SH, ab_dD h)) := by
  unfold fX11_noTray at hf
  refine ab_Ex.blk (k := 1) (pc' := 1) (lv' := [(0, .int x0)]) (st' := [.int x0]) (sh' := ab_SH) (D' := ab_dD h) (fun n => rfl) ?_
  refine ab_Ex.ifc (c := x0 < 0) (SA := (9, [(0, .int x0)], [], ab_dD h)) (SB := (4, [(0, .int x0)], [], ab_dD h)) (fun n => rfl) (fun c1 => ?_) (fun c1 => ?_)
  · replace hf := (if_pos c1).symm.trans hf
    refine ab_Ex.blk (k := 2) (pc' := 14) (lv' := []) (st' := [.int 1]) (sh' := ab_SH) (D' := ab_dD h) (fun n => rfl) ?_
    obtain rfl := Option.some.inj hf
    exact ab_Ex.ret (fun n => rfl) rfl
  · replace hf := (if_neg c1).symm.trans hf
    refine ab_Ex.blk (k := 2) (pc' := 6) (lv' := [(0, .int x0)]) (st' := [.int 4, .int x0]) (sh' := ab_SH) (D' := ab_dD h) (fun n => rfl) ?_
    refine ab_Ex.ifc (c := x0 < 4) (SA := (13, [(0, .int x0)], [], ab_dD h)) (SB := (9, [(0, .int x0)], [], ab_dD h)) (fun n => rfl) (fun c2 => ?_) (fun c2 => ?_)
    · replace hf := (if_pos c2).symm.trans hf
      refine ab_Ex.blk (k := 1) (pc' := 14) (lv' := []) (st' := [.int 0]) (sh' := ab_SH) (D' := ab_dD h) (fun n => rfl) ?_
      obtain rfl := Option.some.inj hf
      exact ab_Ex.ret (fun n => rfl) rfl
    · replace hf := (if_neg c2).symm.trans hf
      refine ab_Ex.blk (k := 2) (pc' := 14) (lv' := []) (st' := [.int 1]) (sh' := ab_SH) (D' := ab_dD h) (fun n => rfl) ?_
      obtain rfl := Option.some.inj hf
      exact ab_Ex.ret (fun n => rfl) rfl
def fX11_judge_J85   (y1 : Int32) (y2 : Int32) (y4 : Int32) (t0 : Int32) (h : abJ) : Option (Int32 × abJ) := if y2 = 0 then if t0 = 0 then some (y4, h) else some ((-1), h) else if y2 = 1 then if t0 = 0 then ab_ask (y1 < 0 ∨ 4 ≤ (y1 : Int32).toNatClampNeg) ((fX10_value (ab_tr y1) y4 h).bind (fun r17 => (fX0_doOne 18 r17 h).bind (fun r18 => some (r18.1, r18.2)))) else some (0, h) else if y2 = 2 then some ((h.1 18 0), h) else some ((h.1 18 1), h)
def fX11_judge (x0 : Int32) (x1 : Int32) (h : abJ) : Option (Int32 × abJ) := (fX11_noTray x0 h).bind (fun r1 => if r1 = 0 then if x1 < 0 then some ((-2), h) else if x1 ≤ 3 then ab_ask (x0 < 0 ∨ 4 ≤ (x0 : Int32).toNatClampNeg) (if (h.1 (ab_tr x0) 0) = 0 then (fX9_copy 18 12 h).bind (fun r7 => ab_ask (x0 < 0 ∨ 4 ≤ (x0 : Int32).toNatClampNeg) ((fX0_doAll 18 (ab_tr x0) r7).bind (fun r9 => ab_ask (x0 < 0 ∨ 4 ≤ (x0 : Int32).toNatClampNeg) (if r9.1 < ((r9.2).1 (ab_tr x0) 2) then fX11_judge_J85 x0 x1 r9.1 0 r9.2 else fX11_judge_J85 x0 x1 r9.1 1 r9.2)))) else some ((-6), h)) else some ((-2), h) else some ((-2), h))
set_option maxRecDepth 20000 in
theorem sX11_judge_J85 (d : Nat) (X : abX)   : ∀ (y1 : Int32) (y2 : Int32) (y4 : Int32) (t0 : Int32) (h : abJ) (z : (Int32 × abJ)), fX11_judge_J85 y1 y2 y4 t0 h = some z → ab_Ex X (d + 7) 137 85 [(0, .ref 0), (1, .int y1), (2, .int y2), (3, .ref 18), (4, .int y4)] [.int t0] ab_SH (ab_dD h) (fun r => r = (some (.int z.1), ab_SH, ab_dD z.2)) := by
  intro y1 y2 y4 t0 h z hf
  unfold fX11_judge_J85 at hf
  refine ab_Ex.blk (k := 2) (pc' := 88) (lv' := [(5, .int t0), (0, .ref 0), (1, .int y1), (2, .int y2), (3, .ref 18), (4, .int y4)]) (st' := [.int y2]) (sh' := ab_SH) (D' := ab_dD h) (fun n => rfl) ?_
  refine ab_Ex.ifc (c := y2 = 0) (SA := (91, [(5, .int t0), (0, .ref 0), (1, .int y1), (2, .int y2), (3, .ref 18), (4, .int y4)], [], ab_dD h)) (SB := (103, [(5, .int t0), (0, .ref 0), (1, .int y1), (2, .int y2), (3, .ref 18), (4, .int y4)], [], ab_dD h)) (fun n => rfl) (fun c15 => ?_) (fun c15 => ?_)
  · replace hf := (if_pos c15).symm.trans hf
    refine ab_Ex.blk (k := 1) (pc' := 93) (lv' := [(5, .int t0), (0, .ref 0), (1, .int y1), (2, .int y2), (3, .ref 18), (4, .int y4)]) (st' := [.int t0]) (sh' := ab_SH) (D' := ab_dD h) (fun n => rfl) ?_
    refine ab_Ex.ifc (c := t0 = 0) (SA := (100, [(5, .int t0), (0, .ref 0), (1, .int y1), (2, .int y2), (3, .ref 18), (4, .int y4)], [], ab_dD h)) (SB := (96, [(5, .int t0), (0, .ref 0), (1, .int y1), (2, .int y2), (3, .ref 18), (4, .int y4)], [], ab_dD h)) (fun n => rfl) (fun c16 => ?_) (fun c16 => ?_)
    · replace hf := (if_pos c16).symm.trans hf
      refine ab_Ex.blk (k := 1) (pc' := 102) (lv' := []) (st' := [.int y4]) (sh' := ab_SH) (D' := ab_dD h) (fun n => rfl) ?_
      obtain rfl := Option.some.inj hf
      exact ab_Ex.ret (fun n => rfl) rfl
    · replace hf := (if_neg c16).symm.trans hf
      refine ab_Ex.blk (k := 2) (pc' := 102) (lv' := []) (st' := [.int ((-1))]) (sh' := ab_SH) (D' := ab_dD h) (fun n => rfl) ?_
      obtain rfl := Option.some.inj hf
      exact ab_Ex.ret (fun n => rfl) rfl
  · replace hf := (if_neg c15).symm.trans hf
    refine ab_Ex.blk (k := 2) (pc' := 105) (lv' := [(5, .int t0), (0, .ref 0), (1, .int y1), (2, .int y2), (3, .ref 18), (4, .int y4)]) (st' := [.int 1, .int y2]) (sh' := ab_SH) (D' := ab_dD h) (fun n => rfl) ?_
    refine ab_Ex.ifc (c := y2 = 1) (SA := (108, [(5, .int t0), (0, .ref 0), (1, .int y1), (2, .int y2), (3, .ref 18), (4, .int y4)], [], ab_dD h)) (SB := (137, [(5, .int t0), (0, .ref 0), (1, .int y1), (2, .int y2), (3, .ref 18), (4, .int y4)], [], ab_dD h)) (fun n => rfl) (fun c17 => ?_) (fun c17 => ?_)
    · replace hf := (if_pos c17).symm.trans hf
      refine ab_Ex.blk (k := 1) (pc' := 110) (lv' := [(5, .int t0), (0, .ref 0), (1, .int y1), (2, .int y2), (3, .ref 18), (4, .int y4)]) (st' := [.int t0]) (sh' := ab_SH) (D' := ab_dD h) (fun n => rfl) ?_
      refine ab_Ex.ifc (c := t0 = 0) (SA := (117, [(5, .int t0), (0, .ref 0), (1, .int y1), (2, .int y2), (3, .ref 18), (4, .int y4)], [], ab_dD h)) (SB := (113, [(5, .int t0), (0, .ref 0), (1, .int y1), (2, .int y2), (3, .ref 18), (4, .int y4)], [], ab_dD h)) (fun n => rfl) (fun c18 => ?_) (fun c18 => ?_)
      · replace hf := (if_pos c18).symm.trans hf
        refine ab_Ex.blk (k := 6) (pc' := 127) (lv' := [(5, .int t0), (0, .ref 0), (1, .int y1), (2, .int y2), (3, .ref 18), (4, .int y4)]) (st' := [.int y1, .ref 43, .ref 18, .ref 16]) (sh' := ab_SH) (D' := ab_dD h) (fun n => rfl) ?_
        obtain ⟨c19, hf⟩ := ab_ask_s hf
        rcases ab_lt4 c19 with e20 | e20 | e20 | e20
        · have oe20 : ab_tr y1 = 44 := by unfold ab_tr; rw [e20]
          try rw [oe20] at hf
          refine ab_Ex.aald (o := 43) (j := y1) (t := 104) (n := 4) (i := 0) (z := 44) (fun n => rfl) c19 (by decide) e20 rfl (by decide) ?_
          refine ab_Ex.blk (k := 1) (pc' := 130) (lv' := [(5, .int t0), (0, .ref 0), (1, .int y1), (2, .int y2), (3, .ref 18), (4, .int y4)]) (st' := [.int y4, .ref 44, .ref 18, .ref 16]) (sh' := ab_SH) (D' := ab_dD h) (fun n => rfl) ?_
          obtain ⟨r21, hr21, hf⟩ := ab_bind_s hf
          refine ab_Ex.call (d := d + 6) (M2 := 122) (as := [.ref 44, .int y4]) (rest := [.ref 18, .ref 16]) (fun n => rfl) rfl (Nat.not_lt.mpr (Nat.le_of_ble_eq_true rfl)) (sX10_value_44 (d + 6) X y4 h _ hr21) (fun r hr => ?_)
          subst hr
          show ab_Ex X (d + 7) 137 133 [(5, .int t0), (0, .ref 0), (1, .int y1), (2, .int y2), (3, .ref 18), (4, .int y4)] [.long r21, .ref 18, .ref 16] ab_SH (ab_dD h) _
          obtain ⟨r22, hr22, hf⟩ := ab_bind_s hf
          refine ab_Ex.call (d := d + 6) (M2 := 8) (as := [.ref 16, .ref 18, .long r21]) (rest := []) (fun n => rfl) rfl (Nat.not_lt.mpr (Nat.le_of_ble_eq_true rfl)) (sX0_doOne_18 (d + 1) X r21 h _ hr22) (fun r hr => ?_)
          subst hr
          show ab_Ex X (d + 7) 137 136 [] [.int r22.1] ab_SH (ab_dD r22.2) _
          obtain rfl := Option.some.inj hf
          exact ab_Ex.ret (fun n => rfl) rfl
        · have oe20 : ab_tr y1 = 46 := by unfold ab_tr; rw [e20]
          try rw [oe20] at hf
          refine ab_Ex.aald (o := 43) (j := y1) (t := 104) (n := 4) (i := 1) (z := 46) (fun n => rfl) c19 (by decide) e20 rfl (by decide) ?_
          refine ab_Ex.blk (k := 1) (pc' := 130) (lv' := [(5, .int t0), (0, .ref 0), (1, .int y1), (2, .int y2), (3, .ref 18), (4, .int y4)]) (st' := [.int y4, .ref 46, .ref 18, .ref 16]) (sh' := ab_SH) (D' := ab_dD h) (fun n => rfl) ?_
          obtain ⟨r23, hr23, hf⟩ := ab_bind_s hf
          refine ab_Ex.call (d := d + 6) (M2 := 122) (as := [.ref 46, .int y4]) (rest := [.ref 18, .ref 16]) (fun n => rfl) rfl (Nat.not_lt.mpr (Nat.le_of_ble_eq_true rfl)) (sX10_value_46 (d + 6) X y4 h _ hr23) (fun r hr => ?_)
          subst hr
          show ab_Ex X (d + 7) 137 133 [(5, .int t0), (0, .ref 0), (1, .int y1), (2, .int y2), (3, .ref 18), (4, .int y4)] [.long r23, .ref 18, .ref 16] ab_SH (ab_dD h) _
          obtain ⟨r24, hr24, hf⟩ := ab_bind_s hf
          refine ab_Ex.call (d := d + 6) (M2 := 8) (as := [.ref 16, .ref 18, .long r23]) (rest := []) (fun n => rfl) rfl (Nat.not_lt.mpr (Nat.le_of_ble_eq_true rfl)) (sX0_doOne_18 (d + 1) X r23 h _ hr24) (fun r hr => ?_)
          subst hr
          show ab_Ex X (d + 7) 137 136 [] [.int r24.1] ab_SH (ab_dD r24.2) _
          obtain rfl := Option.some.inj hf
          exact ab_Ex.ret (fun n => rfl) rfl
        · have oe20 : ab_tr y1 = 48 := by unfold ab_tr; rw [e20]
          try rw [oe20] at hf
          refine ab_Ex.aald (o := 43) (j := y1) (t := 104) (n := 4) (i := 2) (z := 48) (fun n => rfl) c19 (by decide) e20 rfl (by decide) ?_
          refine ab_Ex.blk (k := 1) (pc' := 130) (lv' := [(5, .int t0), (0, .ref 0), (1, .int y1), (2, .int y2), (3, .ref 18), (4, .int y4)]) (st' := [.int y4, .ref 48, .ref 18, .ref 16]) (sh' := ab_SH) (D' := ab_dD h) (fun n => rfl) ?_
          obtain ⟨r25, hr25, hf⟩ := ab_bind_s hf
          refine ab_Ex.call (d := d + 6) (M2 := 122) (as := [.ref 48, .int y4]) (rest := [.ref 18, .ref 16]) (fun n => rfl) rfl (Nat.not_lt.mpr (Nat.le_of_ble_eq_true rfl)) (sX10_value_48 (d + 6) X y4 h _ hr25) (fun r hr => ?_)
          subst hr
          show ab_Ex X (d + 7) 137 133 [(5, .int t0), (0, .ref 0), (1, .int y1), (2, .int y2), (3, .ref 18), (4, .int y4)] [.long r25, .ref 18, .ref 16] ab_SH (ab_dD h) _
          obtain ⟨r26, hr26, hf⟩ := ab_bind_s hf
          refine ab_Ex.call (d := d + 6) (M2 := 8) (as := [.ref 16, .ref 18, .long r25]) (rest := []) (fun n => rfl) rfl (Nat.not_lt.mpr (Nat.le_of_ble_eq_true rfl)) (sX0_doOne_18 (d + 1) X r25 h _ hr26) (fun r hr => ?_)
          subst hr
          show ab_Ex X (d + 7) 137 136 [] [.int r26.1] ab_SH (ab_dD r26.2) _
          obtain rfl := Option.some.inj hf
          exact ab_Ex.ret (fun n => rfl) rfl
        · have oe20 : ab_tr y1 = 50 := by unfold ab_tr; rw [e20]
          try rw [oe20] at hf
          refine ab_Ex.aald (o := 43) (j := y1) (t := 104) (n := 4) (i := 3) (z := 50) (fun n => rfl) c19 (by decide) e20 rfl (by decide) ?_
          refine ab_Ex.blk (k := 1) (pc' := 130) (lv' := [(5, .int t0), (0, .ref 0), (1, .int y1), (2, .int y2), (3, .ref 18), (4, .int y4)]) (st' := [.int y4, .ref 50, .ref 18, .ref 16]) (sh' := ab_SH) (D' := ab_dD h) (fun n => rfl) ?_
          obtain ⟨r27, hr27, hf⟩ := ab_bind_s hf
          refine ab_Ex.call (d := d + 6) (M2 := 122) (as := [.ref 50, .int y4]) (rest := [.ref 18, .ref 16]) (fun n => rfl) rfl (Nat.not_lt.mpr (Nat.le_of_ble_eq_true rfl)) (sX10_value_50 (d + 6) X y4 h _ hr27) (fun r hr => ?_)
          subst hr
          show ab_Ex X (d + 7) 137 133 [(5, .int t0), (0, .ref 0), (1, .int y1), (2, .int y2), (3, .ref 18), (4, .int y4)] [.long r27, .ref 18, .ref 16] ab_SH (ab_dD h) _
          obtain ⟨r28, hr28, hf⟩ := ab_bind_s hf
          refine ab_Ex.call (d := d + 6) (M2 := 8) (as := [.ref 16, .ref 18, .long r27]) (rest := []) (fun n => rfl) rfl (Nat.not_lt.mpr (Nat.le_of_ble_eq_true rfl)) (sX0_doOne_18 (d + 1) X r27 h _ hr28) (fun r hr => ?_)
          subst hr
          show ab_Ex X (d + 7) 137 136 [] [.int r28.1] ab_SH (ab_dD r28.2) _
          obtain rfl := Option.some.inj hf
          exact ab_Ex.ret (fun n => rfl) rfl
      · replace hf := (if_neg c18).symm.trans hf
        refine ab_Ex.blk (k := 2) (pc' := 136) (lv' := []) (st' := [.int 0]) (sh' := ab_SH) (D' := ab_dD h) (fun n => rfl) ?_
        obtain rfl := Option.some.inj hf
        exact ab_Ex.ret (fun n => rfl) rfl
    · replace hf := (if_neg c17).symm.trans hf
      refine ab_Ex.blk (k := 2) (pc' := 139) (lv' := [(5, .int t0), (0, .ref 0), (1, .int y1), (2, .int y2), (3, .ref 18), (4, .int y4)]) (st' := [.int 2, .int y2]) (sh' := ab_SH) (D' := ab_dD h) (fun n => rfl) ?_
      refine ab_Ex.ifc (c := y2 = 2) (SA := (142, [(5, .int t0), (0, .ref 0), (1, .int y1), (2, .int y2), (3, .ref 18), (4, .int y4)], [], ab_dD h)) (SB := (149, [(5, .int t0), (0, .ref 0), (1, .int y1), (2, .int y2), (3, .ref 18), (4, .int y4)], [], ab_dD h)) (fun n => rfl) (fun c29 => ?_) (fun c29 => ?_)
      · replace hf := (if_pos c29).symm.trans hf
        refine ab_Ex.blk (k := 3) (pc' := 153) (lv' := []) (st' := [.int ((h.1 18 0))]) (sh' := ab_SH) (D' := ab_dD h) (fun n => rfl) ?_
        obtain rfl := Option.some.inj hf
        exact ab_Ex.ret (fun n => rfl) rfl
      · replace hf := (if_neg c29).symm.trans hf
        refine ab_Ex.blk (k := 2) (pc' := 153) (lv' := []) (st' := [.int ((h.1 18 1))]) (sh' := ab_SH) (D' := ab_dD h) (fun n => rfl) ?_
        obtain rfl := Option.some.inj hf
        exact ab_Ex.ret (fun n => rfl) rfl
set_option maxRecDepth 20000 in
theorem sX11_judge (d : Nat) (X : abX) (x0 : Int32) (x1 : Int32) (h : abJ) (z : (Int32 × abJ)) (hf : fX11_judge x0 x1 h = some z) : ab_Ex X (d + 7) 137 0 [(0, .ref 0), (1, .int x0), (2, .int x1)] [] ab_SH (ab_dD h) (fun r => r = (some (.int z.1), ab_SH, ab_dD z.2)) := by
  unfold fX11_judge at hf
  refine ab_Ex.blk (k := 1) (pc' := 1) (lv' := [(0, .ref 0), (1, .int x0), (2, .int x1)]) (st' := [.int x0]) (sh' := ab_SH) (D' := ab_dD h) (fun n => rfl) ?_
  obtain ⟨r1, hr1, hf⟩ := ab_bind_s hf
  refine ab_Ex.call (d := d + 6) (M2 := 170) (as := [.int x0]) (rest := []) (fun n => rfl) rfl (Nat.not_lt.mpr (Nat.le_of_ble_eq_true rfl)) (sX11_noTray (d + 6) X x0 h _ hr1) (fun r hr => ?_)
  subst hr
  show ab_Ex X (d + 7) 137 4 [(0, .ref 0), (1, .int x0), (2, .int x1)] [.int r1] ab_SH (ab_dD h) _
  refine ab_Ex.ifc (c := r1 = 0) (SA := (7, [(0, .ref 0), (1, .int x0), (2, .int x1)], [], ab_dD h)) (SB := (16, [(0, .ref 0), (1, .int x0), (2, .int x1)], [], ab_dD h)) (fun n => rfl) (fun c2 => ?_) (fun c2 => ?_)
  · replace hf := (if_pos c2).symm.trans hf
    refine ab_Ex.blk (k := 1) (pc' := 8) (lv' := [(0, .ref 0), (1, .int x0), (2, .int x1)]) (st' := [.int x1]) (sh' := ab_SH) (D' := ab_dD h) (fun n => rfl) ?_
    refine ab_Ex.ifc (c := x1 < 0) (SA := (16, [(0, .ref 0), (1, .int x0), (2, .int x1)], [], ab_dD h)) (SB := (11, [(0, .ref 0), (1, .int x0), (2, .int x1)], [], ab_dD h)) (fun n => rfl) (fun c3 => ?_) (fun c3 => ?_)
    · replace hf := (if_pos c3).symm.trans hf
      refine ab_Ex.blk (k := 1) (pc' := 18) (lv' := []) (st' := [.int ((-2))]) (sh' := ab_SH) (D' := ab_dD h) (fun n => rfl) ?_
      obtain rfl := Option.some.inj hf
      exact ab_Ex.ret (fun n => rfl) rfl
    · replace hf := (if_neg c3).symm.trans hf
      refine ab_Ex.blk (k := 2) (pc' := 13) (lv' := [(0, .ref 0), (1, .int x0), (2, .int x1)]) (st' := [.int 3, .int x1]) (sh' := ab_SH) (D' := ab_dD h) (fun n => rfl) ?_
      refine ab_Ex.ifc (c := x1 ≤ 3) (SA := (19, [(0, .ref 0), (1, .int x0), (2, .int x1)], [], ab_dD h)) (SB := (16, [(0, .ref 0), (1, .int x0), (2, .int x1)], [], ab_dD h)) (fun n => rfl) (fun c4 => ?_) (fun c4 => ?_)
      · replace hf := (if_pos c4).symm.trans hf
        refine ab_Ex.blk (k := 3) (pc' := 24) (lv' := [(0, .ref 0), (1, .int x0), (2, .int x1)]) (st' := [.int x0, .ref 43]) (sh' := ab_SH) (D' := ab_dD h) (fun n => rfl) ?_
        obtain ⟨c5, hf⟩ := ab_ask_s hf
        rcases ab_lt4 c5 with e6 | e6 | e6 | e6
        · have oe6 : ab_tr x0 = 44 := by unfold ab_tr; rw [e6]
          try rw [oe6] at hf
          refine ab_Ex.aald (o := 43) (j := x0) (t := 104) (n := 4) (i := 0) (z := 44) (fun n => rfl) c5 (by decide) e6 rfl (by decide) ?_
          refine ab_Ex.blk (k := 1) (pc' := 28) (lv' := [(0, .ref 0), (1, .int x0), (2, .int x1)]) (st' := [.int ((h.1 44 0))]) (sh' := ab_SH) (D' := ab_dD h) (fun n => rfl) ?_
          refine ab_Ex.ifc (c := (h.1 44 0) = 0) (SA := (34, [(0, .ref 0), (1, .int x0), (2, .int x1)], [], ab_dD h)) (SB := (31, [(0, .ref 0), (1, .int x0), (2, .int x1)], [], ab_dD h)) (fun n => rfl) (fun c7 => ?_) (fun c7 => ?_)
          · replace hf := (if_pos c7).symm.trans hf
            refine ab_Ex.blk (k := 7) (pc' := 47) (lv' := [(3, .ref 18), (0, .ref 0), (1, .int x0), (2, .int x1)]) (st' := [.ref 12, .ref 18]) (sh' := ab_SH) (D' := ab_dD h) (fun n => rfl) ?_
            obtain ⟨r8, hr8, hf⟩ := ab_bind_s hf
            refine ab_Ex.call (d := d + 6) (M2 := 117) (as := [.ref 18, .ref 12]) (rest := []) (fun n => rfl) rfl (Nat.not_lt.mpr (Nat.le_of_ble_eq_true rfl)) (sX9_copy_18_12 (d + 6) X  h _ hr8) (fun r hr => ?_)
            subst hr
            show ab_Ex X (d + 7) 137 50 [(3, .ref 18), (0, .ref 0), (1, .int x0), (2, .int x1)] [] ab_SH (ab_dD r8) _
            refine ab_Ex.blk (k := 6) (pc' := 60) (lv' := [(3, .ref 18), (0, .ref 0), (1, .int x0), (2, .int x1)]) (st' := [.int x0, .ref 43, .ref 18, .ref 16]) (sh' := ab_SH) (D' := ab_dD r8) (fun n => rfl) ?_
            obtain ⟨c9, hf⟩ := ab_ask_s hf
            have oe10 : ab_tr x0 = 44 := by unfold ab_tr; rw [e6]
            try rw [oe10] at hf
            refine ab_Ex.aald (o := 43) (j := x0) (t := 104) (n := 4) (i := 0) (z := 44) (fun n => rfl) c9 (by decide) e6 rfl (by decide) ?_
            obtain ⟨r11, hr11, hf⟩ := ab_bind_s hf
            refine ab_Ex.call (d := d + 6) (M2 := 9) (as := [.ref 16, .ref 18, .ref 44]) (rest := []) (fun n => rfl) rfl (Nat.not_lt.mpr (Nat.le_of_ble_eq_true rfl)) (sX0_doAll_18_44 (d) X  r8 _ hr11) (fun r hr => ?_)
            subst hr
            show ab_Ex X (d + 7) 137 64 [(3, .ref 18), (0, .ref 0), (1, .int x0), (2, .int x1)] [.int r11.1] ab_SH (ab_dD r11.2) _
            refine ab_Ex.blk (k := 5) (pc' := 73) (lv' := [(4, .int r11.1), (3, .ref 18), (0, .ref 0), (1, .int x0), (2, .int x1)]) (st' := [.int x0, .ref 43, .int r11.1]) (sh' := ab_SH) (D' := ab_dD r11.2) (fun n => rfl) ?_
            obtain ⟨c12, hf⟩ := ab_ask_s hf
            have oe13 : ab_tr x0 = 44 := by unfold ab_tr; rw [e6]
            try rw [oe13] at hf
            refine ab_Ex.aald (o := 43) (j := x0) (t := 104) (n := 4) (i := 0) (z := 44) (fun n => rfl) c12 (by decide) e6 rfl (by decide) ?_
            refine ab_Ex.blk (k := 1) (pc' := 77) (lv' := [(4, .int r11.1), (3, .ref 18), (0, .ref 0), (1, .int x0), (2, .int x1)]) (st' := [.int (((r11.2).1 44 2)), .int r11.1]) (sh' := ab_SH) (D' := ab_dD r11.2) (fun n => rfl) ?_
            refine ab_Ex.ifc (c := r11.1 < ((r11.2).1 44 2)) (SA := (84, [(4, .int r11.1), (3, .ref 18), (0, .ref 0), (1, .int x0), (2, .int x1)], [], ab_dD r11.2)) (SB := (80, [(4, .int r11.1), (3, .ref 18), (0, .ref 0), (1, .int x0), (2, .int x1)], [], ab_dD r11.2)) (fun n => rfl) (fun c14 => ?_) (fun c14 => ?_)
            · replace hf := (if_pos c14).symm.trans hf
              refine ab_Ex.blk (k := 1) (pc' := 85) (lv' := [(0, .ref 0), (1, .int x0), (2, .int x1), (3, .ref 18), (4, .int r11.1)]) (st' := [.int 0]) (sh' := ab_SH) (D' := ab_dD r11.2) (fun n => rfl) ?_
              exact sX11_judge_J85 d X  x0 x1 r11.1 0 r11.2 _ hf
            · replace hf := (if_neg c14).symm.trans hf
              refine ab_Ex.blk (k := 2) (pc' := 85) (lv' := [(0, .ref 0), (1, .int x0), (2, .int x1), (3, .ref 18), (4, .int r11.1)]) (st' := [.int 1]) (sh' := ab_SH) (D' := ab_dD r11.2) (fun n => rfl) ?_
              exact sX11_judge_J85 d X  x0 x1 r11.1 1 r11.2 _ hf
          · replace hf := (if_neg c7).symm.trans hf
            refine ab_Ex.blk (k := 1) (pc' := 33) (lv' := [(0, .ref 0), (1, .int x0), (2, .int x1)]) (st' := [.int ((-6))]) (sh' := ab_SH) (D' := ab_dD h) (fun n => rfl) ?_
            obtain rfl := Option.some.inj hf
            exact ab_Ex.ret (fun n => rfl) rfl
        · have oe6 : ab_tr x0 = 46 := by unfold ab_tr; rw [e6]
          try rw [oe6] at hf
          refine ab_Ex.aald (o := 43) (j := x0) (t := 104) (n := 4) (i := 1) (z := 46) (fun n => rfl) c5 (by decide) e6 rfl (by decide) ?_
          refine ab_Ex.blk (k := 1) (pc' := 28) (lv' := [(0, .ref 0), (1, .int x0), (2, .int x1)]) (st' := [.int ((h.1 46 0))]) (sh' := ab_SH) (D' := ab_dD h) (fun n => rfl) ?_
          refine ab_Ex.ifc (c := (h.1 46 0) = 0) (SA := (34, [(0, .ref 0), (1, .int x0), (2, .int x1)], [], ab_dD h)) (SB := (31, [(0, .ref 0), (1, .int x0), (2, .int x1)], [], ab_dD h)) (fun n => rfl) (fun c30 => ?_) (fun c30 => ?_)
          · replace hf := (if_pos c30).symm.trans hf
            refine ab_Ex.blk (k := 7) (pc' := 47) (lv' := [(3, .ref 18), (0, .ref 0), (1, .int x0), (2, .int x1)]) (st' := [.ref 12, .ref 18]) (sh' := ab_SH) (D' := ab_dD h) (fun n => rfl) ?_
            obtain ⟨r31, hr31, hf⟩ := ab_bind_s hf
            refine ab_Ex.call (d := d + 6) (M2 := 117) (as := [.ref 18, .ref 12]) (rest := []) (fun n => rfl) rfl (Nat.not_lt.mpr (Nat.le_of_ble_eq_true rfl)) (sX9_copy_18_12 (d + 6) X  h _ hr31) (fun r hr => ?_)
            subst hr
            show ab_Ex X (d + 7) 137 50 [(3, .ref 18), (0, .ref 0), (1, .int x0), (2, .int x1)] [] ab_SH (ab_dD r31) _
            refine ab_Ex.blk (k := 6) (pc' := 60) (lv' := [(3, .ref 18), (0, .ref 0), (1, .int x0), (2, .int x1)]) (st' := [.int x0, .ref 43, .ref 18, .ref 16]) (sh' := ab_SH) (D' := ab_dD r31) (fun n => rfl) ?_
            obtain ⟨c32, hf⟩ := ab_ask_s hf
            have oe33 : ab_tr x0 = 46 := by unfold ab_tr; rw [e6]
            try rw [oe33] at hf
            refine ab_Ex.aald (o := 43) (j := x0) (t := 104) (n := 4) (i := 1) (z := 46) (fun n => rfl) c32 (by decide) e6 rfl (by decide) ?_
            obtain ⟨r34, hr34, hf⟩ := ab_bind_s hf
            refine ab_Ex.call (d := d + 6) (M2 := 9) (as := [.ref 16, .ref 18, .ref 46]) (rest := []) (fun n => rfl) rfl (Nat.not_lt.mpr (Nat.le_of_ble_eq_true rfl)) (sX0_doAll_18_46 (d) X  r31 _ hr34) (fun r hr => ?_)
            subst hr
            show ab_Ex X (d + 7) 137 64 [(3, .ref 18), (0, .ref 0), (1, .int x0), (2, .int x1)] [.int r34.1] ab_SH (ab_dD r34.2) _
            refine ab_Ex.blk (k := 5) (pc' := 73) (lv' := [(4, .int r34.1), (3, .ref 18), (0, .ref 0), (1, .int x0), (2, .int x1)]) (st' := [.int x0, .ref 43, .int r34.1]) (sh' := ab_SH) (D' := ab_dD r34.2) (fun n => rfl) ?_
            obtain ⟨c35, hf⟩ := ab_ask_s hf
            have oe36 : ab_tr x0 = 46 := by unfold ab_tr; rw [e6]
            try rw [oe36] at hf
            refine ab_Ex.aald (o := 43) (j := x0) (t := 104) (n := 4) (i := 1) (z := 46) (fun n => rfl) c35 (by decide) e6 rfl (by decide) ?_
            refine ab_Ex.blk (k := 1) (pc' := 77) (lv' := [(4, .int r34.1), (3, .ref 18), (0, .ref 0), (1, .int x0), (2, .int x1)]) (st' := [.int (((r34.2).1 46 2)), .int r34.1]) (sh' := ab_SH) (D' := ab_dD r34.2) (fun n => rfl) ?_
            refine ab_Ex.ifc (c := r34.1 < ((r34.2).1 46 2)) (SA := (84, [(4, .int r34.1), (3, .ref 18), (0, .ref 0), (1, .int x0), (2, .int x1)], [], ab_dD r34.2)) (SB := (80, [(4, .int r34.1), (3, .ref 18), (0, .ref 0), (1, .int x0), (2, .int x1)], [], ab_dD r34.2)) (fun n => rfl) (fun c37 => ?_) (fun c37 => ?_)
            · replace hf := (if_pos c37).symm.trans hf
              refine ab_Ex.blk (k := 1) (pc' := 85) (lv' := [(0, .ref 0), (1, .int x0), (2, .int x1), (3, .ref 18), (4, .int r34.1)]) (st' := [.int 0]) (sh' := ab_SH) (D' := ab_dD r34.2) (fun n => rfl) ?_
              exact sX11_judge_J85 d X  x0 x1 r34.1 0 r34.2 _ hf
            · replace hf := (if_neg c37).symm.trans hf
              refine ab_Ex.blk (k := 2) (pc' := 85) (lv' := [(0, .ref 0), (1, .int x0), (2, .int x1), (3, .ref 18), (4, .int r34.1)]) (st' := [.int 1]) (sh' := ab_SH) (D' := ab_dD r34.2) (fun n => rfl) ?_
              exact sX11_judge_J85 d X  x0 x1 r34.1 1 r34.2 _ hf
          · replace hf := (if_neg c30).symm.trans hf
            refine ab_Ex.blk (k := 1) (pc' := 33) (lv' := [(0, .ref 0), (1, .int x0), (2, .int x1)]) (st' := [.int ((-6))]) (sh' := ab_SH) (D' := ab_dD h) (fun n => rfl) ?_
            obtain rfl := Option.some.inj hf
            exact ab_Ex.ret (fun n => rfl) rfl
        · have oe6 : ab_tr x0 = 48 := by unfold ab_tr; rw [e6]
          try rw [oe6] at hf
          refine ab_Ex.aald (o := 43) (j := x0) (t := 104) (n := 4) (i := 2) (z := 48) (fun n => rfl) c5 (by decide) e6 rfl (by decide) ?_
          refine ab_Ex.blk (k := 1) (pc' := 28) (lv' := [(0, .ref 0), (1, .int x0), (2, .int x1)]) (st' := [.int ((h.1 48 0))]) (sh' := ab_SH) (D' := ab_dD h) (fun n => rfl) ?_
          refine ab_Ex.ifc (c := (h.1 48 0) = 0) (SA := (34, [(0, .ref 0), (1, .int x0), (2, .int x1)], [], ab_dD h)) (SB := (31, [(0, .ref 0), (1, .int x0), (2, .int x1)], [], ab_dD h)) (fun n => rfl) (fun c38 => ?_) (fun c38 => ?_)
          · replace hf := (if_pos c38).symm.trans hf
            refine ab_Ex.blk (k := 7) (pc' := 47) (lv' := [(3, .ref 18), (0, .ref 0), (1, .int x0), (2, .int x1)]) (st' := [.ref 12, .ref 18]) (sh' := ab_SH) (D' := ab_dD h) (fun n => rfl) ?_
            obtain ⟨r39, hr39, hf⟩ := ab_bind_s hf
            refine ab_Ex.call (d := d + 6) (M2 := 117) (as := [.ref 18, .ref 12]) (rest := []) (fun n => rfl) rfl (Nat.not_lt.mpr (Nat.le_of_ble_eq_true rfl)) (sX9_copy_18_12 (d + 6) X  h _ hr39) (fun r hr => ?_)
            subst hr
            show ab_Ex X (d + 7) 137 50 [(3, .ref 18), (0, .ref 0), (1, .int x0), (2, .int x1)] [] ab_SH (ab_dD r39) _
            refine ab_Ex.blk (k := 6) (pc' := 60) (lv' := [(3, .ref 18), (0, .ref 0), (1, .int x0), (2, .int x1)]) (st' := [.int x0, .ref 43, .ref 18, .ref 16]) (sh' := ab_SH) (D' := ab_dD r39) (fun n => rfl) ?_
            obtain ⟨c40, hf⟩ := ab_ask_s hf
            have oe41 : ab_tr x0 = 48 := by unfold ab_tr; rw [e6]
            try rw [oe41] at hf
            refine ab_Ex.aald (o := 43) (j := x0) (t := 104) (n := 4) (i := 2) (z := 48) (fun n => rfl) c40 (by decide) e6 rfl (by decide) ?_
            obtain ⟨r42, hr42, hf⟩ := ab_bind_s hf
            refine ab_Ex.call (d := d + 6) (M2 := 9) (as := [.ref 16, .ref 18, .ref 48]) (rest := []) (fun n => rfl) rfl (Nat.not_lt.mpr (Nat.le_of_ble_eq_true rfl)) (sX0_doAll_18_48 (d) X  r39 _ hr42) (fun r hr => ?_)
            subst hr
            show ab_Ex X (d + 7) 137 64 [(3, .ref 18), (0, .ref 0), (1, .int x0), (2, .int x1)] [.int r42.1] ab_SH (ab_dD r42.2) _
            refine ab_Ex.blk (k := 5) (pc' := 73) (lv' := [(4, .int r42.1), (3, .ref 18), (0, .ref 0), (1, .int x0), (2, .int x1)]) (st' := [.int x0, .ref 43, .int r42.1]) (sh' := ab_SH) (D' := ab_dD r42.2) (fun n => rfl) ?_
            obtain ⟨c43, hf⟩ := ab_ask_s hf
            have oe44 : ab_tr x0 = 48 := by unfold ab_tr; rw [e6]
            try rw [oe44] at hf
            refine ab_Ex.aald (o := 43) (j := x0) (t := 104) (n := 4) (i := 2) (z := 48) (fun n => rfl) c43 (by decide) e6 rfl (by decide) ?_
            refine ab_Ex.blk (k := 1) (pc' := 77) (lv' := [(4, .int r42.1), (3, .ref 18), (0, .ref 0), (1, .int x0), (2, .int x1)]) (st' := [.int (((r42.2).1 48 2)), .int r42.1]) (sh' := ab_SH) (D' := ab_dD r42.2) (fun n => rfl) ?_
            refine ab_Ex.ifc (c := r42.1 < ((r42.2).1 48 2)) (SA := (84, [(4, .int r42.1), (3, .ref 18), (0, .ref 0), (1, .int x0), (2, .int x1)], [], ab_dD r42.2)) (SB := (80, [(4, .int r42.1), (3, .ref 18), (0, .ref 0), (1, .int x0), (2, .int x1)], [], ab_dD r42.2)) (fun n => rfl) (fun c45 => ?_) (fun c45 => ?_)
            · replace hf := (if_pos c45).symm.trans hf
              refine ab_Ex.blk (k := 1) (pc' := 85) (lv' := [(0, .ref 0), (1, .int x0), (2, .int x1), (3, .ref 18), (4, .int r42.1)]) (st' := [.int 0]) (sh' := ab_SH) (D' := ab_dD r42.2) (fun n => rfl) ?_
              exact sX11_judge_J85 d X  x0 x1 r42.1 0 r42.2 _ hf
            · replace hf := (if_neg c45).symm.trans hf
              refine ab_Ex.blk (k := 2) (pc' := 85) (lv' := [(0, .ref 0), (1, .int x0), (2, .int x1), (3, .ref 18), (4, .int r42.1)]) (st' := [.int 1]) (sh' := ab_SH) (D' := ab_dD r42.2) (fun n => rfl) ?_
              exact sX11_judge_J85 d X  x0 x1 r42.1 1 r42.2 _ hf
          · replace hf := (if_neg c38).symm.trans hf
            refine ab_Ex.blk (k := 1) (pc' := 33) (lv' := [(0, .ref 0), (1, .int x0), (2, .int x1)]) (st' := [.int ((-6))]) (sh' := ab_SH) (D' := ab_dD h) (fun n => rfl) ?_
            obtain rfl := Option.some.inj hf
            exact ab_Ex.ret (fun n => rfl) rfl
        · have oe6 : ab_tr x0 = 50 := by unfold ab_tr; rw [e6]
          try rw [oe6] at hf
          refine ab_Ex.aald (o := 43) (j := x0) (t := 104) (n := 4) (i := 3) (z := 50) (fun n => rfl) c5 (by decide) e6 rfl (by decide) ?_
          refine ab_Ex.blk (k := 1) (pc' := 28) (lv' := [(0, .ref 0), (1, .int x0), (2, .int x1)]) (st' := [.int ((h.1 50 0))]) (sh' := ab_SH) (D' := ab_dD h) (fun n => rfl) ?_
          refine ab_Ex.ifc (c := (h.1 50 0) = 0) (SA := (34, [(0, .ref 0), (1, .int x0), (2, .int x1)], [], ab_dD h)) (SB := (31, [(0, .ref 0), (1, .int x0), (2, .int x1)], [], ab_dD h)) (fun n => rfl) (fun c46 => ?_) (fun c46 => ?_)
          · replace hf := (if_pos c46).symm.trans hf
            refine ab_Ex.blk (k := 7) (pc' := 47) (lv' := [(3, .ref 18), (0, .ref 0), (1, .int x0), (2, .int x1)]) (st' := [.ref 12, .ref 18]) (sh' := ab_SH) (D' := ab_dD h) (fun n => rfl) ?_
            obtain ⟨r47, hr47, hf⟩ := ab_bind_s hf
            refine ab_Ex.call (d := d + 6) (M2 := 117) (as := [.ref 18, .ref 12]) (rest := []) (fun n => rfl) rfl (Nat.not_lt.mpr (Nat.le_of_ble_eq_true rfl)) (sX9_copy_18_12 (d + 6) X  h _ hr47) (fun r hr => ?_)
            subst hr
            show ab_Ex X (d + 7) 137 50 [(3, .ref 18), (0, .ref 0), (1, .int x0), (2, .int x1)] [] ab_SH (ab_dD r47) _
            refine ab_Ex.blk (k := 6) (pc' := 60) (lv' := [(3, .ref 18), (0, .ref 0), (1, .int x0), (2, .int x1)]) (st' := [.int x0, .ref 43, .ref 18, .ref 16]) (sh' := ab_SH) (D' := ab_dD r47) (fun n => rfl) ?_
            obtain ⟨c48, hf⟩ := ab_ask_s hf
            have oe49 : ab_tr x0 = 50 := by unfold ab_tr; rw [e6]
            try rw [oe49] at hf
            refine ab_Ex.aald (o := 43) (j := x0) (t := 104) (n := 4) (i := 3) (z := 50) (fun n => rfl) c48 (by decide) e6 rfl (by decide) ?_
            obtain ⟨r50, hr50, hf⟩ := ab_bind_s hf
            refine ab_Ex.call (d := d + 6) (M2 := 9) (as := [.ref 16, .ref 18, .ref 50]) (rest := []) (fun n => rfl) rfl (Nat.not_lt.mpr (Nat.le_of_ble_eq_true rfl)) (sX0_doAll_18_50 (d) X  r47 _ hr50) (fun r hr => ?_)
            subst hr
            show ab_Ex X (d + 7) 137 64 [(3, .ref 18), (0, .ref 0), (1, .int x0), (2, .int x1)] [.int r50.1] ab_SH (ab_dD r50.2) _
            refine ab_Ex.blk (k := 5) (pc' := 73) (lv' := [(4, .int r50.1), (3, .ref 18), (0, .ref 0), (1, .int x0), (2, .int x1)]) (st' := [.int x0, .ref 43, .int r50.1]) (sh' := ab_SH) (D' := ab_dD r50.2) (fun n => rfl) ?_
            obtain ⟨c51, hf⟩ := ab_ask_s hf
            have oe52 : ab_tr x0 = 50 := by unfold ab_tr; rw [e6]
            try rw [oe52] at hf
            refine ab_Ex.aald (o := 43) (j := x0) (t := 104) (n := 4) (i := 3) (z := 50) (fun n => rfl) c51 (by decide) e6 rfl (by decide) ?_
            refine ab_Ex.blk (k := 1) (pc' := 77) (lv' := [(4, .int r50.1), (3, .ref 18), (0, .ref 0), (1, .int x0), (2, .int x1)]) (st' := [.int (((r50.2).1 50 2)), .int r50.1]) (sh' := ab_SH) (D' := ab_dD r50.2) (fun n => rfl) ?_
            refine ab_Ex.ifc (c := r50.1 < ((r50.2).1 50 2)) (SA := (84, [(4, .int r50.1), (3, .ref 18), (0, .ref 0), (1, .int x0), (2, .int x1)], [], ab_dD r50.2)) (SB := (80, [(4, .int r50.1), (3, .ref 18), (0, .ref 0), (1, .int x0), (2, .int x1)], [], ab_dD r50.2)) (fun n => rfl) (fun c53 => ?_) (fun c53 => ?_)
            · replace hf := (if_pos c53).symm.trans hf
              refine ab_Ex.blk (k := 1) (pc' := 85) (lv' := [(0, .ref 0), (1, .int x0), (2, .int x1), (3, .ref 18), (4, .int r50.1)]) (st' := [.int 0]) (sh' := ab_SH) (D' := ab_dD r50.2) (fun n => rfl) ?_
              exact sX11_judge_J85 d X  x0 x1 r50.1 0 r50.2 _ hf
            · replace hf := (if_neg c53).symm.trans hf
              refine ab_Ex.blk (k := 2) (pc' := 85) (lv' := [(0, .ref 0), (1, .int x0), (2, .int x1), (3, .ref 18), (4, .int r50.1)]) (st' := [.int 1]) (sh' := ab_SH) (D' := ab_dD r50.2) (fun n => rfl) ?_
              exact sX11_judge_J85 d X  x0 x1 r50.1 1 r50.2 _ hf
          · replace hf := (if_neg c46).symm.trans hf
            refine ab_Ex.blk (k := 1) (pc' := 33) (lv' := [(0, .ref 0), (1, .int x0), (2, .int x1)]) (st' := [.int ((-6))]) (sh' := ab_SH) (D' := ab_dD h) (fun n => rfl) ?_
            obtain rfl := Option.some.inj hf
            exact ab_Ex.ret (fun n => rfl) rfl
      · replace hf := (if_neg c4).symm.trans hf
        refine ab_Ex.blk (k := 1) (pc' := 18) (lv' := []) (st' := [.int ((-2))]) (sh' := ab_SH) (D' := ab_dD h) (fun n => rfl) ?_
        obtain rfl := Option.some.inj hf
        exact ab_Ex.ret (fun n => rfl) rfl
  · replace hf := (if_neg c2).symm.trans hf
    refine ab_Ex.blk (k := 1) (pc' := 18) (lv' := []) (st' := [.int ((-2))]) (sh' := ab_SH) (D' := ab_dD h) (fun n => rfl) ?_
    obtain rfl := Option.some.inj hf
    exact ab_Ex.ret (fun n => rfl) rfl
def fX11_perform (x0 : Int32) (h : abJ) : Option (Int32 × abJ) := (fX11_noTray x0 h).bind (fun r1 => if r1 = 0 then ab_ask (x0 < 0 ∨ 4 ≤ (x0 : Int32).toNatClampNeg) (if (h.1 (ab_tr x0) 0) = 0 then (fX0_begin h).bind (fun r5 => ab_ask (x0 < 0 ∨ 4 ≤ (x0 : Int32).toNatClampNeg) ((fX0_doAll 12 (ab_tr x0) r5).bind (fun r7 => (fX0_end (r7.1) r7.2).bind (fun r8 => some (r7.1, r8))))) else some ((-6), h)) else some ((-2), h))
set_option maxRecDepth 20000 in
theorem sX11_perform (d : Nat) (X : abX) (x0 : Int32) (h : abJ) (z : (Int32 × abJ)) (hf : fX11_perform x0 h = some z) : ab_Ex X (d + 7) 138 0 [(0, .ref 0), (1, .int x0)] [] ab_SH (ab_dD h) (fun r => r = (some (.int z.1), ab_SH, ab_dD z.2)) := by
  unfold fX11_perform at hf
  refine ab_Ex.blk (k := 1) (pc' := 1) (lv' := [(0, .ref 0), (1, .int x0)]) (st' := [.int x0]) (sh' := ab_SH) (D' := ab_dD h) (fun n => rfl) ?_
  obtain ⟨r1, hr1, hf⟩ := ab_bind_s hf
  refine ab_Ex.call (d := d + 6) (M2 := 170) (as := [.int x0]) (rest := []) (fun n => rfl) rfl (Nat.not_lt.mpr (Nat.le_of_ble_eq_true rfl)) (sX11_noTray (d + 6) X x0 h _ hr1) (fun r hr => ?_)
  subst hr
  show ab_Ex X (d + 7) 138 4 [(0, .ref 0), (1, .int x0)] [.int r1] ab_SH (ab_dD h) _
  refine ab_Ex.ifc (c := r1 = 0) (SA := (10, [(0, .ref 0), (1, .int x0)], [], ab_dD h)) (SB := (7, [(0, .ref 0), (1, .int x0)], [], ab_dD h)) (fun n => rfl) (fun c2 => ?_) (fun c2 => ?_)
  · replace hf := (if_pos c2).symm.trans hf
    refine ab_Ex.blk (k := 3) (pc' := 15) (lv' := [(0, .ref 0), (1, .int x0)]) (st' := [.int x0, .ref 43]) (sh' := ab_SH) (D' := ab_dD h) (fun n => rfl) ?_
    obtain ⟨c3, hf⟩ := ab_ask_s hf
    rcases ab_lt4 c3 with e4 | e4 | e4 | e4
    · have oe4 : ab_tr x0 = 44 := by unfold ab_tr; rw [e4]
      try rw [oe4] at hf
      refine ab_Ex.aald (o := 43) (j := x0) (t := 104) (n := 4) (i := 0) (z := 44) (fun n => rfl) c3 (by decide) e4 rfl (by decide) ?_
      refine ab_Ex.blk (k := 1) (pc' := 19) (lv' := [(0, .ref 0), (1, .int x0)]) (st' := [.int ((h.1 44 0))]) (sh' := ab_SH) (D' := ab_dD h) (fun n => rfl) ?_
      refine ab_Ex.ifc (c := (h.1 44 0) = 0) (SA := (25, [(0, .ref 0), (1, .int x0)], [], ab_dD h)) (SB := (22, [(0, .ref 0), (1, .int x0)], [], ab_dD h)) (fun n => rfl) (fun c5 => ?_) (fun c5 => ?_)
      · replace hf := (if_pos c5).symm.trans hf
        refine ab_Ex.blk (k := 2) (pc' := 29) (lv' := [(0, .ref 0), (1, .int x0)]) (st' := [.ref 16]) (sh' := ab_SH) (D' := ab_dD h) (fun n => rfl) ?_
        obtain ⟨r6, hr6, hf⟩ := ab_bind_s hf
        refine ab_Ex.call (d := d + 6) (M2 := 1) (as := [.ref 16]) (rest := []) (fun n => rfl) rfl (Nat.not_lt.mpr (Nat.le_of_ble_eq_true rfl)) (sX0_begin (d + 5) X  h _ hr6) (fun r hr => ?_)
        subst hr
        show ab_Ex X (d + 7) 138 32 [(0, .ref 0), (1, .int x0)] [] ab_SH (ab_dD r6) _
        refine ab_Ex.blk (k := 7) (pc' := 45) (lv' := [(0, .ref 0), (1, .int x0)]) (st' := [.int x0, .ref 43, .ref 12, .ref 16]) (sh' := ab_SH) (D' := ab_dD r6) (fun n => rfl) ?_
        obtain ⟨c7, hf⟩ := ab_ask_s hf
        have oe8 : ab_tr x0 = 44 := by unfold ab_tr; rw [e4]
        try rw [oe8] at hf
        refine ab_Ex.aald (o := 43) (j := x0) (t := 104) (n := 4) (i := 0) (z := 44) (fun n => rfl) c7 (by decide) e4 rfl (by decide) ?_
        obtain ⟨r9, hr9, hf⟩ := ab_bind_s hf
        refine ab_Ex.call (d := d + 6) (M2 := 9) (as := [.ref 16, .ref 12, .ref 44]) (rest := []) (fun n => rfl) rfl (Nat.not_lt.mpr (Nat.le_of_ble_eq_true rfl)) (sX0_doAll_12_44 (d) X  r6 _ hr9) (fun r hr => ?_)
        subst hr
        show ab_Ex X (d + 7) 138 49 [(0, .ref 0), (1, .int x0)] [.int r9.1] ab_SH (ab_dD r9.2) _
        refine ab_Ex.blk (k := 4) (pc' := 55) (lv' := [(2, .int r9.1), (0, .ref 0), (1, .int x0)]) (st' := [.int r9.1, .ref 16]) (sh' := ab_SH) (D' := ab_dD r9.2) (fun n => rfl) ?_
        obtain ⟨r10, hr10, hf⟩ := ab_bind_s hf
        refine ab_Ex.call (d := d + 6) (M2 := 2) (as := [.ref 16, .int r9.1]) (rest := []) (fun n => rfl) rfl (Nat.not_lt.mpr (Nat.le_of_ble_eq_true rfl)) (sX0_end (d + 5) X (r9.1) r9.2 _ hr10) (fun r hr => ?_)
        subst hr
        show ab_Ex X (d + 7) 138 58 [(2, .int r9.1), (0, .ref 0), (1, .int x0)] [] ab_SH (ab_dD r10) _
        refine ab_Ex.blk (k := 1) (pc' := 59) (lv' := [(2, .int r9.1), (0, .ref 0), (1, .int x0)]) (st' := [.int r9.1]) (sh' := ab_SH) (D' := ab_dD r10) (fun n => rfl) ?_
        obtain rfl := Option.some.inj hf
        exact ab_Ex.ret (fun n => rfl) rfl
      · replace hf := (if_neg c5).symm.trans hf
        refine ab_Ex.blk (k := 1) (pc' := 24) (lv' := [(0, .ref 0), (1, .int x0)]) (st' := [.int ((-6))]) (sh' := ab_SH) (D' := ab_dD h) (fun n => rfl) ?_
        obtain rfl := Option.some.inj hf
        exact ab_Ex.ret (fun n => rfl) rfl
    · have oe4 : ab_tr x0 = 46 := by unfold ab_tr; rw [e4]
      try rw [oe4] at hf
      refine ab_Ex.aald (o := 43) (j := x0) (t := 104) (n := 4) (i := 1) (z := 46) (fun n => rfl) c3 (by decide) e4 rfl (by decide) ?_
      refine ab_Ex.blk (k := 1) (pc' := 19) (lv' := [(0, .ref 0), (1, .int x0)]) (st' := [.int ((h.1 46 0))]) (sh' := ab_SH) (D' := ab_dD h) (fun n => rfl) ?_
      refine ab_Ex.ifc (c := (h.1 46 0) = 0) (SA := (25, [(0, .ref 0), (1, .int x0)], [], ab_dD h)) (SB := (22, [(0, .ref 0), (1, .int x0)], [], ab_dD h)) (fun n => rfl) (fun c11 => ?_) (fun c11 => ?_)
      · replace hf := (if_pos c11).symm.trans hf
        refine ab_Ex.blk (k := 2) (pc' := 29) (lv' := [(0, .ref 0), (1, .int x0)]) (st' := [.ref 16]) (sh' := ab_SH) (D' := ab_dD h) (fun n => rfl) ?_
        obtain ⟨r12, hr12, hf⟩ := ab_bind_s hf
        refine ab_Ex.call (d := d + 6) (M2 := 1) (as := [.ref 16]) (rest := []) (fun n => rfl) rfl (Nat.not_lt.mpr (Nat.le_of_ble_eq_true rfl)) (sX0_begin (d + 5) X  h _ hr12) (fun r hr => ?_)
        subst hr
        show ab_Ex X (d + 7) 138 32 [(0, .ref 0), (1, .int x0)] [] ab_SH (ab_dD r12) _
        refine ab_Ex.blk (k := 7) (pc' := 45) (lv' := [(0, .ref 0), (1, .int x0)]) (st' := [.int x0, .ref 43, .ref 12, .ref 16]) (sh' := ab_SH) (D' := ab_dD r12) (fun n => rfl) ?_
        obtain ⟨c13, hf⟩ := ab_ask_s hf
        have oe14 : ab_tr x0 = 46 := by unfold ab_tr; rw [e4]
        try rw [oe14] at hf
        refine ab_Ex.aald (o := 43) (j := x0) (t := 104) (n := 4) (i := 1) (z := 46) (fun n => rfl) c13 (by decide) e4 rfl (by decide) ?_
        obtain ⟨r15, hr15, hf⟩ := ab_bind_s hf
        refine ab_Ex.call (d := d + 6) (M2 := 9) (as := [.ref 16, .ref 12, .ref 46]) (rest := []) (fun n => rfl) rfl (Nat.not_lt.mpr (Nat.le_of_ble_eq_true rfl)) (sX0_doAll_12_46 (d) X  r12 _ hr15) (fun r hr => ?_)
        subst hr
        show ab_Ex X (d + 7) 138 49 [(0, .ref 0), (1, .int x0)] [.int r15.1] ab_SH (ab_dD r15.2) _
        refine ab_Ex.blk (k := 4) (pc' := 55) (lv' := [(2, .int r15.1), (0, .ref 0), (1, .int x0)]) (st' := [.int r15.1, .ref 16]) (sh' := ab_SH) (D' := ab_dD r15.2) (fun n => rfl) ?_
        obtain ⟨r16, hr16, hf⟩ := ab_bind_s hf
        refine ab_Ex.call (d := d + 6) (M2 := 2) (as := [.ref 16, .int r15.1]) (rest := []) (fun n => rfl) rfl (Nat.not_lt.mpr (Nat.le_of_ble_eq_true rfl)) (sX0_end (d + 5) X (r15.1) r15.2 _ hr16) (fun r hr => ?_)
        subst hr
        show ab_Ex X (d + 7) 138 58 [(2, .int r15.1), (0, .ref 0), (1, .int x0)] [] ab_SH (ab_dD r16) _
        refine ab_Ex.blk (k := 1) (pc' := 59) (lv' := [(2, .int r15.1), (0, .ref 0), (1, .int x0)]) (st' := [.int r15.1]) (sh' := ab_SH) (D' := ab_dD r16) (fun n => rfl) ?_
        obtain rfl := Option.some.inj hf
        exact ab_Ex.ret (fun n => rfl) rfl
      · replace hf := (if_neg c11).symm.trans hf
        refine ab_Ex.blk (k := 1) (pc' := 24) (lv' := [(0, .ref 0), (1, .int x0)]) (st' := [.int ((-6))]) (sh' := ab_SH) (D' := ab_dD h) (fun n => rfl) ?_
        obtain rfl := Option.some.inj hf
        exact ab_Ex.ret (fun n => rfl) rfl
    · have oe4 : ab_tr x0 = 48 := by unfold ab_tr; rw [e4]
      try rw [oe4] at hf
      refine ab_Ex.aald (o := 43) (j := x0) (t := 104) (n := 4) (i := 2) (z := 48) (fun n => rfl) c3 (by decide) e4 rfl (by decide) ?_
      refine ab_Ex.blk (k := 1) (pc' := 19) (lv' := [(0, .ref 0), (1, .int x0)]) (st' := [.int ((h.1 48 0))]) (sh' := ab_SH) (D' := ab_dD h) (fun n => rfl) ?_
      refine ab_Ex.ifc (c := (h.1 48 0) = 0) (SA := (25, [(0, .ref 0), (1, .int x0)], [], ab_dD h)) (SB := (22, [(0, .ref 0), (1, .int x0)], [], ab_dD h)) (fun n => rfl) (fun c17 => ?_) (fun c17 => ?_)
      · replace hf := (if_pos c17).symm.trans hf
        refine ab_Ex.blk (k := 2) (pc' := 29) (lv' := [(0, .ref 0), (1, .int x0)]) (st' := [.ref 16]) (sh' := ab_SH) (D' := ab_dD h) (fun n => rfl) ?_
        obtain ⟨r18, hr18, hf⟩ := ab_bind_s hf
        refine ab_Ex.call (d := d + 6) (M2 := 1) (as := [.ref 16]) (rest := []) (fun n => rfl) rfl (Nat.not_lt.mpr (Nat.le_of_ble_eq_true rfl)) (sX0_begin (d + 5) X  h _ hr18) (fun r hr => ?_)
        subst hr
        show ab_Ex X (d + 7) 138 32 [(0, .ref 0), (1, .int x0)] [] ab_SH (ab_dD r18) _
        refine ab_Ex.blk (k := 7) (pc' := 45) (lv' := [(0, .ref 0), (1, .int x0)]) (st' := [.int x0, .ref 43, .ref 12, .ref 16]) (sh' := ab_SH) (D' := ab_dD r18) (fun n => rfl) ?_
        obtain ⟨c19, hf⟩ := ab_ask_s hf
        have oe20 : ab_tr x0 = 48 := by unfold ab_tr; rw [e4]
        try rw [oe20] at hf
        refine ab_Ex.aald (o := 43) (j := x0) (t := 104) (n := 4) (i := 2) (z := 48) (fun n => rfl) c19 (by decide) e4 rfl (by decide) ?_
        obtain ⟨r21, hr21, hf⟩ := ab_bind_s hf
        refine ab_Ex.call (d := d + 6) (M2 := 9) (as := [.ref 16, .ref 12, .ref 48]) (rest := []) (fun n => rfl) rfl (Nat.not_lt.mpr (Nat.le_of_ble_eq_true rfl)) (sX0_doAll_12_48 (d) X  r18 _ hr21) (fun r hr => ?_)
        subst hr
        show ab_Ex X (d + 7) 138 49 [(0, .ref 0), (1, .int x0)] [.int r21.1] ab_SH (ab_dD r21.2) _
        refine ab_Ex.blk (k := 4) (pc' := 55) (lv' := [(2, .int r21.1), (0, .ref 0), (1, .int x0)]) (st' := [.int r21.1, .ref 16]) (sh' := ab_SH) (D' := ab_dD r21.2) (fun n => rfl) ?_
        obtain ⟨r22, hr22, hf⟩ := ab_bind_s hf
        refine ab_Ex.call (d := d + 6) (M2 := 2) (as := [.ref 16, .int r21.1]) (rest := []) (fun n => rfl) rfl (Nat.not_lt.mpr (Nat.le_of_ble_eq_true rfl)) (sX0_end (d + 5) X (r21.1) r21.2 _ hr22) (fun r hr => ?_)
        subst hr
        show ab_Ex X (d + 7) 138 58 [(2, .int r21.1), (0, .ref 0), (1, .int x0)] [] ab_SH (ab_dD r22) _
        refine ab_Ex.blk (k := 1) (pc' := 59) (lv' := [(2, .int r21.1), (0, .ref 0), (1, .int x0)]) (st' := [.int r21.1]) (sh' := ab_SH) (D' := ab_dD r22) (fun n => rfl) ?_
        obtain rfl := Option.some.inj hf
        exact ab_Ex.ret (fun n => rfl) rfl
      · replace hf := (if_neg c17).symm.trans hf
        refine ab_Ex.blk (k := 1) (pc' := 24) (lv' := [(0, .ref 0), (1, .int x0)]) (st' := [.int ((-6))]) (sh' := ab_SH) (D' := ab_dD h) (fun n => rfl) ?_
        obtain rfl := Option.some.inj hf
        exact ab_Ex.ret (fun n => rfl) rfl
    · have oe4 : ab_tr x0 = 50 := by unfold ab_tr; rw [e4]
      try rw [oe4] at hf
      refine ab_Ex.aald (o := 43) (j := x0) (t := 104) (n := 4) (i := 3) (z := 50) (fun n => rfl) c3 (by decide) e4 rfl (by decide) ?_
      refine ab_Ex.blk (k := 1) (pc' := 19) (lv' := [(0, .ref 0), (1, .int x0)]) (st' := [.int ((h.1 50 0))]) (sh' := ab_SH) (D' := ab_dD h) (fun n => rfl) ?_
      refine ab_Ex.ifc (c := (h.1 50 0) = 0) (SA := (25, [(0, .ref 0), (1, .int x0)], [], ab_dD h)) (SB := (22, [(0, .ref 0), (1, .int x0)], [], ab_dD h)) (fun n => rfl) (fun c23 => ?_) (fun c23 => ?_)
      · replace hf := (if_pos c23).symm.trans hf
        refine ab_Ex.blk (k := 2) (pc' := 29) (lv' := [(0, .ref 0), (1, .int x0)]) (st' := [.ref 16]) (sh' := ab_SH) (D' := ab_dD h) (fun n => rfl) ?_
        obtain ⟨r24, hr24, hf⟩ := ab_bind_s hf
        refine ab_Ex.call (d := d + 6) (M2 := 1) (as := [.ref 16]) (rest := []) (fun n => rfl) rfl (Nat.not_lt.mpr (Nat.le_of_ble_eq_true rfl)) (sX0_begin (d + 5) X  h _ hr24) (fun r hr => ?_)
        subst hr
        show ab_Ex X (d + 7) 138 32 [(0, .ref 0), (1, .int x0)] [] ab_SH (ab_dD r24) _
        refine ab_Ex.blk (k := 7) (pc' := 45) (lv' := [(0, .ref 0), (1, .int x0)]) (st' := [.int x0, .ref 43, .ref 12, .ref 16]) (sh' := ab_SH) (D' := ab_dD r24) (fun n => rfl) ?_
        obtain ⟨c25, hf⟩ := ab_ask_s hf
        have oe26 : ab_tr x0 = 50 := by unfold ab_tr; rw [e4]
        try rw [oe26] at hf
        refine ab_Ex.aald (o := 43) (j := x0) (t := 104) (n := 4) (i := 3) (z := 50) (fun n => rfl) c25 (by decide) e4 rfl (by decide) ?_
        obtain ⟨r27, hr27, hf⟩ := ab_bind_s hf
        refine ab_Ex.call (d := d + 6) (M2 := 9) (as := [.ref 16, .ref 12, .ref 50]) (rest := []) (fun n => rfl) rfl (Nat.not_lt.mpr (Nat.le_of_ble_eq_true rfl)) (sX0_doAll_12_50 (d) X  r24 _ hr27) (fun r hr => ?_)
        subst hr
        show ab_Ex X (d + 7) 138 49 [(0, .ref 0), (1, .int x0)] [.int r27.1] ab_SH (ab_dD r27.2) _
        refine ab_Ex.blk (k := 4) (pc' := 55) (lv' := [(2, .int r27.1), (0, .ref 0), (1, .int x0)]) (st' := [.int r27.1, .ref 16]) (sh' := ab_SH) (D' := ab_dD r27.2) (fun n => rfl) ?_
        obtain ⟨r28, hr28, hf⟩ := ab_bind_s hf
        refine ab_Ex.call (d := d + 6) (M2 := 2) (as := [.ref 16, .int r27.1]) (rest := []) (fun n => rfl) rfl (Nat.not_lt.mpr (Nat.le_of_ble_eq_true rfl)) (sX0_end (d + 5) X (r27.1) r27.2 _ hr28) (fun r hr => ?_)
        subst hr
        show ab_Ex X (d + 7) 138 58 [(2, .int r27.1), (0, .ref 0), (1, .int x0)] [] ab_SH (ab_dD r28) _
        refine ab_Ex.blk (k := 1) (pc' := 59) (lv' := [(2, .int r27.1), (0, .ref 0), (1, .int x0)]) (st' := [.int r27.1]) (sh' := ab_SH) (D' := ab_dD r28) (fun n => rfl) ?_
        obtain rfl := Option.some.inj hf
        exact ab_Ex.ret (fun n => rfl) rfl
      · replace hf := (if_neg c23).symm.trans hf
        refine ab_Ex.blk (k := 1) (pc' := 24) (lv' := [(0, .ref 0), (1, .int x0)]) (st' := [.int ((-6))]) (sh' := ab_SH) (D' := ab_dD h) (fun n => rfl) ?_
        obtain rfl := Option.some.inj hf
        exact ab_Ex.ret (fun n => rfl) rfl
  · replace hf := (if_neg c2).symm.trans hf
    refine ab_Ex.blk (k := 1) (pc' := 9) (lv' := [(0, .ref 0), (1, .int x0)]) (st' := [.int ((-2))]) (sh' := ab_SH) (D' := ab_dD h) (fun n => rfl) ?_
    obtain rfl := Option.some.inj hf
    exact ab_Ex.ret (fun n => rfl) rfl
def fX11_year (x0 : Int32) (x1 : Int32) (h : abJ) : Option (Int32 × abJ) := if x1 < 1 then some ((-3), h) else if x1 ≤ 40 then (fX0_begin h).bind (fun r3 => (fX0_liveYear x0 x1 r3).bind (fun r4 => (fX0_end (r4.1) r4.2).bind (fun r5 => some (r4.1, r5)))) else some ((-3), h)
set_option maxRecDepth 20000 in
theorem sX11_year (d : Nat) (X : abX) (x0 : Int32) (x1 : Int32) (h : abJ) (z : (Int32 × abJ)) (hf : fX11_year x0 x1 h = some z) : ab_Ex X (d + 7) 139 0 [(0, .ref 0), (1, .int x0), (2, .int x1)] [] ab_SH (ab_dD h) (fun r => r = (some (.int z.1), ab_SH, ab_dD z.2)) := by
  unfold fX11_year at hf
  refine ab_Ex.blk (k := 2) (pc' := 2) (lv' := [(0, .ref 0), (1, .int x0), (2, .int x1)]) (st' := [.int 1, .int x1]) (sh' := ab_SH) (D' := ab_dD h) (fun n => rfl) ?_
  refine ab_Ex.ifc (c := x1 < 1) (SA := (11, [(0, .ref 0), (1, .int x0), (2, .int x1)], [], ab_dD h)) (SB := (5, [(0, .ref 0), (1, .int x0), (2, .int x1)], [], ab_dD h)) (fun n => rfl) (fun c1 => ?_) (fun c1 => ?_)
  · replace hf := (if_pos c1).symm.trans hf
    refine ab_Ex.blk (k := 1) (pc' := 13) (lv' := []) (st' := [.int ((-3))]) (sh' := ab_SH) (D' := ab_dD h) (fun n => rfl) ?_
    obtain rfl := Option.some.inj hf
    exact ab_Ex.ret (fun n => rfl) rfl
  · replace hf := (if_neg c1).symm.trans hf
    refine ab_Ex.blk (k := 2) (pc' := 8) (lv' := [(0, .ref 0), (1, .int x0), (2, .int x1)]) (st' := [.int 40, .int x1]) (sh' := ab_SH) (D' := ab_dD h) (fun n => rfl) ?_
    refine ab_Ex.ifc (c := x1 ≤ 40) (SA := (14, [(0, .ref 0), (1, .int x0), (2, .int x1)], [], ab_dD h)) (SB := (11, [(0, .ref 0), (1, .int x0), (2, .int x1)], [], ab_dD h)) (fun n => rfl) (fun c2 => ?_) (fun c2 => ?_)
    · replace hf := (if_pos c2).symm.trans hf
      refine ab_Ex.blk (k := 2) (pc' := 18) (lv' := [(0, .ref 0), (1, .int x0), (2, .int x1)]) (st' := [.ref 16]) (sh' := ab_SH) (D' := ab_dD h) (fun n => rfl) ?_
      obtain ⟨r3, hr3, hf⟩ := ab_bind_s hf
      refine ab_Ex.call (d := d + 6) (M2 := 1) (as := [.ref 16]) (rest := []) (fun n => rfl) rfl (Nat.not_lt.mpr (Nat.le_of_ble_eq_true rfl)) (sX0_begin (d + 5) X  h _ hr3) (fun r hr => ?_)
      subst hr
      show ab_Ex X (d + 7) 139 21 [(0, .ref 0), (1, .int x0), (2, .int x1)] [] ab_SH (ab_dD r3) _
      refine ab_Ex.blk (k := 6) (pc' := 31) (lv' := [(0, .ref 0), (1, .int x0), (2, .int x1)]) (st' := [.int x1, .int x0, .ref 12, .ref 16]) (sh' := ab_SH) (D' := ab_dD r3) (fun n => rfl) ?_
      obtain ⟨r4, hr4, hf⟩ := ab_bind_s hf
      refine ab_Ex.call (d := d + 6) (M2 := 10) (as := [.ref 16, .ref 12, .int x0, .int x1]) (rest := []) (fun n => rfl) rfl (Nat.not_lt.mpr (Nat.le_of_ble_eq_true rfl)) (sX0_liveYear (d) X x0 x1 r3 _ hr4) (fun r hr => ?_)
      subst hr
      show ab_Ex X (d + 7) 139 34 [(0, .ref 0), (1, .int x0), (2, .int x1)] [.int r4.1] ab_SH (ab_dD r4.2) _
      refine ab_Ex.blk (k := 4) (pc' := 40) (lv' := [(3, .int r4.1), (0, .ref 0), (1, .int x0), (2, .int x1)]) (st' := [.int r4.1, .ref 16]) (sh' := ab_SH) (D' := ab_dD r4.2) (fun n => rfl) ?_
      obtain ⟨r5, hr5, hf⟩ := ab_bind_s hf
      refine ab_Ex.call (d := d + 6) (M2 := 2) (as := [.ref 16, .int r4.1]) (rest := []) (fun n => rfl) rfl (Nat.not_lt.mpr (Nat.le_of_ble_eq_true rfl)) (sX0_end (d + 5) X (r4.1) r4.2 _ hr5) (fun r hr => ?_)
      subst hr
      show ab_Ex X (d + 7) 139 43 [(3, .int r4.1), (0, .ref 0), (1, .int x0), (2, .int x1)] [] ab_SH (ab_dD r5) _
      refine ab_Ex.blk (k := 1) (pc' := 44) (lv' := [(3, .int r4.1), (0, .ref 0), (1, .int x0), (2, .int x1)]) (st' := [.int r4.1]) (sh' := ab_SH) (D' := ab_dD r5) (fun n => rfl) ?_
      obtain rfl := Option.some.inj hf
      exact ab_Ex.ret (fun n => rfl) rfl
    · replace hf := (if_neg c2).symm.trans hf
      refine ab_Ex.blk (k := 1) (pc' := 13) (lv' := []) (st' := [.int ((-3))]) (sh' := ab_SH) (D' := ab_dD h) (fun n => rfl) ?_
      obtain rfl := Option.some.inj hf
      exact ab_Ex.ret (fun n => rfl) rfl
def fX11_at (x0 : Int64) (h : abJ) : Option (Int32 × abJ) := if (lg_cmp x0 0) < 0 then some ((-3), h) else if (lg_cmp x0 1000000000000000) ≤ 0 then (fX9_code 12 h).bind (fun r3 => (fX2_walk ((h.1 12 2)) r3 h).bind (fun r4 => (fX2_standBehind x0 r4).bind (fun r5 => some ((r5 - r5 / 6 * 6), r4)))) else some ((-3), h)
set_option maxRecDepth 20000 in
theorem sX11_at (d : Nat) (X : abX) (x0 : Int64) (h : abJ) (z : (Int32 × abJ)) (hf : fX11_at x0 h = some z) : ab_Ex X (d + 4) 140 0 [(0, .ref 0), (1, .long x0)] [] ab_SH (ab_dD h) (fun r => r = (some (.int z.1), ab_SH, ab_dD z.2)) := by
  unfold fX11_at at hf
  refine ab_Ex.blk (k := 3) (pc' := 3) (lv' := [(0, .ref 0), (1, .long x0)]) (st' := [.int ((lg_cmp x0 0))]) (sh' := ab_SH) (D' := ab_dD h) (fun n => rfl) ?_
  refine ab_Ex.ifc (c := (lg_cmp x0 0) < 0) (SA := (14, [(0, .ref 0), (1, .long x0)], [], ab_dD h)) (SB := (6, [(0, .ref 0), (1, .long x0)], [], ab_dD h)) (fun n => rfl) (fun c1 => ?_) (fun c1 => ?_)
  · replace hf := (if_pos c1).symm.trans hf
    refine ab_Ex.blk (k := 1) (pc' := 16) (lv' := []) (st' := [.int ((-3))]) (sh' := ab_SH) (D' := ab_dD h) (fun n => rfl) ?_
    obtain rfl := Option.some.inj hf
    exact ab_Ex.ret (fun n => rfl) rfl
  · replace hf := (if_neg c1).symm.trans hf
    refine ab_Ex.blk (k := 3) (pc' := 11) (lv' := [(0, .ref 0), (1, .long x0)]) (st' := [.int ((lg_cmp x0 1000000000000000))]) (sh' := ab_SH) (D' := ab_dD h) (fun n => rfl) ?_
    refine ab_Ex.ifc (c := (lg_cmp x0 1000000000000000) ≤ 0) (SA := (17, [(0, .ref 0), (1, .long x0)], [], ab_dD h)) (SB := (14, [(0, .ref 0), (1, .long x0)], [], ab_dD h)) (fun n => rfl) (fun c2 => ?_) (fun c2 => ?_)
    · replace hf := (if_pos c2).symm.trans hf
      refine ab_Ex.blk (k := 7) (pc' := 32) (lv' := [(0, .ref 0), (1, .long x0)]) (st' := [.ref 12, .int ((h.1 12 2)), .ref 32]) (sh' := ab_SH) (D' := ab_dD h) (fun n => rfl) ?_
      obtain ⟨r3, hr3, hf⟩ := ab_bind_s hf
      refine ab_Ex.call (d := d + 3) (M2 := 119) (as := [.ref 12]) (rest := [.int ((h.1 12 2)), .ref 32]) (fun n => rfl) rfl (Nat.not_lt.mpr (Nat.le_of_ble_eq_true rfl)) (sX9_code_12 (d + 3) X  h _ hr3) (fun r hr => ?_)
      subst hr
      show ab_Ex X (d + 4) 140 35 [(0, .ref 0), (1, .long x0)] [.int r3, .int ((h.1 12 2)), .ref 32] ab_SH (ab_dD h) _
      obtain ⟨r4, hr4, hf⟩ := ab_bind_s hf
      refine ab_Ex.call (d := d + 3) (M2 := 22) (as := [.ref 32, .int ((h.1 12 2)), .int r3]) (rest := []) (fun n => rfl) rfl (Nat.not_lt.mpr (Nat.le_of_ble_eq_true rfl)) (sX2_walk (d) X ((h.1 12 2)) r3 h _ hr4) (fun r hr => ?_)
      subst hr
      show ab_Ex X (d + 4) 140 38 [(0, .ref 0), (1, .long x0)] [] ab_SH (ab_dD r4) _
      refine ab_Ex.blk (k := 3) (pc' := 43) (lv' := [(0, .ref 0), (1, .long x0)]) (st' := [.long x0, .ref 32]) (sh' := ab_SH) (D' := ab_dD r4) (fun n => rfl) ?_
      obtain ⟨r5, hr5, hf⟩ := ab_bind_s hf
      refine ab_Ex.call (d := d + 3) (M2 := 23) (as := [.ref 32, .long x0]) (rest := []) (fun n => rfl) rfl (Nat.not_lt.mpr (Nat.le_of_ble_eq_true rfl)) (sX2_standBehind (d + 3) X x0 r4 _ hr5) (fun r hr => ?_)
      subst hr
      show ab_Ex X (d + 4) 140 46 [(0, .ref 0), (1, .long x0)] [.int r5] ab_SH (ab_dD r4) _
      refine ab_Ex.blk (k := 1) (pc' := 48) (lv' := [(0, .ref 0), (1, .long x0)]) (st' := [.int 6, .int r5]) (sh' := ab_SH) (D' := ab_dD r4) (fun n => rfl) ?_
      refine ab_Ex.blk (k := 1) (pc' := 49) (lv' := [(0, .ref 0), (1, .long x0)]) (st' := [.int ((r5 - r5 / 6 * 6))]) (sh' := ab_SH) (D' := ab_dD r4) (fun n => rfl) ?_
      obtain rfl := Option.some.inj hf
      exact ab_Ex.ret (fun n => rfl) rfl
    · replace hf := (if_neg c2).symm.trans hf
      refine ab_Ex.blk (k := 1) (pc' := 16) (lv' := []) (st' := [.int ((-3))]) (sh' := ab_SH) (D' := ab_dD h) (fun n => rfl) ?_
      obtain rfl := Option.some.inj hf
      exact ab_Ex.ret (fun n => rfl) rfl
def fX11_arms (x0 : Int64) (h : abJ) : Option (Int32 × abJ) := if (lg_cmp x0 0) < 0 then some ((-3), h) else if (lg_cmp x0 1000000000000000) ≤ 0 then (fX9_code 12 h).bind (fun r3 => (fX2_walk ((h.1 12 2)) r3 h).bind (fun r4 => (fX2_standBehind x0 r4).bind (fun r5 => some ((r5 / 6), r4)))) else some ((-3), h)
set_option maxRecDepth 20000 in
theorem sX11_arms (d : Nat) (X : abX) (x0 : Int64) (h : abJ) (z : (Int32 × abJ)) (hf : fX11_arms x0 h = some z) : ab_Ex X (d + 4) 141 0 [(0, .ref 0), (1, .long x0)] [] ab_SH (ab_dD h) (fun r => r = (some (.int z.1), ab_SH, ab_dD z.2)) := by
  unfold fX11_arms at hf
  refine ab_Ex.blk (k := 3) (pc' := 3) (lv' := [(0, .ref 0), (1, .long x0)]) (st' := [.int ((lg_cmp x0 0))]) (sh' := ab_SH) (D' := ab_dD h) (fun n => rfl) ?_
  refine ab_Ex.ifc (c := (lg_cmp x0 0) < 0) (SA := (14, [(0, .ref 0), (1, .long x0)], [], ab_dD h)) (SB := (6, [(0, .ref 0), (1, .long x0)], [], ab_dD h)) (fun n => rfl) (fun c1 => ?_) (fun c1 => ?_)
  · replace hf := (if_pos c1).symm.trans hf
    refine ab_Ex.blk (k := 1) (pc' := 16) (lv' := []) (st' := [.int ((-3))]) (sh' := ab_SH) (D' := ab_dD h) (fun n => rfl) ?_
    obtain rfl := Option.some.inj hf
    exact ab_Ex.ret (fun n => rfl) rfl
  · replace hf := (if_neg c1).symm.trans hf
    refine ab_Ex.blk (k := 3) (pc' := 11) (lv' := [(0, .ref 0), (1, .long x0)]) (st' := [.int ((lg_cmp x0 1000000000000000))]) (sh' := ab_SH) (D' := ab_dD h) (fun n => rfl) ?_
    refine ab_Ex.ifc (c := (lg_cmp x0 1000000000000000) ≤ 0) (SA := (17, [(0, .ref 0), (1, .long x0)], [], ab_dD h)) (SB := (14, [(0, .ref 0), (1, .long x0)], [], ab_dD h)) (fun n => rfl) (fun c2 => ?_) (fun c2 => ?_)
    · replace hf := (if_pos c2).symm.trans hf
      refine ab_Ex.blk (k := 7) (pc' := 32) (lv' := [(0, .ref 0), (1, .long x0)]) (st' := [.ref 12, .int ((h.1 12 2)), .ref 32]) (sh' := ab_SH) (D' := ab_dD h) (fun n => rfl) ?_
      obtain ⟨r3, hr3, hf⟩ := ab_bind_s hf
      refine ab_Ex.call (d := d + 3) (M2 := 119) (as := [.ref 12]) (rest := [.int ((h.1 12 2)), .ref 32]) (fun n => rfl) rfl (Nat.not_lt.mpr (Nat.le_of_ble_eq_true rfl)) (sX9_code_12 (d + 3) X  h _ hr3) (fun r hr => ?_)
      subst hr
      show ab_Ex X (d + 4) 141 35 [(0, .ref 0), (1, .long x0)] [.int r3, .int ((h.1 12 2)), .ref 32] ab_SH (ab_dD h) _
      obtain ⟨r4, hr4, hf⟩ := ab_bind_s hf
      refine ab_Ex.call (d := d + 3) (M2 := 22) (as := [.ref 32, .int ((h.1 12 2)), .int r3]) (rest := []) (fun n => rfl) rfl (Nat.not_lt.mpr (Nat.le_of_ble_eq_true rfl)) (sX2_walk (d) X ((h.1 12 2)) r3 h _ hr4) (fun r hr => ?_)
      subst hr
      show ab_Ex X (d + 4) 141 38 [(0, .ref 0), (1, .long x0)] [] ab_SH (ab_dD r4) _
      refine ab_Ex.blk (k := 3) (pc' := 43) (lv' := [(0, .ref 0), (1, .long x0)]) (st' := [.long x0, .ref 32]) (sh' := ab_SH) (D' := ab_dD r4) (fun n => rfl) ?_
      obtain ⟨r5, hr5, hf⟩ := ab_bind_s hf
      refine ab_Ex.call (d := d + 3) (M2 := 23) (as := [.ref 32, .long x0]) (rest := []) (fun n => rfl) rfl (Nat.not_lt.mpr (Nat.le_of_ble_eq_true rfl)) (sX2_standBehind (d + 3) X x0 r4 _ hr5) (fun r hr => ?_)
      subst hr
      show ab_Ex X (d + 4) 141 46 [(0, .ref 0), (1, .long x0)] [.int r5] ab_SH (ab_dD r4) _
      refine ab_Ex.blk (k := 1) (pc' := 48) (lv' := [(0, .ref 0), (1, .long x0)]) (st' := [.int 6, .int r5]) (sh' := ab_SH) (D' := ab_dD r4) (fun n => rfl) ?_
      refine ab_Ex.blk (k := 1) (pc' := 49) (lv' := [(0, .ref 0), (1, .long x0)]) (st' := [.int ((r5 / 6))]) (sh' := ab_SH) (D' := ab_dD r4) (fun n => rfl) ?_
      obtain rfl := Option.some.inj hf
      exact ab_Ex.ret (fun n => rfl) rfl
    · replace hf := (if_neg c2).symm.trans hf
      refine ab_Ex.blk (k := 1) (pc' := 16) (lv' := []) (st' := [.int ((-3))]) (sh' := ab_SH) (D' := ab_dD h) (fun n => rfl) ?_
      obtain rfl := Option.some.inj hf
      exact ab_Ex.ret (fun n => rfl) rfl
def fX11_visits (x0 : Int32) (x1 : Int64) (h : abJ) : Option (Int64 × abJ) := (fX3_has 1 x0 h).bind (fun r1 => if r1 = 0 then some ((-2), h) else if (lg_cmp x1 0) < 0 then some ((-3), h) else if (lg_cmp x1 1000000000000000) ≤ 0 then (fX9_code 12 h).bind (fun r5 => (fX2_walk ((h.1 12 2)) r5 h).bind (fun r6 => (fX2_visitsTo x0 x1 r6).bind (fun r7 => some (r7, r6)))) else some ((-3), h))
set_option maxRecDepth 20000 in
theorem sX11_visits (d : Nat) (X : abX) (x0 : Int32) (x1 : Int64) (h : abJ) (z : (Int64 × abJ)) (hf : fX11_visits x0 x1 h = some z) : ab_Ex X (d + 4) 142 0 [(0, .ref 0), (1, .int x0), (2, .long x1)] [] ab_SH (ab_dD h) (fun r => r = (some (.long z.1), ab_SH, ab_dD z.2)) := by
  unfold fX11_visits at hf
  refine ab_Ex.blk (k := 3) (pc' := 5) (lv' := [(0, .ref 0), (1, .int x0), (2, .long x1)]) (st' := [.int x0, .ref 1]) (sh' := ab_SH) (D' := ab_dD h) (fun n => rfl) ?_
  obtain ⟨r1, hr1, hf⟩ := ab_bind_s hf
  refine ab_Ex.call (d := d + 3) (M2 := 34) (as := [.ref 1, .int x0]) (rest := []) (fun n => rfl) rfl (Nat.not_lt.mpr (Nat.le_of_ble_eq_true rfl)) (sX3_has_1 (d + 3) X x0 h _ hr1) (fun r hr => ?_)
  subst hr
  show ab_Ex X (d + 4) 142 8 [(0, .ref 0), (1, .int x0), (2, .long x1)] [.int r1] ab_SH (ab_dD h) _
  refine ab_Ex.ifc (c := r1 = 0) (SA := (11, [(0, .ref 0), (1, .int x0), (2, .long x1)], [], ab_dD h)) (SB := (15, [(0, .ref 0), (1, .int x0), (2, .long x1)], [], ab_dD h)) (fun n => rfl) (fun c2 => ?_) (fun c2 => ?_)
  · replace hf := (if_pos c2).symm.trans hf
    refine ab_Ex.blk (k := 1) (pc' := 14) (lv' := [(0, .ref 0), (1, .int x0), (2, .long x1)]) (st' := [.long ((-2))]) (sh' := ab_SH) (D' := ab_dD h) (fun n => rfl) ?_
    obtain rfl := Option.some.inj hf
    exact ab_Ex.ret (fun n => rfl) rfl
  · replace hf := (if_neg c2).symm.trans hf
    refine ab_Ex.blk (k := 3) (pc' := 18) (lv' := [(0, .ref 0), (1, .int x0), (2, .long x1)]) (st' := [.int ((lg_cmp x1 0))]) (sh' := ab_SH) (D' := ab_dD h) (fun n => rfl) ?_
    refine ab_Ex.ifc (c := (lg_cmp x1 0) < 0) (SA := (29, [(0, .ref 0), (1, .int x0), (2, .long x1)], [], ab_dD h)) (SB := (21, [(0, .ref 0), (1, .int x0), (2, .long x1)], [], ab_dD h)) (fun n => rfl) (fun c3 => ?_) (fun c3 => ?_)
    · replace hf := (if_pos c3).symm.trans hf
      refine ab_Ex.blk (k := 1) (pc' := 32) (lv' := []) (st' := [.long ((-3))]) (sh' := ab_SH) (D' := ab_dD h) (fun n => rfl) ?_
      obtain rfl := Option.some.inj hf
      exact ab_Ex.ret (fun n => rfl) rfl
    · replace hf := (if_neg c3).symm.trans hf
      refine ab_Ex.blk (k := 3) (pc' := 26) (lv' := [(0, .ref 0), (1, .int x0), (2, .long x1)]) (st' := [.int ((lg_cmp x1 1000000000000000))]) (sh' := ab_SH) (D' := ab_dD h) (fun n => rfl) ?_
      refine ab_Ex.ifc (c := (lg_cmp x1 1000000000000000) ≤ 0) (SA := (33, [(0, .ref 0), (1, .int x0), (2, .long x1)], [], ab_dD h)) (SB := (29, [(0, .ref 0), (1, .int x0), (2, .long x1)], [], ab_dD h)) (fun n => rfl) (fun c4 => ?_) (fun c4 => ?_)
      · replace hf := (if_pos c4).symm.trans hf
        refine ab_Ex.blk (k := 7) (pc' := 48) (lv' := [(0, .ref 0), (1, .int x0), (2, .long x1)]) (st' := [.ref 12, .int ((h.1 12 2)), .ref 32]) (sh' := ab_SH) (D' := ab_dD h) (fun n => rfl) ?_
        obtain ⟨r5, hr5, hf⟩ := ab_bind_s hf
        refine ab_Ex.call (d := d + 3) (M2 := 119) (as := [.ref 12]) (rest := [.int ((h.1 12 2)), .ref 32]) (fun n => rfl) rfl (Nat.not_lt.mpr (Nat.le_of_ble_eq_true rfl)) (sX9_code_12 (d + 3) X  h _ hr5) (fun r hr => ?_)
        subst hr
        show ab_Ex X (d + 4) 142 51 [(0, .ref 0), (1, .int x0), (2, .long x1)] [.int r5, .int ((h.1 12 2)), .ref 32] ab_SH (ab_dD h) _
        obtain ⟨r6, hr6, hf⟩ := ab_bind_s hf
        refine ab_Ex.call (d := d + 3) (M2 := 22) (as := [.ref 32, .int ((h.1 12 2)), .int r5]) (rest := []) (fun n => rfl) rfl (Nat.not_lt.mpr (Nat.le_of_ble_eq_true rfl)) (sX2_walk (d) X ((h.1 12 2)) r5 h _ hr6) (fun r hr => ?_)
        subst hr
        show ab_Ex X (d + 4) 142 54 [(0, .ref 0), (1, .int x0), (2, .long x1)] [] ab_SH (ab_dD r6) _
        refine ab_Ex.blk (k := 4) (pc' := 60) (lv' := [(0, .ref 0), (1, .int x0), (2, .long x1)]) (st' := [.long x1, .int x0, .ref 32]) (sh' := ab_SH) (D' := ab_dD r6) (fun n => rfl) ?_
        obtain ⟨r7, hr7, hf⟩ := ab_bind_s hf
        refine ab_Ex.call (d := d + 3) (M2 := 24) (as := [.ref 32, .int x0, .long x1]) (rest := []) (fun n => rfl) rfl (Nat.not_lt.mpr (Nat.le_of_ble_eq_true rfl)) (sX2_visitsTo (d + 2) X x0 x1 r6 _ hr7) (fun r hr => ?_)
        subst hr
        show ab_Ex X (d + 4) 142 63 [(0, .ref 0), (1, .int x0), (2, .long x1)] [.long r7] ab_SH (ab_dD r6) _
        obtain rfl := Option.some.inj hf
        exact ab_Ex.ret (fun n => rfl) rfl
      · replace hf := (if_neg c4).symm.trans hf
        refine ab_Ex.blk (k := 1) (pc' := 32) (lv' := []) (st' := [.long ((-3))]) (sh' := ab_SH) (D' := ab_dD h) (fun n => rfl) ?_
        obtain rfl := Option.some.inj hf
        exact ab_Ex.ret (fun n => rfl) rfl
def fX11_round (x0 : Int32) (h : abJ) : Option (Int32 × abJ) := if x0 < 0 then some ((-2), h) else if x0 ≤ 1 then (fX9_code 12 h).bind (fun r3 => (fX2_walk ((h.1 12 2)) r3 h).bind (fun r4 => if ((r4).1 32 5) = (-1) then some ((-1), r4) else if x0 = 0 then some (((r4).1 32 5), r4) else some ((((r4).1 32 4) - ((r4).1 32 5)), r4))) else some ((-2), h)
set_option maxRecDepth 20000 in
theorem sX11_round (d : Nat) (X : abX) (x0 : Int32) (h : abJ) (z : (Int32 × abJ)) (hf : fX11_round x0 h = some z) : ab_Ex X (d + 4) 143 0 [(0, .ref 0), (1, .int x0)] [] ab_SH (ab_dD h) (fun r => r = (some (.int z.1), ab_SH, ab_dD z.2)) := by
  unfold fX11_round at hf
  refine ab_Ex.blk (k := 1) (pc' := 1) (lv' := [(0, .ref 0), (1, .int x0)]) (st' := [.int x0]) (sh' := ab_SH) (D' := ab_dD h) (fun n => rfl) ?_
  refine ab_Ex.ifc (c := x0 < 0) (SA := (9, [(0, .ref 0), (1, .int x0)], [], ab_dD h)) (SB := (4, [(0, .ref 0), (1, .int x0)], [], ab_dD h)) (fun n => rfl) (fun c1 => ?_) (fun c1 => ?_)
  · replace hf := (if_pos c1).symm.trans hf
    refine ab_Ex.blk (k := 1) (pc' := 11) (lv' := []) (st' := [.int ((-2))]) (sh' := ab_SH) (D' := ab_dD h) (fun n => rfl) ?_
    obtain rfl := Option.some.inj hf
    exact ab_Ex.ret (fun n => rfl) rfl
  · replace hf := (if_neg c1).symm.trans hf
    refine ab_Ex.blk (k := 2) (pc' := 6) (lv' := [(0, .ref 0), (1, .int x0)]) (st' := [.int 1, .int x0]) (sh' := ab_SH) (D' := ab_dD h) (fun n => rfl) ?_
    refine ab_Ex.ifc (c := x0 ≤ 1) (SA := (12, [(0, .ref 0), (1, .int x0)], [], ab_dD h)) (SB := (9, [(0, .ref 0), (1, .int x0)], [], ab_dD h)) (fun n => rfl) (fun c2 => ?_) (fun c2 => ?_)
    · replace hf := (if_pos c2).symm.trans hf
      refine ab_Ex.blk (k := 7) (pc' := 27) (lv' := [(0, .ref 0), (1, .int x0)]) (st' := [.ref 12, .int ((h.1 12 2)), .ref 32]) (sh' := ab_SH) (D' := ab_dD h) (fun n => rfl) ?_
      obtain ⟨r3, hr3, hf⟩ := ab_bind_s hf
      refine ab_Ex.call (d := d + 3) (M2 := 119) (as := [.ref 12]) (rest := [.int ((h.1 12 2)), .ref 32]) (fun n => rfl) rfl (Nat.not_lt.mpr (Nat.le_of_ble_eq_true rfl)) (sX9_code_12 (d + 3) X  h _ hr3) (fun r hr => ?_)
      subst hr
      show ab_Ex X (d + 4) 143 30 [(0, .ref 0), (1, .int x0)] [.int r3, .int ((h.1 12 2)), .ref 32] ab_SH (ab_dD h) _
      obtain ⟨r4, hr4, hf⟩ := ab_bind_s hf
      refine ab_Ex.call (d := d + 3) (M2 := 22) (as := [.ref 32, .int ((h.1 12 2)), .int r3]) (rest := []) (fun n => rfl) rfl (Nat.not_lt.mpr (Nat.le_of_ble_eq_true rfl)) (sX2_walk (d) X ((h.1 12 2)) r3 h _ hr4) (fun r hr => ?_)
      subst hr
      show ab_Ex X (d + 4) 143 33 [(0, .ref 0), (1, .int x0)] [] ab_SH (ab_dD r4) _
      refine ab_Ex.blk (k := 4) (pc' := 41) (lv' := [(0, .ref 0), (1, .int x0)]) (st' := [.int ((-1)), .int (((r4).1 32 5))]) (sh' := ab_SH) (D' := ab_dD r4) (fun n => rfl) ?_
      refine ab_Ex.ifc (c := ((r4).1 32 5) = (-1)) (SA := (44, [(0, .ref 0), (1, .int x0)], [], ab_dD r4)) (SB := (46, [(0, .ref 0), (1, .int x0)], [], ab_dD r4)) (fun n => rfl) (fun c5 => ?_) (fun c5 => ?_)
      · replace hf := (if_pos c5).symm.trans hf
        refine ab_Ex.blk (k := 1) (pc' := 45) (lv' := [(0, .ref 0), (1, .int x0)]) (st' := [.int ((-1))]) (sh' := ab_SH) (D' := ab_dD r4) (fun n => rfl) ?_
        obtain rfl := Option.some.inj hf
        exact ab_Ex.ret (fun n => rfl) rfl
      · replace hf := (if_neg c5).symm.trans hf
        refine ab_Ex.blk (k := 1) (pc' := 47) (lv' := [(0, .ref 0), (1, .int x0)]) (st' := [.int x0]) (sh' := ab_SH) (D' := ab_dD r4) (fun n => rfl) ?_
        refine ab_Ex.ifc (c := x0 = 0) (SA := (50, [(0, .ref 0), (1, .int x0)], [], ab_dD r4)) (SB := (60, [(0, .ref 0), (1, .int x0)], [], ab_dD r4)) (fun n => rfl) (fun c6 => ?_) (fun c6 => ?_)
        · replace hf := (if_pos c6).symm.trans hf
          refine ab_Ex.blk (k := 4) (pc' := 75) (lv' := []) (st' := [.int (((r4).1 32 5))]) (sh' := ab_SH) (D' := ab_dD r4) (fun n => rfl) ?_
          obtain rfl := Option.some.inj hf
          exact ab_Ex.ret (fun n => rfl) rfl
        · replace hf := (if_neg c6).symm.trans hf
          refine ab_Ex.blk (k := 7) (pc' := 75) (lv' := []) (st' := [.int ((((r4).1 32 4) - ((r4).1 32 5)))]) (sh' := ab_SH) (D' := ab_dD r4) (fun n => rfl) ?_
          obtain rfl := Option.some.inj hf
          exact ab_Ex.ret (fun n => rfl) rfl
    · replace hf := (if_neg c2).symm.trans hf
      refine ab_Ex.blk (k := 1) (pc' := 11) (lv' := []) (st' := [.int ((-2))]) (sh' := ab_SH) (D' := ab_dD h) (fun n => rfl) ?_
      obtain rfl := Option.some.inj hf
      exact ab_Ex.ret (fun n => rfl) rfl
def fX11_first (x0 : Int32) (h : abJ) : Option (Int32 × abJ) := (fX3_has 1 x0 h).bind (fun r1 => if r1 = 0 then some ((-2), h) else (fX9_code 12 h).bind (fun r3 => (fX2_walk ((h.1 12 2)) r3 h).bind (fun r4 => (fX2_firstAt x0 r4).bind (fun r5 => some (r5, r4)))))
set_option maxRecDepth 20000 in
theorem sX11_first (d : Nat) (X : abX) (x0 : Int32) (h : abJ) (z : (Int32 × abJ)) (hf : fX11_first x0 h = some z) : ab_Ex X (d + 4) 144 0 [(0, .ref 0), (1, .int x0)] [] ab_SH (ab_dD h) (fun r => r = (some (.int z.1), ab_SH, ab_dD z.2)) := by
  unfold fX11_first at hf
  refine ab_Ex.blk (k := 3) (pc' := 5) (lv' := [(0, .ref 0), (1, .int x0)]) (st' := [.int x0, .ref 1]) (sh' := ab_SH) (D' := ab_dD h) (fun n => rfl) ?_
  obtain ⟨r1, hr1, hf⟩ := ab_bind_s hf
  refine ab_Ex.call (d := d + 3) (M2 := 34) (as := [.ref 1, .int x0]) (rest := []) (fun n => rfl) rfl (Nat.not_lt.mpr (Nat.le_of_ble_eq_true rfl)) (sX3_has_1 (d + 3) X x0 h _ hr1) (fun r hr => ?_)
  subst hr
  show ab_Ex X (d + 4) 144 8 [(0, .ref 0), (1, .int x0)] [.int r1] ab_SH (ab_dD h) _
  refine ab_Ex.ifc (c := r1 = 0) (SA := (11, [(0, .ref 0), (1, .int x0)], [], ab_dD h)) (SB := (14, [(0, .ref 0), (1, .int x0)], [], ab_dD h)) (fun n => rfl) (fun c2 => ?_) (fun c2 => ?_)
  · replace hf := (if_pos c2).symm.trans hf
    refine ab_Ex.blk (k := 1) (pc' := 13) (lv' := [(0, .ref 0), (1, .int x0)]) (st' := [.int ((-2))]) (sh' := ab_SH) (D' := ab_dD h) (fun n => rfl) ?_
    obtain rfl := Option.some.inj hf
    exact ab_Ex.ret (fun n => rfl) rfl
  · replace hf := (if_neg c2).symm.trans hf
    refine ab_Ex.blk (k := 7) (pc' := 29) (lv' := [(0, .ref 0), (1, .int x0)]) (st' := [.ref 12, .int ((h.1 12 2)), .ref 32]) (sh' := ab_SH) (D' := ab_dD h) (fun n => rfl) ?_
    obtain ⟨r3, hr3, hf⟩ := ab_bind_s hf
    refine ab_Ex.call (d := d + 3) (M2 := 119) (as := [.ref 12]) (rest := [.int ((h.1 12 2)), .ref 32]) (fun n => rfl) rfl (Nat.not_lt.mpr (Nat.le_of_ble_eq_true rfl)) (sX9_code_12 (d + 3) X  h _ hr3) (fun r hr => ?_)
    subst hr
    show ab_Ex X (d + 4) 144 32 [(0, .ref 0), (1, .int x0)] [.int r3, .int ((h.1 12 2)), .ref 32] ab_SH (ab_dD h) _
    obtain ⟨r4, hr4, hf⟩ := ab_bind_s hf
    refine ab_Ex.call (d := d + 3) (M2 := 22) (as := [.ref 32, .int ((h.1 12 2)), .int r3]) (rest := []) (fun n => rfl) rfl (Nat.not_lt.mpr (Nat.le_of_ble_eq_true rfl)) (sX2_walk (d) X ((h.1 12 2)) r3 h _ hr4) (fun r hr => ?_)
    subst hr
    show ab_Ex X (d + 4) 144 35 [(0, .ref 0), (1, .int x0)] [] ab_SH (ab_dD r4) _
    refine ab_Ex.blk (k := 3) (pc' := 40) (lv' := [(0, .ref 0), (1, .int x0)]) (st' := [.int x0, .ref 32]) (sh' := ab_SH) (D' := ab_dD r4) (fun n => rfl) ?_
    obtain ⟨r5, hr5, hf⟩ := ab_bind_s hf
    refine ab_Ex.call (d := d + 3) (M2 := 26) (as := [.ref 32, .int x0]) (rest := []) (fun n => rfl) rfl (Nat.not_lt.mpr (Nat.le_of_ble_eq_true rfl)) (sX2_firstAt (d + 3) X x0 r4 _ hr5) (fun r hr => ?_)
    subst hr
    show ab_Ex X (d + 4) 144 43 [(0, .ref 0), (1, .int x0)] [.int r5] ab_SH (ab_dD r4) _
    obtain rfl := Option.some.inj hf
    exact ab_Ex.ret (fun n => rfl) rfl
def fX11_rests  (h : abJ) : Option (Int32 × abJ) := (fX9_code 12 h).bind (fun r1 => (fX2_walk ((h.1 12 2)) r1 h).bind (fun r2 => if ((r2).1 32 5) = (-1) then some ((((r2).1 32 4) - 1), r2) else some ((-1), r2)))
set_option maxRecDepth 20000 in
theorem sX11_rests (d : Nat) (X : abX)  (h : abJ) (z : (Int32 × abJ)) (hf : fX11_rests  h = some z) : ab_Ex X (d + 4) 145 0 [(0, .ref 0)] [] ab_SH (ab_dD h) (fun r => r = (some (.int z.1), ab_SH, ab_dD z.2)) := by
  unfold fX11_rests at hf
  refine ab_Ex.blk (k := 7) (pc' := 15) (lv' := [(0, .ref 0)]) (st' := [.ref 12, .int ((h.1 12 2)), .ref 32]) (sh' := ab_SH) (D' := ab_dD h) (fun n => rfl) ?_
  obtain ⟨r1, hr1, hf⟩ := ab_bind_s hf
  refine ab_Ex.call (d := d + 3) (M2 := 119) (as := [.ref 12]) (rest := [.int ((h.1 12 2)), .ref 32]) (fun n => rfl) rfl (Nat.not_lt.mpr (Nat.le_of_ble_eq_true rfl)) (sX9_code_12 (d + 3) X  h _ hr1) (fun r hr => ?_)
  subst hr
  show ab_Ex X (d + 4) 145 18 [(0, .ref 0)] [.int r1, .int ((h.1 12 2)), .ref 32] ab_SH (ab_dD h) _
  obtain ⟨r2, hr2, hf⟩ := ab_bind_s hf
  refine ab_Ex.call (d := d + 3) (M2 := 22) (as := [.ref 32, .int ((h.1 12 2)), .int r1]) (rest := []) (fun n => rfl) rfl (Nat.not_lt.mpr (Nat.le_of_ble_eq_true rfl)) (sX2_walk (d) X ((h.1 12 2)) r1 h _ hr2) (fun r hr => ?_)
  subst hr
  show ab_Ex X (d + 4) 145 21 [(0, .ref 0)] [] ab_SH (ab_dD r2) _
  refine ab_Ex.blk (k := 4) (pc' := 29) (lv' := [(0, .ref 0)]) (st' := [.int ((-1)), .int (((r2).1 32 5))]) (sh' := ab_SH) (D' := ab_dD r2) (fun n => rfl) ?_
  refine ab_Ex.ifc (c := ((r2).1 32 5) = (-1)) (SA := (32, [(0, .ref 0)], [], ab_dD r2)) (SB := (44, [(0, .ref 0)], [], ab_dD r2)) (fun n => rfl) (fun c3 => ?_) (fun c3 => ?_)
  · replace hf := (if_pos c3).symm.trans hf
    refine ab_Ex.blk (k := 6) (pc' := 45) (lv' := []) (st' := [.int ((((r2).1 32 4) - 1))]) (sh' := ab_SH) (D' := ab_dD r2) (fun n => rfl) ?_
    obtain rfl := Option.some.inj hf
    exact ab_Ex.ret (fun n => rfl) rfl
  · replace hf := (if_neg c3).symm.trans hf
    refine ab_Ex.blk (k := 1) (pc' := 45) (lv' := []) (st' := [.int ((-1))]) (sh' := ab_SH) (D' := ab_dD r2) (fun n => rfl) ?_
    obtain rfl := Option.some.inj hf
    exact ab_Ex.ret (fun n => rfl) rfl
def fX11_homing (x0 : Int32) (h : abJ) : Option (Int32 × abJ) := if x0 < 0 then some ((-2), h) else if x0 ≤ 3 then (fX8_home h).bind (fun r3 => if x0 = 3 then some (((r3).1 35 5), r3) else if ((r3).1 35 5) = 0 then some ((-1), r3) else if x0 = 0 then some (((r3).1 35 6), r3) else if x0 = 1 then some (((r3).1 35 7), r3) else some (((r3).1 35 8), r3)) else some ((-2), h)
set_option maxRecDepth 20000 in
theorem sX11_homing (d : Nat) (X : abX) (x0 : Int32) (h : abJ) (z : (Int32 × abJ)) (hf : fX11_homing x0 h = some z) : ab_Ex X (d + 5) 146 0 [(0, .ref 0), (1, .int x0)] [] ab_SH (ab_dD h) (fun r => r = (some (.int z.1), ab_SH, ab_dD z.2)) := by
  unfold fX11_homing at hf
  refine ab_Ex.blk (k := 1) (pc' := 1) (lv' := [(0, .ref 0), (1, .int x0)]) (st' := [.int x0]) (sh' := ab_SH) (D' := ab_dD h) (fun n => rfl) ?_
  refine ab_Ex.ifc (c := x0 < 0) (SA := (9, [(0, .ref 0), (1, .int x0)], [], ab_dD h)) (SB := (4, [(0, .ref 0), (1, .int x0)], [], ab_dD h)) (fun n => rfl) (fun c1 => ?_) (fun c1 => ?_)
  · replace hf := (if_pos c1).symm.trans hf
    refine ab_Ex.blk (k := 1) (pc' := 11) (lv' := []) (st' := [.int ((-2))]) (sh' := ab_SH) (D' := ab_dD h) (fun n => rfl) ?_
    obtain rfl := Option.some.inj hf
    exact ab_Ex.ret (fun n => rfl) rfl
  · replace hf := (if_neg c1).symm.trans hf
    refine ab_Ex.blk (k := 2) (pc' := 6) (lv' := [(0, .ref 0), (1, .int x0)]) (st' := [.int 3, .int x0]) (sh' := ab_SH) (D' := ab_dD h) (fun n => rfl) ?_
    refine ab_Ex.ifc (c := x0 ≤ 3) (SA := (12, [(0, .ref 0), (1, .int x0)], [], ab_dD h)) (SB := (9, [(0, .ref 0), (1, .int x0)], [], ab_dD h)) (fun n => rfl) (fun c2 => ?_) (fun c2 => ?_)
    · replace hf := (if_pos c2).symm.trans hf
      refine ab_Ex.blk (k := 4) (pc' := 20) (lv' := [(0, .ref 0), (1, .int x0)]) (st' := [.ref 12, .ref 35]) (sh' := ab_SH) (D' := ab_dD h) (fun n => rfl) ?_
      obtain ⟨r3, hr3, hf⟩ := ab_bind_s hf
      refine ab_Ex.call (d := d + 4) (M2 := 106) (as := [.ref 35, .ref 12]) (rest := []) (fun n => rfl) rfl (Nat.not_lt.mpr (Nat.le_of_ble_eq_true rfl)) (sX8_home (d) X  h _ hr3) (fun r hr => ?_)
      subst hr
      show ab_Ex X (d + 5) 146 23 [(0, .ref 0), (1, .int x0)] [] ab_SH (ab_dD r3) _
      refine ab_Ex.blk (k := 2) (pc' := 25) (lv' := [(0, .ref 0), (1, .int x0)]) (st' := [.int 3, .int x0]) (sh' := ab_SH) (D' := ab_dD r3) (fun n => rfl) ?_
      refine ab_Ex.ifc (c := x0 = 3) (SA := (28, [(0, .ref 0), (1, .int x0)], [], ab_dD r3)) (SB := (36, [(0, .ref 0), (1, .int x0)], [], ab_dD r3)) (fun n => rfl) (fun c4 => ?_) (fun c4 => ?_)
      · replace hf := (if_pos c4).symm.trans hf
        refine ab_Ex.blk (k := 3) (pc' := 35) (lv' := [(0, .ref 0), (1, .int x0)]) (st' := [.int (((r3).1 35 5))]) (sh' := ab_SH) (D' := ab_dD r3) (fun n => rfl) ?_
        obtain rfl := Option.some.inj hf
        exact ab_Ex.ret (fun n => rfl) rfl
      · replace hf := (if_neg c4).symm.trans hf
        refine ab_Ex.blk (k := 3) (pc' := 43) (lv' := [(0, .ref 0), (1, .int x0)]) (st' := [.int (((r3).1 35 5))]) (sh' := ab_SH) (D' := ab_dD r3) (fun n => rfl) ?_
        refine ab_Ex.ifc (c := ((r3).1 35 5) = 0) (SA := (46, [(0, .ref 0), (1, .int x0)], [], ab_dD r3)) (SB := (48, [(0, .ref 0), (1, .int x0)], [], ab_dD r3)) (fun n => rfl) (fun c5 => ?_) (fun c5 => ?_)
        · replace hf := (if_pos c5).symm.trans hf
          refine ab_Ex.blk (k := 1) (pc' := 47) (lv' := [(0, .ref 0), (1, .int x0)]) (st' := [.int ((-1))]) (sh' := ab_SH) (D' := ab_dD r3) (fun n => rfl) ?_
          obtain rfl := Option.some.inj hf
          exact ab_Ex.ret (fun n => rfl) rfl
        · replace hf := (if_neg c5).symm.trans hf
          refine ab_Ex.blk (k := 1) (pc' := 49) (lv' := [(0, .ref 0), (1, .int x0)]) (st' := [.int x0]) (sh' := ab_SH) (D' := ab_dD r3) (fun n => rfl) ?_
          refine ab_Ex.ifc (c := x0 = 0) (SA := (52, [(0, .ref 0), (1, .int x0)], [], ab_dD r3)) (SB := (60, [(0, .ref 0), (1, .int x0)], [], ab_dD r3)) (fun n => rfl) (fun c6 => ?_) (fun c6 => ?_)
          · replace hf := (if_pos c6).symm.trans hf
            refine ab_Ex.blk (k := 3) (pc' := 59) (lv' := [(0, .ref 0), (1, .int x0)]) (st' := [.int (((r3).1 35 6))]) (sh' := ab_SH) (D' := ab_dD r3) (fun n => rfl) ?_
            obtain rfl := Option.some.inj hf
            exact ab_Ex.ret (fun n => rfl) rfl
          · replace hf := (if_neg c6).symm.trans hf
            refine ab_Ex.blk (k := 2) (pc' := 62) (lv' := [(0, .ref 0), (1, .int x0)]) (st' := [.int 1, .int x0]) (sh' := ab_SH) (D' := ab_dD r3) (fun n => rfl) ?_
            refine ab_Ex.ifc (c := x0 = 1) (SA := (65, [(0, .ref 0), (1, .int x0)], [], ab_dD r3)) (SB := (75, [(0, .ref 0), (1, .int x0)], [], ab_dD r3)) (fun n => rfl) (fun c7 => ?_) (fun c7 => ?_)
            · replace hf := (if_pos c7).symm.trans hf
              refine ab_Ex.blk (k := 4) (pc' := 82) (lv' := []) (st' := [.int (((r3).1 35 7))]) (sh' := ab_SH) (D' := ab_dD r3) (fun n => rfl) ?_
              obtain rfl := Option.some.inj hf
              exact ab_Ex.ret (fun n => rfl) rfl
            · replace hf := (if_neg c7).symm.trans hf
              refine ab_Ex.blk (k := 3) (pc' := 82) (lv' := []) (st' := [.int (((r3).1 35 8))]) (sh' := ab_SH) (D' := ab_dD r3) (fun n => rfl) ?_
              obtain rfl := Option.some.inj hf
              exact ab_Ex.ret (fun n => rfl) rfl
    · replace hf := (if_neg c2).symm.trans hf
      refine ab_Ex.blk (k := 1) (pc' := 11) (lv' := []) (st' := [.int ((-2))]) (sh' := ab_SH) (D' := ab_dD h) (fun n => rfl) ?_
      obtain rfl := Option.some.inj hf
      exact ab_Ex.ret (fun n => rfl) rfl
