def fX6_readTurns  (h : abJ) : Option (Int32 × abJ) := (fX6_take 1000010 h).bind (fun r1 => if r1.1 = 0 then some (0, r1.2) else (fX6_readSum 0 r1.2).bind (fun r3 => if r3.1 = 0 then some (0, r3.2) else some (1, (ab_wI (ab_wI r3.2 5 3 (h.1 9 2)) 5 4 (((ab_wI r3.2 5 3 (h.1 9 2))).1 9 2)))))
set_option maxRecDepth 20000 in
theorem sX6_readTurns (d : Nat) (X : abX)  (h : abJ) (z : (Int32 × abJ)) (hf : fX6_readTurns  h = some z) : ab_Ex X (d + 107) 77 0 [(0, .ref 9)] [] ab_SH (ab_dD h) (fun r => r = (some (.int z.1), ab_SH, ab_dD z.2)) := by
  unfold fX6_readTurns at hf
  refine ab_Ex.blk (k := 5) (pc' := 8) (lv' := [(1, .int ((h.1 9 2))), (0, .ref 9)]) (st' := [.ref 1000010, .ref 9]) (sh' := ab_SH) (D' := ab_dD h) (fun n => rfl) ?_
  obtain ⟨r1, hr1, hf⟩ := ab_bind_s hf
  refine ab_Ex.call (d := d + 106) (M2 := 89) (as := [.ref 9, .ref 1000010]) (rest := []) (fun n => rfl) rfl (Nat.not_lt.mpr (Nat.le_of_ble_eq_true rfl)) (sX6_take_1000010 (d + 101) X  h _ hr1) (fun r hr => ?_)
  subst hr
  show ab_Ex X (d + 107) 77 11 [(1, .int ((h.1 9 2))), (0, .ref 9)] [.int r1.1] ab_SH (ab_dD r1.2) _
  refine ab_Ex.ifc (c := r1.1 = 0) (SA := (22, [(1, .int ((h.1 9 2))), (0, .ref 9)], [], ab_dD r1.2)) (SB := (14, [(1, .int ((h.1 9 2))), (0, .ref 9)], [], ab_dD r1.2)) (fun n => rfl) (fun c2 => ?_) (fun c2 => ?_)
  · replace hf := (if_pos c2).symm.trans hf
    refine ab_Ex.blk (k := 1) (pc' := 23) (lv' := []) (st' := [.int 0]) (sh' := ab_SH) (D' := ab_dD r1.2) (fun n => rfl) ?_
    obtain rfl := Option.some.inj hf
    exact ab_Ex.ret (fun n => rfl) rfl
  · replace hf := (if_neg c2).symm.trans hf
    refine ab_Ex.blk (k := 2) (pc' := 16) (lv' := [(1, .int ((h.1 9 2))), (0, .ref 9)]) (st' := [.int 0, .ref 9]) (sh' := ab_SH) (D' := ab_dD r1.2) (fun n => rfl) ?_
    obtain ⟨r3, hr3, hf⟩ := ab_bind_s hf
    refine ab_Ex.call (d := d + 106) (M2 := 79) (as := [.ref 9, .int 0]) (rest := []) (fun n => rfl) rfl (Nat.not_lt.mpr (Nat.le_of_ble_eq_true rfl)) (sX6_readSum (d) X 0 r1.2 _ hr3) (fun r hr => ?_)
    subst hr
    show ab_Ex X (d + 107) 77 19 [(1, .int ((h.1 9 2))), (0, .ref 9)] [.int r3.1] ab_SH (ab_dD r3.2) _
    refine ab_Ex.ifc (c := r3.1 = 0) (SA := (22, [(1, .int ((h.1 9 2))), (0, .ref 9)], [], ab_dD r3.2)) (SB := (24, [(1, .int ((h.1 9 2))), (0, .ref 9)], [], ab_dD r3.2)) (fun n => rfl) (fun c4 => ?_) (fun c4 => ?_)
    · replace hf := (if_pos c4).symm.trans hf
      refine ab_Ex.blk (k := 1) (pc' := 23) (lv' := []) (st' := [.int 0]) (sh' := ab_SH) (D' := ab_dD r3.2) (fun n => rfl) ?_
      obtain rfl := Option.some.inj hf
      exact ab_Ex.ret (fun n => rfl) rfl
    · replace hf := (if_neg c4).symm.trans hf
      refine ab_Ex.blk (k := 10) (pc' := 44) (lv' := [(1, .int ((h.1 9 2))), (0, .ref 9)]) (st' := [.int 1]) (sh' := ab_SH) (D' := ab_dD (ab_wI (ab_wI r3.2 5 3 (h.1 9 2)) 5 4 (((ab_wI r3.2 5 3 (h.1 9 2))).1 9 2))) (fun n => rfl) ?_
      obtain rfl := Option.some.inj hf
      exact ab_Ex.ret (fun n => rfl) rfl
def fX6_readSticks  (h : abJ) : Option (Int32 × abJ) := (fX6_take 1000010 h).bind (fun r1 => if r1.1 = 0 then some (0, r1.2) else (fX6_readTruth 0 r1.2).bind (fun r3 => if r3.1 = 0 then some (0, r3.2) else some (1, (ab_wI (ab_wI r3.2 5 5 (h.1 9 2)) 5 6 (((ab_wI r3.2 5 5 (h.1 9 2))).1 9 2)))))
set_option maxRecDepth 20000 in
theorem sX6_readSticks (d : Nat) (X : abX)  (h : abJ) (z : (Int32 × abJ)) (hf : fX6_readSticks  h = some z) : ab_Ex X (d + 107) 78 0 [(0, .ref 9)] [] ab_SH (ab_dD h) (fun r => r = (some (.int z.1), ab_SH, ab_dD z.2)) := by
  unfold fX6_readSticks at hf
  refine ab_Ex.blk (k := 5) (pc' := 8) (lv' := [(1, .int ((h.1 9 2))), (0, .ref 9)]) (st' := [.ref 1000010, .ref 9]) (sh' := ab_SH) (D' := ab_dD h) (fun n => rfl) ?_
  obtain ⟨r1, hr1, hf⟩ := ab_bind_s hf
  refine ab_Ex.call (d := d + 106) (M2 := 89) (as := [.ref 9, .ref 1000010]) (rest := []) (fun n => rfl) rfl (Nat.not_lt.mpr (Nat.le_of_ble_eq_true rfl)) (sX6_take_1000010 (d + 101) X  h _ hr1) (fun r hr => ?_)
  subst hr
  show ab_Ex X (d + 107) 78 11 [(1, .int ((h.1 9 2))), (0, .ref 9)] [.int r1.1] ab_SH (ab_dD r1.2) _
  refine ab_Ex.ifc (c := r1.1 = 0) (SA := (22, [(1, .int ((h.1 9 2))), (0, .ref 9)], [], ab_dD r1.2)) (SB := (14, [(1, .int ((h.1 9 2))), (0, .ref 9)], [], ab_dD r1.2)) (fun n => rfl) (fun c2 => ?_) (fun c2 => ?_)
  · replace hf := (if_pos c2).symm.trans hf
    refine ab_Ex.blk (k := 1) (pc' := 23) (lv' := []) (st' := [.int 0]) (sh' := ab_SH) (D' := ab_dD r1.2) (fun n => rfl) ?_
    obtain rfl := Option.some.inj hf
    exact ab_Ex.ret (fun n => rfl) rfl
  · replace hf := (if_neg c2).symm.trans hf
    refine ab_Ex.blk (k := 2) (pc' := 16) (lv' := [(1, .int ((h.1 9 2))), (0, .ref 9)]) (st' := [.int 0, .ref 9]) (sh' := ab_SH) (D' := ab_dD r1.2) (fun n => rfl) ?_
    obtain ⟨r3, hr3, hf⟩ := ab_bind_s hf
    refine ab_Ex.call (d := d + 106) (M2 := 83) (as := [.ref 9, .int 0]) (rest := []) (fun n => rfl) rfl (Nat.not_lt.mpr (Nat.le_of_ble_eq_true rfl)) (sX6_readTruth (d) X 0 r1.2 _ hr3) (fun r hr => ?_)
    subst hr
    show ab_Ex X (d + 107) 78 19 [(1, .int ((h.1 9 2))), (0, .ref 9)] [.int r3.1] ab_SH (ab_dD r3.2) _
    refine ab_Ex.ifc (c := r3.1 = 0) (SA := (22, [(1, .int ((h.1 9 2))), (0, .ref 9)], [], ab_dD r3.2)) (SB := (24, [(1, .int ((h.1 9 2))), (0, .ref 9)], [], ab_dD r3.2)) (fun n => rfl) (fun c4 => ?_) (fun c4 => ?_)
    · replace hf := (if_pos c4).symm.trans hf
      refine ab_Ex.blk (k := 1) (pc' := 23) (lv' := []) (st' := [.int 0]) (sh' := ab_SH) (D' := ab_dD r3.2) (fun n => rfl) ?_
      obtain rfl := Option.some.inj hf
      exact ab_Ex.ret (fun n => rfl) rfl
    · replace hf := (if_neg c4).symm.trans hf
      refine ab_Ex.blk (k := 10) (pc' := 44) (lv' := [(1, .int ((h.1 9 2))), (0, .ref 9)]) (st' := [.int 1]) (sh' := ab_SH) (D' := ab_dD (ab_wI (ab_wI r3.2 5 5 (h.1 9 2)) 5 6 (((ab_wI r3.2 5 5 (h.1 9 2))).1 9 2))) (fun n => rfl) ?_
      obtain rfl := Option.some.inj hf
      exact ab_Ex.ret (fun n => rfl) rfl
def fX6_readLine  (h : abJ) : Option (Int32 × abJ) := (fX6_is 1000004 h).bind (fun r1 => if r1 = 0 then (fX6_is 1000005 h).bind (fun r3 => if r3 = 0 then (fX6_is 1000006 h).bind (fun r5 => if r5 = 0 then (fX6_is 1000007 h).bind (fun r7 => if r7 = 0 then (fX6_is 1000008 h).bind (fun r9 => if r9 = 0 then (fX6_is 1000009 h).bind (fun r11 => if r11 = 0 then (fX6_is 1000030 h).bind (fun r13 => if r13 = 0 then (fX6_wrong 2 h).bind (fun r15 => ab_ask (¬ (r15.1 = 0 ∨ r15.1 = 1)) (some (r15.1, r15.2))) else (fX6_advance h).bind (fun r16 => (fX6_readSticks r16).bind (fun r17 => if r17.1 = 0 then some (0, r17.2) else (fX6_endLine r17.2).bind (fun r19 => if r19.1 = 0 then some (0, r19.2) else some (1, r19.2))))) else (fX6_advance h).bind (fun r21 => (fX6_readTurns r21).bind (fun r22 => if r22.1 = 0 then some (0, r22.2) else (fX6_endLine r22.2).bind (fun r24 => if r24.1 = 0 then some (0, r24.2) else some (1, r24.2))))) else (fX6_advance h).bind (fun r26 => (fX6_readFog r26).bind (fun r27 => if r27.1 = 0 then some (0, r27.2) else (fX6_endLine r27.2).bind (fun r29 => if r29.1 = 0 then some (0, r29.2) else some (1, r29.2))))) else (fX6_advance h).bind (fun r31 => (fX6_readWalker r31).bind (fun r32 => if r32.1 = 0 then some (0, r32.2) else (fX6_endLine r32.2).bind (fun r34 => if r34.1 = 0 then some (0, r34.2) else some (1, r34.2))))) else (fX6_advance h).bind (fun r36 => (fX6_readHome r36).bind (fun r37 => if r37.1 = 0 then some (0, r37.2) else (fX6_endLine r37.2).bind (fun r39 => if r39.1 = 0 then some (0, r39.2) else some (1, r39.2))))) else (fX6_advance h).bind (fun r41 => (fX6_readArm r41).bind (fun r42 => if r42.1 = 0 then some (0, r42.2) else (fX6_endLine r42.2).bind (fun r44 => if r44.1 = 0 then some (0, r44.2) else some (1, r44.2))))) else (fX6_advance h).bind (fun r46 => (fX6_readRoad r46).bind (fun r47 => if r47.1 = 0 then some (0, r47.2) else (fX6_endLine r47.2).bind (fun r49 => if r49.1 = 0 then some (0, r49.2) else some (1, r49.2)))))
set_option maxRecDepth 20000 in
theorem sX6_readLine (d : Nat) (X : abX)  (h : abJ) (z : (Int32 × abJ)) (hf : fX6_readLine  h = some z) : ab_Ex X (d + 108) 70 0 [(0, .ref 9)] [] ab_SH (ab_dD h) (fun r => r = (some (.int z.1), ab_SH, ab_dD z.2)) := by
  unfold fX6_readLine at hf
  refine ab_Ex.blk (k := 2) (pc' := 3) (lv' := [(0, .ref 9)]) (st' := [.ref 1000004, .ref 9]) (sh' := ab_SH) (D' := ab_dD h) (fun n => rfl) ?_
  obtain ⟨r1, hr1, hf⟩ := ab_bind_s hf
  refine ab_Ex.call (d := d + 107) (M2 := 93) (as := [.ref 9, .ref 1000004]) (rest := []) (fun n => rfl) rfl (Nat.not_lt.mpr (Nat.le_of_ble_eq_true rfl)) (sX6_is_1000004 (d + 103) X  h _ hr1) (fun r hr => ?_)
  subst hr
  show ab_Ex X (d + 108) 70 6 [(0, .ref 9)] [.int r1] ab_SH (ab_dD h) _
  refine ab_Ex.ifc (c := r1 = 0) (SA := (33, [(0, .ref 9)], [], ab_dD h)) (SB := (9, [(0, .ref 9)], [], ab_dD h)) (fun n => rfl) (fun c2 => ?_) (fun c2 => ?_)
  · replace hf := (if_pos c2).symm.trans hf
    refine ab_Ex.blk (k := 2) (pc' := 36) (lv' := [(0, .ref 9)]) (st' := [.ref 1000005, .ref 9]) (sh' := ab_SH) (D' := ab_dD h) (fun n => rfl) ?_
    obtain ⟨r3, hr3, hf⟩ := ab_bind_s hf
    refine ab_Ex.call (d := d + 107) (M2 := 93) (as := [.ref 9, .ref 1000005]) (rest := []) (fun n => rfl) rfl (Nat.not_lt.mpr (Nat.le_of_ble_eq_true rfl)) (sX6_is_1000005 (d + 103) X  h _ hr3) (fun r hr => ?_)
    subst hr
    show ab_Ex X (d + 108) 70 39 [(0, .ref 9)] [.int r3] ab_SH (ab_dD h) _
    refine ab_Ex.ifc (c := r3 = 0) (SA := (66, [(0, .ref 9)], [], ab_dD h)) (SB := (42, [(0, .ref 9)], [], ab_dD h)) (fun n => rfl) (fun c4 => ?_) (fun c4 => ?_)
    · replace hf := (if_pos c4).symm.trans hf
      refine ab_Ex.blk (k := 2) (pc' := 69) (lv' := [(0, .ref 9)]) (st' := [.ref 1000006, .ref 9]) (sh' := ab_SH) (D' := ab_dD h) (fun n => rfl) ?_
      obtain ⟨r5, hr5, hf⟩ := ab_bind_s hf
      refine ab_Ex.call (d := d + 107) (M2 := 93) (as := [.ref 9, .ref 1000006]) (rest := []) (fun n => rfl) rfl (Nat.not_lt.mpr (Nat.le_of_ble_eq_true rfl)) (sX6_is_1000006 (d + 103) X  h _ hr5) (fun r hr => ?_)
      subst hr
      show ab_Ex X (d + 108) 70 72 [(0, .ref 9)] [.int r5] ab_SH (ab_dD h) _
      refine ab_Ex.ifc (c := r5 = 0) (SA := (99, [(0, .ref 9)], [], ab_dD h)) (SB := (75, [(0, .ref 9)], [], ab_dD h)) (fun n => rfl) (fun c6 => ?_) (fun c6 => ?_)
      · replace hf := (if_pos c6).symm.trans hf
        refine ab_Ex.blk (k := 2) (pc' := 102) (lv' := [(0, .ref 9)]) (st' := [.ref 1000007, .ref 9]) (sh' := ab_SH) (D' := ab_dD h) (fun n => rfl) ?_
        obtain ⟨r7, hr7, hf⟩ := ab_bind_s hf
        refine ab_Ex.call (d := d + 107) (M2 := 93) (as := [.ref 9, .ref 1000007]) (rest := []) (fun n => rfl) rfl (Nat.not_lt.mpr (Nat.le_of_ble_eq_true rfl)) (sX6_is_1000007 (d + 103) X  h _ hr7) (fun r hr => ?_)
        subst hr
        show ab_Ex X (d + 108) 70 105 [(0, .ref 9)] [.int r7] ab_SH (ab_dD h) _
        refine ab_Ex.ifc (c := r7 = 0) (SA := (132, [(0, .ref 9)], [], ab_dD h)) (SB := (108, [(0, .ref 9)], [], ab_dD h)) (fun n => rfl) (fun c8 => ?_) (fun c8 => ?_)
        · replace hf := (if_pos c8).symm.trans hf
          refine ab_Ex.blk (k := 2) (pc' := 135) (lv' := [(0, .ref 9)]) (st' := [.ref 1000008, .ref 9]) (sh' := ab_SH) (D' := ab_dD h) (fun n => rfl) ?_
          obtain ⟨r9, hr9, hf⟩ := ab_bind_s hf
          refine ab_Ex.call (d := d + 107) (M2 := 93) (as := [.ref 9, .ref 1000008]) (rest := []) (fun n => rfl) rfl (Nat.not_lt.mpr (Nat.le_of_ble_eq_true rfl)) (sX6_is_1000008 (d + 103) X  h _ hr9) (fun r hr => ?_)
          subst hr
          show ab_Ex X (d + 108) 70 138 [(0, .ref 9)] [.int r9] ab_SH (ab_dD h) _
          refine ab_Ex.ifc (c := r9 = 0) (SA := (165, [(0, .ref 9)], [], ab_dD h)) (SB := (141, [(0, .ref 9)], [], ab_dD h)) (fun n => rfl) (fun c10 => ?_) (fun c10 => ?_)
          · replace hf := (if_pos c10).symm.trans hf
            refine ab_Ex.blk (k := 2) (pc' := 168) (lv' := [(0, .ref 9)]) (st' := [.ref 1000009, .ref 9]) (sh' := ab_SH) (D' := ab_dD h) (fun n => rfl) ?_
            obtain ⟨r11, hr11, hf⟩ := ab_bind_s hf
            refine ab_Ex.call (d := d + 107) (M2 := 93) (as := [.ref 9, .ref 1000009]) (rest := []) (fun n => rfl) rfl (Nat.not_lt.mpr (Nat.le_of_ble_eq_true rfl)) (sX6_is_1000009 (d + 103) X  h _ hr11) (fun r hr => ?_)
            subst hr
            show ab_Ex X (d + 108) 70 171 [(0, .ref 9)] [.int r11] ab_SH (ab_dD h) _
            refine ab_Ex.ifc (c := r11 = 0) (SA := (198, [(0, .ref 9)], [], ab_dD h)) (SB := (174, [(0, .ref 9)], [], ab_dD h)) (fun n => rfl) (fun c12 => ?_) (fun c12 => ?_)
            · replace hf := (if_pos c12).symm.trans hf
              refine ab_Ex.blk (k := 2) (pc' := 201) (lv' := [(0, .ref 9)]) (st' := [.ref 1000030, .ref 9]) (sh' := ab_SH) (D' := ab_dD h) (fun n => rfl) ?_
              obtain ⟨r13, hr13, hf⟩ := ab_bind_s hf
              refine ab_Ex.call (d := d + 107) (M2 := 93) (as := [.ref 9, .ref 1000030]) (rest := []) (fun n => rfl) rfl (Nat.not_lt.mpr (Nat.le_of_ble_eq_true rfl)) (sX6_is_1000030 (d + 103) X  h _ hr13) (fun r hr => ?_)
              subst hr
              show ab_Ex X (d + 108) 70 204 [(0, .ref 9)] [.int r13] ab_SH (ab_dD h) _
              refine ab_Ex.ifc (c := r13 = 0) (SA := (231, [(0, .ref 9)], [], ab_dD h)) (SB := (207, [(0, .ref 9)], [], ab_dD h)) (fun n => rfl) (fun c14 => ?_) (fun c14 => ?_)
              · replace hf := (if_pos c14).symm.trans hf
                refine ab_Ex.blk (k := 2) (pc' := 233) (lv' := [(0, .ref 9)]) (st' := [.int 2, .ref 9]) (sh' := ab_SH) (D' := ab_dD h) (fun n => rfl) ?_
                obtain ⟨r15, hr15, hf⟩ := ab_bind_s hf
                refine ab_Ex.call (d := d + 107) (M2 := 92) (as := [.ref 9, .int 2]) (rest := []) (fun n => rfl) rfl (Nat.not_lt.mpr (Nat.le_of_ble_eq_true rfl)) (sX6_wrong (d + 107) X 2 h _ hr15) (fun r hr => ?_)
                subst hr
                show ab_Ex X (d + 108) 70 236 [(0, .ref 9)] [.int r15.1] ab_SH (ab_dD r15.2) _
                obtain ⟨c9, hf⟩ := ab_ask_s hf
                obtain rfl := Option.some.inj hf
                exact ab_Ex.retc (fun n => rfl) (Decidable.not_not.mp c9) rfl
              · replace hf := (if_neg c14).symm.trans hf
                refine ab_Ex.blk (k := 1) (pc' := 208) (lv' := [(0, .ref 9)]) (st' := [.ref 9]) (sh' := ab_SH) (D' := ab_dD h) (fun n => rfl) ?_
                obtain ⟨r16, hr16, hf⟩ := ab_bind_s hf
                refine ab_Ex.call (d := d + 107) (M2 := 94) (as := [.ref 9]) (rest := []) (fun n => rfl) rfl (Nat.not_lt.mpr (Nat.le_of_ble_eq_true rfl)) (sX6_advance (d + 103) X  h _ hr16) (fun r hr => ?_)
                subst hr
                show ab_Ex X (d + 108) 70 211 [(0, .ref 9)] [] ab_SH (ab_dD r16) _
                refine ab_Ex.blk (k := 1) (pc' := 212) (lv' := [(0, .ref 9)]) (st' := [.ref 9]) (sh' := ab_SH) (D' := ab_dD r16) (fun n => rfl) ?_
                obtain ⟨r17, hr17, hf⟩ := ab_bind_s hf
                refine ab_Ex.call (d := d + 107) (M2 := 78) (as := [.ref 9]) (rest := []) (fun n => rfl) rfl (Nat.not_lt.mpr (Nat.le_of_ble_eq_true rfl)) (sX6_readSticks (d) X  r16 _ hr17) (fun r hr => ?_)
                subst hr
                show ab_Ex X (d + 108) 70 215 [(0, .ref 9)] [.int r17.1] ab_SH (ab_dD r17.2) _
                refine ab_Ex.ifc (c := r17.1 = 0) (SA := (229, [(0, .ref 9)], [], ab_dD r17.2)) (SB := (218, [(0, .ref 9)], [], ab_dD r17.2)) (fun n => rfl) (fun c18 => ?_) (fun c18 => ?_)
                · replace hf := (if_pos c18).symm.trans hf
                  refine ab_Ex.blk (k := 1) (pc' := 230) (lv' := []) (st' := [.int 0]) (sh' := ab_SH) (D' := ab_dD r17.2) (fun n => rfl) ?_
                  obtain rfl := Option.some.inj hf
                  exact ab_Ex.ret (fun n => rfl) rfl
                · replace hf := (if_neg c18).symm.trans hf
                  refine ab_Ex.blk (k := 1) (pc' := 219) (lv' := [(0, .ref 9)]) (st' := [.ref 9]) (sh' := ab_SH) (D' := ab_dD r17.2) (fun n => rfl) ?_
                  obtain ⟨r19, hr19, hf⟩ := ab_bind_s hf
                  refine ab_Ex.call (d := d + 107) (M2 := 71) (as := [.ref 9]) (rest := []) (fun n => rfl) rfl (Nat.not_lt.mpr (Nat.le_of_ble_eq_true rfl)) (sX6_endLine (d + 101) X  r17.2 _ hr19) (fun r hr => ?_)
                  subst hr
                  show ab_Ex X (d + 108) 70 222 [(0, .ref 9)] [.int r19.1] ab_SH (ab_dD r19.2) _
                  refine ab_Ex.ifc (c := r19.1 = 0) (SA := (229, [(0, .ref 9)], [], ab_dD r19.2)) (SB := (225, [(0, .ref 9)], [], ab_dD r19.2)) (fun n => rfl) (fun c20 => ?_) (fun c20 => ?_)
                  · replace hf := (if_pos c20).symm.trans hf
                    refine ab_Ex.blk (k := 1) (pc' := 230) (lv' := []) (st' := [.int 0]) (sh' := ab_SH) (D' := ab_dD r19.2) (fun n => rfl) ?_
                    obtain rfl := Option.some.inj hf
                    exact ab_Ex.ret (fun n => rfl) rfl
                  · replace hf := (if_neg c20).symm.trans hf
                    refine ab_Ex.blk (k := 2) (pc' := 230) (lv' := []) (st' := [.int 1]) (sh' := ab_SH) (D' := ab_dD r19.2) (fun n => rfl) ?_
                    obtain rfl := Option.some.inj hf
                    exact ab_Ex.ret (fun n => rfl) rfl
            · replace hf := (if_neg c12).symm.trans hf
              refine ab_Ex.blk (k := 1) (pc' := 175) (lv' := [(0, .ref 9)]) (st' := [.ref 9]) (sh' := ab_SH) (D' := ab_dD h) (fun n => rfl) ?_
              obtain ⟨r21, hr21, hf⟩ := ab_bind_s hf
              refine ab_Ex.call (d := d + 107) (M2 := 94) (as := [.ref 9]) (rest := []) (fun n => rfl) rfl (Nat.not_lt.mpr (Nat.le_of_ble_eq_true rfl)) (sX6_advance (d + 103) X  h _ hr21) (fun r hr => ?_)
              subst hr
              show ab_Ex X (d + 108) 70 178 [(0, .ref 9)] [] ab_SH (ab_dD r21) _
              refine ab_Ex.blk (k := 1) (pc' := 179) (lv' := [(0, .ref 9)]) (st' := [.ref 9]) (sh' := ab_SH) (D' := ab_dD r21) (fun n => rfl) ?_
              obtain ⟨r22, hr22, hf⟩ := ab_bind_s hf
              refine ab_Ex.call (d := d + 107) (M2 := 77) (as := [.ref 9]) (rest := []) (fun n => rfl) rfl (Nat.not_lt.mpr (Nat.le_of_ble_eq_true rfl)) (sX6_readTurns (d) X  r21 _ hr22) (fun r hr => ?_)
              subst hr
              show ab_Ex X (d + 108) 70 182 [(0, .ref 9)] [.int r22.1] ab_SH (ab_dD r22.2) _
              refine ab_Ex.ifc (c := r22.1 = 0) (SA := (196, [(0, .ref 9)], [], ab_dD r22.2)) (SB := (185, [(0, .ref 9)], [], ab_dD r22.2)) (fun n => rfl) (fun c23 => ?_) (fun c23 => ?_)
              · replace hf := (if_pos c23).symm.trans hf
                refine ab_Ex.blk (k := 1) (pc' := 197) (lv' := []) (st' := [.int 0]) (sh' := ab_SH) (D' := ab_dD r22.2) (fun n => rfl) ?_
                obtain rfl := Option.some.inj hf
                exact ab_Ex.ret (fun n => rfl) rfl
              · replace hf := (if_neg c23).symm.trans hf
                refine ab_Ex.blk (k := 1) (pc' := 186) (lv' := [(0, .ref 9)]) (st' := [.ref 9]) (sh' := ab_SH) (D' := ab_dD r22.2) (fun n => rfl) ?_
                obtain ⟨r24, hr24, hf⟩ := ab_bind_s hf
                refine ab_Ex.call (d := d + 107) (M2 := 71) (as := [.ref 9]) (rest := []) (fun n => rfl) rfl (Nat.not_lt.mpr (Nat.le_of_ble_eq_true rfl)) (sX6_endLine (d + 101) X  r22.2 _ hr24) (fun r hr => ?_)
                subst hr
                show ab_Ex X (d + 108) 70 189 [(0, .ref 9)] [.int r24.1] ab_SH (ab_dD r24.2) _
                refine ab_Ex.ifc (c := r24.1 = 0) (SA := (196, [(0, .ref 9)], [], ab_dD r24.2)) (SB := (192, [(0, .ref 9)], [], ab_dD r24.2)) (fun n => rfl) (fun c25 => ?_) (fun c25 => ?_)
                · replace hf := (if_pos c25).symm.trans hf
                  refine ab_Ex.blk (k := 1) (pc' := 197) (lv' := []) (st' := [.int 0]) (sh' := ab_SH) (D' := ab_dD r24.2) (fun n => rfl) ?_
                  obtain rfl := Option.some.inj hf
                  exact ab_Ex.ret (fun n => rfl) rfl
                · replace hf := (if_neg c25).symm.trans hf
                  refine ab_Ex.blk (k := 2) (pc' := 197) (lv' := []) (st' := [.int 1]) (sh' := ab_SH) (D' := ab_dD r24.2) (fun n => rfl) ?_
                  obtain rfl := Option.some.inj hf
                  exact ab_Ex.ret (fun n => rfl) rfl
          · replace hf := (if_neg c10).symm.trans hf
            refine ab_Ex.blk (k := 1) (pc' := 142) (lv' := [(0, .ref 9)]) (st' := [.ref 9]) (sh' := ab_SH) (D' := ab_dD h) (fun n => rfl) ?_
            obtain ⟨r26, hr26, hf⟩ := ab_bind_s hf
            refine ab_Ex.call (d := d + 107) (M2 := 94) (as := [.ref 9]) (rest := []) (fun n => rfl) rfl (Nat.not_lt.mpr (Nat.le_of_ble_eq_true rfl)) (sX6_advance (d + 103) X  h _ hr26) (fun r hr => ?_)
            subst hr
            show ab_Ex X (d + 108) 70 145 [(0, .ref 9)] [] ab_SH (ab_dD r26) _
            refine ab_Ex.blk (k := 1) (pc' := 146) (lv' := [(0, .ref 9)]) (st' := [.ref 9]) (sh' := ab_SH) (D' := ab_dD r26) (fun n => rfl) ?_
            obtain ⟨r27, hr27, hf⟩ := ab_bind_s hf
            refine ab_Ex.call (d := d + 107) (M2 := 76) (as := [.ref 9]) (rest := []) (fun n => rfl) rfl (Nat.not_lt.mpr (Nat.le_of_ble_eq_true rfl)) (sX6_readFog (d + 101) X  r26 _ hr27) (fun r hr => ?_)
            subst hr
            show ab_Ex X (d + 108) 70 149 [(0, .ref 9)] [.int r27.1] ab_SH (ab_dD r27.2) _
            refine ab_Ex.ifc (c := r27.1 = 0) (SA := (163, [(0, .ref 9)], [], ab_dD r27.2)) (SB := (152, [(0, .ref 9)], [], ab_dD r27.2)) (fun n => rfl) (fun c28 => ?_) (fun c28 => ?_)
            · replace hf := (if_pos c28).symm.trans hf
              refine ab_Ex.blk (k := 1) (pc' := 164) (lv' := []) (st' := [.int 0]) (sh' := ab_SH) (D' := ab_dD r27.2) (fun n => rfl) ?_
              obtain rfl := Option.some.inj hf
              exact ab_Ex.ret (fun n => rfl) rfl
            · replace hf := (if_neg c28).symm.trans hf
              refine ab_Ex.blk (k := 1) (pc' := 153) (lv' := [(0, .ref 9)]) (st' := [.ref 9]) (sh' := ab_SH) (D' := ab_dD r27.2) (fun n => rfl) ?_
              obtain ⟨r29, hr29, hf⟩ := ab_bind_s hf
              refine ab_Ex.call (d := d + 107) (M2 := 71) (as := [.ref 9]) (rest := []) (fun n => rfl) rfl (Nat.not_lt.mpr (Nat.le_of_ble_eq_true rfl)) (sX6_endLine (d + 101) X  r27.2 _ hr29) (fun r hr => ?_)
              subst hr
              show ab_Ex X (d + 108) 70 156 [(0, .ref 9)] [.int r29.1] ab_SH (ab_dD r29.2) _
              refine ab_Ex.ifc (c := r29.1 = 0) (SA := (163, [(0, .ref 9)], [], ab_dD r29.2)) (SB := (159, [(0, .ref 9)], [], ab_dD r29.2)) (fun n => rfl) (fun c30 => ?_) (fun c30 => ?_)
              · replace hf := (if_pos c30).symm.trans hf
                refine ab_Ex.blk (k := 1) (pc' := 164) (lv' := []) (st' := [.int 0]) (sh' := ab_SH) (D' := ab_dD r29.2) (fun n => rfl) ?_
                obtain rfl := Option.some.inj hf
                exact ab_Ex.ret (fun n => rfl) rfl
              · replace hf := (if_neg c30).symm.trans hf
                refine ab_Ex.blk (k := 2) (pc' := 164) (lv' := []) (st' := [.int 1]) (sh' := ab_SH) (D' := ab_dD r29.2) (fun n => rfl) ?_
                obtain rfl := Option.some.inj hf
                exact ab_Ex.ret (fun n => rfl) rfl
        · replace hf := (if_neg c8).symm.trans hf
          refine ab_Ex.blk (k := 1) (pc' := 109) (lv' := [(0, .ref 9)]) (st' := [.ref 9]) (sh' := ab_SH) (D' := ab_dD h) (fun n => rfl) ?_
          obtain ⟨r31, hr31, hf⟩ := ab_bind_s hf
          refine ab_Ex.call (d := d + 107) (M2 := 94) (as := [.ref 9]) (rest := []) (fun n => rfl) rfl (Nat.not_lt.mpr (Nat.le_of_ble_eq_true rfl)) (sX6_advance (d + 103) X  h _ hr31) (fun r hr => ?_)
          subst hr
          show ab_Ex X (d + 108) 70 112 [(0, .ref 9)] [] ab_SH (ab_dD r31) _
          refine ab_Ex.blk (k := 1) (pc' := 113) (lv' := [(0, .ref 9)]) (st' := [.ref 9]) (sh' := ab_SH) (D' := ab_dD r31) (fun n => rfl) ?_
          obtain ⟨r32, hr32, hf⟩ := ab_bind_s hf
          refine ab_Ex.call (d := d + 107) (M2 := 75) (as := [.ref 9]) (rest := []) (fun n => rfl) rfl (Nat.not_lt.mpr (Nat.le_of_ble_eq_true rfl)) (sX6_readWalker (d + 100) X  r31 _ hr32) (fun r hr => ?_)
          subst hr
          show ab_Ex X (d + 108) 70 116 [(0, .ref 9)] [.int r32.1] ab_SH (ab_dD r32.2) _
          refine ab_Ex.ifc (c := r32.1 = 0) (SA := (130, [(0, .ref 9)], [], ab_dD r32.2)) (SB := (119, [(0, .ref 9)], [], ab_dD r32.2)) (fun n => rfl) (fun c33 => ?_) (fun c33 => ?_)
          · replace hf := (if_pos c33).symm.trans hf
            refine ab_Ex.blk (k := 1) (pc' := 131) (lv' := []) (st' := [.int 0]) (sh' := ab_SH) (D' := ab_dD r32.2) (fun n => rfl) ?_
            obtain rfl := Option.some.inj hf
            exact ab_Ex.ret (fun n => rfl) rfl
          · replace hf := (if_neg c33).symm.trans hf
            refine ab_Ex.blk (k := 1) (pc' := 120) (lv' := [(0, .ref 9)]) (st' := [.ref 9]) (sh' := ab_SH) (D' := ab_dD r32.2) (fun n => rfl) ?_
            obtain ⟨r34, hr34, hf⟩ := ab_bind_s hf
            refine ab_Ex.call (d := d + 107) (M2 := 71) (as := [.ref 9]) (rest := []) (fun n => rfl) rfl (Nat.not_lt.mpr (Nat.le_of_ble_eq_true rfl)) (sX6_endLine (d + 101) X  r32.2 _ hr34) (fun r hr => ?_)
            subst hr
            show ab_Ex X (d + 108) 70 123 [(0, .ref 9)] [.int r34.1] ab_SH (ab_dD r34.2) _
            refine ab_Ex.ifc (c := r34.1 = 0) (SA := (130, [(0, .ref 9)], [], ab_dD r34.2)) (SB := (126, [(0, .ref 9)], [], ab_dD r34.2)) (fun n => rfl) (fun c35 => ?_) (fun c35 => ?_)
            · replace hf := (if_pos c35).symm.trans hf
              refine ab_Ex.blk (k := 1) (pc' := 131) (lv' := []) (st' := [.int 0]) (sh' := ab_SH) (D' := ab_dD r34.2) (fun n => rfl) ?_
              obtain rfl := Option.some.inj hf
              exact ab_Ex.ret (fun n => rfl) rfl
            · replace hf := (if_neg c35).symm.trans hf
              refine ab_Ex.blk (k := 2) (pc' := 131) (lv' := []) (st' := [.int 1]) (sh' := ab_SH) (D' := ab_dD r34.2) (fun n => rfl) ?_
              obtain rfl := Option.some.inj hf
              exact ab_Ex.ret (fun n => rfl) rfl
      · replace hf := (if_neg c6).symm.trans hf
        refine ab_Ex.blk (k := 1) (pc' := 76) (lv' := [(0, .ref 9)]) (st' := [.ref 9]) (sh' := ab_SH) (D' := ab_dD h) (fun n => rfl) ?_
        obtain ⟨r36, hr36, hf⟩ := ab_bind_s hf
        refine ab_Ex.call (d := d + 107) (M2 := 94) (as := [.ref 9]) (rest := []) (fun n => rfl) rfl (Nat.not_lt.mpr (Nat.le_of_ble_eq_true rfl)) (sX6_advance (d + 103) X  h _ hr36) (fun r hr => ?_)
        subst hr
        show ab_Ex X (d + 108) 70 79 [(0, .ref 9)] [] ab_SH (ab_dD r36) _
        refine ab_Ex.blk (k := 1) (pc' := 80) (lv' := [(0, .ref 9)]) (st' := [.ref 9]) (sh' := ab_SH) (D' := ab_dD r36) (fun n => rfl) ?_
        obtain ⟨r37, hr37, hf⟩ := ab_bind_s hf
        refine ab_Ex.call (d := d + 107) (M2 := 74) (as := [.ref 9]) (rest := []) (fun n => rfl) rfl (Nat.not_lt.mpr (Nat.le_of_ble_eq_true rfl)) (sX6_readHome (d + 100) X  r36 _ hr37) (fun r hr => ?_)
        subst hr
        show ab_Ex X (d + 108) 70 83 [(0, .ref 9)] [.int r37.1] ab_SH (ab_dD r37.2) _
        refine ab_Ex.ifc (c := r37.1 = 0) (SA := (97, [(0, .ref 9)], [], ab_dD r37.2)) (SB := (86, [(0, .ref 9)], [], ab_dD r37.2)) (fun n => rfl) (fun c38 => ?_) (fun c38 => ?_)
        · replace hf := (if_pos c38).symm.trans hf
          refine ab_Ex.blk (k := 1) (pc' := 98) (lv' := []) (st' := [.int 0]) (sh' := ab_SH) (D' := ab_dD r37.2) (fun n => rfl) ?_
          obtain rfl := Option.some.inj hf
          exact ab_Ex.ret (fun n => rfl) rfl
        · replace hf := (if_neg c38).symm.trans hf
          refine ab_Ex.blk (k := 1) (pc' := 87) (lv' := [(0, .ref 9)]) (st' := [.ref 9]) (sh' := ab_SH) (D' := ab_dD r37.2) (fun n => rfl) ?_
          obtain ⟨r39, hr39, hf⟩ := ab_bind_s hf
          refine ab_Ex.call (d := d + 107) (M2 := 71) (as := [.ref 9]) (rest := []) (fun n => rfl) rfl (Nat.not_lt.mpr (Nat.le_of_ble_eq_true rfl)) (sX6_endLine (d + 101) X  r37.2 _ hr39) (fun r hr => ?_)
          subst hr
          show ab_Ex X (d + 108) 70 90 [(0, .ref 9)] [.int r39.1] ab_SH (ab_dD r39.2) _
          refine ab_Ex.ifc (c := r39.1 = 0) (SA := (97, [(0, .ref 9)], [], ab_dD r39.2)) (SB := (93, [(0, .ref 9)], [], ab_dD r39.2)) (fun n => rfl) (fun c40 => ?_) (fun c40 => ?_)
          · replace hf := (if_pos c40).symm.trans hf
            refine ab_Ex.blk (k := 1) (pc' := 98) (lv' := []) (st' := [.int 0]) (sh' := ab_SH) (D' := ab_dD r39.2) (fun n => rfl) ?_
            obtain rfl := Option.some.inj hf
            exact ab_Ex.ret (fun n => rfl) rfl
          · replace hf := (if_neg c40).symm.trans hf
            refine ab_Ex.blk (k := 2) (pc' := 98) (lv' := []) (st' := [.int 1]) (sh' := ab_SH) (D' := ab_dD r39.2) (fun n => rfl) ?_
            obtain rfl := Option.some.inj hf
            exact ab_Ex.ret (fun n => rfl) rfl
    · replace hf := (if_neg c4).symm.trans hf
      refine ab_Ex.blk (k := 1) (pc' := 43) (lv' := [(0, .ref 9)]) (st' := [.ref 9]) (sh' := ab_SH) (D' := ab_dD h) (fun n => rfl) ?_
      obtain ⟨r41, hr41, hf⟩ := ab_bind_s hf
      refine ab_Ex.call (d := d + 107) (M2 := 94) (as := [.ref 9]) (rest := []) (fun n => rfl) rfl (Nat.not_lt.mpr (Nat.le_of_ble_eq_true rfl)) (sX6_advance (d + 103) X  h _ hr41) (fun r hr => ?_)
      subst hr
      show ab_Ex X (d + 108) 70 46 [(0, .ref 9)] [] ab_SH (ab_dD r41) _
      refine ab_Ex.blk (k := 1) (pc' := 47) (lv' := [(0, .ref 9)]) (st' := [.ref 9]) (sh' := ab_SH) (D' := ab_dD r41) (fun n => rfl) ?_
      obtain ⟨r42, hr42, hf⟩ := ab_bind_s hf
      refine ab_Ex.call (d := d + 107) (M2 := 73) (as := [.ref 9]) (rest := []) (fun n => rfl) rfl (Nat.not_lt.mpr (Nat.le_of_ble_eq_true rfl)) (sX6_readArm (d + 100) X  r41 _ hr42) (fun r hr => ?_)
      subst hr
      show ab_Ex X (d + 108) 70 50 [(0, .ref 9)] [.int r42.1] ab_SH (ab_dD r42.2) _
      refine ab_Ex.ifc (c := r42.1 = 0) (SA := (64, [(0, .ref 9)], [], ab_dD r42.2)) (SB := (53, [(0, .ref 9)], [], ab_dD r42.2)) (fun n => rfl) (fun c43 => ?_) (fun c43 => ?_)
      · replace hf := (if_pos c43).symm.trans hf
        refine ab_Ex.blk (k := 1) (pc' := 65) (lv' := []) (st' := [.int 0]) (sh' := ab_SH) (D' := ab_dD r42.2) (fun n => rfl) ?_
        obtain rfl := Option.some.inj hf
        exact ab_Ex.ret (fun n => rfl) rfl
      · replace hf := (if_neg c43).symm.trans hf
        refine ab_Ex.blk (k := 1) (pc' := 54) (lv' := [(0, .ref 9)]) (st' := [.ref 9]) (sh' := ab_SH) (D' := ab_dD r42.2) (fun n => rfl) ?_
        obtain ⟨r44, hr44, hf⟩ := ab_bind_s hf
        refine ab_Ex.call (d := d + 107) (M2 := 71) (as := [.ref 9]) (rest := []) (fun n => rfl) rfl (Nat.not_lt.mpr (Nat.le_of_ble_eq_true rfl)) (sX6_endLine (d + 101) X  r42.2 _ hr44) (fun r hr => ?_)
        subst hr
        show ab_Ex X (d + 108) 70 57 [(0, .ref 9)] [.int r44.1] ab_SH (ab_dD r44.2) _
        refine ab_Ex.ifc (c := r44.1 = 0) (SA := (64, [(0, .ref 9)], [], ab_dD r44.2)) (SB := (60, [(0, .ref 9)], [], ab_dD r44.2)) (fun n => rfl) (fun c45 => ?_) (fun c45 => ?_)
        · replace hf := (if_pos c45).symm.trans hf
          refine ab_Ex.blk (k := 1) (pc' := 65) (lv' := []) (st' := [.int 0]) (sh' := ab_SH) (D' := ab_dD r44.2) (fun n => rfl) ?_
          obtain rfl := Option.some.inj hf
          exact ab_Ex.ret (fun n => rfl) rfl
        · replace hf := (if_neg c45).symm.trans hf
          refine ab_Ex.blk (k := 2) (pc' := 65) (lv' := []) (st' := [.int 1]) (sh' := ab_SH) (D' := ab_dD r44.2) (fun n => rfl) ?_
          obtain rfl := Option.some.inj hf
          exact ab_Ex.ret (fun n => rfl) rfl
  · replace hf := (if_neg c2).symm.trans hf
    refine ab_Ex.blk (k := 1) (pc' := 10) (lv' := [(0, .ref 9)]) (st' := [.ref 9]) (sh' := ab_SH) (D' := ab_dD h) (fun n => rfl) ?_
    obtain ⟨r46, hr46, hf⟩ := ab_bind_s hf
    refine ab_Ex.call (d := d + 107) (M2 := 94) (as := [.ref 9]) (rest := []) (fun n => rfl) rfl (Nat.not_lt.mpr (Nat.le_of_ble_eq_true rfl)) (sX6_advance (d + 103) X  h _ hr46) (fun r hr => ?_)
    subst hr
    show ab_Ex X (d + 108) 70 13 [(0, .ref 9)] [] ab_SH (ab_dD r46) _
    refine ab_Ex.blk (k := 1) (pc' := 14) (lv' := [(0, .ref 9)]) (st' := [.ref 9]) (sh' := ab_SH) (D' := ab_dD r46) (fun n => rfl) ?_
    obtain ⟨r47, hr47, hf⟩ := ab_bind_s hf
    refine ab_Ex.call (d := d + 107) (M2 := 72) (as := [.ref 9]) (rest := []) (fun n => rfl) rfl (Nat.not_lt.mpr (Nat.le_of_ble_eq_true rfl)) (sX6_readRoad (d + 100) X  r46 _ hr47) (fun r hr => ?_)
    subst hr
    show ab_Ex X (d + 108) 70 17 [(0, .ref 9)] [.int r47.1] ab_SH (ab_dD r47.2) _
    refine ab_Ex.ifc (c := r47.1 = 0) (SA := (31, [(0, .ref 9)], [], ab_dD r47.2)) (SB := (20, [(0, .ref 9)], [], ab_dD r47.2)) (fun n => rfl) (fun c48 => ?_) (fun c48 => ?_)
    · replace hf := (if_pos c48).symm.trans hf
      refine ab_Ex.blk (k := 1) (pc' := 32) (lv' := []) (st' := [.int 0]) (sh' := ab_SH) (D' := ab_dD r47.2) (fun n => rfl) ?_
      obtain rfl := Option.some.inj hf
      exact ab_Ex.ret (fun n => rfl) rfl
    · replace hf := (if_neg c48).symm.trans hf
      refine ab_Ex.blk (k := 1) (pc' := 21) (lv' := [(0, .ref 9)]) (st' := [.ref 9]) (sh' := ab_SH) (D' := ab_dD r47.2) (fun n => rfl) ?_
      obtain ⟨r49, hr49, hf⟩ := ab_bind_s hf
      refine ab_Ex.call (d := d + 107) (M2 := 71) (as := [.ref 9]) (rest := []) (fun n => rfl) rfl (Nat.not_lt.mpr (Nat.le_of_ble_eq_true rfl)) (sX6_endLine (d + 101) X  r47.2 _ hr49) (fun r hr => ?_)
      subst hr
      show ab_Ex X (d + 108) 70 24 [(0, .ref 9)] [.int r49.1] ab_SH (ab_dD r49.2) _
      refine ab_Ex.ifc (c := r49.1 = 0) (SA := (31, [(0, .ref 9)], [], ab_dD r49.2)) (SB := (27, [(0, .ref 9)], [], ab_dD r49.2)) (fun n => rfl) (fun c50 => ?_) (fun c50 => ?_)
      · replace hf := (if_pos c50).symm.trans hf
        refine ab_Ex.blk (k := 1) (pc' := 32) (lv' := []) (st' := [.int 0]) (sh' := ab_SH) (D' := ab_dD r49.2) (fun n => rfl) ?_
        obtain rfl := Option.some.inj hf
        exact ab_Ex.ret (fun n => rfl) rfl
      · replace hf := (if_neg c50).symm.trans hf
        refine ab_Ex.blk (k := 2) (pc' := 32) (lv' := []) (st' := [.int 1]) (sh' := ab_SH) (D' := ab_dD r49.2) (fun n => rfl) ?_
        obtain rfl := Option.some.inj hf
        exact ab_Ex.ret (fun n => rfl) rfl
def fX6_read_L61   : Nat → Int32 → Int32 → abJ → Option abJ
  | 0, _, _, _ => none
  | n + 1, y2, y3, h => if 900 ≤ y3 then some h else if y2 = 0 then some h else if (h.1 9 6) = 0 then some h else (fX6_readLine h).bind (fun r10 => fX6_read_L61 n r10.1 ((y3 + 1)) r10.2)
def fX6_read (x0 : Int32) (h : abJ) : Option abJ := (fJ9_min_7cf53 x0 ((h.1 9 4)) h).bind (fun r1 => (fJ9_max_7cf53 0 r1 h).bind (fun r2 => (fX3_clear (ab_wI (ab_wI (ab_wI (ab_wI h 9 5 r2) 9 8 0) 9 10 0) 9 11 (-1))).bind (fun r3 => (fX9_clear r3).bind (fun r4 => (fX6_advance (ab_wI r4 9 2 0)).bind (fun r5 => (fX6_readHead r5).bind (fun r6 => fX6_read_L61 ab_N r6.1 0 r6.2))))))
set_option maxRecDepth 20000 in
theorem sX6_read_L61 (d : Nat) (X : abX)   : ∀ (n : Nat), ∀ (y2 : Int32) (y3 : Int32) (h : abJ) (z : abJ), fX6_read_L61 n y2 y3 h = some z → ab_Ex X (d + 109) 68 61 [(0, .ref 9), (2, .int y2), (3, .int y3)] [] ab_SH (ab_dD h) (fun r => r = (none, ab_SH, ab_dD z)) := by
  intro n
  induction n with
  | zero => intro y2 y3 h z hf; cases hf
  | succ n ih =>
    intro y2 y3 h z hf
    rw [fX6_read_L61] at hf
    refine ab_Ex.blk (k := 2) (pc' := 65) (lv' := [(0, .ref 9), (2, .int y2), (3, .int y3)]) (st' := [.int 900, .int y3]) (sh' := ab_SH) (D' := ab_dD h) (fun n => rfl) ?_
    refine ab_Ex.ifc (c := 900 ≤ y3) (SA := (90, [(0, .ref 9), (2, .int y2), (3, .int y3)], [], ab_dD h)) (SB := (68, [(0, .ref 9), (2, .int y2), (3, .int y3)], [], ab_dD h)) (fun n => rfl) (fun c7 => ?_) (fun c7 => ?_)
    · replace hf := (if_pos c7).symm.trans hf
      obtain rfl := Option.some.inj hf
      exact ab_Ex.ret (fun n => rfl) rfl
    · replace hf := (if_neg c7).symm.trans hf
      refine ab_Ex.blk (k := 1) (pc' := 69) (lv' := [(0, .ref 9), (2, .int y2), (3, .int y3)]) (st' := [.int y2]) (sh' := ab_SH) (D' := ab_dD h) (fun n => rfl) ?_
      refine ab_Ex.ifc (c := y2 = 0) (SA := (90, [(0, .ref 9), (2, .int y2), (3, .int y3)], [], ab_dD h)) (SB := (72, [(0, .ref 9), (2, .int y2), (3, .int y3)], [], ab_dD h)) (fun n => rfl) (fun c8 => ?_) (fun c8 => ?_)
      · replace hf := (if_pos c8).symm.trans hf
        obtain rfl := Option.some.inj hf
        exact ab_Ex.ret (fun n => rfl) rfl
      · replace hf := (if_neg c8).symm.trans hf
        refine ab_Ex.blk (k := 2) (pc' := 76) (lv' := [(0, .ref 9), (2, .int y2), (3, .int y3)]) (st' := [.int ((h.1 9 6))]) (sh' := ab_SH) (D' := ab_dD h) (fun n => rfl) ?_
        refine ab_Ex.ifc (c := (h.1 9 6) = 0) (SA := (90, [(0, .ref 9), (2, .int y2), (3, .int y3)], [], ab_dD h)) (SB := (79, [(0, .ref 9), (2, .int y2), (3, .int y3)], [], ab_dD h)) (fun n => rfl) (fun c9 => ?_) (fun c9 => ?_)
        · replace hf := (if_pos c9).symm.trans hf
          obtain rfl := Option.some.inj hf
          exact ab_Ex.ret (fun n => rfl) rfl
        · replace hf := (if_neg c9).symm.trans hf
          refine ab_Ex.blk (k := 1) (pc' := 80) (lv' := [(0, .ref 9), (2, .int y2), (3, .int y3)]) (st' := [.ref 9]) (sh' := ab_SH) (D' := ab_dD h) (fun n => rfl) ?_
          obtain ⟨r10, hr10, hf⟩ := ab_bind_s hf
          refine ab_Ex.call (d := d + 108) (M2 := 70) (as := [.ref 9]) (rest := []) (fun n => rfl) rfl (Nat.not_lt.mpr (Nat.le_of_ble_eq_true rfl)) (sX6_readLine (d) X  h _ hr10) (fun r hr => ?_)
          subst hr
          show ab_Ex X (d + 109) 68 83 [(0, .ref 9), (2, .int y2), (3, .int y3)] [.int r10.1] ab_SH (ab_dD r10.2) _
          refine ab_Ex.blk (k := 3) (pc' := 61) (lv' := [(0, .ref 9), (2, .int r10.1), (3, .int ((y3 + 1)))]) (st' := []) (sh' := ab_SH) (D' := ab_dD r10.2) (fun n => rfl) ?_
          exact ih r10.1 ((y3 + 1)) r10.2 _ hf
set_option maxRecDepth 20000 in
theorem sX6_read (d : Nat) (X : abX) (x0 : Int32) (h : abJ) (z : abJ) (hf : fX6_read x0 h = some z) : ab_Ex X (d + 109) 68 0 [(0, .ref 9), (1, .int x0)] [] ab_SH (ab_dD h) (fun r => r = (none, ab_SH, ab_dD z)) := by
  unfold fX6_read at hf
  refine ab_Ex.blk (k := 5) (pc' := 7) (lv' := [(0, .ref 9), (1, .int x0)]) (st' := [.int ((h.1 9 4)), .int x0, .int 0, .ref 9]) (sh' := ab_SH) (D' := ab_dD h) (fun n => rfl) ?_
  obtain ⟨r1, hr1, hf⟩ := ab_bind_s hf
  refine ab_Ex.call (d := d + 108) (M2 := 303) (as := [.int x0, .int ((h.1 9 4))]) (rest := [.int 0, .ref 9]) (fun n => rfl) rfl (Nat.not_lt.mpr (Nat.le_of_ble_eq_true rfl)) (sJ9_min_7cf53 (d + 108) X x0 ((h.1 9 4)) h _ hr1) (fun r hr => ?_)
  subst hr
  show ab_Ex X (d + 109) 68 10 [(0, .ref 9), (1, .int x0)] [.int r1, .int 0, .ref 9] ab_SH (ab_dD h) _
  obtain ⟨r2, hr2, hf⟩ := ab_bind_s hf
  refine ab_Ex.call (d := d + 108) (M2 := 302) (as := [.int 0, .int r1]) (rest := [.ref 9]) (fun n => rfl) rfl (Nat.not_lt.mpr (Nat.le_of_ble_eq_true rfl)) (sJ9_max_7cf53 (d + 108) X 0 r1 h _ hr2) (fun r hr => ?_)
  subst hr
  show ab_Ex X (d + 109) 68 13 [(0, .ref 9), (1, .int x0)] [.int r2, .ref 9] ab_SH (ab_dD h) _
  refine ab_Ex.blk (k := 12) (pc' := 35) (lv' := [(0, .ref 9), (1, .int x0)]) (st' := [.ref 5]) (sh' := ab_SH) (D' := ab_dD (ab_wI (ab_wI (ab_wI (ab_wI h 9 5 r2) 9 8 0) 9 10 0) 9 11 (-1))) (fun n => rfl) ?_
  obtain ⟨r3, hr3, hf⟩ := ab_bind_s hf
  refine ab_Ex.call (d := d + 108) (M2 := 32) (as := [.ref 5]) (rest := []) (fun n => rfl) rfl (Nat.not_lt.mpr (Nat.le_of_ble_eq_true rfl)) (sX3_clear (d + 107) X  (ab_wI (ab_wI (ab_wI (ab_wI h 9 5 r2) 9 8 0) 9 10 0) 9 11 (-1)) _ hr3) (fun r hr => ?_)
  subst hr
  show ab_Ex X (d + 109) 68 38 [(0, .ref 9), (1, .int x0)] [] ab_SH (ab_dD r3) _
  refine ab_Ex.blk (k := 2) (pc' := 42) (lv' := [(0, .ref 9), (1, .int x0)]) (st' := [.ref 10]) (sh' := ab_SH) (D' := ab_dD r3) (fun n => rfl) ?_
  obtain ⟨r4, hr4, hf⟩ := ab_bind_s hf
  refine ab_Ex.call (d := d + 108) (M2 := 118) (as := [.ref 10]) (rest := []) (fun n => rfl) rfl (Nat.not_lt.mpr (Nat.le_of_ble_eq_true rfl)) (sX9_clear (d + 108) X  r3 _ hr4) (fun r hr => ?_)
  subst hr
  show ab_Ex X (d + 109) 68 45 [(0, .ref 9), (1, .int x0)] [] ab_SH (ab_dD r4) _
  refine ab_Ex.blk (k := 4) (pc' := 51) (lv' := [(0, .ref 9), (1, .int x0)]) (st' := [.ref 9]) (sh' := ab_SH) (D' := ab_dD (ab_wI r4 9 2 0)) (fun n => rfl) ?_
  obtain ⟨r5, hr5, hf⟩ := ab_bind_s hf
  refine ab_Ex.call (d := d + 108) (M2 := 94) (as := [.ref 9]) (rest := []) (fun n => rfl) rfl (Nat.not_lt.mpr (Nat.le_of_ble_eq_true rfl)) (sX6_advance (d + 104) X  (ab_wI r4 9 2 0) _ hr5) (fun r hr => ?_)
  subst hr
  show ab_Ex X (d + 109) 68 54 [(0, .ref 9), (1, .int x0)] [] ab_SH (ab_dD r5) _
  refine ab_Ex.blk (k := 1) (pc' := 55) (lv' := [(0, .ref 9), (1, .int x0)]) (st' := [.ref 9]) (sh' := ab_SH) (D' := ab_dD r5) (fun n => rfl) ?_
  obtain ⟨r6, hr6, hf⟩ := ab_bind_s hf
  refine ab_Ex.call (d := d + 108) (M2 := 69) (as := [.ref 9]) (rest := []) (fun n => rfl) rfl (Nat.not_lt.mpr (Nat.le_of_ble_eq_true rfl)) (sX6_readHead (d + 101) X  r5 _ hr6) (fun r hr => ?_)
  subst hr
  show ab_Ex X (d + 109) 68 58 [(0, .ref 9), (1, .int x0)] [.int r6.1] ab_SH (ab_dD r6.2) _
  refine ab_Ex.blk (k := 3) (pc' := 61) (lv' := [(0, .ref 9), (2, .int r6.1), (3, .int 0)]) (st' := []) (sh' := ab_SH) (D' := ab_dD r6.2) (fun n => rfl) ?_
  exact sX6_read_L61 d X  ab_N r6.1 0 r6.2 _ hf
def fX7_forget  (h : abJ) : Option abJ := (fJ7_fill_53178 14 ((-1)) h).bind (fun r1 => some (ab_wI r1 13 2 0))
set_option maxRecDepth 20000 in
theorem sX7_forget (d : Nat) (X : abX)  (h : abJ) (z : abJ) (hf : fX7_forget  h = some z) : ab_Ex X (d + 1) 96 0 [(0, .ref 13)] [] ab_SH (ab_dD h) (fun r => r = (none, ab_SH, ab_dD z)) := by
  unfold fX7_forget at hf
  refine ab_Ex.blk (k := 3) (pc' := 5) (lv' := [(0, .ref 13)]) (st' := [.int ((-1)), .ref 14]) (sh' := ab_SH) (D' := ab_dD h) (fun n => rfl) ?_
  obtain ⟨r1, hr1, hf⟩ := ab_bind_s hf
  refine ab_Ex.call (d := d + 0) (M2 := 317) (as := [.ref 14, .int ((-1))]) (rest := []) (fun n => rfl) rfl (Nat.not_lt.mpr (Nat.le_of_ble_eq_true rfl)) (sJ7_fill_53178_14 (d) X ((-1)) h _ hr1) (fun r hr => ?_)
  subst hr
  show ab_Ex X (d + 1) 96 8 [(0, .ref 13)] [] ab_SH (ab_dD r1) _
  refine ab_Ex.blk (k := 3) (pc' := 13) (lv' := [(0, .ref 13)]) (st' := []) (sh' := ab_SH) (D' := ab_dD (ab_wI r1 13 2 0)) (fun n => rfl) ?_
  obtain rfl := Option.some.inj hf
  exact ab_Ex.ret (fun n => rfl) rfl
def fX8_clearSeen (x0 : Int32) (h : abJ) : Option abJ := (fX3_armLimit h).bind (fun r1 => (fJ7_fill_fda19 0 ((r1 * 6)) x0 h).bind (fun r2 => some r2))
set_option maxRecDepth 20000 in
theorem sX8_clearSeen (d : Nat) (X : abX) (x0 : Int32) (h : abJ) (z : abJ) (hf : fX8_clearSeen x0 h = some z) : ab_Ex X (d + 2) 105 0 [(0, .ref 35), (1, .int x0)] [] ab_SH (ab_dD h) (fun r => r = (none, ab_SH, ab_dD z)) := by
  unfold fX8_clearSeen at hf
  refine ab_Ex.blk (k := 5) (pc' := 9) (lv' := [(0, .ref 35), (1, .int x0)]) (st' := [.ref 1, .int 0, .ref 31]) (sh' := ab_SH) (D' := ab_dD h) (fun n => rfl) ?_
  obtain ⟨r1, hr1, hf⟩ := ab_bind_s hf
  refine ab_Ex.call (d := d + 1) (M2 := 41) (as := [.ref 1]) (rest := [.int 0, .ref 31]) (fun n => rfl) rfl (Nat.not_lt.mpr (Nat.le_of_ble_eq_true rfl)) (sX3_armLimit (d + 1) X  h _ hr1) (fun r hr => ?_)
  subst hr
  show ab_Ex X (d + 2) 105 12 [(0, .ref 35), (1, .int x0)] [.int r1, .int 0, .ref 31] ab_SH (ab_dD h) _
  refine ab_Ex.blk (k := 3) (pc' := 16) (lv' := [(0, .ref 35), (1, .int x0)]) (st' := [.int x0, .int ((r1 * 6)), .int 0, .ref 31]) (sh' := ab_SH) (D' := ab_dD h) (fun n => rfl) ?_
  obtain ⟨r2, hr2, hf⟩ := ab_bind_s hf
  refine ab_Ex.call (d := d + 1) (M2 := 318) (as := [.ref 31, .int 0, .int ((r1 * 6)), .int x0]) (rest := []) (fun n => rfl) rfl (Nat.not_lt.mpr (Nat.le_of_ble_eq_true rfl)) (sJ7_fill_fda19 (d) X 0 ((r1 * 6)) x0 h _ hr2) (fun r hr => ?_)
  subst hr
  show ab_Ex X (d + 2) 105 19 [(0, .ref 35), (1, .int x0)] [] ab_SH (ab_dD r2) _
  obtain rfl := Option.some.inj hf
  exact ab_Ex.ret (fun n => rfl) rfl
def fX8_stepsHome_L134   : Nat → Int32 → Int32 → abJ → Option (Int32 × abJ)
  | 0, _, _, _ => none
  | n + 1, y5, y6, h => if y6 < 0 then some (y5, h) else ab_ask (y6 < 0 ∨ 4375 ≤ (y6 : Int32).toNatClampNeg) (ab_ask ((h.1 30 (y6 : Int32).toNatClampNeg) < 0 ∨ 4374 ≤ ((h.1 30 (y6 : Int32).toNatClampNeg) : Int32).toNatClampNeg) (fX8_stepsHome_L134 n ((y5 + 1)) ((y6 + Int32.ofInt (-1))) (ab_wI h 31 ((h.1 30 (y6 : Int32).toNatClampNeg) : Int32).toNatClampNeg (y5 + 1))))
def fX8_stepsHome_J118   (y4 : Int32) (t0 : Int32) (h : abJ) : Option (Int32 × abJ) := if 0 ≤ t0 then fX8_stepsHome_L134 ab_N t0 ((y4 - 1)) h else some ((-2), h)
def fX8_stepsHome_J80   (y3 : Int32) (y4 : Int32) (h : abJ) : Option (Int32 × abJ) := if y3 < 0 then some ((-2), h) else if y3 < 4374 then (fX3_isHome ((y3 - y3 / 6 * 6)) h).bind (fun r4 => if r4 = 0 then ab_ask (y3 < 0 ∨ 4374 ≤ (y3 : Int32).toNatClampNeg) (fX8_stepsHome_J118 y4 ((h.1 31 (y3 : Int32).toNatClampNeg)) h) else fX8_stepsHome_J118 y4 0 h) else some ((-2), h)
def fX8_stepsHome_L5   : Nat → Int32 → Int32 → Int32 → abJ → Option (Int32 × abJ)
  | 0, _, _, _, _ => none
  | n + 1, y1, y3, y4, h => if 4374 ≤ y4 then fX8_stepsHome_J80 y3 y4 h else if y3 < 0 then fX8_stepsHome_J80 y3 y4 h else if 4374 ≤ y3 then fX8_stepsHome_J80 y3 y4 h else ab_ask (y3 < 0 ∨ 4374 ≤ (y3 : Int32).toNatClampNeg) (if (h.1 31 (y3 : Int32).toNatClampNeg) = (-1) then (fX3_isHome ((y3 - y3 / 6 * 6)) h).bind (fun r18 => if r18 = 0 then ab_ask (y3 < 0 ∨ 4374 ≤ (y3 : Int32).toNatClampNeg) (ab_ask (y4 < 0 ∨ 4375 ≤ (y4 : Int32).toNatClampNeg) ((fX7_nextStand y1 y3 (ab_wI (ab_wI h 31 (y3 : Int32).toNatClampNeg (-2)) 30 (y4 : Int32).toNatClampNeg y3)).bind (fun r22 => fX8_stepsHome_L5 n y1 r22 ((y4 + 1)) (ab_wI (ab_wI h 31 (y3 : Int32).toNatClampNeg (-2)) 30 (y4 : Int32).toNatClampNeg y3)))) else fX8_stepsHome_J80 y3 y4 h) else fX8_stepsHome_J80 y3 y4 h)
def fX8_stepsHome (x0 : Int32) (x1 : Int32) (h : abJ) : Option (Int32 × abJ) := fX8_stepsHome_L5 ab_N x0 x1 0 h
set_option maxRecDepth 20000 in
theorem sX8_stepsHome_L134 (d : Nat) (X : abX)   : ∀ (n : Nat), ∀ (y5 : Int32) (y6 : Int32) (h : abJ) (z : (Int32 × abJ)), fX8_stepsHome_L134 n y5 y6 h = some z → ab_Ex X (d + 3) 107 134 [(0, .ref 35), (5, .int y5), (6, .int y6)] [] ab_SH (ab_dD h) (fun r => r = (some (.int z.1), ab_SH, ab_dD z.2)) := by
  intro n
  induction n with
  | zero => intro y5 y6 h z hf; cases hf
  | succ n ih =>
    intro y5 y6 h z hf
    rw [fX8_stepsHome_L134] at hf
    refine ab_Ex.blk (k := 1) (pc' := 136) (lv' := [(0, .ref 35), (5, .int y5), (6, .int y6)]) (st' := [.int y6]) (sh' := ab_SH) (D' := ab_dD h) (fun n => rfl) ?_
    refine ab_Ex.ifc (c := y6 < 0) (SA := (162, [(0, .ref 35), (5, .int y5), (6, .int y6)], [], ab_dD h)) (SB := (139, [(0, .ref 35), (5, .int y5), (6, .int y6)], [], ab_dD h)) (fun n => rfl) (fun c9 => ?_) (fun c9 => ?_)
    · replace hf := (if_pos c9).symm.trans hf
      refine ab_Ex.blk (k := 1) (pc' := 164) (lv' := [(0, .ref 35), (5, .int y5), (6, .int y6)]) (st' := [.int y5]) (sh' := ab_SH) (D' := ab_dD h) (fun n => rfl) ?_
      obtain rfl := Option.some.inj hf
      exact ab_Ex.ret (fun n => rfl) rfl
    · replace hf := (if_neg c9).symm.trans hf
      refine ab_Ex.blk (k := 6) (pc' := 152) (lv' := [(5, .int ((y5 + 1))), (0, .ref 35), (6, .int y6)]) (st' := [.int y6, .ref 30, .ref 31]) (sh' := ab_SH) (D' := ab_dD h) (fun n => rfl) ?_
      obtain ⟨c11, hf⟩ := ab_ask_s hf
      refine ab_Ex.grd (c := y6 < 0 ∨ 4375 ≤ (y6 : Int32).toNatClampNeg) (S := (153, [(5, .int ((y5 + 1))), (0, .ref 35), (6, .int y6)], [.int ((h.1 30 (y6 : Int32).toNatClampNeg)), .ref 31], ab_dD h)) (fun n => rfl) c11 ?_
      refine ab_Ex.blk (k := 1) (pc' := 155) (lv' := [(5, .int ((y5 + 1))), (0, .ref 35), (6, .int y6)]) (st' := [.int ((y5 + 1)), .int ((h.1 30 (y6 : Int32).toNatClampNeg)), .ref 31]) (sh' := ab_SH) (D' := ab_dD h) (fun n => rfl) ?_
      obtain ⟨c12, hf⟩ := ab_ask_s hf
      refine ab_Ex.grd (c := (h.1 30 (y6 : Int32).toNatClampNeg) < 0 ∨ 4374 ≤ ((h.1 30 (y6 : Int32).toNatClampNeg) : Int32).toNatClampNeg) (S := (156, [(5, .int ((y5 + 1))), (0, .ref 35), (6, .int y6)], [], ab_dD (ab_wI h 31 ((h.1 30 (y6 : Int32).toNatClampNeg) : Int32).toNatClampNeg (y5 + 1)))) (fun n => rfl) c12 ?_
      refine ab_Ex.blk (k := 2) (pc' := 134) (lv' := [(0, .ref 35), (5, .int ((y5 + 1))), (6, .int ((y6 + Int32.ofInt (-1))))]) (st' := []) (sh' := ab_SH) (D' := ab_dD (ab_wI h 31 ((h.1 30 (y6 : Int32).toNatClampNeg) : Int32).toNatClampNeg (y5 + 1))) (fun n => rfl) ?_
      exact ih ((y5 + 1)) ((y6 + Int32.ofInt (-1))) (ab_wI h 31 ((h.1 30 (y6 : Int32).toNatClampNeg) : Int32).toNatClampNeg (y5 + 1)) _ hf
set_option maxRecDepth 20000 in
theorem sX8_stepsHome_J118 (d : Nat) (X : abX)   : ∀ (y4 : Int32) (t0 : Int32) (h : abJ) (z : (Int32 × abJ)), fX8_stepsHome_J118 y4 t0 h = some z → ab_Ex X (d + 3) 107 118 [(0, .ref 35), (4, .int y4)] [.int t0] ab_SH (ab_dD h) (fun r => r = (some (.int z.1), ab_SH, ab_dD z.2)) := by
  intro y4 t0 h z hf
  unfold fX8_stepsHome_J118 at hf
  refine ab_Ex.blk (k := 2) (pc' := 122) (lv' := [(5, .int t0), (0, .ref 35), (4, .int y4)]) (st' := [.int t0]) (sh' := ab_SH) (D' := ab_dD h) (fun n => rfl) ?_
  refine ab_Ex.ifc (c := 0 ≤ t0) (SA := (128, [(5, .int t0), (0, .ref 35), (4, .int y4)], [], ab_dD h)) (SB := (125, [(5, .int t0), (0, .ref 35), (4, .int y4)], [], ab_dD h)) (fun n => rfl) (fun c8 => ?_) (fun c8 => ?_)
  · replace hf := (if_pos c8).symm.trans hf
    refine ab_Ex.blk (k := 4) (pc' := 134) (lv' := [(0, .ref 35), (5, .int t0), (6, .int ((y4 - 1)))]) (st' := []) (sh' := ab_SH) (D' := ab_dD h) (fun n => rfl) ?_
    exact sX8_stepsHome_L134 d X  ab_N t0 ((y4 - 1)) h _ hf
  · replace hf := (if_neg c8).symm.trans hf
    refine ab_Ex.blk (k := 1) (pc' := 127) (lv' := [(5, .int t0), (0, .ref 35), (4, .int y4)]) (st' := [.int ((-2))]) (sh' := ab_SH) (D' := ab_dD h) (fun n => rfl) ?_
    obtain rfl := Option.some.inj hf
    exact ab_Ex.ret (fun n => rfl) rfl
set_option maxRecDepth 20000 in
theorem sX8_stepsHome_J80 (d : Nat) (X : abX)   : ∀ (y3 : Int32) (y4 : Int32) (h : abJ) (z : (Int32 × abJ)), fX8_stepsHome_J80 y3 y4 h = some z → ab_Ex X (d + 3) 107 80 [(0, .ref 35), (3, .int y3), (4, .int y4)] [] ab_SH (ab_dD h) (fun r => r = (some (.int z.1), ab_SH, ab_dD z.2)) := by
  intro y3 y4 h z hf
  unfold fX8_stepsHome_J80 at hf
  refine ab_Ex.blk (k := 1) (pc' := 81) (lv' := [(0, .ref 35), (3, .int y3), (4, .int y4)]) (st' := [.int y3]) (sh' := ab_SH) (D' := ab_dD h) (fun n => rfl) ?_
  refine ab_Ex.ifc (c := y3 < 0) (SA := (91, [(0, .ref 35), (3, .int y3), (4, .int y4)], [], ab_dD h)) (SB := (84, [(0, .ref 35), (3, .int y3), (4, .int y4)], [], ab_dD h)) (fun n => rfl) (fun c2 => ?_) (fun c2 => ?_)
  · replace hf := (if_pos c2).symm.trans hf
    refine ab_Ex.blk (k := 1) (pc' := 93) (lv' := []) (st' := [.int ((-2))]) (sh' := ab_SH) (D' := ab_dD h) (fun n => rfl) ?_
    obtain rfl := Option.some.inj hf
    exact ab_Ex.ret (fun n => rfl) rfl
  · replace hf := (if_neg c2).symm.trans hf
    refine ab_Ex.blk (k := 2) (pc' := 88) (lv' := [(0, .ref 35), (3, .int y3), (4, .int y4)]) (st' := [.int 4374, .int y3]) (sh' := ab_SH) (D' := ab_dD h) (fun n => rfl) ?_
    refine ab_Ex.ifc (c := y3 < 4374) (SA := (94, [(0, .ref 35), (3, .int y3), (4, .int y4)], [], ab_dD h)) (SB := (91, [(0, .ref 35), (3, .int y3), (4, .int y4)], [], ab_dD h)) (fun n => rfl) (fun c3 => ?_) (fun c3 => ?_)
    · replace hf := (if_pos c3).symm.trans hf
      refine ab_Ex.blk (k := 4) (pc' := 101) (lv' := [(0, .ref 35), (3, .int y3), (4, .int y4)]) (st' := [.int 6, .int y3, .ref 1]) (sh' := ab_SH) (D' := ab_dD h) (fun n => rfl) ?_
      refine ab_Ex.blk (k := 1) (pc' := 102) (lv' := [(0, .ref 35), (3, .int y3), (4, .int y4)]) (st' := [.int ((y3 - y3 / 6 * 6)), .ref 1]) (sh' := ab_SH) (D' := ab_dD h) (fun n => rfl) ?_
      obtain ⟨r4, hr4, hf⟩ := ab_bind_s hf
      refine ab_Ex.call (d := d + 2) (M2 := 37) (as := [.ref 1, .int ((y3 - y3 / 6 * 6))]) (rest := []) (fun n => rfl) rfl (Nat.not_lt.mpr (Nat.le_of_ble_eq_true rfl)) (sX3_isHome (d + 1) X ((y3 - y3 / 6 * 6)) h _ hr4) (fun r hr => ?_)
      subst hr
      show ab_Ex X (d + 3) 107 105 [(0, .ref 35), (3, .int y3), (4, .int y4)] [.int r4] ab_SH (ab_dD h) _
      refine ab_Ex.ifc (c := r4 = 0) (SA := (112, [(0, .ref 35), (3, .int y3), (4, .int y4)], [], ab_dD h)) (SB := (108, [(0, .ref 35), (3, .int y3), (4, .int y4)], [], ab_dD h)) (fun n => rfl) (fun c5 => ?_) (fun c5 => ?_)
      · replace hf := (if_pos c5).symm.trans hf
        refine ab_Ex.blk (k := 3) (pc' := 117) (lv' := [(0, .ref 35), (3, .int y3), (4, .int y4)]) (st' := [.int y3, .ref 31]) (sh' := ab_SH) (D' := ab_dD h) (fun n => rfl) ?_
        obtain ⟨c7, hf⟩ := ab_ask_s hf
        refine ab_Ex.grd (c := y3 < 0 ∨ 4374 ≤ (y3 : Int32).toNatClampNeg) (S := (118, [(0, .ref 35), (3, .int y3), (4, .int y4)], [.int ((h.1 31 (y3 : Int32).toNatClampNeg))], ab_dD h)) (fun n => rfl) c7 ?_
        exact sX8_stepsHome_J118 d X  y4 ((h.1 31 (y3 : Int32).toNatClampNeg)) h _ hf
      · replace hf := (if_neg c5).symm.trans hf
        refine ab_Ex.blk (k := 2) (pc' := 118) (lv' := [(0, .ref 35), (4, .int y4)]) (st' := [.int 0]) (sh' := ab_SH) (D' := ab_dD h) (fun n => rfl) ?_
        exact sX8_stepsHome_J118 d X  y4 0 h _ hf
    · replace hf := (if_neg c3).symm.trans hf
      refine ab_Ex.blk (k := 1) (pc' := 93) (lv' := []) (st' := [.int ((-2))]) (sh' := ab_SH) (D' := ab_dD h) (fun n => rfl) ?_
      obtain rfl := Option.some.inj hf
      exact ab_Ex.ret (fun n => rfl) rfl
set_option maxRecDepth 20000 in
theorem sX8_stepsHome_L5 (d : Nat) (X : abX)   : ∀ (n : Nat), ∀ (y1 : Int32) (y3 : Int32) (y4 : Int32) (h : abJ) (z : (Int32 × abJ)), fX8_stepsHome_L5 n y1 y3 y4 h = some z → ab_Ex X (d + 3) 107 5 [(0, .ref 35), (1, .int y1), (3, .int y3), (4, .int y4)] [] ab_SH (ab_dD h) (fun r => r = (some (.int z.1), ab_SH, ab_dD z.2)) := by
  intro n
  induction n with
  | zero => intro y1 y3 y4 h z hf; cases hf
  | succ n ih =>
    intro y1 y3 y4 h z hf
    rw [fX8_stepsHome_L5] at hf
    refine ab_Ex.blk (k := 2) (pc' := 10) (lv' := [(0, .ref 35), (1, .int y1), (3, .int y3), (4, .int y4)]) (st' := [.int 4374, .int y4]) (sh' := ab_SH) (D' := ab_dD h) (fun n => rfl) ?_
    refine ab_Ex.ifc (c := 4374 ≤ y4) (SA := (80, [(0, .ref 35), (1, .int y1), (3, .int y3), (4, .int y4)], [], ab_dD h)) (SB := (13, [(0, .ref 35), (1, .int y1), (3, .int y3), (4, .int y4)], [], ab_dD h)) (fun n => rfl) (fun c1 => ?_) (fun c1 => ?_)
    · replace hf := (if_pos c1).symm.trans hf
      exact sX8_stepsHome_J80 d X  y3 y4 h _ hf
    · replace hf := (if_neg c1).symm.trans hf
      refine ab_Ex.blk (k := 1) (pc' := 14) (lv' := [(0, .ref 35), (1, .int y1), (3, .int y3), (4, .int y4)]) (st' := [.int y3]) (sh' := ab_SH) (D' := ab_dD h) (fun n => rfl) ?_
      refine ab_Ex.ifc (c := y3 < 0) (SA := (80, [(0, .ref 35), (1, .int y1), (3, .int y3), (4, .int y4)], [], ab_dD h)) (SB := (17, [(0, .ref 35), (1, .int y1), (3, .int y3), (4, .int y4)], [], ab_dD h)) (fun n => rfl) (fun c13 => ?_) (fun c13 => ?_)
      · replace hf := (if_pos c13).symm.trans hf
        exact sX8_stepsHome_J80 d X  y3 y4 h _ hf
      · replace hf := (if_neg c13).symm.trans hf
        refine ab_Ex.blk (k := 2) (pc' := 21) (lv' := [(0, .ref 35), (1, .int y1), (3, .int y3), (4, .int y4)]) (st' := [.int 4374, .int y3]) (sh' := ab_SH) (D' := ab_dD h) (fun n => rfl) ?_
        refine ab_Ex.ifc (c := 4374 ≤ y3) (SA := (80, [(0, .ref 35), (1, .int y1), (3, .int y3), (4, .int y4)], [], ab_dD h)) (SB := (24, [(0, .ref 35), (1, .int y1), (3, .int y3), (4, .int y4)], [], ab_dD h)) (fun n => rfl) (fun c14 => ?_) (fun c14 => ?_)
        · replace hf := (if_pos c14).symm.trans hf
          exact sX8_stepsHome_J80 d X  y3 y4 h _ hf
        · replace hf := (if_neg c14).symm.trans hf
          refine ab_Ex.blk (k := 3) (pc' := 29) (lv' := [(0, .ref 35), (1, .int y1), (3, .int y3), (4, .int y4)]) (st' := [.int y3, .ref 31]) (sh' := ab_SH) (D' := ab_dD h) (fun n => rfl) ?_
          obtain ⟨c16, hf⟩ := ab_ask_s hf
          refine ab_Ex.grd (c := y3 < 0 ∨ 4374 ≤ (y3 : Int32).toNatClampNeg) (S := (30, [(0, .ref 35), (1, .int y1), (3, .int y3), (4, .int y4)], [.int ((h.1 31 (y3 : Int32).toNatClampNeg))], ab_dD h)) (fun n => rfl) c16 ?_
          refine ab_Ex.blk (k := 1) (pc' := 31) (lv' := [(0, .ref 35), (1, .int y1), (3, .int y3), (4, .int y4)]) (st' := [.int ((-1)), .int ((h.1 31 (y3 : Int32).toNatClampNeg))]) (sh' := ab_SH) (D' := ab_dD h) (fun n => rfl) ?_
          refine ab_Ex.ifc (c := (h.1 31 (y3 : Int32).toNatClampNeg) = (-1)) (SA := (34, [(0, .ref 35), (1, .int y1), (3, .int y3), (4, .int y4)], [], ab_dD h)) (SB := (80, [(0, .ref 35), (1, .int y1), (3, .int y3), (4, .int y4)], [], ab_dD h)) (fun n => rfl) (fun c17 => ?_) (fun c17 => ?_)
          · replace hf := (if_pos c17).symm.trans hf
            refine ab_Ex.blk (k := 4) (pc' := 41) (lv' := [(0, .ref 35), (1, .int y1), (3, .int y3), (4, .int y4)]) (st' := [.int 6, .int y3, .ref 1]) (sh' := ab_SH) (D' := ab_dD h) (fun n => rfl) ?_
            refine ab_Ex.blk (k := 1) (pc' := 42) (lv' := [(0, .ref 35), (1, .int y1), (3, .int y3), (4, .int y4)]) (st' := [.int ((y3 - y3 / 6 * 6)), .ref 1]) (sh' := ab_SH) (D' := ab_dD h) (fun n => rfl) ?_
            obtain ⟨r18, hr18, hf⟩ := ab_bind_s hf
            refine ab_Ex.call (d := d + 2) (M2 := 37) (as := [.ref 1, .int ((y3 - y3 / 6 * 6))]) (rest := []) (fun n => rfl) rfl (Nat.not_lt.mpr (Nat.le_of_ble_eq_true rfl)) (sX3_isHome (d + 1) X ((y3 - y3 / 6 * 6)) h _ hr18) (fun r hr => ?_)
            subst hr
            show ab_Ex X (d + 3) 107 45 [(0, .ref 35), (1, .int y1), (3, .int y3), (4, .int y4)] [.int r18] ab_SH (ab_dD h) _
            refine ab_Ex.ifc (c := r18 = 0) (SA := (48, [(0, .ref 35), (1, .int y1), (3, .int y3), (4, .int y4)], [], ab_dD h)) (SB := (80, [(0, .ref 35), (1, .int y1), (3, .int y3), (4, .int y4)], [], ab_dD h)) (fun n => rfl) (fun c19 => ?_) (fun c19 => ?_)
            · replace hf := (if_pos c19).symm.trans hf
              refine ab_Ex.blk (k := 4) (pc' := 55) (lv' := [(0, .ref 35), (1, .int y1), (3, .int y3), (4, .int y4)]) (st' := [.int ((-2)), .int y3, .ref 31]) (sh' := ab_SH) (D' := ab_dD h) (fun n => rfl) ?_
              obtain ⟨c20, hf⟩ := ab_ask_s hf
              refine ab_Ex.grd (c := y3 < 0 ∨ 4374 ≤ (y3 : Int32).toNatClampNeg) (S := (56, [(0, .ref 35), (1, .int y1), (3, .int y3), (4, .int y4)], [], ab_dD (ab_wI h 31 (y3 : Int32).toNatClampNeg (-2)))) (fun n => rfl) c20 ?_
              refine ab_Ex.blk (k := 4) (pc' := 63) (lv' := [(0, .ref 35), (1, .int y1), (3, .int y3), (4, .int y4)]) (st' := [.int y3, .int y4, .ref 30]) (sh' := ab_SH) (D' := ab_dD (ab_wI h 31 (y3 : Int32).toNatClampNeg (-2))) (fun n => rfl) ?_
              obtain ⟨c21, hf⟩ := ab_ask_s hf
              refine ab_Ex.grd (c := y4 < 0 ∨ 4375 ≤ (y4 : Int32).toNatClampNeg) (S := (64, [(0, .ref 35), (1, .int y1), (3, .int y3), (4, .int y4)], [], ab_dD (ab_wI (ab_wI h 31 (y3 : Int32).toNatClampNeg (-2)) 30 (y4 : Int32).toNatClampNeg y3))) (fun n => rfl) c21 ?_
              refine ab_Ex.blk (k := 5) (pc' := 73) (lv' := [(4, .int ((y4 + 1))), (0, .ref 35), (1, .int y1), (3, .int y3)]) (st' := [.int y3, .int y1, .ref 13]) (sh' := ab_SH) (D' := ab_dD (ab_wI (ab_wI h 31 (y3 : Int32).toNatClampNeg (-2)) 30 (y4 : Int32).toNatClampNeg y3)) (fun n => rfl) ?_
              obtain ⟨r22, hr22, hf⟩ := ab_bind_s hf
              refine ab_Ex.call (d := d + 2) (M2 := 99) (as := [.ref 13, .int y1, .int y3]) (rest := []) (fun n => rfl) rfl (Nat.not_lt.mpr (Nat.le_of_ble_eq_true rfl)) (sX7_nextStand (d) X y1 y3 (ab_wI (ab_wI h 31 (y3 : Int32).toNatClampNeg (-2)) 30 (y4 : Int32).toNatClampNeg y3) _ hr22) (fun r hr => ?_)
              subst hr
              show ab_Ex X (d + 3) 107 76 [(4, .int ((y4 + 1))), (0, .ref 35), (1, .int y1), (3, .int y3)] [.int r22] ab_SH (ab_dD (ab_wI (ab_wI h 31 (y3 : Int32).toNatClampNeg (-2)) 30 (y4 : Int32).toNatClampNeg y3)) _
              refine ab_Ex.blk (k := 2) (pc' := 5) (lv' := [(0, .ref 35), (1, .int y1), (3, .int r22), (4, .int ((y4 + 1)))]) (st' := []) (sh' := ab_SH) (D' := ab_dD (ab_wI (ab_wI h 31 (y3 : Int32).toNatClampNeg (-2)) 30 (y4 : Int32).toNatClampNeg y3)) (fun n => rfl) ?_
              exact ih y1 r22 ((y4 + 1)) (ab_wI (ab_wI h 31 (y3 : Int32).toNatClampNeg (-2)) 30 (y4 : Int32).toNatClampNeg y3) _ hf
            · replace hf := (if_neg c19).symm.trans hf
              exact sX8_stepsHome_J80 d X  y3 y4 h _ hf
          · replace hf := (if_neg c17).symm.trans hf
            exact sX8_stepsHome_J80 d X  y3 y4 h _ hf
set_option maxRecDepth 20000 in
theorem sX8_stepsHome (d : Nat) (X : abX) (x0 : Int32) (x1 : Int32) (h : abJ) (z : (Int32 × abJ)) (hf : fX8_stepsHome x0 x1 h = some z) : ab_Ex X (d + 3) 107 0 [(0, .ref 35), (1, .int x0), (2, .int x1)] [] ab_SH (ab_dD h) (fun r => r = (some (.int z.1), ab_SH, ab_dD z.2)) := by
  unfold fX8_stepsHome at hf
  refine ab_Ex.blk (k := 4) (pc' := 5) (lv' := [(0, .ref 35), (1, .int x0), (3, .int x1), (4, .int 0)]) (st' := []) (sh' := ab_SH) (D' := ab_dD h) (fun n => rfl) ?_
  exact sX8_stepsHome_L5 d X  ab_N x0 x1 0 h _ hf
def fX8_home_J132  (k20 : Int32 → Int32 → abJ → Option abJ) (y2 : Int32) (y3 : Int32) (h : abJ) : Option abJ := k20 y2 ((y3 + 1)) h
def fX8_home_J119  (k20 : Int32 → Int32 → abJ → Option abJ) (y2 : Int32) (y3 : Int32) (t1 : Int32) (h : abJ) : Option abJ := fX8_home_J132 k20 y2 y3 (ab_wI (ab_wI h 35 8 t1) 35 5 ((((ab_wI h 35 8 t1)).1 35 5) + 1))
def fX8_home_J97  (k20 : Int32 → Int32 → abJ → Option abJ) (y2 : Int32) (y3 : Int32) (y4 : Int32) (h : abJ) : Option abJ := if (h.1 35 5) = 0 then fX8_home_J119 k20 y2 y3 y4 h else (fJ9_max_7cf53 ((h.1 35 8)) y4 h).bind (fun r9 => fX8_home_J119 k20 y2 y3 r9 h)
def fX8_home_J86  (k20 : Int32 → Int32 → abJ → Option abJ) (y2 : Int32) (y3 : Int32) (y4 : Int32) (h : abJ) : Option abJ := fX8_home_J97 k20 y2 y3 y4 (ab_wI (ab_wI h 35 6 y4) 35 7 y3)
def fX8_home_J58  (k20 : Int32 → Int32 → abJ → Option abJ) (y2 : Int32) (y3 : Int32) (t0 : Int32) (h : abJ) : Option abJ := if t0 = (-2) then fX8_home_J132 k20 y2 y3 h else if (h.1 35 5) = 0 then fX8_home_J86 k20 y2 y3 t0 h else if (h.1 35 6) ≤ t0 then fX8_home_J97 k20 y2 y3 t0 h else fX8_home_J86 k20 y2 y3 t0 h
def fX8_home_L20   : Nat → Int32 → Int32 → abJ → Option abJ
  | 0, _, _, _ => none
  | n + 1, y2, y3, h => if y2 ≤ y3 then some h else (fX3_canShow y3 h).bind (fun r4 => if r4 = 0 then fX8_home_J58 (fun y2 y3 h => fX8_home_L20 n y2 y3 h) y2 y3 ((-2)) h else (fX8_stepsHome ((h.1 12 2)) (((y3 * 6) + (h.1 12 0))) h).bind (fun r11 => fX8_home_J58 (fun y2 y3 h => fX8_home_L20 n y2 y3 h) y2 y3 r11.1 r11.2))
def fX8_home  (h : abJ) : Option abJ := (fX8_clearSeen ((-1)) h).bind (fun r1 => (fX3_armLimit (ab_wI r1 35 5 0)).bind (fun r2 => fX8_home_L20 ab_N r2 0 (ab_wI r1 35 5 0)))
set_option maxRecDepth 20000 in
theorem sX8_home_J132 (d : Nat) (X : abX) (k20 : Int32 → Int32 → abJ → Option abJ) (hk20 : ∀ (y2 : Int32) (y3 : Int32) (h : abJ) (z : abJ), k20 y2 y3 h = some z → ab_Ex X (d + 4) 106 20 [(0, .ref 35), (1, .ref 12), (2, .int y2), (3, .int y3)] [] ab_SH (ab_dD h) (fun r => r = (none, ab_SH, ab_dD z))) : ∀ (y2 : Int32) (y3 : Int32) (h : abJ) (z : abJ), fX8_home_J132 k20 y2 y3 h = some z → ab_Ex X (d + 4) 106 132 [(0, .ref 35), (1, .ref 12), (2, .int y2), (3, .int y3)] [] ab_SH (ab_dD h) (fun r => r = (none, ab_SH, ab_dD z)) := by
  intro y2 y3 h z hf
  unfold fX8_home_J132 at hf
  refine ab_Ex.blk (k := 2) (pc' := 20) (lv' := [(0, .ref 35), (1, .ref 12), (2, .int y2), (3, .int ((y3 + 1)))]) (st' := []) (sh' := ab_SH) (D' := ab_dD h) (fun n => rfl) ?_
  exact hk20 y2 ((y3 + 1)) h _ hf
set_option maxRecDepth 20000 in
theorem sX8_home_J119 (d : Nat) (X : abX) (k20 : Int32 → Int32 → abJ → Option abJ) (hk20 : ∀ (y2 : Int32) (y3 : Int32) (h : abJ) (z : abJ), k20 y2 y3 h = some z → ab_Ex X (d + 4) 106 20 [(0, .ref 35), (1, .ref 12), (2, .int y2), (3, .int y3)] [] ab_SH (ab_dD h) (fun r => r = (none, ab_SH, ab_dD z))) : ∀ (y2 : Int32) (y3 : Int32) (t1 : Int32) (h : abJ) (z : abJ), fX8_home_J119 k20 y2 y3 t1 h = some z → ab_Ex X (d + 4) 106 119 [(0, .ref 35), (1, .ref 12), (2, .int y2), (3, .int y3)] [.int t1, .ref 35] ab_SH (ab_dD h) (fun r => r = (none, ab_SH, ab_dD z)) := by
  intro y2 y3 t1 h z hf
  unfold fX8_home_J119 at hf
  refine ab_Ex.blk (k := 7) (pc' := 132) (lv' := [(0, .ref 35), (1, .ref 12), (2, .int y2), (3, .int y3)]) (st' := []) (sh' := ab_SH) (D' := ab_dD (ab_wI (ab_wI h 35 8 t1) 35 5 ((((ab_wI h 35 8 t1)).1 35 5) + 1))) (fun n => rfl) ?_
  exact sX8_home_J132 d X k20 hk20 y2 y3 (ab_wI (ab_wI h 35 8 t1) 35 5 ((((ab_wI h 35 8 t1)).1 35 5) + 1)) _ hf
set_option maxRecDepth 20000 in
theorem sX8_home_J97 (d : Nat) (X : abX) (k20 : Int32 → Int32 → abJ → Option abJ) (hk20 : ∀ (y2 : Int32) (y3 : Int32) (h : abJ) (z : abJ), k20 y2 y3 h = some z → ab_Ex X (d + 4) 106 20 [(0, .ref 35), (1, .ref 12), (2, .int y2), (3, .int y3)] [] ab_SH (ab_dD h) (fun r => r = (none, ab_SH, ab_dD z))) : ∀ (y2 : Int32) (y3 : Int32) (y4 : Int32) (h : abJ) (z : abJ), fX8_home_J97 k20 y2 y3 y4 h = some z → ab_Ex X (d + 4) 106 97 [(0, .ref 35), (1, .ref 12), (2, .int y2), (3, .int y3), (4, .int y4)] [] ab_SH (ab_dD h) (fun r => r = (none, ab_SH, ab_dD z)) := by
  intro y2 y3 y4 h z hf
  unfold fX8_home_J97 at hf
  refine ab_Ex.blk (k := 3) (pc' := 102) (lv' := [(0, .ref 35), (1, .ref 12), (2, .int y2), (3, .int y3), (4, .int y4)]) (st' := [.int ((h.1 35 5)), .ref 35]) (sh' := ab_SH) (D' := ab_dD h) (fun n => rfl) ?_
  refine ab_Ex.ifc (c := (h.1 35 5) = 0) (SA := (105, [(0, .ref 35), (1, .ref 12), (2, .int y2), (3, .int y3), (4, .int y4)], [.ref 35], ab_dD h)) (SB := (110, [(0, .ref 35), (1, .ref 12), (2, .int y2), (3, .int y3), (4, .int y4)], [.ref 35], ab_dD h)) (fun n => rfl) (fun c8 => ?_) (fun c8 => ?_)
  · replace hf := (if_pos c8).symm.trans hf
    refine ab_Ex.blk (k := 2) (pc' := 119) (lv' := [(0, .ref 35), (1, .ref 12), (2, .int y2), (3, .int y3)]) (st' := [.int y4, .ref 35]) (sh' := ab_SH) (D' := ab_dD h) (fun n => rfl) ?_
    exact sX8_home_J119 d X k20 hk20 y2 y3 y4 h _ hf
  · replace hf := (if_neg c8).symm.trans hf
    refine ab_Ex.blk (k := 3) (pc' := 116) (lv' := [(0, .ref 35), (1, .ref 12), (2, .int y2), (3, .int y3), (4, .int y4)]) (st' := [.int y4, .int ((h.1 35 8)), .ref 35]) (sh' := ab_SH) (D' := ab_dD h) (fun n => rfl) ?_
    obtain ⟨r9, hr9, hf⟩ := ab_bind_s hf
    refine ab_Ex.call (d := d + 3) (M2 := 302) (as := [.int ((h.1 35 8)), .int y4]) (rest := [.ref 35]) (fun n => rfl) rfl (Nat.not_lt.mpr (Nat.le_of_ble_eq_true rfl)) (sJ9_max_7cf53 (d + 3) X ((h.1 35 8)) y4 h _ hr9) (fun r hr => ?_)
    subst hr
    show ab_Ex X (d + 4) 106 119 [(0, .ref 35), (1, .ref 12), (2, .int y2), (3, .int y3)] [.int r9, .ref 35] ab_SH (ab_dD h) _
    exact sX8_home_J119 d X k20 hk20 y2 y3 r9 h _ hf
set_option maxRecDepth 20000 in
theorem sX8_home_J86 (d : Nat) (X : abX) (k20 : Int32 → Int32 → abJ → Option abJ) (hk20 : ∀ (y2 : Int32) (y3 : Int32) (h : abJ) (z : abJ), k20 y2 y3 h = some z → ab_Ex X (d + 4) 106 20 [(0, .ref 35), (1, .ref 12), (2, .int y2), (3, .int y3)] [] ab_SH (ab_dD h) (fun r => r = (none, ab_SH, ab_dD z))) : ∀ (y2 : Int32) (y3 : Int32) (y4 : Int32) (h : abJ) (z : abJ), fX8_home_J86 k20 y2 y3 y4 h = some z → ab_Ex X (d + 4) 106 86 [(0, .ref 35), (1, .ref 12), (2, .int y2), (3, .int y3), (4, .int y4)] [] ab_SH (ab_dD h) (fun r => r = (none, ab_SH, ab_dD z)) := by
  intro y2 y3 y4 h z hf
  unfold fX8_home_J86 at hf
  refine ab_Ex.blk (k := 6) (pc' := 97) (lv' := [(0, .ref 35), (1, .ref 12), (2, .int y2), (3, .int y3), (4, .int y4)]) (st' := []) (sh' := ab_SH) (D' := ab_dD (ab_wI (ab_wI h 35 6 y4) 35 7 y3)) (fun n => rfl) ?_
  exact sX8_home_J97 d X k20 hk20 y2 y3 y4 (ab_wI (ab_wI h 35 6 y4) 35 7 y3) _ hf
set_option maxRecDepth 20000 in
theorem sX8_home_J58 (d : Nat) (X : abX) (k20 : Int32 → Int32 → abJ → Option abJ) (hk20 : ∀ (y2 : Int32) (y3 : Int32) (h : abJ) (z : abJ), k20 y2 y3 h = some z → ab_Ex X (d + 4) 106 20 [(0, .ref 35), (1, .ref 12), (2, .int y2), (3, .int y3)] [] ab_SH (ab_dD h) (fun r => r = (none, ab_SH, ab_dD z))) : ∀ (y2 : Int32) (y3 : Int32) (t0 : Int32) (h : abJ) (z : abJ), fX8_home_J58 k20 y2 y3 t0 h = some z → ab_Ex X (d + 4) 106 58 [(0, .ref 35), (1, .ref 12), (2, .int y2), (3, .int y3)] [.int t0] ab_SH (ab_dD h) (fun r => r = (none, ab_SH, ab_dD z)) := by
  intro y2 y3 t0 h z hf
  unfold fX8_home_J58 at hf
  refine ab_Ex.blk (k := 3) (pc' := 64) (lv' := [(4, .int t0), (0, .ref 35), (1, .ref 12), (2, .int y2), (3, .int y3)]) (st' := [.int ((-2)), .int t0]) (sh' := ab_SH) (D' := ab_dD h) (fun n => rfl) ?_
  refine ab_Ex.ifc (c := t0 = (-2)) (SA := (67, [(4, .int t0), (0, .ref 35), (1, .ref 12), (2, .int y2), (3, .int y3)], [], ab_dD h)) (SB := (70, [(4, .int t0), (0, .ref 35), (1, .ref 12), (2, .int y2), (3, .int y3)], [], ab_dD h)) (fun n => rfl) (fun c6 => ?_) (fun c6 => ?_)
  · replace hf := (if_pos c6).symm.trans hf
    refine ab_Ex.blk (k := 1) (pc' := 132) (lv' := [(0, .ref 35), (1, .ref 12), (2, .int y2), (3, .int y3)]) (st' := []) (sh' := ab_SH) (D' := ab_dD h) (fun n => rfl) ?_
    exact sX8_home_J132 d X k20 hk20 y2 y3 h _ hf
  · replace hf := (if_neg c6).symm.trans hf
    refine ab_Ex.blk (k := 2) (pc' := 74) (lv' := [(4, .int t0), (0, .ref 35), (1, .ref 12), (2, .int y2), (3, .int y3)]) (st' := [.int ((h.1 35 5))]) (sh' := ab_SH) (D' := ab_dD h) (fun n => rfl) ?_
    refine ab_Ex.ifc (c := (h.1 35 5) = 0) (SA := (86, [(4, .int t0), (0, .ref 35), (1, .ref 12), (2, .int y2), (3, .int y3)], [], ab_dD h)) (SB := (77, [(4, .int t0), (0, .ref 35), (1, .ref 12), (2, .int y2), (3, .int y3)], [], ab_dD h)) (fun n => rfl) (fun c7 => ?_) (fun c7 => ?_)
    · replace hf := (if_pos c7).symm.trans hf
      exact sX8_home_J86 d X k20 hk20 y2 y3 t0 h _ hf
    · replace hf := (if_neg c7).symm.trans hf
      refine ab_Ex.blk (k := 3) (pc' := 83) (lv' := [(4, .int t0), (0, .ref 35), (1, .ref 12), (2, .int y2), (3, .int y3)]) (st' := [.int ((h.1 35 6)), .int t0]) (sh' := ab_SH) (D' := ab_dD h) (fun n => rfl) ?_
      refine ab_Ex.ifc (c := (h.1 35 6) ≤ t0) (SA := (97, [(4, .int t0), (0, .ref 35), (1, .ref 12), (2, .int y2), (3, .int y3)], [], ab_dD h)) (SB := (86, [(4, .int t0), (0, .ref 35), (1, .ref 12), (2, .int y2), (3, .int y3)], [], ab_dD h)) (fun n => rfl) (fun c10 => ?_) (fun c10 => ?_)
      · replace hf := (if_pos c10).symm.trans hf
        exact sX8_home_J97 d X k20 hk20 y2 y3 t0 h _ hf
      · replace hf := (if_neg c10).symm.trans hf
        exact sX8_home_J86 d X k20 hk20 y2 y3 t0 h _ hf
set_option maxRecDepth 20000 in
theorem sX8_home_L20 (d : Nat) (X : abX)   : ∀ (n : Nat), ∀ (y2 : Int32) (y3 : Int32) (h : abJ) (z : abJ), fX8_home_L20 n y2 y3 h = some z → ab_Ex X (d + 4) 106 20 [(0, .ref 35), (1, .ref 12), (2, .int y2), (3, .int y3)] [] ab_SH (ab_dD h) (fun r => r = (none, ab_SH, ab_dD z)) := by
  intro n
  induction n with
  | zero => intro y2 y3 h z hf; cases hf
  | succ n ih =>
    intro y2 y3 h z hf
    rw [fX8_home_L20] at hf
    refine ab_Ex.blk (k := 2) (pc' := 22) (lv' := [(0, .ref 35), (1, .ref 12), (2, .int y2), (3, .int y3)]) (st' := [.int y2, .int y3]) (sh' := ab_SH) (D' := ab_dD h) (fun n => rfl) ?_
    refine ab_Ex.ifc (c := y2 ≤ y3) (SA := (138, [(0, .ref 35), (1, .ref 12), (2, .int y2), (3, .int y3)], [], ab_dD h)) (SB := (25, [(0, .ref 35), (1, .ref 12), (2, .int y2), (3, .int y3)], [], ab_dD h)) (fun n => rfl) (fun c3 => ?_) (fun c3 => ?_)
    · replace hf := (if_pos c3).symm.trans hf
      obtain rfl := Option.some.inj hf
      exact ab_Ex.ret (fun n => rfl) rfl
    · replace hf := (if_neg c3).symm.trans hf
      refine ab_Ex.blk (k := 3) (pc' := 30) (lv' := [(0, .ref 35), (1, .ref 12), (2, .int y2), (3, .int y3)]) (st' := [.int y3, .ref 1]) (sh' := ab_SH) (D' := ab_dD h) (fun n => rfl) ?_
      obtain ⟨r4, hr4, hf⟩ := ab_bind_s hf
      refine ab_Ex.call (d := d + 3) (M2 := 42) (as := [.ref 1, .int y3]) (rest := []) (fun n => rfl) rfl (Nat.not_lt.mpr (Nat.le_of_ble_eq_true rfl)) (sX3_canShow (d + 2) X y3 h _ hr4) (fun r hr => ?_)
      subst hr
      show ab_Ex X (d + 4) 106 33 [(0, .ref 35), (1, .ref 12), (2, .int y2), (3, .int y3)] [.int r4] ab_SH (ab_dD h) _
      refine ab_Ex.ifc (c := r4 = 0) (SA := (56, [(0, .ref 35), (1, .ref 12), (2, .int y2), (3, .int y3)], [], ab_dD h)) (SB := (36, [(0, .ref 35), (1, .ref 12), (2, .int y2), (3, .int y3)], [], ab_dD h)) (fun n => rfl) (fun c5 => ?_) (fun c5 => ?_)
      · replace hf := (if_pos c5).symm.trans hf
        refine ab_Ex.blk (k := 1) (pc' := 58) (lv' := [(0, .ref 35), (1, .ref 12), (2, .int y2), (3, .int y3)]) (st' := [.int ((-2))]) (sh' := ab_SH) (D' := ab_dD h) (fun n => rfl) ?_
        exact sX8_home_J58 d X (fun y2 y3 h => fX8_home_L20 n y2 y3 h) (fun y2 y3 h z hz => ih y2 y3 h z hz) y2 y3 ((-2)) h _ hf
      · replace hf := (if_neg c5).symm.trans hf
        refine ab_Ex.blk (k := 9) (pc' := 50) (lv' := [(0, .ref 35), (1, .ref 12), (2, .int y2), (3, .int y3)]) (st' := [.int (((y3 * 6) + (h.1 12 0))), .int ((h.1 12 2)), .ref 35]) (sh' := ab_SH) (D' := ab_dD h) (fun n => rfl) ?_
        obtain ⟨r11, hr11, hf⟩ := ab_bind_s hf
        refine ab_Ex.call (d := d + 3) (M2 := 107) (as := [.ref 35, .int ((h.1 12 2)), .int (((y3 * 6) + (h.1 12 0)))]) (rest := []) (fun n => rfl) rfl (Nat.not_lt.mpr (Nat.le_of_ble_eq_true rfl)) (sX8_stepsHome (d) X ((h.1 12 2)) (((y3 * 6) + (h.1 12 0))) h _ hr11) (fun r hr => ?_)
        subst hr
        show ab_Ex X (d + 4) 106 53 [(0, .ref 35), (1, .ref 12), (2, .int y2), (3, .int y3)] [.int r11.1] ab_SH (ab_dD r11.2) _
        refine ab_Ex.blk (k := 1) (pc' := 58) (lv' := [(0, .ref 35), (1, .ref 12), (2, .int y2), (3, .int y3)]) (st' := [.int r11.1]) (sh' := ab_SH) (D' := ab_dD r11.2) (fun n => rfl) ?_
        exact sX8_home_J58 d X (fun y2 y3 h => fX8_home_L20 n y2 y3 h) (fun y2 y3 h z hz => ih y2 y3 h z hz) y2 y3 r11.1 r11.2 _ hf
set_option maxRecDepth 20000 in
theorem sX8_home (d : Nat) (X : abX)  (h : abJ) (z : abJ) (hf : fX8_home  h = some z) : ab_Ex X (d + 4) 106 0 [(0, .ref 35), (1, .ref 12)] [] ab_SH (ab_dD h) (fun r => r = (none, ab_SH, ab_dD z)) := by
  unfold fX8_home at hf
  refine ab_Ex.blk (k := 2) (pc' := 2) (lv' := [(0, .ref 35), (1, .ref 12)]) (st' := [.int ((-1)), .ref 35]) (sh' := ab_SH) (D' := ab_dD h) (fun n => rfl) ?_
  obtain ⟨r1, hr1, hf⟩ := ab_bind_s hf
  refine ab_Ex.call (d := d + 3) (M2 := 105) (as := [.ref 35, .int ((-1))]) (rest := []) (fun n => rfl) rfl (Nat.not_lt.mpr (Nat.le_of_ble_eq_true rfl)) (sX8_clearSeen (d + 1) X ((-1)) h _ hr1) (fun r hr => ?_)
  subst hr
  show ab_Ex X (d + 4) 106 5 [(0, .ref 35), (1, .ref 12)] [] ab_SH (ab_dD r1) _
  refine ab_Ex.blk (k := 5) (pc' := 14) (lv' := [(0, .ref 35), (1, .ref 12)]) (st' := [.ref 1]) (sh' := ab_SH) (D' := ab_dD (ab_wI r1 35 5 0)) (fun n => rfl) ?_
  obtain ⟨r2, hr2, hf⟩ := ab_bind_s hf
  refine ab_Ex.call (d := d + 3) (M2 := 41) (as := [.ref 1]) (rest := []) (fun n => rfl) rfl (Nat.not_lt.mpr (Nat.le_of_ble_eq_true rfl)) (sX3_armLimit (d + 3) X  (ab_wI r1 35 5 0) _ hr2) (fun r hr => ?_)
  subst hr
  show ab_Ex X (d + 4) 106 17 [(0, .ref 35), (1, .ref 12)] [.int r2] ab_SH (ab_dD (ab_wI r1 35 5 0)) _
  refine ab_Ex.blk (k := 3) (pc' := 20) (lv' := [(0, .ref 35), (1, .ref 12), (2, .int r2), (3, .int 0)]) (st' := []) (sh' := ab_SH) (D' := ab_dD (ab_wI r1 35 5 0)) (fun n => rfl) ?_
  exact sX8_home_L20 d X  ab_N r2 0 (ab_wI r1 35 5 0) _ hf
def fX8_takeNearest_J53   (t0 : Int32) (h : abJ) : Option (Int32 × abJ) := if t0 = 0 then ab_ask (((((ab_wI h 35 11 ((h.1 35 11) + 1))).1 35 11) - 1) < 0 ∨ 4375 ≤ (((((ab_wI h 35 11 ((h.1 35 11) + 1))).1 35 11) - 1) : Int32).toNatClampNeg) (some (((ab_wI h 35 11 ((h.1 35 11) + 1)).1 30 (((((ab_wI h 35 11 ((h.1 35 11) + 1))).1 35 11) - 1) : Int32).toNatClampNeg), (ab_wI h 35 11 ((h.1 35 11) + 1)))) else ab_ask (((((ab_wI h 35 13 ((h.1 35 13) + 1))).1 35 13) - 1) < 0 ∨ 4375 ≤ (((((ab_wI h 35 13 ((h.1 35 13) + 1))).1 35 13) - 1) : Int32).toNatClampNeg) (some (((ab_wI h 35 13 ((h.1 35 13) + 1)).1 36 (((((ab_wI h 35 13 ((h.1 35 13) + 1))).1 35 13) - 1) : Int32).toNatClampNeg), (ab_wI h 35 13 ((h.1 35 13) + 1))))
def fX8_takeNearest_J48   (h : abJ) : Option (Int32 × abJ) := fX8_takeNearest_J53 1 h
def fX8_takeNearest_J52   (h : abJ) : Option (Int32 × abJ) := fX8_takeNearest_J53 0 h
def fX8_takeNearest (x0 : Int32) (h : abJ) : Option (Int32 × abJ) := if (h.1 35 12) ≤ (h.1 35 11) then fX8_takeNearest_J48 h else if x0 ≤ (h.1 35 13) then fX8_takeNearest_J52 h else ab_ask ((h.1 35 13) < 0 ∨ 4375 ≤ ((h.1 35 13) : Int32).toNatClampNeg) (ab_ask ((h.1 35 11) < 0 ∨ 4375 ≤ ((h.1 35 11) : Int32).toNatClampNeg) (if ((h.1 30 ((h.1 35 11) : Int32).toNatClampNeg) / 8192) ≤ ((h.1 36 ((h.1 35 13) : Int32).toNatClampNeg) / 8192) then fX8_takeNearest_J52 h else fX8_takeNearest_J48 h))
set_option maxRecDepth 20000 in
theorem sX8_takeNearest_J53 (d : Nat) (X : abX)   : ∀ (t0 : Int32) (h : abJ) (z : (Int32 × abJ)), fX8_takeNearest_J53 t0 h = some z → ab_Ex X (d + 0) 110 53 [(0, .ref 35)] [.int t0] ab_SH (ab_dD h) (fun r => r = (some (.int z.1), ab_SH, ab_dD z.2)) := by
  intro t0 h z hf
  unfold fX8_takeNearest_J53 at hf
  refine ab_Ex.blk (k := 2) (pc' := 55) (lv' := [(2, .int t0), (0, .ref 35)]) (st' := [.int t0]) (sh' := ab_SH) (D' := ab_dD h) (fun n => rfl) ?_
  refine ab_Ex.ifc (c := t0 = 0) (SA := (80, [(2, .int t0), (0, .ref 35)], [], ab_dD h)) (SB := (58, [(2, .int t0), (0, .ref 35)], [], ab_dD h)) (fun n => rfl) (fun c2 => ?_) (fun c2 => ?_)
  · replace hf := (if_pos c2).symm.trans hf
    refine ab_Ex.blk (k := 12) (pc' := 100) (lv' := [(2, .int t0), (0, .ref 35)]) (st' := [.int (((((ab_wI h 35 11 ((h.1 35 11) + 1))).1 35 11) - 1)), .ref 30]) (sh' := ab_SH) (D' := ab_dD (ab_wI h 35 11 ((h.1 35 11) + 1))) (fun n => rfl) ?_
    obtain ⟨c4, hf⟩ := ab_ask_s hf
    refine ab_Ex.grd (c := ((((ab_wI h 35 11 ((h.1 35 11) + 1))).1 35 11) - 1) < 0 ∨ 4375 ≤ (((((ab_wI h 35 11 ((h.1 35 11) + 1))).1 35 11) - 1) : Int32).toNatClampNeg) (S := (101, [(2, .int t0), (0, .ref 35)], [.int (((ab_wI h 35 11 ((h.1 35 11) + 1)).1 30 (((((ab_wI h 35 11 ((h.1 35 11) + 1))).1 35 11) - 1) : Int32).toNatClampNeg))], ab_dD (ab_wI h 35 11 ((h.1 35 11) + 1)))) (fun n => rfl) c4 ?_
    obtain rfl := Option.some.inj hf
    exact ab_Ex.ret (fun n => rfl) rfl
  · replace hf := (if_neg c2).symm.trans hf
    refine ab_Ex.blk (k := 12) (pc' := 78) (lv' := [(2, .int t0), (0, .ref 35)]) (st' := [.int (((((ab_wI h 35 13 ((h.1 35 13) + 1))).1 35 13) - 1)), .ref 36]) (sh' := ab_SH) (D' := ab_dD (ab_wI h 35 13 ((h.1 35 13) + 1))) (fun n => rfl) ?_
    obtain ⟨c6, hf⟩ := ab_ask_s hf
    refine ab_Ex.grd (c := ((((ab_wI h 35 13 ((h.1 35 13) + 1))).1 35 13) - 1) < 0 ∨ 4375 ≤ (((((ab_wI h 35 13 ((h.1 35 13) + 1))).1 35 13) - 1) : Int32).toNatClampNeg) (S := (79, [(2, .int t0), (0, .ref 35)], [.int (((ab_wI h 35 13 ((h.1 35 13) + 1)).1 36 (((((ab_wI h 35 13 ((h.1 35 13) + 1))).1 35 13) - 1) : Int32).toNatClampNeg))], ab_dD (ab_wI h 35 13 ((h.1 35 13) + 1)))) (fun n => rfl) c6 ?_
    obtain rfl := Option.some.inj hf
    exact ab_Ex.ret (fun n => rfl) rfl
set_option maxRecDepth 20000 in
theorem sX8_takeNearest_J48 (d : Nat) (X : abX)   : ∀ (h : abJ) (z : (Int32 × abJ)), fX8_takeNearest_J48 h = some z → ab_Ex X (d + 0) 110 48 [(0, .ref 35)] [] ab_SH (ab_dD h) (fun r => r = (some (.int z.1), ab_SH, ab_dD z.2)) := by
  intro h z hf
  unfold fX8_takeNearest_J48 at hf
  refine ab_Ex.blk (k := 2) (pc' := 53) (lv' := [(0, .ref 35)]) (st' := [.int 1]) (sh' := ab_SH) (D' := ab_dD h) (fun n => rfl) ?_
  exact sX8_takeNearest_J53 d X  1 h _ hf
set_option maxRecDepth 20000 in
theorem sX8_takeNearest_J52 (d : Nat) (X : abX)   : ∀ (h : abJ) (z : (Int32 × abJ)), fX8_takeNearest_J52 h = some z → ab_Ex X (d + 0) 110 52 [(0, .ref 35)] [] ab_SH (ab_dD h) (fun r => r = (some (.int z.1), ab_SH, ab_dD z.2)) := by
  intro h z hf
  unfold fX8_takeNearest_J52 at hf
  refine ab_Ex.blk (k := 1) (pc' := 53) (lv' := [(0, .ref 35)]) (st' := [.int 0]) (sh' := ab_SH) (D' := ab_dD h) (fun n => rfl) ?_
  exact sX8_takeNearest_J53 d X  0 h _ hf
set_option maxRecDepth 20000 in
theorem sX8_takeNearest (d : Nat) (X : abX) (x0 : Int32) (h : abJ) (z : (Int32 × abJ)) (hf : fX8_takeNearest x0 h = some z) : ab_Ex X (d + 0) 110 0 [(0, .ref 35), (1, .int x0)] [] ab_SH (ab_dD h) (fun r => r = (some (.int z.1), ab_SH, ab_dD z.2)) := by
  unfold fX8_takeNearest at hf
  refine ab_Ex.blk (k := 4) (pc' := 8) (lv' := [(0, .ref 35), (1, .int x0)]) (st' := [.int ((h.1 35 12)), .int ((h.1 35 11))]) (sh' := ab_SH) (D' := ab_dD h) (fun n => rfl) ?_
  refine ab_Ex.ifc (c := (h.1 35 12) ≤ (h.1 35 11)) (SA := (48, [(0, .ref 35), (1, .int x0)], [], ab_dD h)) (SB := (11, [(0, .ref 35), (1, .int x0)], [], ab_dD h)) (fun n => rfl) (fun c1 => ?_) (fun c1 => ?_)
  · replace hf := (if_pos c1).symm.trans hf
    exact sX8_takeNearest_J48 d X  h _ hf
  · replace hf := (if_neg c1).symm.trans hf
    refine ab_Ex.blk (k := 3) (pc' := 16) (lv' := [(0, .ref 35), (1, .int x0)]) (st' := [.int x0, .int ((h.1 35 13))]) (sh' := ab_SH) (D' := ab_dD h) (fun n => rfl) ?_
    refine ab_Ex.ifc (c := x0 ≤ (h.1 35 13)) (SA := (52, [(0, .ref 35), (1, .int x0)], [], ab_dD h)) (SB := (19, [(0, .ref 35), (1, .int x0)], [], ab_dD h)) (fun n => rfl) (fun c7 => ?_) (fun c7 => ?_)
    · replace hf := (if_pos c7).symm.trans hf
      exact sX8_takeNearest_J52 d X  h _ hf
    · replace hf := (if_neg c7).symm.trans hf
      refine ab_Ex.blk (k := 4) (pc' := 27) (lv' := [(0, .ref 35), (1, .int x0)]) (st' := [.int ((h.1 35 13)), .ref 36]) (sh' := ab_SH) (D' := ab_dD h) (fun n => rfl) ?_
      obtain ⟨c9, hf⟩ := ab_ask_s hf
      refine ab_Ex.grd (c := (h.1 35 13) < 0 ∨ 4375 ≤ ((h.1 35 13) : Int32).toNatClampNeg) (S := (28, [(0, .ref 35), (1, .int x0)], [.int ((h.1 36 ((h.1 35 13) : Int32).toNatClampNeg))], ab_dD h)) (fun n => rfl) c9 ?_
      refine ab_Ex.blk (k := 1) (pc' := 31) (lv' := [(0, .ref 35), (1, .int x0)]) (st' := [.int 8192, .int ((h.1 36 ((h.1 35 13) : Int32).toNatClampNeg))]) (sh' := ab_SH) (D' := ab_dD h) (fun n => rfl) ?_
      refine ab_Ex.blk (k := 1) (pc' := 32) (lv' := [(0, .ref 35), (1, .int x0)]) (st' := [.int (((h.1 36 ((h.1 35 13) : Int32).toNatClampNeg) / 8192))]) (sh' := ab_SH) (D' := ab_dD h) (fun n => rfl) ?_
      refine ab_Ex.blk (k := 4) (pc' := 40) (lv' := [(0, .ref 35), (1, .int x0)]) (st' := [.int ((h.1 35 11)), .ref 30, .int (((h.1 36 ((h.1 35 13) : Int32).toNatClampNeg) / 8192))]) (sh' := ab_SH) (D' := ab_dD h) (fun n => rfl) ?_
      obtain ⟨c11, hf⟩ := ab_ask_s hf
      refine ab_Ex.grd (c := (h.1 35 11) < 0 ∨ 4375 ≤ ((h.1 35 11) : Int32).toNatClampNeg) (S := (41, [(0, .ref 35), (1, .int x0)], [.int ((h.1 30 ((h.1 35 11) : Int32).toNatClampNeg)), .int (((h.1 36 ((h.1 35 13) : Int32).toNatClampNeg) / 8192))], ab_dD h)) (fun n => rfl) c11 ?_
      refine ab_Ex.blk (k := 1) (pc' := 44) (lv' := [(0, .ref 35), (1, .int x0)]) (st' := [.int 8192, .int ((h.1 30 ((h.1 35 11) : Int32).toNatClampNeg)), .int (((h.1 36 ((h.1 35 13) : Int32).toNatClampNeg) / 8192))]) (sh' := ab_SH) (D' := ab_dD h) (fun n => rfl) ?_
      refine ab_Ex.blk (k := 1) (pc' := 45) (lv' := [(0, .ref 35), (1, .int x0)]) (st' := [.int (((h.1 30 ((h.1 35 11) : Int32).toNatClampNeg) / 8192)), .int (((h.1 36 ((h.1 35 13) : Int32).toNatClampNeg) / 8192))]) (sh' := ab_SH) (D' := ab_dD h) (fun n => rfl) ?_
      refine ab_Ex.ifc (c := ((h.1 30 ((h.1 35 11) : Int32).toNatClampNeg) / 8192) ≤ ((h.1 36 ((h.1 35 13) : Int32).toNatClampNeg) / 8192)) (SA := (52, [(0, .ref 35), (1, .int x0)], [], ab_dD h)) (SB := (48, [(0, .ref 35), (1, .int x0)], [], ab_dD h)) (fun n => rfl) (fun c12 => ?_) (fun c12 => ?_)
      · replace hf := (if_pos c12).symm.trans hf
        exact sX8_takeNearest_J52 d X  h _ hf
      · replace hf := (if_neg c12).symm.trans hf
        exact sX8_takeNearest_J48 d X  h _ hf
def fX8_goOnFrom_J224  (k37 : Int32 → Int32 → Int32 → Int32 → Int32 → Int32 → abJ → Option abJ) (y1 : Int32) (y3 : Int32) (y4 : Int32) (y5 : Int32) (y6 : Int32) (y7 : Int32) (h : abJ) : Option abJ := k37 y1 y3 y4 y5 y6 ((y7 + 1)) h
def fX8_goOnFrom_L37   : Nat → Int32 → Int32 → Int32 → Int32 → Int32 → Int32 → abJ → Option abJ
  | 0, _, _, _, _, _, _, _ => none
  | n + 1, y1, y3, y4, y5, y6, y7, h => if y6 ≤ y7 then some h else (fX11_withArm y5 y4 y7 h).bind (fun r3 => (fX7_nextStand y1 (((r3 * 6) + y4)) h).bind (fun r4 => if r4 < 0 then fX8_goOnFrom_J224 (fun y1 y3 y4 y5 y6 y7 h => fX8_goOnFrom_L37 n y1 y3 y4 y5 y6 y7 h) y1 y3 y4 y5 y6 y7 h else if 4374 ≤ r4 then fX8_goOnFrom_J224 (fun y1 y3 y4 y5 y6 y7 h => fX8_goOnFrom_L37 n y1 y3 y4 y5 y6 y7 h) y1 y3 y4 y5 y6 y7 h else ab_ask (r4 < 0 ∨ 4374 ≤ (r4 : Int32).toNatClampNeg) (if ((h.1 31 (r4 : Int32).toNatClampNeg) &&& 1) = 0 then (fX11_armOf y5 y4 h).bind (fun r10 => if y7 = r10 then ab_ask (r4 < 0 ∨ 4374 ≤ (r4 : Int32).toNatClampNeg) (if ((h.1 31 (r4 : Int32).toNatClampNeg) &&& 4) = 0 then if 4374 ≤ (h.1 35 12) then fX8_goOnFrom_J224 (fun y1 y3 y4 y5 y6 y7 h => fX8_goOnFrom_L37 n y1 y3 y4 y5 y6 y7 h) y1 y3 y4 y5 y6 y7 h else ab_ask (r4 < 0 ∨ 4374 ≤ (r4 : Int32).toNatClampNeg) (ab_ask (r4 < 0 ∨ 4374 ≤ (r4 : Int32).toNatClampNeg) (ab_ask ((((ab_wI h 31 (r4 : Int32).toNatClampNeg ((h.1 31 (r4 : Int32).toNatClampNeg) ||| 4))).1 35 12) < 0 ∨ 4375 ≤ ((((ab_wI h 31 (r4 : Int32).toNatClampNeg ((h.1 31 (r4 : Int32).toNatClampNeg) ||| 4))).1 35 12) : Int32).toNatClampNeg) (fX8_goOnFrom_J224 (fun y1 y3 y4 y5 y6 y7 h => fX8_goOnFrom_L37 n y1 y3 y4 y5 y6 y7 h) y1 y3 y4 y5 y6 y7 (ab_wI (ab_wI (ab_wI h 31 (r4 : Int32).toNatClampNeg ((h.1 31 (r4 : Int32).toNatClampNeg) ||| 4)) 30 ((((ab_wI h 31 (r4 : Int32).toNatClampNeg ((h.1 31 (r4 : Int32).toNatClampNeg) ||| 4))).1 35 12) : Int32).toNatClampNeg (y3 + r4)) 35 12 ((((ab_wI (ab_wI h 31 (r4 : Int32).toNatClampNeg ((h.1 31 (r4 : Int32).toNatClampNeg) ||| 4)) 30 ((((ab_wI h 31 (r4 : Int32).toNatClampNeg ((h.1 31 (r4 : Int32).toNatClampNeg) ||| 4))).1 35 12) : Int32).toNatClampNeg (y3 + r4))).1 35 12) + 1))))) else fX8_goOnFrom_J224 (fun y1 y3 y4 y5 y6 y7 h => fX8_goOnFrom_L37 n y1 y3 y4 y5 y6 y7 h) y1 y3 y4 y5 y6 y7 h) else ab_ask (r4 < 0 ∨ 4374 ≤ (r4 : Int32).toNatClampNeg) (if ((h.1 31 (r4 : Int32).toNatClampNeg) &&& 2) = 0 then if 4374 < (h.1 35 14) then fX8_goOnFrom_J224 (fun y1 y3 y4 y5 y6 y7 h => fX8_goOnFrom_L37 n y1 y3 y4 y5 y6 y7 h) y1 y3 y4 y5 y6 y7 h else ab_ask (r4 < 0 ∨ 4374 ≤ (r4 : Int32).toNatClampNeg) (ab_ask (r4 < 0 ∨ 4374 ≤ (r4 : Int32).toNatClampNeg) (ab_ask ((((ab_wI h 31 (r4 : Int32).toNatClampNeg ((h.1 31 (r4 : Int32).toNatClampNeg) ||| 2))).1 35 14) < 0 ∨ 4375 ≤ ((((ab_wI h 31 (r4 : Int32).toNatClampNeg ((h.1 31 (r4 : Int32).toNatClampNeg) ||| 2))).1 35 14) : Int32).toNatClampNeg) (fX8_goOnFrom_J224 (fun y1 y3 y4 y5 y6 y7 h => fX8_goOnFrom_L37 n y1 y3 y4 y5 y6 y7 h) y1 y3 y4 y5 y6 y7 (ab_wI (ab_wI (ab_wI h 31 (r4 : Int32).toNatClampNeg ((h.1 31 (r4 : Int32).toNatClampNeg) ||| 2)) 36 ((((ab_wI h 31 (r4 : Int32).toNatClampNeg ((h.1 31 (r4 : Int32).toNatClampNeg) ||| 2))).1 35 14) : Int32).toNatClampNeg (y3 + r4)) 35 14 ((((ab_wI (ab_wI h 31 (r4 : Int32).toNatClampNeg ((h.1 31 (r4 : Int32).toNatClampNeg) ||| 2)) 36 ((((ab_wI h 31 (r4 : Int32).toNatClampNeg ((h.1 31 (r4 : Int32).toNatClampNeg) ||| 2))).1 35 14) : Int32).toNatClampNeg (y3 + r4))).1 35 14) + 1))))) else fX8_goOnFrom_J224 (fun y1 y3 y4 y5 y6 y7 h => fX8_goOnFrom_L37 n y1 y3 y4 y5 y6 y7 h) y1 y3 y4 y5 y6 y7 h)) else fX8_goOnFrom_J224 (fun y1 y3 y4 y5 y6 y7 h => fX8_goOnFrom_L37 n y1 y3 y4 y5 y6 y7 h) y1 y3 y4 y5 y6 y7 h)))
def fX8_goOnFrom (x0 : Int32) (x1 : Int32) (h : abJ) : Option abJ := (fX3_roadsOf 1 ((x1 - x1 / 6 * 6)) h).bind (fun r1 => fX8_goOnFrom_L37 ab_N x0 ((((h.1 35 10) + 1) * 8192)) ((x1 - x1 / 6 * 6)) ((x1 / 6)) r1 0 h)
set_option maxRecDepth 20000 in
theorem sX8_goOnFrom_J224 (d : Nat) (X : abX) (k37 : Int32 → Int32 → Int32 → Int32 → Int32 → Int32 → abJ → Option abJ) (hk37 : ∀ (y1 : Int32) (y3 : Int32) (y4 : Int32) (y5 : Int32) (y6 : Int32) (y7 : Int32) (h : abJ) (z : abJ), k37 y1 y3 y4 y5 y6 y7 h = some z → ab_Ex X (d + 3) 111 37 [(0, .ref 35), (1, .int y1), (3, .int y3), (4, .int y4), (5, .int y5), (6, .int y6), (7, .int y7)] [] ab_SH (ab_dD h) (fun r => r = (none, ab_SH, ab_dD z))) : ∀ (y1 : Int32) (y3 : Int32) (y4 : Int32) (y5 : Int32) (y6 : Int32) (y7 : Int32) (h : abJ) (z : abJ), fX8_goOnFrom_J224 k37 y1 y3 y4 y5 y6 y7 h = some z → ab_Ex X (d + 3) 111 224 [(0, .ref 35), (1, .int y1), (3, .int y3), (4, .int y4), (5, .int y5), (6, .int y6), (7, .int y7)] [] ab_SH (ab_dD h) (fun r => r = (none, ab_SH, ab_dD z)) := by
  intro y1 y3 y4 y5 y6 y7 h z hf
  unfold fX8_goOnFrom_J224 at hf
  refine ab_Ex.blk (k := 2) (pc' := 37) (lv' := [(0, .ref 35), (1, .int y1), (3, .int y3), (4, .int y4), (5, .int y5), (6, .int y6), (7, .int ((y7 + 1)))]) (st' := []) (sh' := ab_SH) (D' := ab_dD h) (fun n => rfl) ?_
  exact hk37 y1 y3 y4 y5 y6 ((y7 + 1)) h _ hf
set_option maxRecDepth 20000 in
theorem sX8_goOnFrom_L37 (d : Nat) (X : abX)   : ∀ (n : Nat), ∀ (y1 : Int32) (y3 : Int32) (y4 : Int32) (y5 : Int32) (y6 : Int32) (y7 : Int32) (h : abJ) (z : abJ), fX8_goOnFrom_L37 n y1 y3 y4 y5 y6 y7 h = some z → ab_Ex X (d + 3) 111 37 [(0, .ref 35), (1, .int y1), (3, .int y3), (4, .int y4), (5, .int y5), (6, .int y6), (7, .int y7)] [] ab_SH (ab_dD h) (fun r => r = (none, ab_SH, ab_dD z)) := by
  intro n
  induction n with
  | zero => intro y1 y3 y4 y5 y6 y7 h z hf; cases hf
  | succ n ih =>
    intro y1 y3 y4 y5 y6 y7 h z hf
    rw [fX8_goOnFrom_L37] at hf
    refine ab_Ex.blk (k := 2) (pc' := 41) (lv' := [(0, .ref 35), (1, .int y1), (3, .int y3), (4, .int y4), (5, .int y5), (6, .int y6), (7, .int y7)]) (st' := [.int y6, .int y7]) (sh' := ab_SH) (D' := ab_dD h) (fun n => rfl) ?_
    refine ab_Ex.ifc (c := y6 ≤ y7) (SA := (230, [(0, .ref 35), (1, .int y1), (3, .int y3), (4, .int y4), (5, .int y5), (6, .int y6), (7, .int y7)], [], ab_dD h)) (SB := (44, [(0, .ref 35), (1, .int y1), (3, .int y3), (4, .int y4), (5, .int y5), (6, .int y6), (7, .int y7)], [], ab_dD h)) (fun n => rfl) (fun c2 => ?_) (fun c2 => ?_)
    · replace hf := (if_pos c2).symm.trans hf
      obtain rfl := Option.some.inj hf
      exact ab_Ex.ret (fun n => rfl) rfl
    · replace hf := (if_neg c2).symm.trans hf
      refine ab_Ex.blk (k := 6) (pc' := 55) (lv' := [(0, .ref 35), (1, .int y1), (3, .int y3), (4, .int y4), (5, .int y5), (6, .int y6), (7, .int y7)]) (st' := [.int y7, .int y4, .int y5, .int y1, .ref 13]) (sh' := ab_SH) (D' := ab_dD h) (fun n => rfl) ?_
      obtain ⟨r3, hr3, hf⟩ := ab_bind_s hf
      refine ab_Ex.call (d := d + 2) (M2 := 173) (as := [.int y5, .int y4, .int y7]) (rest := [.int y1, .ref 13]) (fun n => rfl) rfl (Nat.not_lt.mpr (Nat.le_of_ble_eq_true rfl)) (sX11_withArm (d + 1) X y5 y4 y7 h _ hr3) (fun r hr => ?_)
      subst hr
      show ab_Ex X (d + 3) 111 58 [(0, .ref 35), (1, .int y1), (3, .int y3), (4, .int y4), (5, .int y5), (6, .int y6), (7, .int y7)] [.int r3, .int y1, .ref 13] ab_SH (ab_dD h) _
      refine ab_Ex.blk (k := 4) (pc' := 64) (lv' := [(0, .ref 35), (1, .int y1), (3, .int y3), (4, .int y4), (5, .int y5), (6, .int y6), (7, .int y7)]) (st' := [.int (((r3 * 6) + y4)), .int y1, .ref 13]) (sh' := ab_SH) (D' := ab_dD h) (fun n => rfl) ?_
      obtain ⟨r4, hr4, hf⟩ := ab_bind_s hf
      refine ab_Ex.call (d := d + 2) (M2 := 99) (as := [.ref 13, .int y1, .int (((r3 * 6) + y4))]) (rest := []) (fun n => rfl) rfl (Nat.not_lt.mpr (Nat.le_of_ble_eq_true rfl)) (sX7_nextStand (d) X y1 (((r3 * 6) + y4)) h _ hr4) (fun r hr => ?_)
      subst hr
      show ab_Ex X (d + 3) 111 67 [(0, .ref 35), (1, .int y1), (3, .int y3), (4, .int y4), (5, .int y5), (6, .int y6), (7, .int y7)] [.int r4] ab_SH (ab_dD h) _
      refine ab_Ex.blk (k := 2) (pc' := 71) (lv' := [(8, .int r4), (0, .ref 35), (1, .int y1), (3, .int y3), (4, .int y4), (5, .int y5), (6, .int y6), (7, .int y7)]) (st' := [.int r4]) (sh' := ab_SH) (D' := ab_dD h) (fun n => rfl) ?_
      refine ab_Ex.ifc (c := r4 < 0) (SA := (224, [(8, .int r4), (0, .ref 35), (1, .int y1), (3, .int y3), (4, .int y4), (5, .int y5), (6, .int y6), (7, .int y7)], [], ab_dD h)) (SB := (74, [(8, .int r4), (0, .ref 35), (1, .int y1), (3, .int y3), (4, .int y4), (5, .int y5), (6, .int y6), (7, .int y7)], [], ab_dD h)) (fun n => rfl) (fun c5 => ?_) (fun c5 => ?_)
      · replace hf := (if_pos c5).symm.trans hf
        exact sX8_goOnFrom_J224 d X (fun y1 y3 y4 y5 y6 y7 h => fX8_goOnFrom_L37 n y1 y3 y4 y5 y6 y7 h) (fun y1 y3 y4 y5 y6 y7 h z hz => ih y1 y3 y4 y5 y6 y7 h z hz) y1 y3 y4 y5 y6 y7 h _ hf
      · replace hf := (if_neg c5).symm.trans hf
        refine ab_Ex.blk (k := 2) (pc' := 79) (lv' := [(8, .int r4), (0, .ref 35), (1, .int y1), (3, .int y3), (4, .int y4), (5, .int y5), (6, .int y6), (7, .int y7)]) (st' := [.int 4374, .int r4]) (sh' := ab_SH) (D' := ab_dD h) (fun n => rfl) ?_
        refine ab_Ex.ifc (c := 4374 ≤ r4) (SA := (224, [(8, .int r4), (0, .ref 35), (1, .int y1), (3, .int y3), (4, .int y4), (5, .int y5), (6, .int y6), (7, .int y7)], [], ab_dD h)) (SB := (82, [(8, .int r4), (0, .ref 35), (1, .int y1), (3, .int y3), (4, .int y4), (5, .int y5), (6, .int y6), (7, .int y7)], [], ab_dD h)) (fun n => rfl) (fun c6 => ?_) (fun c6 => ?_)
        · replace hf := (if_pos c6).symm.trans hf
          exact sX8_goOnFrom_J224 d X (fun y1 y3 y4 y5 y6 y7 h => fX8_goOnFrom_L37 n y1 y3 y4 y5 y6 y7 h) (fun y1 y3 y4 y5 y6 y7 h z hz => ih y1 y3 y4 y5 y6 y7 h z hz) y1 y3 y4 y5 y6 y7 h _ hf
        · replace hf := (if_neg c6).symm.trans hf
          refine ab_Ex.blk (k := 3) (pc' := 88) (lv' := [(8, .int r4), (0, .ref 35), (1, .int y1), (3, .int y3), (4, .int y4), (5, .int y5), (6, .int y6), (7, .int y7)]) (st' := [.int r4, .ref 31]) (sh' := ab_SH) (D' := ab_dD h) (fun n => rfl) ?_
          obtain ⟨c8, hf⟩ := ab_ask_s hf
          refine ab_Ex.grd (c := r4 < 0 ∨ 4374 ≤ (r4 : Int32).toNatClampNeg) (S := (89, [(8, .int r4), (0, .ref 35), (1, .int y1), (3, .int y3), (4, .int y4), (5, .int y5), (6, .int y6), (7, .int y7)], [.int ((h.1 31 (r4 : Int32).toNatClampNeg))], ab_dD h)) (fun n => rfl) c8 ?_
          refine ab_Ex.blk (k := 2) (pc' := 91) (lv' := [(8, .int r4), (0, .ref 35), (1, .int y1), (3, .int y3), (4, .int y4), (5, .int y5), (6, .int y6), (7, .int y7)]) (st' := [.int (((h.1 31 (r4 : Int32).toNatClampNeg) &&& 1))]) (sh' := ab_SH) (D' := ab_dD h) (fun n => rfl) ?_
          refine ab_Ex.ifc (c := ((h.1 31 (r4 : Int32).toNatClampNeg) &&& 1) = 0) (SA := (97, [(8, .int r4), (0, .ref 35), (1, .int y1), (3, .int y3), (4, .int y4), (5, .int y5), (6, .int y6), (7, .int y7)], [], ab_dD h)) (SB := (94, [(8, .int r4), (0, .ref 35), (1, .int y1), (3, .int y3), (4, .int y4), (5, .int y5), (6, .int y6), (7, .int y7)], [], ab_dD h)) (fun n => rfl) (fun c9 => ?_) (fun c9 => ?_)
          · replace hf := (if_pos c9).symm.trans hf
            refine ab_Ex.blk (k := 3) (pc' := 103) (lv' := [(8, .int r4), (0, .ref 35), (1, .int y1), (3, .int y3), (4, .int y4), (5, .int y5), (6, .int y6), (7, .int y7)]) (st' := [.int y4, .int y5, .int y7]) (sh' := ab_SH) (D' := ab_dD h) (fun n => rfl) ?_
            obtain ⟨r10, hr10, hf⟩ := ab_bind_s hf
            refine ab_Ex.call (d := d + 2) (M2 := 172) (as := [.int y5, .int y4]) (rest := [.int y7]) (fun n => rfl) rfl (Nat.not_lt.mpr (Nat.le_of_ble_eq_true rfl)) (sX11_armOf (d + 2) X y5 y4 h _ hr10) (fun r hr => ?_)
            subst hr
            show ab_Ex X (d + 3) 111 106 [(8, .int r4), (0, .ref 35), (1, .int y1), (3, .int y3), (4, .int y4), (5, .int y5), (6, .int y6), (7, .int y7)] [.int r10, .int y7] ab_SH (ab_dD h) _
            refine ab_Ex.ifc (c := y7 = r10) (SA := (109, [(8, .int r4), (0, .ref 35), (1, .int y1), (3, .int y3), (4, .int y4), (5, .int y5), (6, .int y6), (7, .int y7)], [], ab_dD h)) (SB := (168, [(8, .int r4), (0, .ref 35), (1, .int y1), (3, .int y3), (4, .int y4), (5, .int y5), (6, .int y6), (7, .int y7)], [], ab_dD h)) (fun n => rfl) (fun c11 => ?_) (fun c11 => ?_)
            · replace hf := (if_pos c11).symm.trans hf
              refine ab_Ex.blk (k := 3) (pc' := 115) (lv' := [(8, .int r4), (0, .ref 35), (1, .int y1), (3, .int y3), (4, .int y4), (5, .int y5), (6, .int y6), (7, .int y7)]) (st' := [.int r4, .ref 31]) (sh' := ab_SH) (D' := ab_dD h) (fun n => rfl) ?_
              obtain ⟨c13, hf⟩ := ab_ask_s hf
              refine ab_Ex.grd (c := r4 < 0 ∨ 4374 ≤ (r4 : Int32).toNatClampNeg) (S := (116, [(8, .int r4), (0, .ref 35), (1, .int y1), (3, .int y3), (4, .int y4), (5, .int y5), (6, .int y6), (7, .int y7)], [.int ((h.1 31 (r4 : Int32).toNatClampNeg))], ab_dD h)) (fun n => rfl) c13 ?_
              refine ab_Ex.blk (k := 2) (pc' := 118) (lv' := [(8, .int r4), (0, .ref 35), (1, .int y1), (3, .int y3), (4, .int y4), (5, .int y5), (6, .int y6), (7, .int y7)]) (st' := [.int (((h.1 31 (r4 : Int32).toNatClampNeg) &&& 4))]) (sh' := ab_SH) (D' := ab_dD h) (fun n => rfl) ?_
              refine ab_Ex.ifc (c := ((h.1 31 (r4 : Int32).toNatClampNeg) &&& 4) = 0) (SA := (121, [(8, .int r4), (0, .ref 35), (1, .int y1), (3, .int y3), (4, .int y4), (5, .int y5), (6, .int y6), (7, .int y7)], [], ab_dD h)) (SB := (224, [(8, .int r4), (0, .ref 35), (1, .int y1), (3, .int y3), (4, .int y4), (5, .int y5), (6, .int y6), (7, .int y7)], [], ab_dD h)) (fun n => rfl) (fun c14 => ?_) (fun c14 => ?_)
              · replace hf := (if_pos c14).symm.trans hf
                refine ab_Ex.blk (k := 3) (pc' := 128) (lv' := [(8, .int r4), (0, .ref 35), (1, .int y1), (3, .int y3), (4, .int y4), (5, .int y5), (6, .int y6), (7, .int y7)]) (st' := [.int 4374, .int ((h.1 35 12))]) (sh' := ab_SH) (D' := ab_dD h) (fun n => rfl) ?_
                refine ab_Ex.ifc (c := 4374 ≤ (h.1 35 12)) (SA := (224, [(8, .int r4), (0, .ref 35), (1, .int y1), (3, .int y3), (4, .int y4), (5, .int y5), (6, .int y6), (7, .int y7)], [], ab_dD h)) (SB := (131, [(8, .int r4), (0, .ref 35), (1, .int y1), (3, .int y3), (4, .int y4), (5, .int y5), (6, .int y6), (7, .int y7)], [], ab_dD h)) (fun n => rfl) (fun c15 => ?_) (fun c15 => ?_)
                · replace hf := (if_pos c15).symm.trans hf
                  exact sX8_goOnFrom_J224 d X (fun y1 y3 y4 y5 y6 y7 h => fX8_goOnFrom_L37 n y1 y3 y4 y5 y6 y7 h) (fun y1 y3 y4 y5 y6 y7 h z hz => ih y1 y3 y4 y5 y6 y7 h z hz) y1 y3 y4 y5 y6 y7 h _ hf
                · replace hf := (if_neg c15).symm.trans hf
                  refine ab_Ex.blk (k := 4) (pc' := 138) (lv' := [(8, .int r4), (0, .ref 35), (1, .int y1), (3, .int y3), (4, .int y4), (5, .int y5), (6, .int y6), (7, .int y7)]) (st' := [.int r4, .ref 31, .int r4, .ref 31]) (sh' := ab_SH) (D' := ab_dD h) (fun n => rfl) ?_
                  obtain ⟨c17, hf⟩ := ab_ask_s hf
                  refine ab_Ex.grd (c := r4 < 0 ∨ 4374 ≤ (r4 : Int32).toNatClampNeg) (S := (139, [(8, .int r4), (0, .ref 35), (1, .int y1), (3, .int y3), (4, .int y4), (5, .int y5), (6, .int y6), (7, .int y7)], [.int ((h.1 31 (r4 : Int32).toNatClampNeg)), .int r4, .ref 31], ab_dD h)) (fun n => rfl) c17 ?_
                  refine ab_Ex.blk (k := 2) (pc' := 141) (lv' := [(8, .int r4), (0, .ref 35), (1, .int y1), (3, .int y3), (4, .int y4), (5, .int y5), (6, .int y6), (7, .int y7)]) (st' := [.int (((h.1 31 (r4 : Int32).toNatClampNeg) ||| 4)), .int r4, .ref 31]) (sh' := ab_SH) (D' := ab_dD h) (fun n => rfl) ?_
                  obtain ⟨c18, hf⟩ := ab_ask_s hf
                  refine ab_Ex.grd (c := r4 < 0 ∨ 4374 ≤ (r4 : Int32).toNatClampNeg) (S := (142, [(8, .int r4), (0, .ref 35), (1, .int y1), (3, .int y3), (4, .int y4), (5, .int y5), (6, .int y6), (7, .int y7)], [], ab_dD (ab_wI h 31 (r4 : Int32).toNatClampNeg ((h.1 31 (r4 : Int32).toNatClampNeg) ||| 4)))) (fun n => rfl) c18 ?_
                  refine ab_Ex.blk (k := 7) (pc' := 154) (lv' := [(8, .int r4), (0, .ref 35), (1, .int y1), (3, .int y3), (4, .int y4), (5, .int y5), (6, .int y6), (7, .int y7)]) (st' := [.int ((y3 + r4)), .int ((((ab_wI h 31 (r4 : Int32).toNatClampNeg ((h.1 31 (r4 : Int32).toNatClampNeg) ||| 4))).1 35 12)), .ref 30]) (sh' := ab_SH) (D' := ab_dD (ab_wI h 31 (r4 : Int32).toNatClampNeg ((h.1 31 (r4 : Int32).toNatClampNeg) ||| 4))) (fun n => rfl) ?_
                  obtain ⟨c19, hf⟩ := ab_ask_s hf
                  refine ab_Ex.grd (c := (((ab_wI h 31 (r4 : Int32).toNatClampNeg ((h.1 31 (r4 : Int32).toNatClampNeg) ||| 4))).1 35 12) < 0 ∨ 4375 ≤ ((((ab_wI h 31 (r4 : Int32).toNatClampNeg ((h.1 31 (r4 : Int32).toNatClampNeg) ||| 4))).1 35 12) : Int32).toNatClampNeg) (S := (155, [(8, .int r4), (0, .ref 35), (1, .int y1), (3, .int y3), (4, .int y4), (5, .int y5), (6, .int y6), (7, .int y7)], [], ab_dD (ab_wI (ab_wI h 31 (r4 : Int32).toNatClampNeg ((h.1 31 (r4 : Int32).toNatClampNeg) ||| 4)) 30 ((((ab_wI h 31 (r4 : Int32).toNatClampNeg ((h.1 31 (r4 : Int32).toNatClampNeg) ||| 4))).1 35 12) : Int32).toNatClampNeg (y3 + r4)))) (fun n => rfl) c19 ?_
                  refine ab_Ex.blk (k := 7) (pc' := 224) (lv' := [(0, .ref 35), (1, .int y1), (3, .int y3), (4, .int y4), (5, .int y5), (6, .int y6), (7, .int y7)]) (st' := []) (sh' := ab_SH) (D' := ab_dD (ab_wI (ab_wI (ab_wI h 31 (r4 : Int32).toNatClampNeg ((h.1 31 (r4 : Int32).toNatClampNeg) ||| 4)) 30 ((((ab_wI h 31 (r4 : Int32).toNatClampNeg ((h.1 31 (r4 : Int32).toNatClampNeg) ||| 4))).1 35 12) : Int32).toNatClampNeg (y3 + r4)) 35 12 ((((ab_wI (ab_wI h 31 (r4 : Int32).toNatClampNeg ((h.1 31 (r4 : Int32).toNatClampNeg) ||| 4)) 30 ((((ab_wI h 31 (r4 : Int32).toNatClampNeg ((h.1 31 (r4 : Int32).toNatClampNeg) ||| 4))).1 35 12) : Int32).toNatClampNeg (y3 + r4))).1 35 12) + 1))) (fun n => rfl) ?_
                  exact sX8_goOnFrom_J224 d X (fun y1 y3 y4 y5 y6 y7 h => fX8_goOnFrom_L37 n y1 y3 y4 y5 y6 y7 h) (fun y1 y3 y4 y5 y6 y7 h z hz => ih y1 y3 y4 y5 y6 y7 h z hz) y1 y3 y4 y5 y6 y7 (ab_wI (ab_wI (ab_wI h 31 (r4 : Int32).toNatClampNeg ((h.1 31 (r4 : Int32).toNatClampNeg) ||| 4)) 30 ((((ab_wI h 31 (r4 : Int32).toNatClampNeg ((h.1 31 (r4 : Int32).toNatClampNeg) ||| 4))).1 35 12) : Int32).toNatClampNeg (y3 + r4)) 35 12 ((((ab_wI (ab_wI h 31 (r4 : Int32).toNatClampNeg ((h.1 31 (r4 : Int32).toNatClampNeg) ||| 4)) 30 ((((ab_wI h 31 (r4 : Int32).toNatClampNeg ((h.1 31 (r4 : Int32).toNatClampNeg) ||| 4))).1 35 12) : Int32).toNatClampNeg (y3 + r4))).1 35 12) + 1)) _ hf
              · replace hf := (if_neg c14).symm.trans hf
                exact sX8_goOnFrom_J224 d X (fun y1 y3 y4 y5 y6 y7 h => fX8_goOnFrom_L37 n y1 y3 y4 y5 y6 y7 h) (fun y1 y3 y4 y5 y6 y7 h z hz => ih y1 y3 y4 y5 y6 y7 h z hz) y1 y3 y4 y5 y6 y7 h _ hf
            · replace hf := (if_neg c11).symm.trans hf
              refine ab_Ex.blk (k := 3) (pc' := 174) (lv' := [(8, .int r4), (0, .ref 35), (1, .int y1), (3, .int y3), (4, .int y4), (5, .int y5), (6, .int y6), (7, .int y7)]) (st' := [.int r4, .ref 31]) (sh' := ab_SH) (D' := ab_dD h) (fun n => rfl) ?_
              obtain ⟨c21, hf⟩ := ab_ask_s hf
              refine ab_Ex.grd (c := r4 < 0 ∨ 4374 ≤ (r4 : Int32).toNatClampNeg) (S := (175, [(8, .int r4), (0, .ref 35), (1, .int y1), (3, .int y3), (4, .int y4), (5, .int y5), (6, .int y6), (7, .int y7)], [.int ((h.1 31 (r4 : Int32).toNatClampNeg))], ab_dD h)) (fun n => rfl) c21 ?_
              refine ab_Ex.blk (k := 2) (pc' := 177) (lv' := [(8, .int r4), (0, .ref 35), (1, .int y1), (3, .int y3), (4, .int y4), (5, .int y5), (6, .int y6), (7, .int y7)]) (st' := [.int (((h.1 31 (r4 : Int32).toNatClampNeg) &&& 2))]) (sh' := ab_SH) (D' := ab_dD h) (fun n => rfl) ?_
              refine ab_Ex.ifc (c := ((h.1 31 (r4 : Int32).toNatClampNeg) &&& 2) = 0) (SA := (180, [(8, .int r4), (0, .ref 35), (1, .int y1), (3, .int y3), (4, .int y4), (5, .int y5), (6, .int y6), (7, .int y7)], [], ab_dD h)) (SB := (224, [(8, .int r4), (0, .ref 35), (1, .int y1), (3, .int y3), (4, .int y4), (5, .int y5), (6, .int y6), (7, .int y7)], [], ab_dD h)) (fun n => rfl) (fun c22 => ?_) (fun c22 => ?_)
              · replace hf := (if_pos c22).symm.trans hf
                refine ab_Ex.blk (k := 3) (pc' := 187) (lv' := [(8, .int r4), (0, .ref 35), (1, .int y1), (3, .int y3), (4, .int y4), (5, .int y5), (6, .int y6), (7, .int y7)]) (st' := [.int 4374, .int ((h.1 35 14))]) (sh' := ab_SH) (D' := ab_dD h) (fun n => rfl) ?_
                refine ab_Ex.ifc (c := 4374 < (h.1 35 14)) (SA := (224, [(8, .int r4), (0, .ref 35), (1, .int y1), (3, .int y3), (4, .int y4), (5, .int y5), (6, .int y6), (7, .int y7)], [], ab_dD h)) (SB := (190, [(8, .int r4), (0, .ref 35), (1, .int y1), (3, .int y3), (4, .int y4), (5, .int y5), (6, .int y6), (7, .int y7)], [], ab_dD h)) (fun n => rfl) (fun c23 => ?_) (fun c23 => ?_)
                · replace hf := (if_pos c23).symm.trans hf
                  exact sX8_goOnFrom_J224 d X (fun y1 y3 y4 y5 y6 y7 h => fX8_goOnFrom_L37 n y1 y3 y4 y5 y6 y7 h) (fun y1 y3 y4 y5 y6 y7 h z hz => ih y1 y3 y4 y5 y6 y7 h z hz) y1 y3 y4 y5 y6 y7 h _ hf
                · replace hf := (if_neg c23).symm.trans hf
                  refine ab_Ex.blk (k := 4) (pc' := 197) (lv' := [(8, .int r4), (0, .ref 35), (1, .int y1), (3, .int y3), (4, .int y4), (5, .int y5), (6, .int y6), (7, .int y7)]) (st' := [.int r4, .ref 31, .int r4, .ref 31]) (sh' := ab_SH) (D' := ab_dD h) (fun n => rfl) ?_
                  obtain ⟨c25, hf⟩ := ab_ask_s hf
                  refine ab_Ex.grd (c := r4 < 0 ∨ 4374 ≤ (r4 : Int32).toNatClampNeg) (S := (198, [(8, .int r4), (0, .ref 35), (1, .int y1), (3, .int y3), (4, .int y4), (5, .int y5), (6, .int y6), (7, .int y7)], [.int ((h.1 31 (r4 : Int32).toNatClampNeg)), .int r4, .ref 31], ab_dD h)) (fun n => rfl) c25 ?_
                  refine ab_Ex.blk (k := 2) (pc' := 200) (lv' := [(8, .int r4), (0, .ref 35), (1, .int y1), (3, .int y3), (4, .int y4), (5, .int y5), (6, .int y6), (7, .int y7)]) (st' := [.int (((h.1 31 (r4 : Int32).toNatClampNeg) ||| 2)), .int r4, .ref 31]) (sh' := ab_SH) (D' := ab_dD h) (fun n => rfl) ?_
                  obtain ⟨c26, hf⟩ := ab_ask_s hf
                  refine ab_Ex.grd (c := r4 < 0 ∨ 4374 ≤ (r4 : Int32).toNatClampNeg) (S := (201, [(8, .int r4), (0, .ref 35), (1, .int y1), (3, .int y3), (4, .int y4), (5, .int y5), (6, .int y6), (7, .int y7)], [], ab_dD (ab_wI h 31 (r4 : Int32).toNatClampNeg ((h.1 31 (r4 : Int32).toNatClampNeg) ||| 2)))) (fun n => rfl) c26 ?_
                  refine ab_Ex.blk (k := 7) (pc' := 213) (lv' := [(8, .int r4), (0, .ref 35), (1, .int y1), (3, .int y3), (4, .int y4), (5, .int y5), (6, .int y6), (7, .int y7)]) (st' := [.int ((y3 + r4)), .int ((((ab_wI h 31 (r4 : Int32).toNatClampNeg ((h.1 31 (r4 : Int32).toNatClampNeg) ||| 2))).1 35 14)), .ref 36]) (sh' := ab_SH) (D' := ab_dD (ab_wI h 31 (r4 : Int32).toNatClampNeg ((h.1 31 (r4 : Int32).toNatClampNeg) ||| 2))) (fun n => rfl) ?_
                  obtain ⟨c27, hf⟩ := ab_ask_s hf
                  refine ab_Ex.grd (c := (((ab_wI h 31 (r4 : Int32).toNatClampNeg ((h.1 31 (r4 : Int32).toNatClampNeg) ||| 2))).1 35 14) < 0 ∨ 4375 ≤ ((((ab_wI h 31 (r4 : Int32).toNatClampNeg ((h.1 31 (r4 : Int32).toNatClampNeg) ||| 2))).1 35 14) : Int32).toNatClampNeg) (S := (214, [(8, .int r4), (0, .ref 35), (1, .int y1), (3, .int y3), (4, .int y4), (5, .int y5), (6, .int y6), (7, .int y7)], [], ab_dD (ab_wI (ab_wI h 31 (r4 : Int32).toNatClampNeg ((h.1 31 (r4 : Int32).toNatClampNeg) ||| 2)) 36 ((((ab_wI h 31 (r4 : Int32).toNatClampNeg ((h.1 31 (r4 : Int32).toNatClampNeg) ||| 2))).1 35 14) : Int32).toNatClampNeg (y3 + r4)))) (fun n => rfl) c27 ?_
                  refine ab_Ex.blk (k := 6) (pc' := 224) (lv' := [(0, .ref 35), (1, .int y1), (3, .int y3), (4, .int y4), (5, .int y5), (6, .int y6), (7, .int y7)]) (st' := []) (sh' := ab_SH) (D' := ab_dD (ab_wI (ab_wI (ab_wI h 31 (r4 : Int32).toNatClampNeg ((h.1 31 (r4 : Int32).toNatClampNeg) ||| 2)) 36 ((((ab_wI h 31 (r4 : Int32).toNatClampNeg ((h.1 31 (r4 : Int32).toNatClampNeg) ||| 2))).1 35 14) : Int32).toNatClampNeg (y3 + r4)) 35 14 ((((ab_wI (ab_wI h 31 (r4 : Int32).toNatClampNeg ((h.1 31 (r4 : Int32).toNatClampNeg) ||| 2)) 36 ((((ab_wI h 31 (r4 : Int32).toNatClampNeg ((h.1 31 (r4 : Int32).toNatClampNeg) ||| 2))).1 35 14) : Int32).toNatClampNeg (y3 + r4))).1 35 14) + 1))) (fun n => rfl) ?_
                  exact sX8_goOnFrom_J224 d X (fun y1 y3 y4 y5 y6 y7 h => fX8_goOnFrom_L37 n y1 y3 y4 y5 y6 y7 h) (fun y1 y3 y4 y5 y6 y7 h z hz => ih y1 y3 y4 y5 y6 y7 h z hz) y1 y3 y4 y5 y6 y7 (ab_wI (ab_wI (ab_wI h 31 (r4 : Int32).toNatClampNeg ((h.1 31 (r4 : Int32).toNatClampNeg) ||| 2)) 36 ((((ab_wI h 31 (r4 : Int32).toNatClampNeg ((h.1 31 (r4 : Int32).toNatClampNeg) ||| 2))).1 35 14) : Int32).toNatClampNeg (y3 + r4)) 35 14 ((((ab_wI (ab_wI h 31 (r4 : Int32).toNatClampNeg ((h.1 31 (r4 : Int32).toNatClampNeg) ||| 2)) 36 ((((ab_wI h 31 (r4 : Int32).toNatClampNeg ((h.1 31 (r4 : Int32).toNatClampNeg) ||| 2))).1 35 14) : Int32).toNatClampNeg (y3 + r4))).1 35 14) + 1)) _ hf
              · replace hf := (if_neg c22).symm.trans hf
                exact sX8_goOnFrom_J224 d X (fun y1 y3 y4 y5 y6 y7 h => fX8_goOnFrom_L37 n y1 y3 y4 y5 y6 y7 h) (fun y1 y3 y4 y5 y6 y7 h z hz => ih y1 y3 y4 y5 y6 y7 h z hz) y1 y3 y4 y5 y6 y7 h _ hf
          · replace hf := (if_neg c9).symm.trans hf
            refine ab_Ex.blk (k := 1) (pc' := 224) (lv' := [(0, .ref 35), (1, .int y1), (3, .int y3), (4, .int y4), (5, .int y5), (6, .int y6), (7, .int y7)]) (st' := []) (sh' := ab_SH) (D' := ab_dD h) (fun n => rfl) ?_
            exact sX8_goOnFrom_J224 d X (fun y1 y3 y4 y5 y6 y7 h => fX8_goOnFrom_L37 n y1 y3 y4 y5 y6 y7 h) (fun y1 y3 y4 y5 y6 y7 h z hz => ih y1 y3 y4 y5 y6 y7 h z hz) y1 y3 y4 y5 y6 y7 h _ hf
set_option maxRecDepth 20000 in
theorem sX8_goOnFrom (d : Nat) (X : abX) (x0 : Int32) (x1 : Int32) (h : abJ) (z : abJ) (hf : fX8_goOnFrom x0 x1 h = some z) : ab_Ex X (d + 3) 111 0 [(0, .ref 35), (1, .int x0), (2, .int x1)] [] ab_SH (ab_dD h) (fun r => r = (none, ab_SH, ab_dD z)) := by
  unfold fX8_goOnFrom at hf
  refine ab_Ex.blk (k := 9) (pc' := 14) (lv' := [(3, .int ((((h.1 35 10) + 1) * 8192))), (0, .ref 35), (1, .int x0), (2, .int x1)]) (st' := [.int 6, .int x1]) (sh' := ab_SH) (D' := ab_dD h) (fun n => rfl) ?_
  refine ab_Ex.blk (k := 1) (pc' := 15) (lv' := [(3, .int ((((h.1 35 10) + 1) * 8192))), (0, .ref 35), (1, .int x0), (2, .int x1)]) (st' := [.int ((x1 - x1 / 6 * 6))]) (sh' := ab_SH) (D' := ab_dD h) (fun n => rfl) ?_
  refine ab_Ex.blk (k := 3) (pc' := 20) (lv' := [(4, .int ((x1 - x1 / 6 * 6))), (3, .int ((((h.1 35 10) + 1) * 8192))), (0, .ref 35), (1, .int x0), (2, .int x1)]) (st' := [.int 6, .int x1]) (sh' := ab_SH) (D' := ab_dD h) (fun n => rfl) ?_
  refine ab_Ex.blk (k := 1) (pc' := 21) (lv' := [(4, .int ((x1 - x1 / 6 * 6))), (3, .int ((((h.1 35 10) + 1) * 8192))), (0, .ref 35), (1, .int x0), (2, .int x1)]) (st' := [.int ((x1 / 6))]) (sh' := ab_SH) (D' := ab_dD h) (fun n => rfl) ?_
  refine ab_Ex.blk (k := 4) (pc' := 29) (lv' := [(5, .int ((x1 / 6))), (4, .int ((x1 - x1 / 6 * 6))), (3, .int ((((h.1 35 10) + 1) * 8192))), (0, .ref 35), (1, .int x0), (2, .int x1)]) (st' := [.int ((x1 - x1 / 6 * 6)), .ref 1]) (sh' := ab_SH) (D' := ab_dD h) (fun n => rfl) ?_
  obtain ⟨r1, hr1, hf⟩ := ab_bind_s hf
  refine ab_Ex.call (d := d + 2) (M2 := 35) (as := [.ref 1, .int ((x1 - x1 / 6 * 6))]) (rest := []) (fun n => rfl) rfl (Nat.not_lt.mpr (Nat.le_of_ble_eq_true rfl)) (sX3_roadsOf_1 (d + 2) X ((x1 - x1 / 6 * 6)) h _ hr1) (fun r hr => ?_)
  subst hr
  show ab_Ex X (d + 3) 111 32 [(5, .int ((x1 / 6))), (4, .int ((x1 - x1 / 6 * 6))), (3, .int ((((h.1 35 10) + 1) * 8192))), (0, .ref 35), (1, .int x0), (2, .int x1)] [.int r1] ab_SH (ab_dD h) _
  refine ab_Ex.blk (k := 3) (pc' := 37) (lv' := [(0, .ref 35), (1, .int x0), (3, .int ((((h.1 35 10) + 1) * 8192))), (4, .int ((x1 - x1 / 6 * 6))), (5, .int ((x1 / 6))), (6, .int r1), (7, .int 0)]) (st' := []) (sh' := ab_SH) (D' := ab_dD h) (fun n => rfl) ?_
  exact sX8_goOnFrom_L37 d X  ab_N x0 ((((h.1 35 10) + 1) * 8192)) ((x1 - x1 / 6 * 6)) ((x1 / 6)) r1 0 h _ hf
def fX8_reachTurned_J127  (k18 : Int32 → Int32 → Int32 → Int32 → abJ → Option (Int32 × abJ)) (y1 : Int32) (y2 : Int32) (y3 : Int32) (y4 : Int32) (h : abJ) : Option (Int32 × abJ) := k18 y1 y2 y3 ((y4 + 1)) h
def fX8_reachTurned_J45  (k18 : Int32 → Int32 → Int32 → Int32 → abJ → Option (Int32 × abJ)) (y1 : Int32) (y2 : Int32) (y3 : Int32) (y4 : Int32) (h : abJ) : Option (Int32 × abJ) := (fX8_takeNearest y3 h).bind (fun r3 => if (r3.1 - r3.1 / 8192 * 8192) < 0 then fX8_reachTurned_J127 k18 y1 y2 y3 y4 r3.2 else if 4374 ≤ (r3.1 - r3.1 / 8192 * 8192) then fX8_reachTurned_J127 k18 y1 y2 y3 y4 r3.2 else ab_ask ((r3.1 - r3.1 / 8192 * 8192) < 0 ∨ 4374 ≤ ((r3.1 - r3.1 / 8192 * 8192) : Int32).toNatClampNeg) (if ((r3.2.1 31 ((r3.1 - r3.1 / 8192 * 8192) : Int32).toNatClampNeg) &&& 1) = 0 then ab_ask ((r3.1 - r3.1 / 8192 * 8192) < 0 ∨ 4374 ≤ ((r3.1 - r3.1 / 8192 * 8192) : Int32).toNatClampNeg) (ab_ask ((r3.1 - r3.1 / 8192 * 8192) < 0 ∨ 4374 ≤ ((r3.1 - r3.1 / 8192 * 8192) : Int32).toNatClampNeg) (if ((r3.1 - r3.1 / 8192 * 8192) - (r3.1 - r3.1 / 8192 * 8192) / 6 * 6) = y2 then some (1, (ab_wI (ab_wI r3.2 31 ((r3.1 - r3.1 / 8192 * 8192) : Int32).toNatClampNeg ((r3.2.1 31 ((r3.1 - r3.1 / 8192 * 8192) : Int32).toNatClampNeg) ||| 1)) 35 10 (r3.1 / 8192))) else (fX8_goOnFrom y1 ((r3.1 - r3.1 / 8192 * 8192)) (ab_wI (ab_wI r3.2 31 ((r3.1 - r3.1 / 8192 * 8192) : Int32).toNatClampNeg ((r3.2.1 31 ((r3.1 - r3.1 / 8192 * 8192) : Int32).toNatClampNeg) ||| 1)) 35 10 (r3.1 / 8192))).bind (fun r13 => fX8_reachTurned_J127 k18 y1 y2 y3 y4 r13))) else fX8_reachTurned_J127 k18 y1 y2 y3 y4 r3.2))
def fX8_reachTurned_L18   : Nat → Int32 → Int32 → Int32 → Int32 → abJ → Option (Int32 × abJ)
  | 0, _, _, _, _, _ => none
  | n + 1, y1, y2, y3, y4, h => if 8748 < y4 then some (0, h) else if (h.1 35 11) < (h.1 35 12) then fX8_reachTurned_J45 (fun y1 y2 y3 y4 h => fX8_reachTurned_L18 n y1 y2 y3 y4 h) y1 y2 y3 y4 h else if y3 ≤ (h.1 35 13) then some (0, h) else fX8_reachTurned_J45 (fun y1 y2 y3 y4 h => fX8_reachTurned_L18 n y1 y2 y3 y4 h) y1 y2 y3 y4 h
def fX8_reachTurned (x0 : Int32) (x1 : Int32) (h : abJ) : Option (Int32 × abJ) := fX8_reachTurned_L18 ab_N x0 x1 ((h.1 35 14)) 0 (ab_wI (ab_wI h 35 11 0) 35 12 0)
set_option maxRecDepth 20000 in
theorem sX8_reachTurned_J127 (d : Nat) (X : abX) (k18 : Int32 → Int32 → Int32 → Int32 → abJ → Option (Int32 × abJ)) (hk18 : ∀ (y1 : Int32) (y2 : Int32) (y3 : Int32) (y4 : Int32) (h : abJ) (z : (Int32 × abJ)), k18 y1 y2 y3 y4 h = some z → ab_Ex X (d + 4) 109 18 [(0, .ref 35), (1, .int y1), (2, .int y2), (3, .int y3), (4, .int y4)] [] ab_SH (ab_dD h) (fun r => r = (some (.int z.1), ab_SH, ab_dD z.2))) : ∀ (y1 : Int32) (y2 : Int32) (y3 : Int32) (y4 : Int32) (h : abJ) (z : (Int32 × abJ)), fX8_reachTurned_J127 k18 y1 y2 y3 y4 h = some z → ab_Ex X (d + 4) 109 127 [(0, .ref 35), (1, .int y1), (2, .int y2), (3, .int y3), (4, .int y4)] [] ab_SH (ab_dD h) (fun r => r = (some (.int z.1), ab_SH, ab_dD z.2)) := by
  intro y1 y2 y3 y4 h z hf
  unfold fX8_reachTurned_J127 at hf
  refine ab_Ex.blk (k := 2) (pc' := 18) (lv' := [(0, .ref 35), (1, .int y1), (2, .int y2), (3, .int y3), (4, .int ((y4 + 1)))]) (st' := []) (sh' := ab_SH) (D' := ab_dD h) (fun n => rfl) ?_
  exact hk18 y1 y2 y3 ((y4 + 1)) h _ hf
set_option maxRecDepth 20000 in
theorem sX8_reachTurned_J45 (d : Nat) (X : abX) (k18 : Int32 → Int32 → Int32 → Int32 → abJ → Option (Int32 × abJ)) (hk18 : ∀ (y1 : Int32) (y2 : Int32) (y3 : Int32) (y4 : Int32) (h : abJ) (z : (Int32 × abJ)), k18 y1 y2 y3 y4 h = some z → ab_Ex X (d + 4) 109 18 [(0, .ref 35), (1, .int y1), (2, .int y2), (3, .int y3), (4, .int y4)] [] ab_SH (ab_dD h) (fun r => r = (some (.int z.1), ab_SH, ab_dD z.2))) : ∀ (y1 : Int32) (y2 : Int32) (y3 : Int32) (y4 : Int32) (h : abJ) (z : (Int32 × abJ)), fX8_reachTurned_J45 k18 y1 y2 y3 y4 h = some z → ab_Ex X (d + 4) 109 45 [(0, .ref 35), (1, .int y1), (2, .int y2), (3, .int y3), (4, .int y4)] [] ab_SH (ab_dD h) (fun r => r = (some (.int z.1), ab_SH, ab_dD z.2)) := by
  intro y1 y2 y3 y4 h z hf
  unfold fX8_reachTurned_J45 at hf
  refine ab_Ex.blk (k := 2) (pc' := 47) (lv' := [(0, .ref 35), (1, .int y1), (2, .int y2), (3, .int y3), (4, .int y4)]) (st' := [.int y3, .ref 35]) (sh' := ab_SH) (D' := ab_dD h) (fun n => rfl) ?_
  obtain ⟨r3, hr3, hf⟩ := ab_bind_s hf
  refine ab_Ex.call (d := d + 3) (M2 := 110) (as := [.ref 35, .int y3]) (rest := []) (fun n => rfl) rfl (Nat.not_lt.mpr (Nat.le_of_ble_eq_true rfl)) (sX8_takeNearest (d + 3) X y3 h _ hr3) (fun r hr => ?_)
  subst hr
  show ab_Ex X (d + 4) 109 50 [(0, .ref 35), (1, .int y1), (2, .int y2), (3, .int y3), (4, .int y4)] [.int r3.1] ab_SH (ab_dD r3.2) _
  refine ab_Ex.blk (k := 3) (pc' := 57) (lv' := [(5, .int r3.1), (0, .ref 35), (1, .int y1), (2, .int y2), (3, .int y3), (4, .int y4)]) (st' := [.int 8192, .int r3.1]) (sh' := ab_SH) (D' := ab_dD r3.2) (fun n => rfl) ?_
  refine ab_Ex.blk (k := 1) (pc' := 58) (lv' := [(5, .int r3.1), (0, .ref 35), (1, .int y1), (2, .int y2), (3, .int y3), (4, .int y4)]) (st' := [.int ((r3.1 - r3.1 / 8192 * 8192))]) (sh' := ab_SH) (D' := ab_dD r3.2) (fun n => rfl) ?_
  refine ab_Ex.blk (k := 2) (pc' := 62) (lv' := [(6, .int ((r3.1 - r3.1 / 8192 * 8192))), (5, .int r3.1), (0, .ref 35), (1, .int y1), (2, .int y2), (3, .int y3), (4, .int y4)]) (st' := [.int ((r3.1 - r3.1 / 8192 * 8192))]) (sh' := ab_SH) (D' := ab_dD r3.2) (fun n => rfl) ?_
  refine ab_Ex.ifc (c := (r3.1 - r3.1 / 8192 * 8192) < 0) (SA := (127, [(6, .int ((r3.1 - r3.1 / 8192 * 8192))), (5, .int r3.1), (0, .ref 35), (1, .int y1), (2, .int y2), (3, .int y3), (4, .int y4)], [], ab_dD r3.2)) (SB := (65, [(6, .int ((r3.1 - r3.1 / 8192 * 8192))), (5, .int r3.1), (0, .ref 35), (1, .int y1), (2, .int y2), (3, .int y3), (4, .int y4)], [], ab_dD r3.2)) (fun n => rfl) (fun c4 => ?_) (fun c4 => ?_)
  · replace hf := (if_pos c4).symm.trans hf
    exact sX8_reachTurned_J127 d X k18 hk18 y1 y2 y3 y4 r3.2 _ hf
  · replace hf := (if_neg c4).symm.trans hf
    refine ab_Ex.blk (k := 2) (pc' := 70) (lv' := [(6, .int ((r3.1 - r3.1 / 8192 * 8192))), (5, .int r3.1), (0, .ref 35), (1, .int y1), (2, .int y2), (3, .int y3), (4, .int y4)]) (st' := [.int 4374, .int ((r3.1 - r3.1 / 8192 * 8192))]) (sh' := ab_SH) (D' := ab_dD r3.2) (fun n => rfl) ?_
    refine ab_Ex.ifc (c := 4374 ≤ (r3.1 - r3.1 / 8192 * 8192)) (SA := (127, [(6, .int ((r3.1 - r3.1 / 8192 * 8192))), (5, .int r3.1), (0, .ref 35), (1, .int y1), (2, .int y2), (3, .int y3), (4, .int y4)], [], ab_dD r3.2)) (SB := (73, [(6, .int ((r3.1 - r3.1 / 8192 * 8192))), (5, .int r3.1), (0, .ref 35), (1, .int y1), (2, .int y2), (3, .int y3), (4, .int y4)], [], ab_dD r3.2)) (fun n => rfl) (fun c5 => ?_) (fun c5 => ?_)
    · replace hf := (if_pos c5).symm.trans hf
      exact sX8_reachTurned_J127 d X k18 hk18 y1 y2 y3 y4 r3.2 _ hf
    · replace hf := (if_neg c5).symm.trans hf
      refine ab_Ex.blk (k := 3) (pc' := 79) (lv' := [(6, .int ((r3.1 - r3.1 / 8192 * 8192))), (5, .int r3.1), (0, .ref 35), (1, .int y1), (2, .int y2), (3, .int y3), (4, .int y4)]) (st' := [.int ((r3.1 - r3.1 / 8192 * 8192)), .ref 31]) (sh' := ab_SH) (D' := ab_dD r3.2) (fun n => rfl) ?_
      obtain ⟨c7, hf⟩ := ab_ask_s hf
      refine ab_Ex.grd (c := (r3.1 - r3.1 / 8192 * 8192) < 0 ∨ 4374 ≤ ((r3.1 - r3.1 / 8192 * 8192) : Int32).toNatClampNeg) (S := (80, [(6, .int ((r3.1 - r3.1 / 8192 * 8192))), (5, .int r3.1), (0, .ref 35), (1, .int y1), (2, .int y2), (3, .int y3), (4, .int y4)], [.int ((r3.2.1 31 ((r3.1 - r3.1 / 8192 * 8192) : Int32).toNatClampNeg))], ab_dD r3.2)) (fun n => rfl) c7 ?_
      refine ab_Ex.blk (k := 2) (pc' := 82) (lv' := [(6, .int ((r3.1 - r3.1 / 8192 * 8192))), (5, .int r3.1), (0, .ref 35), (1, .int y1), (2, .int y2), (3, .int y3), (4, .int y4)]) (st' := [.int (((r3.2.1 31 ((r3.1 - r3.1 / 8192 * 8192) : Int32).toNatClampNeg) &&& 1))]) (sh' := ab_SH) (D' := ab_dD r3.2) (fun n => rfl) ?_
      refine ab_Ex.ifc (c := ((r3.2.1 31 ((r3.1 - r3.1 / 8192 * 8192) : Int32).toNatClampNeg) &&& 1) = 0) (SA := (88, [(6, .int ((r3.1 - r3.1 / 8192 * 8192))), (5, .int r3.1), (0, .ref 35), (1, .int y1), (2, .int y2), (3, .int y3), (4, .int y4)], [], ab_dD r3.2)) (SB := (85, [(6, .int ((r3.1 - r3.1 / 8192 * 8192))), (5, .int r3.1), (0, .ref 35), (1, .int y1), (2, .int y2), (3, .int y3), (4, .int y4)], [], ab_dD r3.2)) (fun n => rfl) (fun c8 => ?_) (fun c8 => ?_)
      · replace hf := (if_pos c8).symm.trans hf
        refine ab_Ex.blk (k := 4) (pc' := 95) (lv' := [(6, .int ((r3.1 - r3.1 / 8192 * 8192))), (5, .int r3.1), (0, .ref 35), (1, .int y1), (2, .int y2), (3, .int y3), (4, .int y4)]) (st' := [.int ((r3.1 - r3.1 / 8192 * 8192)), .ref 31, .int ((r3.1 - r3.1 / 8192 * 8192)), .ref 31]) (sh' := ab_SH) (D' := ab_dD r3.2) (fun n => rfl) ?_
        obtain ⟨c10, hf⟩ := ab_ask_s hf
        refine ab_Ex.grd (c := (r3.1 - r3.1 / 8192 * 8192) < 0 ∨ 4374 ≤ ((r3.1 - r3.1 / 8192 * 8192) : Int32).toNatClampNeg) (S := (96, [(6, .int ((r3.1 - r3.1 / 8192 * 8192))), (5, .int r3.1), (0, .ref 35), (1, .int y1), (2, .int y2), (3, .int y3), (4, .int y4)], [.int ((r3.2.1 31 ((r3.1 - r3.1 / 8192 * 8192) : Int32).toNatClampNeg)), .int ((r3.1 - r3.1 / 8192 * 8192)), .ref 31], ab_dD r3.2)) (fun n => rfl) c10 ?_
        refine ab_Ex.blk (k := 2) (pc' := 98) (lv' := [(6, .int ((r3.1 - r3.1 / 8192 * 8192))), (5, .int r3.1), (0, .ref 35), (1, .int y1), (2, .int y2), (3, .int y3), (4, .int y4)]) (st' := [.int (((r3.2.1 31 ((r3.1 - r3.1 / 8192 * 8192) : Int32).toNatClampNeg) ||| 1)), .int ((r3.1 - r3.1 / 8192 * 8192)), .ref 31]) (sh' := ab_SH) (D' := ab_dD r3.2) (fun n => rfl) ?_
        obtain ⟨c11, hf⟩ := ab_ask_s hf
        refine ab_Ex.grd (c := (r3.1 - r3.1 / 8192 * 8192) < 0 ∨ 4374 ≤ ((r3.1 - r3.1 / 8192 * 8192) : Int32).toNatClampNeg) (S := (99, [(6, .int ((r3.1 - r3.1 / 8192 * 8192))), (5, .int r3.1), (0, .ref 35), (1, .int y1), (2, .int y2), (3, .int y3), (4, .int y4)], [], ab_dD (ab_wI r3.2 31 ((r3.1 - r3.1 / 8192 * 8192) : Int32).toNatClampNeg ((r3.2.1 31 ((r3.1 - r3.1 / 8192 * 8192) : Int32).toNatClampNeg) ||| 1)))) (fun n => rfl) c11 ?_
        refine ab_Ex.blk (k := 3) (pc' := 105) (lv' := [(6, .int ((r3.1 - r3.1 / 8192 * 8192))), (5, .int r3.1), (0, .ref 35), (1, .int y1), (2, .int y2), (3, .int y3), (4, .int y4)]) (st' := [.int 8192, .int r3.1, .ref 35]) (sh' := ab_SH) (D' := ab_dD (ab_wI r3.2 31 ((r3.1 - r3.1 / 8192 * 8192) : Int32).toNatClampNeg ((r3.2.1 31 ((r3.1 - r3.1 / 8192 * 8192) : Int32).toNatClampNeg) ||| 1))) (fun n => rfl) ?_
        refine ab_Ex.blk (k := 1) (pc' := 106) (lv' := [(6, .int ((r3.1 - r3.1 / 8192 * 8192))), (5, .int r3.1), (0, .ref 35), (1, .int y1), (2, .int y2), (3, .int y3), (4, .int y4)]) (st' := [.int ((r3.1 / 8192)), .ref 35]) (sh' := ab_SH) (D' := ab_dD (ab_wI r3.2 31 ((r3.1 - r3.1 / 8192 * 8192) : Int32).toNatClampNeg ((r3.2.1 31 ((r3.1 - r3.1 / 8192 * 8192) : Int32).toNatClampNeg) ||| 1))) (fun n => rfl) ?_
        refine ab_Ex.blk (k := 3) (pc' := 113) (lv' := [(6, .int ((r3.1 - r3.1 / 8192 * 8192))), (5, .int r3.1), (0, .ref 35), (1, .int y1), (2, .int y2), (3, .int y3), (4, .int y4)]) (st' := [.int 6, .int ((r3.1 - r3.1 / 8192 * 8192))]) (sh' := ab_SH) (D' := ab_dD (ab_wI (ab_wI r3.2 31 ((r3.1 - r3.1 / 8192 * 8192) : Int32).toNatClampNeg ((r3.2.1 31 ((r3.1 - r3.1 / 8192 * 8192) : Int32).toNatClampNeg) ||| 1)) 35 10 (r3.1 / 8192))) (fun n => rfl) ?_
        refine ab_Ex.blk (k := 1) (pc' := 114) (lv' := [(6, .int ((r3.1 - r3.1 / 8192 * 8192))), (5, .int r3.1), (0, .ref 35), (1, .int y1), (2, .int y2), (3, .int y3), (4, .int y4)]) (st' := [.int (((r3.1 - r3.1 / 8192 * 8192) - (r3.1 - r3.1 / 8192 * 8192) / 6 * 6))]) (sh' := ab_SH) (D' := ab_dD (ab_wI (ab_wI r3.2 31 ((r3.1 - r3.1 / 8192 * 8192) : Int32).toNatClampNeg ((r3.2.1 31 ((r3.1 - r3.1 / 8192 * 8192) : Int32).toNatClampNeg) ||| 1)) 35 10 (r3.1 / 8192))) (fun n => rfl) ?_
        refine ab_Ex.blk (k := 1) (pc' := 115) (lv' := [(6, .int ((r3.1 - r3.1 / 8192 * 8192))), (5, .int r3.1), (0, .ref 35), (1, .int y1), (2, .int y2), (3, .int y3), (4, .int y4)]) (st' := [.int y2, .int (((r3.1 - r3.1 / 8192 * 8192) - (r3.1 - r3.1 / 8192 * 8192) / 6 * 6))]) (sh' := ab_SH) (D' := ab_dD (ab_wI (ab_wI r3.2 31 ((r3.1 - r3.1 / 8192 * 8192) : Int32).toNatClampNeg ((r3.2.1 31 ((r3.1 - r3.1 / 8192 * 8192) : Int32).toNatClampNeg) ||| 1)) 35 10 (r3.1 / 8192))) (fun n => rfl) ?_
        refine ab_Ex.ifc (c := ((r3.1 - r3.1 / 8192 * 8192) - (r3.1 - r3.1 / 8192 * 8192) / 6 * 6) = y2) (SA := (118, [(6, .int ((r3.1 - r3.1 / 8192 * 8192))), (5, .int r3.1), (0, .ref 35), (1, .int y1), (2, .int y2), (3, .int y3), (4, .int y4)], [], ab_dD (ab_wI (ab_wI r3.2 31 ((r3.1 - r3.1 / 8192 * 8192) : Int32).toNatClampNeg ((r3.2.1 31 ((r3.1 - r3.1 / 8192 * 8192) : Int32).toNatClampNeg) ||| 1)) 35 10 (r3.1 / 8192)))) (SB := (120, [(6, .int ((r3.1 - r3.1 / 8192 * 8192))), (5, .int r3.1), (0, .ref 35), (1, .int y1), (2, .int y2), (3, .int y3), (4, .int y4)], [], ab_dD (ab_wI (ab_wI r3.2 31 ((r3.1 - r3.1 / 8192 * 8192) : Int32).toNatClampNeg ((r3.2.1 31 ((r3.1 - r3.1 / 8192 * 8192) : Int32).toNatClampNeg) ||| 1)) 35 10 (r3.1 / 8192)))) (fun n => rfl) (fun c12 => ?_) (fun c12 => ?_)
        · replace hf := (if_pos c12).symm.trans hf
          refine ab_Ex.blk (k := 1) (pc' := 119) (lv' := [(6, .int ((r3.1 - r3.1 / 8192 * 8192))), (5, .int r3.1), (0, .ref 35), (1, .int y1), (2, .int y2), (3, .int y3), (4, .int y4)]) (st' := [.int 1]) (sh' := ab_SH) (D' := ab_dD (ab_wI (ab_wI r3.2 31 ((r3.1 - r3.1 / 8192 * 8192) : Int32).toNatClampNeg ((r3.2.1 31 ((r3.1 - r3.1 / 8192 * 8192) : Int32).toNatClampNeg) ||| 1)) 35 10 (r3.1 / 8192))) (fun n => rfl) ?_
          obtain rfl := Option.some.inj hf
          exact ab_Ex.ret (fun n => rfl) rfl
        · replace hf := (if_neg c12).symm.trans hf
          refine ab_Ex.blk (k := 3) (pc' := 124) (lv' := [(6, .int ((r3.1 - r3.1 / 8192 * 8192))), (5, .int r3.1), (0, .ref 35), (1, .int y1), (2, .int y2), (3, .int y3), (4, .int y4)]) (st' := [.int ((r3.1 - r3.1 / 8192 * 8192)), .int y1, .ref 35]) (sh' := ab_SH) (D' := ab_dD (ab_wI (ab_wI r3.2 31 ((r3.1 - r3.1 / 8192 * 8192) : Int32).toNatClampNeg ((r3.2.1 31 ((r3.1 - r3.1 / 8192 * 8192) : Int32).toNatClampNeg) ||| 1)) 35 10 (r3.1 / 8192))) (fun n => rfl) ?_
          obtain ⟨r13, hr13, hf⟩ := ab_bind_s hf
          refine ab_Ex.call (d := d + 3) (M2 := 111) (as := [.ref 35, .int y1, .int ((r3.1 - r3.1 / 8192 * 8192))]) (rest := []) (fun n => rfl) rfl (Nat.not_lt.mpr (Nat.le_of_ble_eq_true rfl)) (sX8_goOnFrom (d) X y1 ((r3.1 - r3.1 / 8192 * 8192)) (ab_wI (ab_wI r3.2 31 ((r3.1 - r3.1 / 8192 * 8192) : Int32).toNatClampNeg ((r3.2.1 31 ((r3.1 - r3.1 / 8192 * 8192) : Int32).toNatClampNeg) ||| 1)) 35 10 (r3.1 / 8192)) _ hr13) (fun r hr => ?_)
          subst hr
          show ab_Ex X (d + 4) 109 127 [(0, .ref 35), (1, .int y1), (2, .int y2), (3, .int y3), (4, .int y4)] [] ab_SH (ab_dD r13) _
          exact sX8_reachTurned_J127 d X k18 hk18 y1 y2 y3 y4 r13 _ hf
      · replace hf := (if_neg c8).symm.trans hf
        refine ab_Ex.blk (k := 1) (pc' := 127) (lv' := [(0, .ref 35), (1, .int y1), (2, .int y2), (3, .int y3), (4, .int y4)]) (st' := []) (sh' := ab_SH) (D' := ab_dD r3.2) (fun n => rfl) ?_
        exact sX8_reachTurned_J127 d X k18 hk18 y1 y2 y3 y4 r3.2 _ hf
set_option maxRecDepth 20000 in
theorem sX8_reachTurned_L18 (d : Nat) (X : abX)   : ∀ (n : Nat), ∀ (y1 : Int32) (y2 : Int32) (y3 : Int32) (y4 : Int32) (h : abJ) (z : (Int32 × abJ)), fX8_reachTurned_L18 n y1 y2 y3 y4 h = some z → ab_Ex X (d + 4) 109 18 [(0, .ref 35), (1, .int y1), (2, .int y2), (3, .int y3), (4, .int y4)] [] ab_SH (ab_dD h) (fun r => r = (some (.int z.1), ab_SH, ab_dD z.2)) := by
  intro n
  induction n with
  | zero => intro y1 y2 y3 y4 h z hf; cases hf
  | succ n ih =>
    intro y1 y2 y3 y4 h z hf
    rw [fX8_reachTurned_L18] at hf
    refine ab_Ex.blk (k := 2) (pc' := 23) (lv' := [(0, .ref 35), (1, .int y1), (2, .int y2), (3, .int y3), (4, .int y4)]) (st' := [.int 8748, .int y4]) (sh' := ab_SH) (D' := ab_dD h) (fun n => rfl) ?_
    refine ab_Ex.ifc (c := 8748 < y4) (SA := (133, [(0, .ref 35), (1, .int y1), (2, .int y2), (3, .int y3), (4, .int y4)], [], ab_dD h)) (SB := (26, [(0, .ref 35), (1, .int y1), (2, .int y2), (3, .int y3), (4, .int y4)], [], ab_dD h)) (fun n => rfl) (fun c1 => ?_) (fun c1 => ?_)
    · replace hf := (if_pos c1).symm.trans hf
      refine ab_Ex.blk (k := 1) (pc' := 134) (lv' := []) (st' := [.int 0]) (sh' := ab_SH) (D' := ab_dD h) (fun n => rfl) ?_
      obtain rfl := Option.some.inj hf
      exact ab_Ex.ret (fun n => rfl) rfl
    · replace hf := (if_neg c1).symm.trans hf
      refine ab_Ex.blk (k := 4) (pc' := 34) (lv' := [(0, .ref 35), (1, .int y1), (2, .int y2), (3, .int y3), (4, .int y4)]) (st' := [.int ((h.1 35 12)), .int ((h.1 35 11))]) (sh' := ab_SH) (D' := ab_dD h) (fun n => rfl) ?_
      refine ab_Ex.ifc (c := (h.1 35 11) < (h.1 35 12)) (SA := (45, [(0, .ref 35), (1, .int y1), (2, .int y2), (3, .int y3), (4, .int y4)], [], ab_dD h)) (SB := (37, [(0, .ref 35), (1, .int y1), (2, .int y2), (3, .int y3), (4, .int y4)], [], ab_dD h)) (fun n => rfl) (fun c2 => ?_) (fun c2 => ?_)
      · replace hf := (if_pos c2).symm.trans hf
        exact sX8_reachTurned_J45 d X (fun y1 y2 y3 y4 h => fX8_reachTurned_L18 n y1 y2 y3 y4 h) (fun y1 y2 y3 y4 h z hz => ih y1 y2 y3 y4 h z hz) y1 y2 y3 y4 h _ hf
      · replace hf := (if_neg c2).symm.trans hf
        refine ab_Ex.blk (k := 3) (pc' := 42) (lv' := [(0, .ref 35), (1, .int y1), (2, .int y2), (3, .int y3), (4, .int y4)]) (st' := [.int y3, .int ((h.1 35 13))]) (sh' := ab_SH) (D' := ab_dD h) (fun n => rfl) ?_
        refine ab_Ex.ifc (c := y3 ≤ (h.1 35 13)) (SA := (133, [(0, .ref 35), (1, .int y1), (2, .int y2), (3, .int y3), (4, .int y4)], [], ab_dD h)) (SB := (45, [(0, .ref 35), (1, .int y1), (2, .int y2), (3, .int y3), (4, .int y4)], [], ab_dD h)) (fun n => rfl) (fun c14 => ?_) (fun c14 => ?_)
        · replace hf := (if_pos c14).symm.trans hf
          refine ab_Ex.blk (k := 1) (pc' := 134) (lv' := []) (st' := [.int 0]) (sh' := ab_SH) (D' := ab_dD h) (fun n => rfl) ?_
          obtain rfl := Option.some.inj hf
          exact ab_Ex.ret (fun n => rfl) rfl
        · replace hf := (if_neg c14).symm.trans hf
          exact sX8_reachTurned_J45 d X (fun y1 y2 y3 y4 h => fX8_reachTurned_L18 n y1 y2 y3 y4 h) (fun y1 y2 y3 y4 h z hz => ih y1 y2 y3 y4 h z hz) y1 y2 y3 y4 h _ hf
set_option maxRecDepth 20000 in
theorem sX8_reachTurned (d : Nat) (X : abX) (x0 : Int32) (x1 : Int32) (h : abJ) (z : (Int32 × abJ)) (hf : fX8_reachTurned x0 x1 h = some z) : ab_Ex X (d + 4) 109 0 [(0, .ref 35), (1, .int x0), (2, .int x1)] [] ab_SH (ab_dD h) (fun r => r = (some (.int z.1), ab_SH, ab_dD z.2)) := by
  unfold fX8_reachTurned at hf
  refine ab_Ex.blk (k := 11) (pc' := 18) (lv' := [(0, .ref 35), (1, .int x0), (2, .int x1), (3, .int ((h.1 35 14))), (4, .int 0)]) (st' := []) (sh' := ab_SH) (D' := ab_dD (ab_wI (ab_wI h 35 11 0) 35 12 0)) (fun n => rfl) ?_
  exact sX8_reachTurned_L18 d X  ab_N x0 x1 ((h.1 35 14)) 0 (ab_wI (ab_wI h 35 11 0) 35 12 0) _ hf
def fX8_reachByHand_L25   : Nat → Int32 → Int32 → Int32 → abJ → Option (Int32 × abJ)
  | 0, _, _, _, _ => none
  | n + 1, y1, y3, y4, h => if 4374 < y4 then some (0, h) else if (h.1 35 14) ≤ (h.1 35 13) then some (0, h) else (fX8_reachTurned y1 y3 (ab_wI h 35 9 y4)).bind (fun r4 => if r4.1 = 0 then fX8_reachByHand_L25 n y1 y3 ((y4 + 1)) r4.2 else some (1, r4.2))
def fX8_reachByHand (x0 : Int32) (x1 : Int32) (x2 : Int32) (h : abJ) : Option (Int32 × abJ) := (fX8_clearSeen 0 h).bind (fun r1 => fX8_reachByHand_L25 ab_N x0 x2 0 (ab_wI (ab_wI (ab_wI r1 36 0 x1) 35 13 0) 35 14 1))
set_option maxRecDepth 20000 in
theorem sX8_reachByHand_L25 (d : Nat) (X : abX)   : ∀ (n : Nat), ∀ (y1 : Int32) (y3 : Int32) (y4 : Int32) (h : abJ) (z : (Int32 × abJ)), fX8_reachByHand_L25 n y1 y3 y4 h = some z → ab_Ex X (d + 5) 108 25 [(0, .ref 35), (1, .int y1), (3, .int y3), (4, .int y4)] [] ab_SH (ab_dD h) (fun r => r = (some (.int z.1), ab_SH, ab_dD z.2)) := by
  intro n
  induction n with
  | zero => intro y1 y3 y4 h z hf; cases hf
  | succ n ih =>
    intro y1 y3 y4 h z hf
    rw [fX8_reachByHand_L25] at hf
    refine ab_Ex.blk (k := 2) (pc' := 30) (lv' := [(0, .ref 35), (1, .int y1), (3, .int y3), (4, .int y4)]) (st' := [.int 4374, .int y4]) (sh' := ab_SH) (D' := ab_dD h) (fun n => rfl) ?_
    refine ab_Ex.ifc (c := 4374 < y4) (SA := (67, [(0, .ref 35), (1, .int y1), (3, .int y3), (4, .int y4)], [], ab_dD h)) (SB := (33, [(0, .ref 35), (1, .int y1), (3, .int y3), (4, .int y4)], [], ab_dD h)) (fun n => rfl) (fun c2 => ?_) (fun c2 => ?_)
    · replace hf := (if_pos c2).symm.trans hf
      refine ab_Ex.blk (k := 1) (pc' := 68) (lv' := []) (st' := [.int 0]) (sh' := ab_SH) (D' := ab_dD h) (fun n => rfl) ?_
      obtain rfl := Option.some.inj hf
      exact ab_Ex.ret (fun n => rfl) rfl
    · replace hf := (if_neg c2).symm.trans hf
      refine ab_Ex.blk (k := 4) (pc' := 41) (lv' := [(0, .ref 35), (1, .int y1), (3, .int y3), (4, .int y4)]) (st' := [.int ((h.1 35 14)), .int ((h.1 35 13))]) (sh' := ab_SH) (D' := ab_dD h) (fun n => rfl) ?_
      refine ab_Ex.ifc (c := (h.1 35 14) ≤ (h.1 35 13)) (SA := (67, [(0, .ref 35), (1, .int y1), (3, .int y3), (4, .int y4)], [], ab_dD h)) (SB := (44, [(0, .ref 35), (1, .int y1), (3, .int y3), (4, .int y4)], [], ab_dD h)) (fun n => rfl) (fun c3 => ?_) (fun c3 => ?_)
      · replace hf := (if_pos c3).symm.trans hf
        refine ab_Ex.blk (k := 1) (pc' := 68) (lv' := []) (st' := [.int 0]) (sh' := ab_SH) (D' := ab_dD h) (fun n => rfl) ?_
        obtain rfl := Option.some.inj hf
        exact ab_Ex.ret (fun n => rfl) rfl
      · replace hf := (if_neg c3).symm.trans hf
        refine ab_Ex.blk (k := 6) (pc' := 53) (lv' := [(0, .ref 35), (1, .int y1), (3, .int y3), (4, .int y4)]) (st' := [.int y3, .int y1, .ref 35]) (sh' := ab_SH) (D' := ab_dD (ab_wI h 35 9 y4)) (fun n => rfl) ?_
        obtain ⟨r4, hr4, hf⟩ := ab_bind_s hf
        refine ab_Ex.call (d := d + 4) (M2 := 109) (as := [.ref 35, .int y1, .int y3]) (rest := []) (fun n => rfl) rfl (Nat.not_lt.mpr (Nat.le_of_ble_eq_true rfl)) (sX8_reachTurned (d) X y1 y3 (ab_wI h 35 9 y4) _ hr4) (fun r hr => ?_)
        subst hr
        show ab_Ex X (d + 5) 108 56 [(0, .ref 35), (1, .int y1), (3, .int y3), (4, .int y4)] [.int r4.1] ab_SH (ab_dD r4.2) _
        refine ab_Ex.ifc (c := r4.1 = 0) (SA := (61, [(0, .ref 35), (1, .int y1), (3, .int y3), (4, .int y4)], [], ab_dD r4.2)) (SB := (59, [(0, .ref 35), (1, .int y1), (3, .int y3), (4, .int y4)], [], ab_dD r4.2)) (fun n => rfl) (fun c5 => ?_) (fun c5 => ?_)
        · replace hf := (if_pos c5).symm.trans hf
          refine ab_Ex.blk (k := 2) (pc' := 25) (lv' := [(0, .ref 35), (1, .int y1), (3, .int y3), (4, .int ((y4 + 1)))]) (st' := []) (sh' := ab_SH) (D' := ab_dD r4.2) (fun n => rfl) ?_
          exact ih y1 y3 ((y4 + 1)) r4.2 _ hf
        · replace hf := (if_neg c5).symm.trans hf
          refine ab_Ex.blk (k := 1) (pc' := 60) (lv' := [(0, .ref 35), (1, .int y1), (3, .int y3), (4, .int y4)]) (st' := [.int 1]) (sh' := ab_SH) (D' := ab_dD r4.2) (fun n => rfl) ?_
          obtain rfl := Option.some.inj hf
          exact ab_Ex.ret (fun n => rfl) rfl
set_option maxRecDepth 20000 in
theorem sX8_reachByHand (d : Nat) (X : abX) (x0 : Int32) (x1 : Int32) (x2 : Int32) (h : abJ) (z : (Int32 × abJ)) (hf : fX8_reachByHand x0 x1 x2 h = some z) : ab_Ex X (d + 5) 108 0 [(0, .ref 35), (1, .int x0), (2, .int x1), (3, .int x2)] [] ab_SH (ab_dD h) (fun r => r = (some (.int z.1), ab_SH, ab_dD z.2)) := by
  unfold fX8_reachByHand at hf
  refine ab_Ex.blk (k := 2) (pc' := 2) (lv' := [(0, .ref 35), (1, .int x0), (2, .int x1), (3, .int x2)]) (st' := [.int 0, .ref 35]) (sh' := ab_SH) (D' := ab_dD h) (fun n => rfl) ?_
  obtain ⟨r1, hr1, hf⟩ := ab_bind_s hf
  refine ab_Ex.call (d := d + 4) (M2 := 105) (as := [.ref 35, .int 0]) (rest := []) (fun n => rfl) rfl (Nat.not_lt.mpr (Nat.le_of_ble_eq_true rfl)) (sX8_clearSeen (d + 2) X 0 h _ hr1) (fun r hr => ?_)
  subst hr
  show ab_Ex X (d + 5) 108 5 [(0, .ref 35), (1, .int x0), (2, .int x1), (3, .int x2)] [] ab_SH (ab_dD r1) _
  refine ab_Ex.blk (k := 4) (pc' := 11) (lv' := [(0, .ref 35), (1, .int x0), (2, .int x1), (3, .int x2)]) (st' := [.int x1, .int 0, .ref 36]) (sh' := ab_SH) (D' := ab_dD r1) (fun n => rfl) ?_
  refine ab_Ex.blk (k := 1) (pc' := 12) (lv' := [(0, .ref 35), (1, .int x0), (2, .int x1), (3, .int x2)]) (st' := []) (sh' := ab_SH) (D' := ab_dD (ab_wI r1 36 0 x1)) (fun n => rfl) ?_
  refine ab_Ex.blk (k := 8) (pc' := 25) (lv' := [(0, .ref 35), (1, .int x0), (3, .int x2), (4, .int 0)]) (st' := []) (sh' := ab_SH) (D' := ab_dD (ab_wI (ab_wI (ab_wI r1 36 0 x1) 35 13 0) 35 14 1)) (fun n => rfl) ?_
  exact sX8_reachByHand_L25 d X  ab_N x0 x2 0 (ab_wI (ab_wI (ab_wI r1 36 0 x1) 35 13 0) 35 14 1) _ hf
def fX8_addAhead_J124 (x2 : Nat) (k71 : Int32 → Int32 → Int32 → Int32 → Int32 → Int32 → Int32 → Int32 → abJ → Option (Int32 × abJ)) (y1 : Int32) (y2 : Int32) (y5 : Int32) (y6 : Int32) (y7 : Int32) (y8 : Int32) (y9 : Int32) (y10 : Int32) (h : abJ) : Option (Int32 × abJ) := k71 y1 y2 y5 y6 y7 y8 y9 ((y10 + 1)) h
def fX8_addAhead_L71 (x2 : Nat) (k13 : Int32 → Int32 → Int32 → Int32 → Int32 → abJ → Option (Int32 × abJ)) : Nat → Int32 → Int32 → Int32 → Int32 → Int32 → Int32 → Int32 → Int32 → abJ → Option (Int32 × abJ)
  | 0, _, _, _, _, _, _, _, _, _ => none
  | n + 1, y1, y2, y5, y6, y7, y8, y9, y10, h => if y9 ≤ y10 then k13 y1 y2 y5 y6 ((y7 + 1)) h else (fX7_behind y1 y7 y10 h).bind (fun r7 => if r7 = y8 then if (Int32.ofNat (ab_ln x2)) ≤ y6 then fX8_addAhead_J124 x2 (fun y1 y2 y5 y6 y7 y8 y9 y10 h => fX8_addAhead_L71 x2 k13 n y1 y2 y5 y6 y7 y8 y9 y10 h) y1 y2 y5 y6 y7 y8 y9 y10 h else (fX11_withArm y5 y7 y10 h).bind (fun r10 => ab_ask (y6 < 0 ∨ (ab_ln x2) ≤ (y6 : Int32).toNatClampNeg) (fX8_addAhead_J124 x2 (fun y1 y2 y5 y6 y7 y8 y9 y10 h => fX8_addAhead_L71 x2 k13 n y1 y2 y5 y6 y7 y8 y9 y10 h) y1 y2 y5 ((y6 + 1)) y7 y8 y9 y10 (ab_wI h x2 (y6 : Int32).toNatClampNeg ((r10 * 6) + y7)))) else fX8_addAhead_J124 x2 (fun y1 y2 y5 y6 y7 y8 y9 y10 h => fX8_addAhead_L71 x2 k13 n y1 y2 y5 y6 y7 y8 y9 y10 h) y1 y2 y5 y6 y7 y8 y9 y10 h)
def fX8_addAhead_J66 (x2 : Nat) (k13 : Int32 → Int32 → Int32 → Int32 → Int32 → abJ → Option (Int32 × abJ)) (y1 : Int32) (y2 : Int32) (y5 : Int32) (y6 : Int32) (y7 : Int32) (y8 : Int32) (t0 : Int32) (h : abJ) : Option (Int32 × abJ) := fX8_addAhead_L71 x2 k13 ab_N y1 y2 y5 y6 y7 y8 t0 0 h
def fX8_addAhead_L13 (x2 : Nat)  : Nat → Int32 → Int32 → Int32 → Int32 → Int32 → abJ → Option (Int32 × abJ)
  | 0, _, _, _, _, _, _ => none
  | n + 1, y1, y2, y5, y6, y7, h => if (h.1 1 0) ≤ y7 then some (y6, h) else (fX11_armOf y5 y7 h).bind (fun r2 => (fX3_isHome y7 h).bind (fun r3 => if r3 = 0 then (fX3_roadsOf 1 y7 h).bind (fun r5 => fX8_addAhead_J66 x2 (fun y1 y2 y5 y6 y7 h => fX8_addAhead_L13 x2 n y1 y2 y5 y6 y7 h) y1 y2 y5 y6 y7 ((((y2 - y2 / 6 * 6) * 3) + r2)) r5 h) else fX8_addAhead_J66 x2 (fun y1 y2 y5 y6 y7 h => fX8_addAhead_L13 x2 n y1 y2 y5 y6 y7 h) y1 y2 y5 y6 y7 ((((y2 - y2 / 6 * 6) * 3) + r2)) 0 h))
def fX8_addAhead (x0 : Int32) (x1 : Int32) (x2 : Nat) (x3 : Int32) (h : abJ) : Option (Int32 × abJ) := fX8_addAhead_L13 x2 ab_N x0 x1 ((x1 / 6)) x3 0 h
set_option maxRecDepth 20000 in
theorem sX8_addAhead_J124_30 (d : Nat) (X : abX) (k71 : Int32 → Int32 → Int32 → Int32 → Int32 → Int32 → Int32 → Int32 → abJ → Option (Int32 × abJ)) (hk71 : ∀ (y1 : Int32) (y2 : Int32) (y5 : Int32) (y6 : Int32) (y7 : Int32) (y8 : Int32) (y9 : Int32) (y10 : Int32) (h : abJ) (z : (Int32 × abJ)), k71 y1 y2 y5 y6 y7 y8 y9 y10 h = some z → ab_Ex X (d + 2) 114 71 [(0, .ref 35), (1, .int y1), (2, .int y2), (3, .ref 30), (5, .int y5), (6, .int y6), (7, .int y7), (8, .int y8), (9, .int y9), (10, .int y10)] [] ab_SH (ab_dD h) (fun r => r = (some (.int z.1), ab_SH, ab_dD z.2))) : ∀ (y1 : Int32) (y2 : Int32) (y5 : Int32) (y6 : Int32) (y7 : Int32) (y8 : Int32) (y9 : Int32) (y10 : Int32) (h : abJ) (z : (Int32 × abJ)), fX8_addAhead_J124 30 k71 y1 y2 y5 y6 y7 y8 y9 y10 h = some z → ab_Ex X (d + 2) 114 124 [(0, .ref 35), (1, .int y1), (2, .int y2), (3, .ref 30), (5, .int y5), (6, .int y6), (7, .int y7), (8, .int y8), (9, .int y9), (10, .int y10)] [] ab_SH (ab_dD h) (fun r => r = (some (.int z.1), ab_SH, ab_dD z.2)) := by
  intro y1 y2 y5 y6 y7 y8 y9 y10 h z hf
  unfold fX8_addAhead_J124 at hf
  try simp only [Nat.reduceAdd] at hf
  refine ab_Ex.blk (k := 2) (pc' := 71) (lv' := [(0, .ref 35), (1, .int y1), (2, .int y2), (3, .ref 30), (5, .int y5), (6, .int y6), (7, .int y7), (8, .int y8), (9, .int y9), (10, .int ((y10 + 1)))]) (st' := []) (sh' := ab_SH) (D' := ab_dD h) (fun n => rfl) ?_
  exact hk71 y1 y2 y5 y6 y7 y8 y9 ((y10 + 1)) h _ hf
set_option maxRecDepth 20000 in
theorem sX8_addAhead_L71_30 (d : Nat) (X : abX) (k13 : Int32 → Int32 → Int32 → Int32 → Int32 → abJ → Option (Int32 × abJ)) (hk13 : ∀ (y1 : Int32) (y2 : Int32) (y5 : Int32) (y6 : Int32) (y7 : Int32) (h : abJ) (z : (Int32 × abJ)), k13 y1 y2 y5 y6 y7 h = some z → ab_Ex X (d + 2) 114 13 [(0, .ref 35), (1, .int y1), (2, .int y2), (3, .ref 30), (5, .int y5), (6, .int y6), (7, .int y7)] [] ab_SH (ab_dD h) (fun r => r = (some (.int z.1), ab_SH, ab_dD z.2))) : ∀ (n : Nat), ∀ (y1 : Int32) (y2 : Int32) (y5 : Int32) (y6 : Int32) (y7 : Int32) (y8 : Int32) (y9 : Int32) (y10 : Int32) (h : abJ) (z : (Int32 × abJ)), fX8_addAhead_L71 30 k13 n y1 y2 y5 y6 y7 y8 y9 y10 h = some z → ab_Ex X (d + 2) 114 71 [(0, .ref 35), (1, .int y1), (2, .int y2), (3, .ref 30), (5, .int y5), (6, .int y6), (7, .int y7), (8, .int y8), (9, .int y9), (10, .int y10)] [] ab_SH (ab_dD h) (fun r => r = (some (.int z.1), ab_SH, ab_dD z.2)) := by
  intro n
  induction n with
  | zero => intro y1 y2 y5 y6 y7 y8 y9 y10 h z hf; cases hf
  | succ n ih =>
    intro y1 y2 y5 y6 y7 y8 y9 y10 h z hf
    rw [fX8_addAhead_L71] at hf
    try simp only [Nat.reduceAdd] at hf
    refine ab_Ex.blk (k := 2) (pc' := 75) (lv' := [(0, .ref 35), (1, .int y1), (2, .int y2), (3, .ref 30), (5, .int y5), (6, .int y6), (7, .int y7), (8, .int y8), (9, .int y9), (10, .int y10)]) (st' := [.int y9, .int y10]) (sh' := ab_SH) (D' := ab_dD h) (fun n => rfl) ?_
    refine ab_Ex.ifc (c := y9 ≤ y10) (SA := (130, [(0, .ref 35), (1, .int y1), (2, .int y2), (3, .ref 30), (5, .int y5), (6, .int y6), (7, .int y7), (8, .int y8), (9, .int y9), (10, .int y10)], [], ab_dD h)) (SB := (78, [(0, .ref 35), (1, .int y1), (2, .int y2), (3, .ref 30), (5, .int y5), (6, .int y6), (7, .int y7), (8, .int y8), (9, .int y9), (10, .int y10)], [], ab_dD h)) (fun n => rfl) (fun c6 => ?_) (fun c6 => ?_)
    · replace hf := (if_pos c6).symm.trans hf
      refine ab_Ex.blk (k := 2) (pc' := 13) (lv' := [(0, .ref 35), (1, .int y1), (2, .int y2), (3, .ref 30), (5, .int y5), (6, .int y6), (7, .int ((y7 + 1)))]) (st' := []) (sh' := ab_SH) (D' := ab_dD h) (fun n => rfl) ?_
      exact hk13 y1 y2 y5 y6 ((y7 + 1)) h _ hf
    · replace hf := (if_neg c6).symm.trans hf
      refine ab_Ex.blk (k := 5) (pc' := 87) (lv' := [(0, .ref 35), (1, .int y1), (2, .int y2), (3, .ref 30), (5, .int y5), (6, .int y6), (7, .int y7), (8, .int y8), (9, .int y9), (10, .int y10)]) (st' := [.int y10, .int y7, .int y1, .ref 13]) (sh' := ab_SH) (D' := ab_dD h) (fun n => rfl) ?_
      obtain ⟨r7, hr7, hf⟩ := ab_bind_s hf
      refine ab_Ex.call (d := d + 1) (M2 := 98) (as := [.ref 13, .int y1, .int y7, .int y10]) (rest := []) (fun n => rfl) rfl (Nat.not_lt.mpr (Nat.le_of_ble_eq_true rfl)) (sX7_behind (d + 1) X y1 y7 y10 h _ hr7) (fun r hr => ?_)
      subst hr
      show ab_Ex X (d + 2) 114 90 [(0, .ref 35), (1, .int y1), (2, .int y2), (3, .ref 30), (5, .int y5), (6, .int y6), (7, .int y7), (8, .int y8), (9, .int y9), (10, .int y10)] [.int r7] ab_SH (ab_dD h) _
      refine ab_Ex.blk (k := 1) (pc' := 92) (lv' := [(0, .ref 35), (1, .int y1), (2, .int y2), (3, .ref 30), (5, .int y5), (6, .int y6), (7, .int y7), (8, .int y8), (9, .int y9), (10, .int y10)]) (st' := [.int y8, .int r7]) (sh' := ab_SH) (D' := ab_dD h) (fun n => rfl) ?_
      refine ab_Ex.ifc (c := r7 = y8) (SA := (95, [(0, .ref 35), (1, .int y1), (2, .int y2), (3, .ref 30), (5, .int y5), (6, .int y6), (7, .int y7), (8, .int y8), (9, .int y9), (10, .int y10)], [], ab_dD h)) (SB := (124, [(0, .ref 35), (1, .int y1), (2, .int y2), (3, .ref 30), (5, .int y5), (6, .int y6), (7, .int y7), (8, .int y8), (9, .int y9), (10, .int y10)], [], ab_dD h)) (fun n => rfl) (fun c8 => ?_) (fun c8 => ?_)
      · replace hf := (if_pos c8).symm.trans hf
        refine ab_Ex.blk (k := 3) (pc' := 99) (lv' := [(0, .ref 35), (1, .int y1), (2, .int y2), (3, .ref 30), (5, .int y5), (6, .int y6), (7, .int y7), (8, .int y8), (9, .int y9), (10, .int y10)]) (st' := [.int ((Int32.ofNat 4375)), .int y6]) (sh' := ab_SH) (D' := ab_dD h) (fun n => rfl) ?_
        refine ab_Ex.ifc (c := (Int32.ofNat 4375) ≤ y6) (SA := (124, [(0, .ref 35), (1, .int y1), (2, .int y2), (3, .ref 30), (5, .int y5), (6, .int y6), (7, .int y7), (8, .int y8), (9, .int y9), (10, .int y10)], [], ab_dD h)) (SB := (102, [(0, .ref 35), (1, .int y1), (2, .int y2), (3, .ref 30), (5, .int y5), (6, .int y6), (7, .int y7), (8, .int y8), (9, .int y9), (10, .int y10)], [], ab_dD h)) (fun n => rfl) (fun c9 => ?_) (fun c9 => ?_)
        · replace hf := (if_pos c9).symm.trans hf
          exact sX8_addAhead_J124_30 d X (fun y1 y2 y5 y6 y7 y8 y9 y10 h => fX8_addAhead_L71 30 k13 n y1 y2 y5 y6 y7 y8 y9 y10 h) (fun y1 y2 y5 y6 y7 y8 y9 y10 h z hz => ih y1 y2 y5 y6 y7 y8 y9 y10 h z hz) y1 y2 y5 y6 y7 y8 y9 y10 h _ hf
        · replace hf := (if_neg c9).symm.trans hf
          refine ab_Ex.blk (k := 5) (pc' := 111) (lv' := [(0, .ref 35), (1, .int y1), (2, .int y2), (3, .ref 30), (5, .int y5), (6, .int y6), (7, .int y7), (8, .int y8), (9, .int y9), (10, .int y10)]) (st' := [.int y10, .int y7, .int y5, .int y6, .ref 30]) (sh' := ab_SH) (D' := ab_dD h) (fun n => rfl) ?_
          obtain ⟨r10, hr10, hf⟩ := ab_bind_s hf
          refine ab_Ex.call (d := d + 1) (M2 := 173) (as := [.int y5, .int y7, .int y10]) (rest := [.int y6, .ref 30]) (fun n => rfl) rfl (Nat.not_lt.mpr (Nat.le_of_ble_eq_true rfl)) (sX11_withArm (d) X y5 y7 y10 h _ hr10) (fun r hr => ?_)
          subst hr
          show ab_Ex X (d + 2) 114 114 [(0, .ref 35), (1, .int y1), (2, .int y2), (3, .ref 30), (5, .int y5), (6, .int y6), (7, .int y7), (8, .int y8), (9, .int y9), (10, .int y10)] [.int r10, .int y6, .ref 30] ab_SH (ab_dD h) _
          refine ab_Ex.blk (k := 4) (pc' := 120) (lv' := [(0, .ref 35), (1, .int y1), (2, .int y2), (3, .ref 30), (5, .int y5), (6, .int y6), (7, .int y7), (8, .int y8), (9, .int y9), (10, .int y10)]) (st' := [.int (((r10 * 6) + y7)), .int y6, .ref 30]) (sh' := ab_SH) (D' := ab_dD h) (fun n => rfl) ?_
          obtain ⟨c11, hf⟩ := ab_ask_s hf
          refine ab_Ex.grd (c := y6 < 0 ∨ 4375 ≤ (y6 : Int32).toNatClampNeg) (S := (121, [(0, .ref 35), (1, .int y1), (2, .int y2), (3, .ref 30), (5, .int y5), (6, .int y6), (7, .int y7), (8, .int y8), (9, .int y9), (10, .int y10)], [], ab_dD (ab_wI h 30 (y6 : Int32).toNatClampNeg ((r10 * 6) + y7)))) (fun n => rfl) c11 ?_
          refine ab_Ex.blk (k := 1) (pc' := 124) (lv' := [(0, .ref 35), (1, .int y1), (2, .int y2), (3, .ref 30), (5, .int y5), (6, .int ((y6 + 1))), (7, .int y7), (8, .int y8), (9, .int y9), (10, .int y10)]) (st' := []) (sh' := ab_SH) (D' := ab_dD (ab_wI h 30 (y6 : Int32).toNatClampNeg ((r10 * 6) + y7))) (fun n => rfl) ?_
          exact sX8_addAhead_J124_30 d X (fun y1 y2 y5 y6 y7 y8 y9 y10 h => fX8_addAhead_L71 30 k13 n y1 y2 y5 y6 y7 y8 y9 y10 h) (fun y1 y2 y5 y6 y7 y8 y9 y10 h z hz => ih y1 y2 y5 y6 y7 y8 y9 y10 h z hz) y1 y2 y5 ((y6 + 1)) y7 y8 y9 y10 (ab_wI h 30 (y6 : Int32).toNatClampNeg ((r10 * 6) + y7)) _ hf
      · replace hf := (if_neg c8).symm.trans hf
        exact sX8_addAhead_J124_30 d X (fun y1 y2 y5 y6 y7 y8 y9 y10 h => fX8_addAhead_L71 30 k13 n y1 y2 y5 y6 y7 y8 y9 y10 h) (fun y1 y2 y5 y6 y7 y8 y9 y10 h z hz => ih y1 y2 y5 y6 y7 y8 y9 y10 h z hz) y1 y2 y5 y6 y7 y8 y9 y10 h _ hf
set_option maxRecDepth 20000 in
theorem sX8_addAhead_J66_30 (d : Nat) (X : abX) (k13 : Int32 → Int32 → Int32 → Int32 → Int32 → abJ → Option (Int32 × abJ)) (hk13 : ∀ (y1 : Int32) (y2 : Int32) (y5 : Int32) (y6 : Int32) (y7 : Int32) (h : abJ) (z : (Int32 × abJ)), k13 y1 y2 y5 y6 y7 h = some z → ab_Ex X (d + 2) 114 13 [(0, .ref 35), (1, .int y1), (2, .int y2), (3, .ref 30), (5, .int y5), (6, .int y6), (7, .int y7)] [] ab_SH (ab_dD h) (fun r => r = (some (.int z.1), ab_SH, ab_dD z.2))) : ∀ (y1 : Int32) (y2 : Int32) (y5 : Int32) (y6 : Int32) (y7 : Int32) (y8 : Int32) (t0 : Int32) (h : abJ) (z : (Int32 × abJ)), fX8_addAhead_J66 30 k13 y1 y2 y5 y6 y7 y8 t0 h = some z → ab_Ex X (d + 2) 114 66 [(0, .ref 35), (1, .int y1), (2, .int y2), (3, .ref 30), (5, .int y5), (6, .int y6), (7, .int y7), (8, .int y8)] [.int t0] ab_SH (ab_dD h) (fun r => r = (some (.int z.1), ab_SH, ab_dD z.2)) := by
  intro y1 y2 y5 y6 y7 y8 t0 h z hf
  unfold fX8_addAhead_J66 at hf
  try simp only [Nat.reduceAdd] at hf
  refine ab_Ex.blk (k := 3) (pc' := 71) (lv' := [(0, .ref 35), (1, .int y1), (2, .int y2), (3, .ref 30), (5, .int y5), (6, .int y6), (7, .int y7), (8, .int y8), (9, .int t0), (10, .int 0)]) (st' := []) (sh' := ab_SH) (D' := ab_dD h) (fun n => rfl) ?_
  exact sX8_addAhead_L71_30 d X k13 hk13 ab_N y1 y2 y5 y6 y7 y8 t0 0 h _ hf
set_option maxRecDepth 20000 in
theorem sX8_addAhead_L13_30 (d : Nat) (X : abX)   : ∀ (n : Nat), ∀ (y1 : Int32) (y2 : Int32) (y5 : Int32) (y6 : Int32) (y7 : Int32) (h : abJ) (z : (Int32 × abJ)), fX8_addAhead_L13 30 n y1 y2 y5 y6 y7 h = some z → ab_Ex X (d + 2) 114 13 [(0, .ref 35), (1, .int y1), (2, .int y2), (3, .ref 30), (5, .int y5), (6, .int y6), (7, .int y7)] [] ab_SH (ab_dD h) (fun r => r = (some (.int z.1), ab_SH, ab_dD z.2)) := by
  intro n
  induction n with
  | zero => intro y1 y2 y5 y6 y7 h z hf; cases hf
  | succ n ih =>
    intro y1 y2 y5 y6 y7 h z hf
    rw [fX8_addAhead_L13] at hf
    try simp only [Nat.reduceAdd] at hf
    refine ab_Ex.blk (k := 4) (pc' := 22) (lv' := [(0, .ref 35), (1, .int y1), (2, .int y2), (3, .ref 30), (5, .int y5), (6, .int y6), (7, .int y7)]) (st' := [.int ((h.1 1 0)), .int y7]) (sh' := ab_SH) (D' := ab_dD h) (fun n => rfl) ?_
    refine ab_Ex.ifc (c := (h.1 1 0) ≤ y7) (SA := (136, [(0, .ref 35), (1, .int y1), (2, .int y2), (3, .ref 30), (5, .int y5), (6, .int y6), (7, .int y7)], [], ab_dD h)) (SB := (25, [(0, .ref 35), (1, .int y1), (2, .int y2), (3, .ref 30), (5, .int y5), (6, .int y6), (7, .int y7)], [], ab_dD h)) (fun n => rfl) (fun c1 => ?_) (fun c1 => ?_)
    · replace hf := (if_pos c1).symm.trans hf
      refine ab_Ex.blk (k := 1) (pc' := 138) (lv' := [(0, .ref 35), (1, .int y1), (2, .int y2), (3, .ref 30), (5, .int y5), (6, .int y6), (7, .int y7)]) (st' := [.int y6]) (sh' := ab_SH) (D' := ab_dD h) (fun n => rfl) ?_
      obtain rfl := Option.some.inj hf
      exact ab_Ex.ret (fun n => rfl) rfl
    · replace hf := (if_neg c1).symm.trans hf
      refine ab_Ex.blk (k := 2) (pc' := 28) (lv' := [(0, .ref 35), (1, .int y1), (2, .int y2), (3, .ref 30), (5, .int y5), (6, .int y6), (7, .int y7)]) (st' := [.int 6, .int y2]) (sh' := ab_SH) (D' := ab_dD h) (fun n => rfl) ?_
      refine ab_Ex.blk (k := 1) (pc' := 29) (lv' := [(0, .ref 35), (1, .int y1), (2, .int y2), (3, .ref 30), (5, .int y5), (6, .int y6), (7, .int y7)]) (st' := [.int ((y2 - y2 / 6 * 6))]) (sh' := ab_SH) (D' := ab_dD h) (fun n => rfl) ?_
      refine ab_Ex.blk (k := 4) (pc' := 35) (lv' := [(0, .ref 35), (1, .int y1), (2, .int y2), (3, .ref 30), (5, .int y5), (6, .int y6), (7, .int y7)]) (st' := [.int y7, .int y5, .int (((y2 - y2 / 6 * 6) * 3))]) (sh' := ab_SH) (D' := ab_dD h) (fun n => rfl) ?_
      obtain ⟨r2, hr2, hf⟩ := ab_bind_s hf
      refine ab_Ex.call (d := d + 1) (M2 := 172) (as := [.int y5, .int y7]) (rest := [.int (((y2 - y2 / 6 * 6) * 3))]) (fun n => rfl) rfl (Nat.not_lt.mpr (Nat.le_of_ble_eq_true rfl)) (sX11_armOf (d + 1) X y5 y7 h _ hr2) (fun r hr => ?_)
      subst hr
      show ab_Ex X (d + 2) 114 38 [(0, .ref 35), (1, .int y1), (2, .int y2), (3, .ref 30), (5, .int y5), (6, .int y6), (7, .int y7)] [.int r2, .int (((y2 - y2 / 6 * 6) * 3))] ab_SH (ab_dD h) _
      refine ab_Ex.blk (k := 5) (pc' := 47) (lv' := [(8, .int ((((y2 - y2 / 6 * 6) * 3) + r2))), (0, .ref 35), (1, .int y1), (2, .int y2), (3, .ref 30), (5, .int y5), (6, .int y6), (7, .int y7)]) (st' := [.int y7, .ref 1]) (sh' := ab_SH) (D' := ab_dD h) (fun n => rfl) ?_
      obtain ⟨r3, hr3, hf⟩ := ab_bind_s hf
      refine ab_Ex.call (d := d + 1) (M2 := 37) (as := [.ref 1, .int y7]) (rest := []) (fun n => rfl) rfl (Nat.not_lt.mpr (Nat.le_of_ble_eq_true rfl)) (sX3_isHome (d) X y7 h _ hr3) (fun r hr => ?_)
      subst hr
      show ab_Ex X (d + 2) 114 50 [(8, .int ((((y2 - y2 / 6 * 6) * 3) + r2))), (0, .ref 35), (1, .int y1), (2, .int y2), (3, .ref 30), (5, .int y5), (6, .int y6), (7, .int y7)] [.int r3] ab_SH (ab_dD h) _
      refine ab_Ex.ifc (c := r3 = 0) (SA := (57, [(8, .int ((((y2 - y2 / 6 * 6) * 3) + r2))), (0, .ref 35), (1, .int y1), (2, .int y2), (3, .ref 30), (5, .int y5), (6, .int y6), (7, .int y7)], [], ab_dD h)) (SB := (53, [(8, .int ((((y2 - y2 / 6 * 6) * 3) + r2))), (0, .ref 35), (1, .int y1), (2, .int y2), (3, .ref 30), (5, .int y5), (6, .int y6), (7, .int y7)], [], ab_dD h)) (fun n => rfl) (fun c4 => ?_) (fun c4 => ?_)
      · replace hf := (if_pos c4).symm.trans hf
        refine ab_Ex.blk (k := 3) (pc' := 63) (lv' := [(8, .int ((((y2 - y2 / 6 * 6) * 3) + r2))), (0, .ref 35), (1, .int y1), (2, .int y2), (3, .ref 30), (5, .int y5), (6, .int y6), (7, .int y7)]) (st' := [.int y7, .ref 1]) (sh' := ab_SH) (D' := ab_dD h) (fun n => rfl) ?_
        obtain ⟨r5, hr5, hf⟩ := ab_bind_s hf
        refine ab_Ex.call (d := d + 1) (M2 := 35) (as := [.ref 1, .int y7]) (rest := []) (fun n => rfl) rfl (Nat.not_lt.mpr (Nat.le_of_ble_eq_true rfl)) (sX3_roadsOf_1 (d + 1) X y7 h _ hr5) (fun r hr => ?_)
        subst hr
        show ab_Ex X (d + 2) 114 66 [(0, .ref 35), (1, .int y1), (2, .int y2), (3, .ref 30), (5, .int y5), (6, .int y6), (7, .int y7), (8, .int ((((y2 - y2 / 6 * 6) * 3) + r2)))] [.int r5] ab_SH (ab_dD h) _
        exact sX8_addAhead_J66_30 d X (fun y1 y2 y5 y6 y7 h => fX8_addAhead_L13 30 n y1 y2 y5 y6 y7 h) (fun y1 y2 y5 y6 y7 h z hz => ih y1 y2 y5 y6 y7 h z hz) y1 y2 y5 y6 y7 ((((y2 - y2 / 6 * 6) * 3) + r2)) r5 h _ hf
      · replace hf := (if_neg c4).symm.trans hf
        refine ab_Ex.blk (k := 2) (pc' := 66) (lv' := [(0, .ref 35), (1, .int y1), (2, .int y2), (3, .ref 30), (5, .int y5), (6, .int y6), (7, .int y7), (8, .int ((((y2 - y2 / 6 * 6) * 3) + r2)))]) (st' := [.int 0]) (sh' := ab_SH) (D' := ab_dD h) (fun n => rfl) ?_
        exact sX8_addAhead_J66_30 d X (fun y1 y2 y5 y6 y7 h => fX8_addAhead_L13 30 n y1 y2 y5 y6 y7 h) (fun y1 y2 y5 y6 y7 h z hz => ih y1 y2 y5 y6 y7 h z hz) y1 y2 y5 y6 y7 ((((y2 - y2 / 6 * 6) * 3) + r2)) 0 h _ hf
set_option maxRecDepth 20000 in
theorem sX8_addAhead_30 (d : Nat) (X : abX) (x0 : Int32) (x1 : Int32) (x3 : Int32) (h : abJ) (z : (Int32 × abJ)) (hf : fX8_addAhead x0 x1 30 x3 h = some z) : ab_Ex X (d + 2) 114 0 [(0, .ref 35), (1, .int x0), (2, .int x1), (3, .ref 30), (4, .int x3)] [] ab_SH (ab_dD h) (fun r => r = (some (.int z.1), ab_SH, ab_dD z.2)) := by
  unfold fX8_addAhead at hf
  try simp only [Nat.reduceAdd] at hf
  refine ab_Ex.blk (k := 2) (pc' := 3) (lv' := [(0, .ref 35), (1, .int x0), (2, .int x1), (3, .ref 30), (4, .int x3)]) (st' := [.int 6, .int x1]) (sh' := ab_SH) (D' := ab_dD h) (fun n => rfl) ?_
  refine ab_Ex.blk (k := 1) (pc' := 4) (lv' := [(0, .ref 35), (1, .int x0), (2, .int x1), (3, .ref 30), (4, .int x3)]) (st' := [.int ((x1 / 6))]) (sh' := ab_SH) (D' := ab_dD h) (fun n => rfl) ?_
  refine ab_Ex.blk (k := 5) (pc' := 13) (lv' := [(0, .ref 35), (1, .int x0), (2, .int x1), (3, .ref 30), (5, .int ((x1 / 6))), (6, .int x3), (7, .int 0)]) (st' := []) (sh' := ab_SH) (D' := ab_dD h) (fun n => rfl) ?_
  exact sX8_addAhead_L13_30 d X  ab_N x0 x1 ((x1 / 6)) x3 0 h _ hf
set_option maxRecDepth 20000 in
theorem sX8_addAhead_J124_36 (d : Nat) (X : abX) (k71 : Int32 → Int32 → Int32 → Int32 → Int32 → Int32 → Int32 → Int32 → abJ → Option (Int32 × abJ)) (hk71 : ∀ (y1 : Int32) (y2 : Int32) (y5 : Int32) (y6 : Int32) (y7 : Int32) (y8 : Int32) (y9 : Int32) (y10 : Int32) (h : abJ) (z : (Int32 × abJ)), k71 y1 y2 y5 y6 y7 y8 y9 y10 h = some z → ab_Ex X (d + 2) 114 71 [(0, .ref 35), (1, .int y1), (2, .int y2), (3, .ref 36), (5, .int y5), (6, .int y6), (7, .int y7), (8, .int y8), (9, .int y9), (10, .int y10)] [] ab_SH (ab_dD h) (fun r => r = (some (.int z.1), ab_SH, ab_dD z.2))) : ∀ (y1 : Int32) (y2 : Int32) (y5 : Int32) (y6 : Int32) (y7 : Int32) (y8 : Int32) (y9 : Int32) (y10 : Int32) (h : abJ) (z : (Int32 × abJ)), fX8_addAhead_J124 36 k71 y1 y2 y5 y6 y7 y8 y9 y10 h = some z → ab_Ex X (d + 2) 114 124 [(0, .ref 35), (1, .int y1), (2, .int y2), (3, .ref 36), (5, .int y5), (6, .int y6), (7, .int y7), (8, .int y8), (9, .int y9), (10, .int y10)] [] ab_SH (ab_dD h) (fun r => r = (some (.int z.1), ab_SH, ab_dD z.2)) := by
  intro y1 y2 y5 y6 y7 y8 y9 y10 h z hf
  unfold fX8_addAhead_J124 at hf
  try simp only [Nat.reduceAdd] at hf
  refine ab_Ex.blk (k := 2) (pc' := 71) (lv' := [(0, .ref 35), (1, .int y1), (2, .int y2), (3, .ref 36), (5, .int y5), (6, .int y6), (7, .int y7), (8, .int y8), (9, .int y9), (10, .int ((y10 + 1)))]) (st' := []) (sh' := ab_SH) (D' := ab_dD h) (fun n => rfl) ?_
  exact hk71 y1 y2 y5 y6 y7 y8 y9 ((y10 + 1)) h _ hf
set_option maxRecDepth 20000 in
theorem sX8_addAhead_L71_36 (d : Nat) (X : abX) (k13 : Int32 → Int32 → Int32 → Int32 → Int32 → abJ → Option (Int32 × abJ)) (hk13 : ∀ (y1 : Int32) (y2 : Int32) (y5 : Int32) (y6 : Int32) (y7 : Int32) (h : abJ) (z : (Int32 × abJ)), k13 y1 y2 y5 y6 y7 h = some z → ab_Ex X (d + 2) 114 13 [(0, .ref 35), (1, .int y1), (2, .int y2), (3, .ref 36), (5, .int y5), (6, .int y6), (7, .int y7)] [] ab_SH (ab_dD h) (fun r => r = (some (.int z.1), ab_SH, ab_dD z.2))) : ∀ (n : Nat), ∀ (y1 : Int32) (y2 : Int32) (y5 : Int32) (y6 : Int32) (y7 : Int32) (y8 : Int32) (y9 : Int32) (y10 : Int32) (h : abJ) (z : (Int32 × abJ)), fX8_addAhead_L71 36 k13 n y1 y2 y5 y6 y7 y8 y9 y10 h = some z → ab_Ex X (d + 2) 114 71 [(0, .ref 35), (1, .int y1), (2, .int y2), (3, .ref 36), (5, .int y5), (6, .int y6), (7, .int y7), (8, .int y8), (9, .int y9), (10, .int y10)] [] ab_SH (ab_dD h) (fun r => r = (some (.int z.1), ab_SH, ab_dD z.2)) := by
  intro n
  induction n with
  | zero => intro y1 y2 y5 y6 y7 y8 y9 y10 h z hf; cases hf
  | succ n ih =>
    intro y1 y2 y5 y6 y7 y8 y9 y10 h z hf
    rw [fX8_addAhead_L71] at hf
    try simp only [Nat.reduceAdd] at hf
    refine ab_Ex.blk (k := 2) (pc' := 75) (lv' := [(0, .ref 35), (1, .int y1), (2, .int y2), (3, .ref 36), (5, .int y5), (6, .int y6), (7, .int y7), (8, .int y8), (9, .int y9), (10, .int y10)]) (st' := [.int y9, .int y10]) (sh' := ab_SH) (D' := ab_dD h) (fun n => rfl) ?_
    refine ab_Ex.ifc (c := y9 ≤ y10) (SA := (130, [(0, .ref 35), (1, .int y1), (2, .int y2), (3, .ref 36), (5, .int y5), (6, .int y6), (7, .int y7), (8, .int y8), (9, .int y9), (10, .int y10)], [], ab_dD h)) (SB := (78, [(0, .ref 35), (1, .int y1), (2, .int y2), (3, .ref 36), (5, .int y5), (6, .int y6), (7, .int y7), (8, .int y8), (9, .int y9), (10, .int y10)], [], ab_dD h)) (fun n => rfl) (fun c6 => ?_) (fun c6 => ?_)
    · replace hf := (if_pos c6).symm.trans hf
      refine ab_Ex.blk (k := 2) (pc' := 13) (lv' := [(0, .ref 35), (1, .int y1), (2, .int y2), (3, .ref 36), (5, .int y5), (6, .int y6), (7, .int ((y7 + 1)))]) (st' := []) (sh' := ab_SH) (D' := ab_dD h) (fun n => rfl) ?_
      exact hk13 y1 y2 y5 y6 ((y7 + 1)) h _ hf
    · replace hf := (if_neg c6).symm.trans hf
      refine ab_Ex.blk (k := 5) (pc' := 87) (lv' := [(0, .ref 35), (1, .int y1), (2, .int y2), (3, .ref 36), (5, .int y5), (6, .int y6), (7, .int y7), (8, .int y8), (9, .int y9), (10, .int y10)]) (st' := [.int y10, .int y7, .int y1, .ref 13]) (sh' := ab_SH) (D' := ab_dD h) (fun n => rfl) ?_
      obtain ⟨r7, hr7, hf⟩ := ab_bind_s hf
      refine ab_Ex.call (d := d + 1) (M2 := 98) (as := [.ref 13, .int y1, .int y7, .int y10]) (rest := []) (fun n => rfl) rfl (Nat.not_lt.mpr (Nat.le_of_ble_eq_true rfl)) (sX7_behind (d + 1) X y1 y7 y10 h _ hr7) (fun r hr => ?_)
      subst hr
      show ab_Ex X (d + 2) 114 90 [(0, .ref 35), (1, .int y1), (2, .int y2), (3, .ref 36), (5, .int y5), (6, .int y6), (7, .int y7), (8, .int y8), (9, .int y9), (10, .int y10)] [.int r7] ab_SH (ab_dD h) _
      refine ab_Ex.blk (k := 1) (pc' := 92) (lv' := [(0, .ref 35), (1, .int y1), (2, .int y2), (3, .ref 36), (5, .int y5), (6, .int y6), (7, .int y7), (8, .int y8), (9, .int y9), (10, .int y10)]) (st' := [.int y8, .int r7]) (sh' := ab_SH) (D' := ab_dD h) (fun n => rfl) ?_
      refine ab_Ex.ifc (c := r7 = y8) (SA := (95, [(0, .ref 35), (1, .int y1), (2, .int y2), (3, .ref 36), (5, .int y5), (6, .int y6), (7, .int y7), (8, .int y8), (9, .int y9), (10, .int y10)], [], ab_dD h)) (SB := (124, [(0, .ref 35), (1, .int y1), (2, .int y2), (3, .ref 36), (5, .int y5), (6, .int y6), (7, .int y7), (8, .int y8), (9, .int y9), (10, .int y10)], [], ab_dD h)) (fun n => rfl) (fun c8 => ?_) (fun c8 => ?_)
      · replace hf := (if_pos c8).symm.trans hf
        refine ab_Ex.blk (k := 3) (pc' := 99) (lv' := [(0, .ref 35), (1, .int y1), (2, .int y2), (3, .ref 36), (5, .int y5), (6, .int y6), (7, .int y7), (8, .int y8), (9, .int y9), (10, .int y10)]) (st' := [.int ((Int32.ofNat 4375)), .int y6]) (sh' := ab_SH) (D' := ab_dD h) (fun n => rfl) ?_
        refine ab_Ex.ifc (c := (Int32.ofNat 4375) ≤ y6) (SA := (124, [(0, .ref 35), (1, .int y1), (2, .int y2), (3, .ref 36), (5, .int y5), (6, .int y6), (7, .int y7), (8, .int y8), (9, .int y9), (10, .int y10)], [], ab_dD h)) (SB := (102, [(0, .ref 35), (1, .int y1), (2, .int y2), (3, .ref 36), (5, .int y5), (6, .int y6), (7, .int y7), (8, .int y8), (9, .int y9), (10, .int y10)], [], ab_dD h)) (fun n => rfl) (fun c9 => ?_) (fun c9 => ?_)
        · replace hf := (if_pos c9).symm.trans hf
          exact sX8_addAhead_J124_36 d X (fun y1 y2 y5 y6 y7 y8 y9 y10 h => fX8_addAhead_L71 36 k13 n y1 y2 y5 y6 y7 y8 y9 y10 h) (fun y1 y2 y5 y6 y7 y8 y9 y10 h z hz => ih y1 y2 y5 y6 y7 y8 y9 y10 h z hz) y1 y2 y5 y6 y7 y8 y9 y10 h _ hf
        · replace hf := (if_neg c9).symm.trans hf
          refine ab_Ex.blk (k := 5) (pc' := 111) (lv' := [(0, .ref 35), (1, .int y1), (2, .int y2), (3, .ref 36), (5, .int y5), (6, .int y6), (7, .int y7), (8, .int y8), (9, .int y9), (10, .int y10)]) (st' := [.int y10, .int y7, .int y5, .int y6, .ref 36]) (sh' := ab_SH) (D' := ab_dD h) (fun n => rfl) ?_
          obtain ⟨r10, hr10, hf⟩ := ab_bind_s hf
          refine ab_Ex.call (d := d + 1) (M2 := 173) (as := [.int y5, .int y7, .int y10]) (rest := [.int y6, .ref 36]) (fun n => rfl) rfl (Nat.not_lt.mpr (Nat.le_of_ble_eq_true rfl)) (sX11_withArm (d) X y5 y7 y10 h _ hr10) (fun r hr => ?_)
          subst hr
          show ab_Ex X (d + 2) 114 114 [(0, .ref 35), (1, .int y1), (2, .int y2), (3, .ref 36), (5, .int y5), (6, .int y6), (7, .int y7), (8, .int y8), (9, .int y9), (10, .int y10)] [.int r10, .int y6, .ref 36] ab_SH (ab_dD h) _
          refine ab_Ex.blk (k := 4) (pc' := 120) (lv' := [(0, .ref 35), (1, .int y1), (2, .int y2), (3, .ref 36), (5, .int y5), (6, .int y6), (7, .int y7), (8, .int y8), (9, .int y9), (10, .int y10)]) (st' := [.int (((r10 * 6) + y7)), .int y6, .ref 36]) (sh' := ab_SH) (D' := ab_dD h) (fun n => rfl) ?_
          obtain ⟨c11, hf⟩ := ab_ask_s hf
          refine ab_Ex.grd (c := y6 < 0 ∨ 4375 ≤ (y6 : Int32).toNatClampNeg) (S := (121, [(0, .ref 35), (1, .int y1), (2, .int y2), (3, .ref 36), (5, .int y5), (6, .int y6), (7, .int y7), (8, .int y8), (9, .int y9), (10, .int y10)], [], ab_dD (ab_wI h 36 (y6 : Int32).toNatClampNeg ((r10 * 6) + y7)))) (fun n => rfl) c11 ?_
          refine ab_Ex.blk (k := 1) (pc' := 124) (lv' := [(0, .ref 35), (1, .int y1), (2, .int y2), (3, .ref 36), (5, .int y5), (6, .int ((y6 + 1))), (7, .int y7), (8, .int y8), (9, .int y9), (10, .int y10)]) (st' := []) (sh' := ab_SH) (D' := ab_dD (ab_wI h 36 (y6 : Int32).toNatClampNeg ((r10 * 6) + y7))) (fun n => rfl) ?_
          exact sX8_addAhead_J124_36 d X (fun y1 y2 y5 y6 y7 y8 y9 y10 h => fX8_addAhead_L71 36 k13 n y1 y2 y5 y6 y7 y8 y9 y10 h) (fun y1 y2 y5 y6 y7 y8 y9 y10 h z hz => ih y1 y2 y5 y6 y7 y8 y9 y10 h z hz) y1 y2 y5 ((y6 + 1)) y7 y8 y9 y10 (ab_wI h 36 (y6 : Int32).toNatClampNeg ((r10 * 6) + y7)) _ hf
      · replace hf := (if_neg c8).symm.trans hf
        exact sX8_addAhead_J124_36 d X (fun y1 y2 y5 y6 y7 y8 y9 y10 h => fX8_addAhead_L71 36 k13 n y1 y2 y5 y6 y7 y8 y9 y10 h) (fun y1 y2 y5 y6 y7 y8 y9 y10 h z hz => ih y1 y2 y5 y6 y7 y8 y9 y10 h z hz) y1 y2 y5 y6 y7 y8 y9 y10 h _ hf
set_option maxRecDepth 20000 in
theorem sX8_addAhead_J66_36 (d : Nat) (X : abX) (k13 : Int32 → Int32 → Int32 → Int32 → Int32 → abJ → Option (Int32 × abJ)) (hk13 : ∀ (y1 : Int32) (y2 : Int32) (y5 : Int32) (y6 : Int32) (y7 : Int32) (h : abJ) (z : (Int32 × abJ)), k13 y1 y2 y5 y6 y7 h = some z → ab_Ex X (d + 2) 114 13 [(0, .ref 35), (1, .int y1), (2, .int y2), (3, .ref 36), (5, .int y5), (6, .int y6), (7, .int y7)] [] ab_SH (ab_dD h) (fun r => r = (some (.int z.1), ab_SH, ab_dD z.2))) : ∀ (y1 : Int32) (y2 : Int32) (y5 : Int32) (y6 : Int32) (y7 : Int32) (y8 : Int32) (t0 : Int32) (h : abJ) (z : (Int32 × abJ)), fX8_addAhead_J66 36 k13 y1 y2 y5 y6 y7 y8 t0 h = some z → ab_Ex X (d + 2) 114 66 [(0, .ref 35), (1, .int y1), (2, .int y2), (3, .ref 36), (5, .int y5), (6, .int y6), (7, .int y7), (8, .int y8)] [.int t0] ab_SH (ab_dD h) (fun r => r = (some (.int z.1), ab_SH, ab_dD z.2)) := by
  intro y1 y2 y5 y6 y7 y8 t0 h z hf
  unfold fX8_addAhead_J66 at hf
  try simp only [Nat.reduceAdd] at hf
  refine ab_Ex.blk (k := 3) (pc' := 71) (lv' := [(0, .ref 35), (1, .int y1), (2, .int y2), (3, .ref 36), (5, .int y5), (6, .int y6), (7, .int y7), (8, .int y8), (9, .int t0), (10, .int 0)]) (st' := []) (sh' := ab_SH) (D' := ab_dD h) (fun n => rfl) ?_
  exact sX8_addAhead_L71_36 d X k13 hk13 ab_N y1 y2 y5 y6 y7 y8 t0 0 h _ hf
set_option maxRecDepth 20000 in
theorem sX8_addAhead_L13_36 (d : Nat) (X : abX)   : ∀ (n : Nat), ∀ (y1 : Int32) (y2 : Int32) (y5 : Int32) (y6 : Int32) (y7 : Int32) (h : abJ) (z : (Int32 × abJ)), fX8_addAhead_L13 36 n y1 y2 y5 y6 y7 h = some z → ab_Ex X (d + 2) 114 13 [(0, .ref 35), (1, .int y1), (2, .int y2), (3, .ref 36), (5, .int y5), (6, .int y6), (7, .int y7)] [] ab_SH (ab_dD h) (fun r => r = (some (.int z.1), ab_SH, ab_dD z.2)) := by
  intro n
  induction n with
  | zero => intro y1 y2 y5 y6 y7 h z hf; cases hf
  | succ n ih =>
    intro y1 y2 y5 y6 y7 h z hf
    rw [fX8_addAhead_L13] at hf
    try simp only [Nat.reduceAdd] at hf
    refine ab_Ex.blk (k := 4) (pc' := 22) (lv' := [(0, .ref 35), (1, .int y1), (2, .int y2), (3, .ref 36), (5, .int y5), (6, .int y6), (7, .int y7)]) (st' := [.int ((h.1 1 0)), .int y7]) (sh' := ab_SH) (D' := ab_dD h) (fun n => rfl) ?_
    refine ab_Ex.ifc (c := (h.1 1 0) ≤ y7) (SA := (136, [(0, .ref 35), (1, .int y1), (2, .int y2), (3, .ref 36), (5, .int y5), (6, .int y6), (7, .int y7)], [], ab_dD h)) (SB := (25, [(0, .ref 35), (1, .int y1), (2, .int y2), (3, .ref 36), (5, .int y5), (6, .int y6), (7, .int y7)], [], ab_dD h)) (fun n => rfl) (fun c1 => ?_) (fun c1 => ?_)
    · replace hf := (if_pos c1).symm.trans hf
      refine ab_Ex.blk (k := 1) (pc' := 138) (lv' := [(0, .ref 35), (1, .int y1), (2, .int y2), (3, .ref 36), (5, .int y5), (6, .int y6), (7, .int y7)]) (st' := [.int y6]) (sh' := ab_SH) (D' := ab_dD h) (fun n => rfl) ?_
      obtain rfl := Option.some.inj hf
      exact ab_Ex.ret (fun n => rfl) rfl
    · replace hf := (if_neg c1).symm.trans hf
      refine ab_Ex.blk (k := 2) (pc' := 28) (lv' := [(0, .ref 35), (1, .int y1), (2, .int y2), (3, .ref 36), (5, .int y5), (6, .int y6), (7, .int y7)]) (st' := [.int 6, .int y2]) (sh' := ab_SH) (D' := ab_dD h) (fun n => rfl) ?_
      refine ab_Ex.blk (k := 1) (pc' := 29) (lv' := [(0, .ref 35), (1, .int y1), (2, .int y2), (3, .ref 36), (5, .int y5), (6, .int y6), (7, .int y7)]) (st' := [.int ((y2 - y2 / 6 * 6))]) (sh' := ab_SH) (D' := ab_dD h) (fun n => rfl) ?_
      refine ab_Ex.blk (k := 4) (pc' := 35) (lv' := [(0, .ref 35), (1, .int y1), (2, .int y2), (3, .ref 36), (5, .int y5), (6, .int y6), (7, .int y7)]) (st' := [.int y7, .int y5, .int (((y2 - y2 / 6 * 6) * 3))]) (sh' := ab_SH) (D' := ab_dD h) (fun n => rfl) ?_
      obtain ⟨r2, hr2, hf⟩ := ab_bind_s hf
      refine ab_Ex.call (d := d + 1) (M2 := 172) (as := [.int y5, .int y7]) (rest := [.int (((y2 - y2 / 6 * 6) * 3))]) (fun n => rfl) rfl (Nat.not_lt.mpr (Nat.le_of_ble_eq_true rfl)) (sX11_armOf (d + 1) X y5 y7 h _ hr2) (fun r hr => ?_)
      subst hr
      show ab_Ex X (d + 2) 114 38 [(0, .ref 35), (1, .int y1), (2, .int y2), (3, .ref 36), (5, .int y5), (6, .int y6), (7, .int y7)] [.int r2, .int (((y2 - y2 / 6 * 6) * 3))] ab_SH (ab_dD h) _
      refine ab_Ex.blk (k := 5) (pc' := 47) (lv' := [(8, .int ((((y2 - y2 / 6 * 6) * 3) + r2))), (0, .ref 35), (1, .int y1), (2, .int y2), (3, .ref 36), (5, .int y5), (6, .int y6), (7, .int y7)]) (st' := [.int y7, .ref 1]) (sh' := ab_SH) (D' := ab_dD h) (fun n => rfl) ?_
      obtain ⟨r3, hr3, hf⟩ := ab_bind_s hf
      refine ab_Ex.call (d := d + 1) (M2 := 37) (as := [.ref 1, .int y7]) (rest := []) (fun n => rfl) rfl (Nat.not_lt.mpr (Nat.le_of_ble_eq_true rfl)) (sX3_isHome (d) X y7 h _ hr3) (fun r hr => ?_)
      subst hr
      show ab_Ex X (d + 2) 114 50 [(8, .int ((((y2 - y2 / 6 * 6) * 3) + r2))), (0, .ref 35), (1, .int y1), (2, .int y2), (3, .ref 36), (5, .int y5), (6, .int y6), (7, .int y7)] [.int r3] ab_SH (ab_dD h) _
      refine ab_Ex.ifc (c := r3 = 0) (SA := (57, [(8, .int ((((y2 - y2 / 6 * 6) * 3) + r2))), (0, .ref 35), (1, .int y1), (2, .int y2), (3, .ref 36), (5, .int y5), (6, .int y6), (7, .int y7)], [], ab_dD h)) (SB := (53, [(8, .int ((((y2 - y2 / 6 * 6) * 3) + r2))), (0, .ref 35), (1, .int y1), (2, .int y2), (3, .ref 36), (5, .int y5), (6, .int y6), (7, .int y7)], [], ab_dD h)) (fun n => rfl) (fun c4 => ?_) (fun c4 => ?_)
      · replace hf := (if_pos c4).symm.trans hf
        refine ab_Ex.blk (k := 3) (pc' := 63) (lv' := [(8, .int ((((y2 - y2 / 6 * 6) * 3) + r2))), (0, .ref 35), (1, .int y1), (2, .int y2), (3, .ref 36), (5, .int y5), (6, .int y6), (7, .int y7)]) (st' := [.int y7, .ref 1]) (sh' := ab_SH) (D' := ab_dD h) (fun n => rfl) ?_
        obtain ⟨r5, hr5, hf⟩ := ab_bind_s hf
        refine ab_Ex.call (d := d + 1) (M2 := 35) (as := [.ref 1, .int y7]) (rest := []) (fun n => rfl) rfl (Nat.not_lt.mpr (Nat.le_of_ble_eq_true rfl)) (sX3_roadsOf_1 (d + 1) X y7 h _ hr5) (fun r hr => ?_)
        subst hr
        show ab_Ex X (d + 2) 114 66 [(0, .ref 35), (1, .int y1), (2, .int y2), (3, .ref 36), (5, .int y5), (6, .int y6), (7, .int y7), (8, .int ((((y2 - y2 / 6 * 6) * 3) + r2)))] [.int r5] ab_SH (ab_dD h) _
        exact sX8_addAhead_J66_36 d X (fun y1 y2 y5 y6 y7 h => fX8_addAhead_L13 36 n y1 y2 y5 y6 y7 h) (fun y1 y2 y5 y6 y7 h z hz => ih y1 y2 y5 y6 y7 h z hz) y1 y2 y5 y6 y7 ((((y2 - y2 / 6 * 6) * 3) + r2)) r5 h _ hf
      · replace hf := (if_neg c4).symm.trans hf
        refine ab_Ex.blk (k := 2) (pc' := 66) (lv' := [(0, .ref 35), (1, .int y1), (2, .int y2), (3, .ref 36), (5, .int y5), (6, .int y6), (7, .int y7), (8, .int ((((y2 - y2 / 6 * 6) * 3) + r2)))]) (st' := [.int 0]) (sh' := ab_SH) (D' := ab_dD h) (fun n => rfl) ?_
        exact sX8_addAhead_J66_36 d X (fun y1 y2 y5 y6 y7 h => fX8_addAhead_L13 36 n y1 y2 y5 y6 y7 h) (fun y1 y2 y5 y6 y7 h z hz => ih y1 y2 y5 y6 y7 h z hz) y1 y2 y5 y6 y7 ((((y2 - y2 / 6 * 6) * 3) + r2)) 0 h _ hf
set_option maxRecDepth 20000 in
theorem sX8_addAhead_36 (d : Nat) (X : abX) (x0 : Int32) (x1 : Int32) (x3 : Int32) (h : abJ) (z : (Int32 × abJ)) (hf : fX8_addAhead x0 x1 36 x3 h = some z) : ab_Ex X (d + 2) 114 0 [(0, .ref 35), (1, .int x0), (2, .int x1), (3, .ref 36), (4, .int x3)] [] ab_SH (ab_dD h) (fun r => r = (some (.int z.1), ab_SH, ab_dD z.2)) := by
  unfold fX8_addAhead at hf
  try simp only [Nat.reduceAdd] at hf
  refine ab_Ex.blk (k := 2) (pc' := 3) (lv' := [(0, .ref 35), (1, .int x0), (2, .int x1), (3, .ref 36), (4, .int x3)]) (st' := [.int 6, .int x1]) (sh' := ab_SH) (D' := ab_dD h) (fun n => rfl) ?_
  refine ab_Ex.blk (k := 1) (pc' := 4) (lv' := [(0, .ref 35), (1, .int x0), (2, .int x1), (3, .ref 36), (4, .int x3)]) (st' := [.int ((x1 / 6))]) (sh' := ab_SH) (D' := ab_dD h) (fun n => rfl) ?_
  refine ab_Ex.blk (k := 5) (pc' := 13) (lv' := [(0, .ref 35), (1, .int x0), (2, .int x1), (3, .ref 36), (5, .int ((x1 / 6))), (6, .int x3), (7, .int 0)]) (st' := []) (sh' := ab_SH) (D' := ab_dD h) (fun n => rfl) ?_
  exact sX8_addAhead_L13_36 d X  ab_N x0 x1 ((x1 / 6)) x3 0 h _ hf
def fX8_countAhead_L35 (a b : Nat) (k23 : Int32 → Int32 → Int32 → Int32 → abJ → Option (Int32 × abJ)) : Nat → Int32 → Int32 → Int32 → Int32 → Int32 → Int32 → abJ → Option (Int32 × abJ)
  | 0, _, _, _, _, _, _, _ => none
  | n + 1, y1, y3, y6, y7, y8, y9, h => if y6 ≤ y9 then k23 y1 y3 y8 ((y7 + 1)) h else ab_ask (y9 < 0 ∨ 4375 ≤ (y9 : Int32).toNatClampNeg) ((fX8_addAhead y1 ((h.1 a (y9 : Int32).toNatClampNeg)) b y8 h).bind (fun r5 => fX8_countAhead_L35 a b k23 n y1 y3 y6 y7 r5.1 ((y9 + 1)) r5.2))
def fX8_countAhead_L23   : Nat → Nat → Nat → Int32 → Int32 → Int32 → Int32 → abJ → Option (Int32 × abJ)
  | 0, _, _, _, _, _, _, _ => none
  | n + 1, a, b, y1, y3, y6, y7, h => if y3 ≤ y7 then some (y6, h) else fX8_countAhead_L35 a b (fun y1 y3 y6 y7 h => fX8_countAhead_L23 n b a y1 y3 y6 y7 h) ab_N y1 y3 y6 y7 0 0 h
def fX8_countAhead (x0 : Int32) (x1 : Int32) (x2 : Int32) (h : abJ) : Option (Int32 × abJ) := fX8_countAhead_L23 ab_N 30 36 x0 x2 1 0 (ab_wI h 30 0 x1)
set_option maxRecDepth 20000 in
theorem sX8_countAhead_L35_30_36 (d : Nat) (X : abX) (k23 : Int32 → Int32 → Int32 → Int32 → abJ → Option (Int32 × abJ)) (hk23 : ∀ (y1 : Int32) (y3 : Int32) (y6 : Int32) (y7 : Int32) (h : abJ) (z : (Int32 × abJ)), k23 y1 y3 y6 y7 h = some z → ab_Ex X (d + 3) 112 23 [(0, .ref 35), (1, .int y1), (3, .int y3), (4, .ref 36), (5, .ref 30), (6, .int y6), (7, .int y7)] [] ab_SH (ab_dD h) (fun r => r = (some (.int z.1), ab_SH, ab_dD z.2))) : ∀ (n : Nat), ∀ (y1 : Int32) (y3 : Int32) (y6 : Int32) (y7 : Int32) (y8 : Int32) (y9 : Int32) (h : abJ) (z : (Int32 × abJ)), fX8_countAhead_L35 30 36 k23 n y1 y3 y6 y7 y8 y9 h = some z → ab_Ex X (d + 3) 112 35 [(0, .ref 35), (1, .int y1), (3, .int y3), (4, .ref 30), (5, .ref 36), (6, .int y6), (7, .int y7), (8, .int y8), (9, .int y9)] [] ab_SH (ab_dD h) (fun r => r = (some (.int z.1), ab_SH, ab_dD z.2)) := by
  intro n
  induction n with
  | zero => intro y1 y3 y6 y7 y8 y9 h z hf; cases hf
  | succ n ih =>
    intro y1 y3 y6 y7 y8 y9 h z hf
    rw [fX8_countAhead_L35] at hf
    refine ab_Ex.blk (k := 2) (pc' := 39) (lv' := [(0, .ref 35), (1, .int y1), (3, .int y3), (4, .ref 30), (5, .ref 36), (6, .int y6), (7, .int y7), (8, .int y8), (9, .int y9)]) (st' := [.int y6, .int y9]) (sh' := ab_SH) (D' := ab_dD h) (fun n => rfl) ?_
    refine ab_Ex.ifc (c := y6 ≤ y9) (SA := (64, [(0, .ref 35), (1, .int y1), (3, .int y3), (4, .ref 30), (5, .ref 36), (6, .int y6), (7, .int y7), (8, .int y8), (9, .int y9)], [], ab_dD h)) (SB := (42, [(0, .ref 35), (1, .int y1), (3, .int y3), (4, .ref 30), (5, .ref 36), (6, .int y6), (7, .int y7), (8, .int y8), (9, .int y9)], [], ab_dD h)) (fun n => rfl) (fun c2 => ?_) (fun c2 => ?_)
    · replace hf := (if_pos c2).symm.trans hf
      refine ab_Ex.blk (k := 10) (pc' := 23) (lv' := [(0, .ref 35), (1, .int y1), (3, .int y3), (4, .ref 36), (5, .ref 30), (6, .int y8), (7, .int ((y7 + 1)))]) (st' := []) (sh' := ab_SH) (D' := ab_dD h) (fun n => rfl) ?_
      exact hk23 y1 y3 y8 ((y7 + 1)) h _ hf
    · replace hf := (if_neg c2).symm.trans hf
      refine ab_Ex.blk (k := 4) (pc' := 48) (lv' := [(0, .ref 35), (1, .int y1), (3, .int y3), (4, .ref 30), (5, .ref 36), (6, .int y6), (7, .int y7), (8, .int y8), (9, .int y9)]) (st' := [.int y9, .ref 30, .int y1, .ref 35]) (sh' := ab_SH) (D' := ab_dD h) (fun n => rfl) ?_
      obtain ⟨c4, hf⟩ := ab_ask_s hf
      refine ab_Ex.grd (c := y9 < 0 ∨ 4375 ≤ (y9 : Int32).toNatClampNeg) (S := (49, [(0, .ref 35), (1, .int y1), (3, .int y3), (4, .ref 30), (5, .ref 36), (6, .int y6), (7, .int y7), (8, .int y8), (9, .int y9)], [.int ((h.1 30 (y9 : Int32).toNatClampNeg)), .int y1, .ref 35], ab_dD h)) (fun n => rfl) c4 ?_
      refine ab_Ex.blk (k := 2) (pc' := 53) (lv' := [(0, .ref 35), (1, .int y1), (3, .int y3), (4, .ref 30), (5, .ref 36), (6, .int y6), (7, .int y7), (8, .int y8), (9, .int y9)]) (st' := [.int y8, .ref 36, .int ((h.1 30 (y9 : Int32).toNatClampNeg)), .int y1, .ref 35]) (sh' := ab_SH) (D' := ab_dD h) (fun n => rfl) ?_
      obtain ⟨r5, hr5, hf⟩ := ab_bind_s hf
      refine ab_Ex.call (d := d + 2) (M2 := 114) (as := [.ref 35, .int y1, .int ((h.1 30 (y9 : Int32).toNatClampNeg)), .ref 36, .int y8]) (rest := []) (fun n => rfl) rfl (Nat.not_lt.mpr (Nat.le_of_ble_eq_true rfl)) (sX8_addAhead_36 (d) X y1 ((h.1 30 (y9 : Int32).toNatClampNeg)) y8 h _ hr5) (fun r hr => ?_)
      subst hr
      show ab_Ex X (d + 3) 112 56 [(0, .ref 35), (1, .int y1), (3, .int y3), (4, .ref 30), (5, .ref 36), (6, .int y6), (7, .int y7), (8, .int y8), (9, .int y9)] [.int r5.1] ab_SH (ab_dD r5.2) _
      refine ab_Ex.blk (k := 3) (pc' := 35) (lv' := [(0, .ref 35), (1, .int y1), (3, .int y3), (4, .ref 30), (5, .ref 36), (6, .int y6), (7, .int y7), (8, .int r5.1), (9, .int ((y9 + 1)))]) (st' := []) (sh' := ab_SH) (D' := ab_dD r5.2) (fun n => rfl) ?_
      exact ih y1 y3 y6 y7 r5.1 ((y9 + 1)) r5.2 _ hf
set_option maxRecDepth 20000 in
theorem sX8_countAhead_L35_36_30 (d : Nat) (X : abX) (k23 : Int32 → Int32 → Int32 → Int32 → abJ → Option (Int32 × abJ)) (hk23 : ∀ (y1 : Int32) (y3 : Int32) (y6 : Int32) (y7 : Int32) (h : abJ) (z : (Int32 × abJ)), k23 y1 y3 y6 y7 h = some z → ab_Ex X (d + 3) 112 23 [(0, .ref 35), (1, .int y1), (3, .int y3), (4, .ref 30), (5, .ref 36), (6, .int y6), (7, .int y7)] [] ab_SH (ab_dD h) (fun r => r = (some (.int z.1), ab_SH, ab_dD z.2))) : ∀ (n : Nat), ∀ (y1 : Int32) (y3 : Int32) (y6 : Int32) (y7 : Int32) (y8 : Int32) (y9 : Int32) (h : abJ) (z : (Int32 × abJ)), fX8_countAhead_L35 36 30 k23 n y1 y3 y6 y7 y8 y9 h = some z → ab_Ex X (d + 3) 112 35 [(0, .ref 35), (1, .int y1), (3, .int y3), (4, .ref 36), (5, .ref 30), (6, .int y6), (7, .int y7), (8, .int y8), (9, .int y9)] [] ab_SH (ab_dD h) (fun r => r = (some (.int z.1), ab_SH, ab_dD z.2)) := by
  intro n
  induction n with
  | zero => intro y1 y3 y6 y7 y8 y9 h z hf; cases hf
  | succ n ih =>
    intro y1 y3 y6 y7 y8 y9 h z hf
    rw [fX8_countAhead_L35] at hf
    refine ab_Ex.blk (k := 2) (pc' := 39) (lv' := [(0, .ref 35), (1, .int y1), (3, .int y3), (4, .ref 36), (5, .ref 30), (6, .int y6), (7, .int y7), (8, .int y8), (9, .int y9)]) (st' := [.int y6, .int y9]) (sh' := ab_SH) (D' := ab_dD h) (fun n => rfl) ?_
    refine ab_Ex.ifc (c := y6 ≤ y9) (SA := (64, [(0, .ref 35), (1, .int y1), (3, .int y3), (4, .ref 36), (5, .ref 30), (6, .int y6), (7, .int y7), (8, .int y8), (9, .int y9)], [], ab_dD h)) (SB := (42, [(0, .ref 35), (1, .int y1), (3, .int y3), (4, .ref 36), (5, .ref 30), (6, .int y6), (7, .int y7), (8, .int y8), (9, .int y9)], [], ab_dD h)) (fun n => rfl) (fun c2 => ?_) (fun c2 => ?_)
    · replace hf := (if_pos c2).symm.trans hf
      refine ab_Ex.blk (k := 10) (pc' := 23) (lv' := [(0, .ref 35), (1, .int y1), (3, .int y3), (4, .ref 30), (5, .ref 36), (6, .int y8), (7, .int ((y7 + 1)))]) (st' := []) (sh' := ab_SH) (D' := ab_dD h) (fun n => rfl) ?_
      exact hk23 y1 y3 y8 ((y7 + 1)) h _ hf
    · replace hf := (if_neg c2).symm.trans hf
      refine ab_Ex.blk (k := 4) (pc' := 48) (lv' := [(0, .ref 35), (1, .int y1), (3, .int y3), (4, .ref 36), (5, .ref 30), (6, .int y6), (7, .int y7), (8, .int y8), (9, .int y9)]) (st' := [.int y9, .ref 36, .int y1, .ref 35]) (sh' := ab_SH) (D' := ab_dD h) (fun n => rfl) ?_
      obtain ⟨c4, hf⟩ := ab_ask_s hf
      refine ab_Ex.grd (c := y9 < 0 ∨ 4375 ≤ (y9 : Int32).toNatClampNeg) (S := (49, [(0, .ref 35), (1, .int y1), (3, .int y3), (4, .ref 36), (5, .ref 30), (6, .int y6), (7, .int y7), (8, .int y8), (9, .int y9)], [.int ((h.1 36 (y9 : Int32).toNatClampNeg)), .int y1, .ref 35], ab_dD h)) (fun n => rfl) c4 ?_
      refine ab_Ex.blk (k := 2) (pc' := 53) (lv' := [(0, .ref 35), (1, .int y1), (3, .int y3), (4, .ref 36), (5, .ref 30), (6, .int y6), (7, .int y7), (8, .int y8), (9, .int y9)]) (st' := [.int y8, .ref 30, .int ((h.1 36 (y9 : Int32).toNatClampNeg)), .int y1, .ref 35]) (sh' := ab_SH) (D' := ab_dD h) (fun n => rfl) ?_
      obtain ⟨r5, hr5, hf⟩ := ab_bind_s hf
      refine ab_Ex.call (d := d + 2) (M2 := 114) (as := [.ref 35, .int y1, .int ((h.1 36 (y9 : Int32).toNatClampNeg)), .ref 30, .int y8]) (rest := []) (fun n => rfl) rfl (Nat.not_lt.mpr (Nat.le_of_ble_eq_true rfl)) (sX8_addAhead_30 (d) X y1 ((h.1 36 (y9 : Int32).toNatClampNeg)) y8 h _ hr5) (fun r hr => ?_)
      subst hr
      show ab_Ex X (d + 3) 112 56 [(0, .ref 35), (1, .int y1), (3, .int y3), (4, .ref 36), (5, .ref 30), (6, .int y6), (7, .int y7), (8, .int y8), (9, .int y9)] [.int r5.1] ab_SH (ab_dD r5.2) _
      refine ab_Ex.blk (k := 3) (pc' := 35) (lv' := [(0, .ref 35), (1, .int y1), (3, .int y3), (4, .ref 36), (5, .ref 30), (6, .int y6), (7, .int y7), (8, .int r5.1), (9, .int ((y9 + 1)))]) (st' := []) (sh' := ab_SH) (D' := ab_dD r5.2) (fun n => rfl) ?_
      exact ih y1 y3 y6 y7 r5.1 ((y9 + 1)) r5.2 _ hf
set_option maxRecDepth 20000 in
theorem sX8_countAhead_L23 (d : Nat) (X : abX)   : ∀ (n : Nat), (∀ (y1 : Int32) (y3 : Int32) (y6 : Int32) (y7 : Int32) (h : abJ) (z : (Int32 × abJ)), fX8_countAhead_L23 n 30 36 y1 y3 y6 y7 h = some z → ab_Ex X (d + 3) 112 23 [(0, .ref 35), (1, .int y1), (3, .int y3), (4, .ref 30), (5, .ref 36), (6, .int y6), (7, .int y7)] [] ab_SH (ab_dD h) (fun r => r = (some (.int z.1), ab_SH, ab_dD z.2))) ∧ (∀ (y1 : Int32) (y3 : Int32) (y6 : Int32) (y7 : Int32) (h : abJ) (z : (Int32 × abJ)), fX8_countAhead_L23 n 36 30 y1 y3 y6 y7 h = some z → ab_Ex X (d + 3) 112 23 [(0, .ref 35), (1, .int y1), (3, .int y3), (4, .ref 36), (5, .ref 30), (6, .int y6), (7, .int y7)] [] ab_SH (ab_dD h) (fun r => r = (some (.int z.1), ab_SH, ab_dD z.2))) := by
  intro n
  induction n with
  | zero => exact ⟨fun y1 y3 y6 y7 h z hf => (by cases hf), fun y1 y3 y6 y7 h z hf => (by cases hf)⟩
  | succ n ih =>
    refine ⟨?_, ?_⟩
    · intro y1 y3 y6 y7 h z hf
      rw [fX8_countAhead_L23] at hf
      refine ab_Ex.blk (k := 2) (pc' := 26) (lv' := [(0, .ref 35), (1, .int y1), (3, .int y3), (4, .ref 30), (5, .ref 36), (6, .int y6), (7, .int y7)]) (st' := [.int y3, .int y7]) (sh' := ab_SH) (D' := ab_dD h) (fun n => rfl) ?_
      refine ab_Ex.ifc (c := y3 ≤ y7) (SA := (86, [(0, .ref 35), (1, .int y1), (3, .int y3), (4, .ref 30), (5, .ref 36), (6, .int y6), (7, .int y7)], [], ab_dD h)) (SB := (29, [(0, .ref 35), (1, .int y1), (3, .int y3), (4, .ref 30), (5, .ref 36), (6, .int y6), (7, .int y7)], [], ab_dD h)) (fun n => rfl) (fun c1 => ?_) (fun c1 => ?_)
      · replace hf := (if_pos c1).symm.trans hf
        refine ab_Ex.blk (k := 1) (pc' := 88) (lv' := [(0, .ref 35), (1, .int y1), (3, .int y3), (4, .ref 30), (5, .ref 36), (6, .int y6), (7, .int y7)]) (st' := [.int y6]) (sh' := ab_SH) (D' := ab_dD h) (fun n => rfl) ?_
        obtain rfl := Option.some.inj hf
        exact ab_Ex.ret (fun n => rfl) rfl
      · replace hf := (if_neg c1).symm.trans hf
        refine ab_Ex.blk (k := 4) (pc' := 35) (lv' := [(0, .ref 35), (1, .int y1), (3, .int y3), (4, .ref 30), (5, .ref 36), (6, .int y6), (7, .int y7), (8, .int 0), (9, .int 0)]) (st' := []) (sh' := ab_SH) (D' := ab_dD h) (fun n => rfl) ?_
        exact sX8_countAhead_L35_30_36 d X (fun y1 y3 y6 y7 h => fX8_countAhead_L23 n 36 30 y1 y3 y6 y7 h) (fun y1 y3 y6 y7 h z hz => ih.2 y1 y3 y6 y7 h z hz) ab_N y1 y3 y6 y7 0 0 h _ hf
    · intro y1 y3 y6 y7 h z hf
      rw [fX8_countAhead_L23] at hf
      refine ab_Ex.blk (k := 2) (pc' := 26) (lv' := [(0, .ref 35), (1, .int y1), (3, .int y3), (4, .ref 36), (5, .ref 30), (6, .int y6), (7, .int y7)]) (st' := [.int y3, .int y7]) (sh' := ab_SH) (D' := ab_dD h) (fun n => rfl) ?_
      refine ab_Ex.ifc (c := y3 ≤ y7) (SA := (86, [(0, .ref 35), (1, .int y1), (3, .int y3), (4, .ref 36), (5, .ref 30), (6, .int y6), (7, .int y7)], [], ab_dD h)) (SB := (29, [(0, .ref 35), (1, .int y1), (3, .int y3), (4, .ref 36), (5, .ref 30), (6, .int y6), (7, .int y7)], [], ab_dD h)) (fun n => rfl) (fun c1 => ?_) (fun c1 => ?_)
      · replace hf := (if_pos c1).symm.trans hf
        refine ab_Ex.blk (k := 1) (pc' := 88) (lv' := [(0, .ref 35), (1, .int y1), (3, .int y3), (4, .ref 36), (5, .ref 30), (6, .int y6), (7, .int y7)]) (st' := [.int y6]) (sh' := ab_SH) (D' := ab_dD h) (fun n => rfl) ?_
        obtain rfl := Option.some.inj hf
        exact ab_Ex.ret (fun n => rfl) rfl
      · replace hf := (if_neg c1).symm.trans hf
        refine ab_Ex.blk (k := 4) (pc' := 35) (lv' := [(0, .ref 35), (1, .int y1), (3, .int y3), (4, .ref 36), (5, .ref 30), (6, .int y6), (7, .int y7), (8, .int 0), (9, .int 0)]) (st' := []) (sh' := ab_SH) (D' := ab_dD h) (fun n => rfl) ?_
        exact sX8_countAhead_L35_36_30 d X (fun y1 y3 y6 y7 h => fX8_countAhead_L23 n 30 36 y1 y3 y6 y7 h) (fun y1 y3 y6 y7 h z hz => ih.1 y1 y3 y6 y7 h z hz) ab_N y1 y3 y6 y7 0 0 h _ hf
set_option maxRecDepth 20000 in
theorem sX8_countAhead (d : Nat) (X : abX) (x0 : Int32) (x1 : Int32) (x2 : Int32) (h : abJ) (z : (Int32 × abJ)) (hf : fX8_countAhead x0 x1 x2 h = some z) : ab_Ex X (d + 3) 112 0 [(0, .ref 35), (1, .int x0), (2, .int x1), (3, .int x2)] [] ab_SH (ab_dD h) (fun r => r = (some (.int z.1), ab_SH, ab_dD z.2)) := by
  unfold fX8_countAhead at hf
  refine ab_Ex.blk (k := 9) (pc' := 16) (lv' := [(5, .ref 36), (4, .ref 30), (0, .ref 35), (1, .int x0), (2, .int x1), (3, .int x2)]) (st' := [.int x1, .int 0, .ref 30]) (sh' := ab_SH) (D' := ab_dD h) (fun n => rfl) ?_
  refine ab_Ex.blk (k := 1) (pc' := 17) (lv' := [(5, .ref 36), (4, .ref 30), (0, .ref 35), (1, .int x0), (2, .int x1), (3, .int x2)]) (st' := []) (sh' := ab_SH) (D' := ab_dD (ab_wI h 30 0 x1)) (fun n => rfl) ?_
  refine ab_Ex.blk (k := 4) (pc' := 23) (lv' := [(0, .ref 35), (1, .int x0), (3, .int x2), (4, .ref 30), (5, .ref 36), (6, .int 1), (7, .int 0)]) (st' := []) (sh' := ab_SH) (D' := ab_dD (ab_wI h 30 0 x1)) (fun n => rfl) ?_
  exact (sX8_countAhead_L23 d X  ab_N).1 x0 x2 1 0 (ab_wI h 30 0 x1) _ hf
def fX8_postsAhead_L18   : Nat → Int32 → Int32 → Int32 → abJ → Option (Int32 × abJ)
  | 0, _, _, _, _ => none
  | n + 1, y3, y4, y5, h => if y3 ≤ y5 then some (y4, h) else ab_ask (y5 < 0 ∨ 4375 ≤ (y5 : Int32).toNatClampNeg) (fX8_postsAhead_L18 n y3 ((y4 ||| ((1 : Int32) <<< (((h.1 30 (y5 : Int32).toNatClampNeg) - (h.1 30 (y5 : Int32).toNatClampNeg) / 6 * 6) &&& 31)))) ((y5 + 1)) h)
def fX8_postsAhead (x0 : Int32) (x1 : Int32) (h : abJ) : Option (Int32 × abJ) := (fX8_addAhead x0 x1 30 0 h).bind (fun r1 => fX8_postsAhead_L18 ab_N r1.1 0 0 r1.2)
set_option maxRecDepth 20000 in
theorem sX8_postsAhead_L18 (d : Nat) (X : abX)   : ∀ (n : Nat), ∀ (y3 : Int32) (y4 : Int32) (y5 : Int32) (h : abJ) (z : (Int32 × abJ)), fX8_postsAhead_L18 n y3 y4 y5 h = some z → ab_Ex X (d + 3) 113 18 [(0, .ref 35), (3, .int y3), (4, .int y4), (5, .int y5)] [] ab_SH (ab_dD h) (fun r => r = (some (.int z.1), ab_SH, ab_dD z.2)) := by
  intro n
  induction n with
  | zero => intro y3 y4 y5 h z hf; cases hf
  | succ n ih =>
    intro y3 y4 y5 h z hf
    rw [fX8_postsAhead_L18] at hf
    refine ab_Ex.blk (k := 2) (pc' := 21) (lv' := [(0, .ref 35), (3, .int y3), (4, .int y4), (5, .int y5)]) (st' := [.int y3, .int y5]) (sh' := ab_SH) (D' := ab_dD h) (fun n => rfl) ?_
    refine ab_Ex.ifc (c := y3 ≤ y5) (SA := (47, [(0, .ref 35), (3, .int y3), (4, .int y4), (5, .int y5)], [], ab_dD h)) (SB := (24, [(0, .ref 35), (3, .int y3), (4, .int y4), (5, .int y5)], [], ab_dD h)) (fun n => rfl) (fun c2 => ?_) (fun c2 => ?_)
    · replace hf := (if_pos c2).symm.trans hf
      refine ab_Ex.blk (k := 1) (pc' := 49) (lv' := [(0, .ref 35), (3, .int y3), (4, .int y4), (5, .int y5)]) (st' := [.int y4]) (sh' := ab_SH) (D' := ab_dD h) (fun n => rfl) ?_
      obtain rfl := Option.some.inj hf
      exact ab_Ex.ret (fun n => rfl) rfl
    · replace hf := (if_neg c2).symm.trans hf
      refine ab_Ex.blk (k := 5) (pc' := 33) (lv' := [(0, .ref 35), (3, .int y3), (4, .int y4), (5, .int y5)]) (st' := [.int y5, .ref 30, .int 1, .int y4]) (sh' := ab_SH) (D' := ab_dD h) (fun n => rfl) ?_
      obtain ⟨c4, hf⟩ := ab_ask_s hf
      refine ab_Ex.grd (c := y5 < 0 ∨ 4375 ≤ (y5 : Int32).toNatClampNeg) (S := (34, [(0, .ref 35), (3, .int y3), (4, .int y4), (5, .int y5)], [.int ((h.1 30 (y5 : Int32).toNatClampNeg)), .int 1, .int y4], ab_dD h)) (fun n => rfl) c4 ?_
      refine ab_Ex.blk (k := 1) (pc' := 36) (lv' := [(0, .ref 35), (3, .int y3), (4, .int y4), (5, .int y5)]) (st' := [.int 6, .int ((h.1 30 (y5 : Int32).toNatClampNeg)), .int 1, .int y4]) (sh' := ab_SH) (D' := ab_dD h) (fun n => rfl) ?_
      refine ab_Ex.blk (k := 1) (pc' := 37) (lv' := [(0, .ref 35), (3, .int y3), (4, .int y4), (5, .int y5)]) (st' := [.int (((h.1 30 (y5 : Int32).toNatClampNeg) - (h.1 30 (y5 : Int32).toNatClampNeg) / 6 * 6)), .int 1, .int y4]) (sh' := ab_SH) (D' := ab_dD h) (fun n => rfl) ?_
      refine ab_Ex.blk (k := 5) (pc' := 18) (lv' := [(0, .ref 35), (3, .int y3), (4, .int ((y4 ||| ((1 : Int32) <<< (((h.1 30 (y5 : Int32).toNatClampNeg) - (h.1 30 (y5 : Int32).toNatClampNeg) / 6 * 6) &&& 31))))), (5, .int ((y5 + 1)))]) (st' := []) (sh' := ab_SH) (D' := ab_dD h) (fun n => rfl) ?_
      exact ih y3 ((y4 ||| ((1 : Int32) <<< (((h.1 30 (y5 : Int32).toNatClampNeg) - (h.1 30 (y5 : Int32).toNatClampNeg) / 6 * 6) &&& 31)))) ((y5 + 1)) h _ hf
set_option maxRecDepth 20000 in
theorem sX8_postsAhead (d : Nat) (X : abX) (x0 : Int32) (x1 : Int32) (h : abJ) (z : (Int32 × abJ)) (hf : fX8_postsAhead x0 x1 h = some z) : ab_Ex X (d + 3) 113 0 [(0, .ref 35), (1, .int x0), (2, .int x1)] [] ab_SH (ab_dD h) (fun r => r = (some (.int z.1), ab_SH, ab_dD z.2)) := by
  unfold fX8_postsAhead at hf
  refine ab_Ex.blk (k := 6) (pc' := 8) (lv' := [(0, .ref 35), (1, .int x0), (2, .int x1)]) (st' := [.int 0, .ref 30, .int x1, .int x0, .ref 35]) (sh' := ab_SH) (D' := ab_dD h) (fun n => rfl) ?_
  obtain ⟨r1, hr1, hf⟩ := ab_bind_s hf
  refine ab_Ex.call (d := d + 2) (M2 := 114) (as := [.ref 35, .int x0, .int x1, .ref 30, .int 0]) (rest := []) (fun n => rfl) rfl (Nat.not_lt.mpr (Nat.le_of_ble_eq_true rfl)) (sX8_addAhead_30 (d) X x0 x1 0 h _ hr1) (fun r hr => ?_)
  subst hr
  show ab_Ex X (d + 3) 113 11 [(0, .ref 35), (1, .int x0), (2, .int x1)] [.int r1.1] ab_SH (ab_dD r1.2) _
  refine ab_Ex.blk (k := 5) (pc' := 18) (lv' := [(0, .ref 35), (3, .int r1.1), (4, .int 0), (5, .int 0)]) (st' := []) (sh' := ab_SH) (D' := ab_dD r1.2) (fun n => rfl) ?_
  exact sX8_postsAhead_L18 d X  ab_N r1.1 0 0 r1.2 _ hf
def fX8_countAgain_J174  (k21 : Int32 → Int32 → Int32 → Int32 → Int32 → abJ → Option (Int32 × abJ)) (y1 : Int32) (y2 : Int32) (y3 : Int32) (y4 : Int32) (y5 : Int32) (h : abJ) : Option (Int32 × abJ) := k21 y1 y2 y3 y4 ((y5 + 1)) h
def fX8_countAgain_J168  (k45 : Int32 → Int32 → Int32 → Int32 → Int32 → Int32 → abJ → Option (Int32 × abJ)) (y1 : Int32) (y2 : Int32) (y3 : Int32) (y4 : Int32) (y5 : Int32) (y6 : Int32) (h : abJ) : Option (Int32 × abJ) := k45 y1 y2 y3 y4 y5 ((y6 + 1)) h
def fX8_countAgain_J130  (k45 : Int32 → Int32 → Int32 → Int32 → Int32 → Int32 → abJ → Option (Int32 × abJ)) (y1 : Int32) (y2 : Int32) (y3 : Int32) (y4 : Int32) (y5 : Int32) (y6 : Int32) (y7 : Int32) (y8 : Int32) (h : abJ) : Option (Int32 × abJ) := if y8 < 0 then fX8_countAgain_J168 k45 y1 y2 y3 y4 y5 y6 h else if 4374 ≤ y8 then fX8_countAgain_J168 k45 y1 y2 y3 y4 y5 y6 h else ab_ask (y8 < 0 ∨ 4374 ≤ (y8 : Int32).toNatClampNeg) (if (h.1 31 (y8 : Int32).toNatClampNeg) < y7 then fX8_countAgain_J168 k45 y1 y2 y3 y4 y5 y6 h else ab_ask (y8 < 0 ∨ 4374 ≤ (y8 : Int32).toNatClampNeg) (fX8_countAgain_J168 k45 y1 y2 ((y3 + (y4 - (h.1 31 (y8 : Int32).toNatClampNeg)))) y4 y5 y6 h))
def fX8_countAgain_L71  (k45 : Int32 → Int32 → Int32 → Int32 → Int32 → Int32 → abJ → Option (Int32 × abJ)) : Nat → Int32 → Int32 → Int32 → Int32 → Int32 → Int32 → Int32 → Int32 → abJ → Option (Int32 × abJ)
  | 0, _, _, _, _, _, _, _, _, _ => none
  | n + 1, y1, y2, y3, y4, y5, y6, y7, y8, h => if 4374 ≤ y4 then fX8_countAgain_J130 k45 y1 y2 y3 y4 y5 y6 y7 y8 h else if y8 < 0 then fX8_countAgain_J130 k45 y1 y2 y3 y4 y5 y6 y7 y8 h else if 4374 ≤ y8 then fX8_countAgain_J130 k45 y1 y2 y3 y4 y5 y6 y7 y8 h else ab_ask (y8 < 0 ∨ 4374 ≤ (y8 : Int32).toNatClampNeg) (if (h.1 31 (y8 : Int32).toNatClampNeg) = (-1) then ab_ask (y8 < 0 ∨ 4374 ≤ (y8 : Int32).toNatClampNeg) ((fX7_nextStand y1 y8 (ab_wI h 31 (y8 : Int32).toNatClampNeg y4)).bind (fun r21 => fX8_countAgain_L71 k45 n y1 y2 y3 ((y4 + 1)) y5 y6 y7 r21 (ab_wI h 31 (y8 : Int32).toNatClampNeg y4))) else fX8_countAgain_J130 k45 y1 y2 y3 y4 y5 y6 y7 y8 h)
def fX8_countAgain_L45  (k21 : Int32 → Int32 → Int32 → Int32 → Int32 → abJ → Option (Int32 × abJ)) : Nat → Int32 → Int32 → Int32 → Int32 → Int32 → Int32 → abJ → Option (Int32 × abJ)
  | 0, _, _, _, _, _, _, _ => none
  | n + 1, y1, y2, y3, y4, y5, y6, h => if (h.1 1 0) ≤ y6 then fX8_countAgain_J174 k21 y1 y2 y3 y4 y5 h else fX8_countAgain_L71 (fun y1 y2 y3 y4 y5 y6 h => fX8_countAgain_L45 k21 n y1 y2 y3 y4 y5 y6 h) ab_N y1 y2 y3 y4 y5 y6 y4 (((y5 * 6) + y6)) h
def fX8_countAgain_L21   : Nat → Int32 → Int32 → Int32 → Int32 → Int32 → abJ → Option (Int32 × abJ)
  | 0, _, _, _, _, _, _ => none
  | n + 1, y1, y2, y3, y4, y5, h => if y2 ≤ y5 then some (y3, h) else (fX3_canShow y5 h).bind (fun r4 => if r4 = 0 then fX8_countAgain_J174 (fun y1 y2 y3 y4 y5 h => fX8_countAgain_L21 n y1 y2 y3 y4 y5 h) y1 y2 y3 y4 y5 h else fX8_countAgain_L45 (fun y1 y2 y3 y4 y5 h => fX8_countAgain_L21 n y1 y2 y3 y4 y5 h) ab_N y1 y2 y3 y4 y5 0 h)
def fX8_countAgain (x0 : Int32) (h : abJ) : Option (Int32 × abJ) := (fX8_clearSeen ((-1)) h).bind (fun r1 => (fX3_armLimit r1).bind (fun r2 => fX8_countAgain_L21 ab_N x0 r2 0 0 0 r1))
set_option maxRecDepth 20000 in
theorem sX8_countAgain_J174 (d : Nat) (X : abX) (k21 : Int32 → Int32 → Int32 → Int32 → Int32 → abJ → Option (Int32 × abJ)) (hk21 : ∀ (y1 : Int32) (y2 : Int32) (y3 : Int32) (y4 : Int32) (y5 : Int32) (h : abJ) (z : (Int32 × abJ)), k21 y1 y2 y3 y4 y5 h = some z → ab_Ex X (d + 3) 115 21 [(0, .ref 35), (1, .int y1), (2, .int y2), (3, .int y3), (4, .int y4), (5, .int y5)] [] ab_SH (ab_dD h) (fun r => r = (some (.int z.1), ab_SH, ab_dD z.2))) : ∀ (y1 : Int32) (y2 : Int32) (y3 : Int32) (y4 : Int32) (y5 : Int32) (h : abJ) (z : (Int32 × abJ)), fX8_countAgain_J174 k21 y1 y2 y3 y4 y5 h = some z → ab_Ex X (d + 3) 115 174 [(0, .ref 35), (1, .int y1), (2, .int y2), (3, .int y3), (4, .int y4), (5, .int y5)] [] ab_SH (ab_dD h) (fun r => r = (some (.int z.1), ab_SH, ab_dD z.2)) := by
  intro y1 y2 y3 y4 y5 h z hf
  unfold fX8_countAgain_J174 at hf
  refine ab_Ex.blk (k := 2) (pc' := 21) (lv' := [(0, .ref 35), (1, .int y1), (2, .int y2), (3, .int y3), (4, .int y4), (5, .int ((y5 + 1)))]) (st' := []) (sh' := ab_SH) (D' := ab_dD h) (fun n => rfl) ?_
  exact hk21 y1 y2 y3 y4 ((y5 + 1)) h _ hf
set_option maxRecDepth 20000 in
theorem sX8_countAgain_J168 (d : Nat) (X : abX) (k45 : Int32 → Int32 → Int32 → Int32 → Int32 → Int32 → abJ → Option (Int32 × abJ)) (hk45 : ∀ (y1 : Int32) (y2 : Int32) (y3 : Int32) (y4 : Int32) (y5 : Int32) (y6 : Int32) (h : abJ) (z : (Int32 × abJ)), k45 y1 y2 y3 y4 y5 y6 h = some z → ab_Ex X (d + 3) 115 45 [(0, .ref 35), (1, .int y1), (2, .int y2), (3, .int y3), (4, .int y4), (5, .int y5), (6, .int y6)] [] ab_SH (ab_dD h) (fun r => r = (some (.int z.1), ab_SH, ab_dD z.2))) : ∀ (y1 : Int32) (y2 : Int32) (y3 : Int32) (y4 : Int32) (y5 : Int32) (y6 : Int32) (h : abJ) (z : (Int32 × abJ)), fX8_countAgain_J168 k45 y1 y2 y3 y4 y5 y6 h = some z → ab_Ex X (d + 3) 115 168 [(0, .ref 35), (1, .int y1), (2, .int y2), (3, .int y3), (4, .int y4), (5, .int y5), (6, .int y6)] [] ab_SH (ab_dD h) (fun r => r = (some (.int z.1), ab_SH, ab_dD z.2)) := by
  intro y1 y2 y3 y4 y5 y6 h z hf
  unfold fX8_countAgain_J168 at hf
  refine ab_Ex.blk (k := 2) (pc' := 45) (lv' := [(0, .ref 35), (1, .int y1), (2, .int y2), (3, .int y3), (4, .int y4), (5, .int y5), (6, .int ((y6 + 1)))]) (st' := []) (sh' := ab_SH) (D' := ab_dD h) (fun n => rfl) ?_
  exact hk45 y1 y2 y3 y4 y5 ((y6 + 1)) h _ hf
set_option maxRecDepth 20000 in
theorem sX8_countAgain_J130 (d : Nat) (X : abX) (k45 : Int32 → Int32 → Int32 → Int32 → Int32 → Int32 → abJ → Option (Int32 × abJ)) (hk45 : ∀ (y1 : Int32) (y2 : Int32) (y3 : Int32) (y4 : Int32) (y5 : Int32) (y6 : Int32) (h : abJ) (z : (Int32 × abJ)), k45 y1 y2 y3 y4 y5 y6 h = some z → ab_Ex X (d + 3) 115 45 [(0, .ref 35), (1, .int y1), (2, .int y2), (3, .int y3), (4, .int y4), (5, .int y5), (6, .int y6)] [] ab_SH (ab_dD h) (fun r => r = (some (.int z.1), ab_SH, ab_dD z.2))) : ∀ (y1 : Int32) (y2 : Int32) (y3 : Int32) (y4 : Int32) (y5 : Int32) (y6 : Int32) (y7 : Int32) (y8 : Int32) (h : abJ) (z : (Int32 × abJ)), fX8_countAgain_J130 k45 y1 y2 y3 y4 y5 y6 y7 y8 h = some z → ab_Ex X (d + 3) 115 130 [(0, .ref 35), (1, .int y1), (2, .int y2), (3, .int y3), (4, .int y4), (5, .int y5), (6, .int y6), (7, .int y7), (8, .int y8)] [] ab_SH (ab_dD h) (fun r => r = (some (.int z.1), ab_SH, ab_dD z.2)) := by
  intro y1 y2 y3 y4 y5 y6 y7 y8 h z hf
  unfold fX8_countAgain_J130 at hf
  refine ab_Ex.blk (k := 1) (pc' := 132) (lv' := [(0, .ref 35), (1, .int y1), (2, .int y2), (3, .int y3), (4, .int y4), (5, .int y5), (6, .int y6), (7, .int y7), (8, .int y8)]) (st' := [.int y8]) (sh' := ab_SH) (D' := ab_dD h) (fun n => rfl) ?_
  refine ab_Ex.ifc (c := y8 < 0) (SA := (168, [(0, .ref 35), (1, .int y1), (2, .int y2), (3, .int y3), (4, .int y4), (5, .int y5), (6, .int y6), (7, .int y7), (8, .int y8)], [], ab_dD h)) (SB := (135, [(0, .ref 35), (1, .int y1), (2, .int y2), (3, .int y3), (4, .int y4), (5, .int y5), (6, .int y6), (7, .int y7), (8, .int y8)], [], ab_dD h)) (fun n => rfl) (fun c8 => ?_) (fun c8 => ?_)
  · replace hf := (if_pos c8).symm.trans hf
    exact sX8_countAgain_J168 d X k45 hk45 y1 y2 y3 y4 y5 y6 h _ hf
  · replace hf := (if_neg c8).symm.trans hf
    refine ab_Ex.blk (k := 2) (pc' := 140) (lv' := [(0, .ref 35), (1, .int y1), (2, .int y2), (3, .int y3), (4, .int y4), (5, .int y5), (6, .int y6), (7, .int y7), (8, .int y8)]) (st' := [.int 4374, .int y8]) (sh' := ab_SH) (D' := ab_dD h) (fun n => rfl) ?_
    refine ab_Ex.ifc (c := 4374 ≤ y8) (SA := (168, [(0, .ref 35), (1, .int y1), (2, .int y2), (3, .int y3), (4, .int y4), (5, .int y5), (6, .int y6), (7, .int y7), (8, .int y8)], [], ab_dD h)) (SB := (143, [(0, .ref 35), (1, .int y1), (2, .int y2), (3, .int y3), (4, .int y4), (5, .int y5), (6, .int y6), (7, .int y7), (8, .int y8)], [], ab_dD h)) (fun n => rfl) (fun c9 => ?_) (fun c9 => ?_)
    · replace hf := (if_pos c9).symm.trans hf
      exact sX8_countAgain_J168 d X k45 hk45 y1 y2 y3 y4 y5 y6 h _ hf
    · replace hf := (if_neg c9).symm.trans hf
      refine ab_Ex.blk (k := 3) (pc' := 149) (lv' := [(0, .ref 35), (1, .int y1), (2, .int y2), (3, .int y3), (4, .int y4), (5, .int y5), (6, .int y6), (7, .int y7), (8, .int y8)]) (st' := [.int y8, .ref 31]) (sh' := ab_SH) (D' := ab_dD h) (fun n => rfl) ?_
      obtain ⟨c11, hf⟩ := ab_ask_s hf
      refine ab_Ex.grd (c := y8 < 0 ∨ 4374 ≤ (y8 : Int32).toNatClampNeg) (S := (150, [(0, .ref 35), (1, .int y1), (2, .int y2), (3, .int y3), (4, .int y4), (5, .int y5), (6, .int y6), (7, .int y7), (8, .int y8)], [.int ((h.1 31 (y8 : Int32).toNatClampNeg))], ab_dD h)) (fun n => rfl) c11 ?_
      refine ab_Ex.blk (k := 1) (pc' := 152) (lv' := [(0, .ref 35), (1, .int y1), (2, .int y2), (3, .int y3), (4, .int y4), (5, .int y5), (6, .int y6), (7, .int y7), (8, .int y8)]) (st' := [.int y7, .int ((h.1 31 (y8 : Int32).toNatClampNeg))]) (sh' := ab_SH) (D' := ab_dD h) (fun n => rfl) ?_
      refine ab_Ex.ifc (c := (h.1 31 (y8 : Int32).toNatClampNeg) < y7) (SA := (168, [(0, .ref 35), (1, .int y1), (2, .int y2), (3, .int y3), (4, .int y4), (5, .int y5), (6, .int y6), (7, .int y7), (8, .int y8)], [], ab_dD h)) (SB := (155, [(0, .ref 35), (1, .int y1), (2, .int y2), (3, .int y3), (4, .int y4), (5, .int y5), (6, .int y6), (7, .int y7), (8, .int y8)], [], ab_dD h)) (fun n => rfl) (fun c12 => ?_) (fun c12 => ?_)
      · replace hf := (if_pos c12).symm.trans hf
        exact sX8_countAgain_J168 d X k45 hk45 y1 y2 y3 y4 y5 y6 h _ hf
      · replace hf := (if_neg c12).symm.trans hf
        refine ab_Ex.blk (k := 5) (pc' := 164) (lv' := [(0, .ref 35), (1, .int y1), (2, .int y2), (3, .int y3), (4, .int y4), (5, .int y5), (6, .int y6), (7, .int y7), (8, .int y8)]) (st' := [.int y8, .ref 31, .int y4, .int y3]) (sh' := ab_SH) (D' := ab_dD h) (fun n => rfl) ?_
        obtain ⟨c14, hf⟩ := ab_ask_s hf
        refine ab_Ex.grd (c := y8 < 0 ∨ 4374 ≤ (y8 : Int32).toNatClampNeg) (S := (165, [(0, .ref 35), (1, .int y1), (2, .int y2), (3, .int y3), (4, .int y4), (5, .int y5), (6, .int y6), (7, .int y7), (8, .int y8)], [.int ((h.1 31 (y8 : Int32).toNatClampNeg)), .int y4, .int y3], ab_dD h)) (fun n => rfl) c14 ?_
        refine ab_Ex.blk (k := 3) (pc' := 168) (lv' := [(0, .ref 35), (1, .int y1), (2, .int y2), (3, .int ((y3 + (y4 - (h.1 31 (y8 : Int32).toNatClampNeg))))), (4, .int y4), (5, .int y5), (6, .int y6)]) (st' := []) (sh' := ab_SH) (D' := ab_dD h) (fun n => rfl) ?_
        exact sX8_countAgain_J168 d X k45 hk45 y1 y2 ((y3 + (y4 - (h.1 31 (y8 : Int32).toNatClampNeg)))) y4 y5 y6 h _ hf
set_option maxRecDepth 20000 in
theorem sX8_countAgain_L71 (d : Nat) (X : abX) (k45 : Int32 → Int32 → Int32 → Int32 → Int32 → Int32 → abJ → Option (Int32 × abJ)) (hk45 : ∀ (y1 : Int32) (y2 : Int32) (y3 : Int32) (y4 : Int32) (y5 : Int32) (y6 : Int32) (h : abJ) (z : (Int32 × abJ)), k45 y1 y2 y3 y4 y5 y6 h = some z → ab_Ex X (d + 3) 115 45 [(0, .ref 35), (1, .int y1), (2, .int y2), (3, .int y3), (4, .int y4), (5, .int y5), (6, .int y6)] [] ab_SH (ab_dD h) (fun r => r = (some (.int z.1), ab_SH, ab_dD z.2))) : ∀ (n : Nat), ∀ (y1 : Int32) (y2 : Int32) (y3 : Int32) (y4 : Int32) (y5 : Int32) (y6 : Int32) (y7 : Int32) (y8 : Int32) (h : abJ) (z : (Int32 × abJ)), fX8_countAgain_L71 k45 n y1 y2 y3 y4 y5 y6 y7 y8 h = some z → ab_Ex X (d + 3) 115 71 [(0, .ref 35), (1, .int y1), (2, .int y2), (3, .int y3), (4, .int y4), (5, .int y5), (6, .int y6), (7, .int y7), (8, .int y8)] [] ab_SH (ab_dD h) (fun r => r = (some (.int z.1), ab_SH, ab_dD z.2)) := by
  intro n
  induction n with
  | zero => intro y1 y2 y3 y4 y5 y6 y7 y8 h z hf; cases hf
  | succ n ih =>
    intro y1 y2 y3 y4 y5 y6 y7 y8 h z hf
    rw [fX8_countAgain_L71] at hf
    refine ab_Ex.blk (k := 2) (pc' := 76) (lv' := [(0, .ref 35), (1, .int y1), (2, .int y2), (3, .int y3), (4, .int y4), (5, .int y5), (6, .int y6), (7, .int y7), (8, .int y8)]) (st' := [.int 4374, .int y4]) (sh' := ab_SH) (D' := ab_dD h) (fun n => rfl) ?_
    refine ab_Ex.ifc (c := 4374 ≤ y4) (SA := (130, [(0, .ref 35), (1, .int y1), (2, .int y2), (3, .int y3), (4, .int y4), (5, .int y5), (6, .int y6), (7, .int y7), (8, .int y8)], [], ab_dD h)) (SB := (79, [(0, .ref 35), (1, .int y1), (2, .int y2), (3, .int y3), (4, .int y4), (5, .int y5), (6, .int y6), (7, .int y7), (8, .int y8)], [], ab_dD h)) (fun n => rfl) (fun c7 => ?_) (fun c7 => ?_)
    · replace hf := (if_pos c7).symm.trans hf
      exact sX8_countAgain_J130 d X k45 hk45 y1 y2 y3 y4 y5 y6 y7 y8 h _ hf
    · replace hf := (if_neg c7).symm.trans hf
      refine ab_Ex.blk (k := 1) (pc' := 81) (lv' := [(0, .ref 35), (1, .int y1), (2, .int y2), (3, .int y3), (4, .int y4), (5, .int y5), (6, .int y6), (7, .int y7), (8, .int y8)]) (st' := [.int y8]) (sh' := ab_SH) (D' := ab_dD h) (fun n => rfl) ?_
      refine ab_Ex.ifc (c := y8 < 0) (SA := (130, [(0, .ref 35), (1, .int y1), (2, .int y2), (3, .int y3), (4, .int y4), (5, .int y5), (6, .int y6), (7, .int y7), (8, .int y8)], [], ab_dD h)) (SB := (84, [(0, .ref 35), (1, .int y1), (2, .int y2), (3, .int y3), (4, .int y4), (5, .int y5), (6, .int y6), (7, .int y7), (8, .int y8)], [], ab_dD h)) (fun n => rfl) (fun c15 => ?_) (fun c15 => ?_)
      · replace hf := (if_pos c15).symm.trans hf
        exact sX8_countAgain_J130 d X k45 hk45 y1 y2 y3 y4 y5 y6 y7 y8 h _ hf
      · replace hf := (if_neg c15).symm.trans hf
        refine ab_Ex.blk (k := 2) (pc' := 89) (lv' := [(0, .ref 35), (1, .int y1), (2, .int y2), (3, .int y3), (4, .int y4), (5, .int y5), (6, .int y6), (7, .int y7), (8, .int y8)]) (st' := [.int 4374, .int y8]) (sh' := ab_SH) (D' := ab_dD h) (fun n => rfl) ?_
        refine ab_Ex.ifc (c := 4374 ≤ y8) (SA := (130, [(0, .ref 35), (1, .int y1), (2, .int y2), (3, .int y3), (4, .int y4), (5, .int y5), (6, .int y6), (7, .int y7), (8, .int y8)], [], ab_dD h)) (SB := (92, [(0, .ref 35), (1, .int y1), (2, .int y2), (3, .int y3), (4, .int y4), (5, .int y5), (6, .int y6), (7, .int y7), (8, .int y8)], [], ab_dD h)) (fun n => rfl) (fun c16 => ?_) (fun c16 => ?_)
        · replace hf := (if_pos c16).symm.trans hf
          exact sX8_countAgain_J130 d X k45 hk45 y1 y2 y3 y4 y5 y6 y7 y8 h _ hf
        · replace hf := (if_neg c16).symm.trans hf
          refine ab_Ex.blk (k := 3) (pc' := 98) (lv' := [(0, .ref 35), (1, .int y1), (2, .int y2), (3, .int y3), (4, .int y4), (5, .int y5), (6, .int y6), (7, .int y7), (8, .int y8)]) (st' := [.int y8, .ref 31]) (sh' := ab_SH) (D' := ab_dD h) (fun n => rfl) ?_
          obtain ⟨c18, hf⟩ := ab_ask_s hf
          refine ab_Ex.grd (c := y8 < 0 ∨ 4374 ≤ (y8 : Int32).toNatClampNeg) (S := (99, [(0, .ref 35), (1, .int y1), (2, .int y2), (3, .int y3), (4, .int y4), (5, .int y5), (6, .int y6), (7, .int y7), (8, .int y8)], [.int ((h.1 31 (y8 : Int32).toNatClampNeg))], ab_dD h)) (fun n => rfl) c18 ?_
          refine ab_Ex.blk (k := 1) (pc' := 100) (lv' := [(0, .ref 35), (1, .int y1), (2, .int y2), (3, .int y3), (4, .int y4), (5, .int y5), (6, .int y6), (7, .int y7), (8, .int y8)]) (st' := [.int ((-1)), .int ((h.1 31 (y8 : Int32).toNatClampNeg))]) (sh' := ab_SH) (D' := ab_dD h) (fun n => rfl) ?_
          refine ab_Ex.ifc (c := (h.1 31 (y8 : Int32).toNatClampNeg) = (-1)) (SA := (103, [(0, .ref 35), (1, .int y1), (2, .int y2), (3, .int y3), (4, .int y4), (5, .int y5), (6, .int y6), (7, .int y7), (8, .int y8)], [], ab_dD h)) (SB := (130, [(0, .ref 35), (1, .int y1), (2, .int y2), (3, .int y3), (4, .int y4), (5, .int y5), (6, .int y6), (7, .int y7), (8, .int y8)], [], ab_dD h)) (fun n => rfl) (fun c19 => ?_) (fun c19 => ?_)
          · replace hf := (if_pos c19).symm.trans hf
            refine ab_Ex.blk (k := 4) (pc' := 111) (lv' := [(0, .ref 35), (1, .int y1), (2, .int y2), (3, .int y3), (4, .int y4), (5, .int y5), (6, .int y6), (7, .int y7), (8, .int y8)]) (st' := [.int y4, .int y8, .ref 31]) (sh' := ab_SH) (D' := ab_dD h) (fun n => rfl) ?_
            obtain ⟨c20, hf⟩ := ab_ask_s hf
            refine ab_Ex.grd (c := y8 < 0 ∨ 4374 ≤ (y8 : Int32).toNatClampNeg) (S := (112, [(0, .ref 35), (1, .int y1), (2, .int y2), (3, .int y3), (4, .int y4), (5, .int y5), (6, .int y6), (7, .int y7), (8, .int y8)], [], ab_dD (ab_wI h 31 (y8 : Int32).toNatClampNeg y4))) (fun n => rfl) c20 ?_
            refine ab_Ex.blk (k := 5) (pc' := 122) (lv' := [(4, .int ((y4 + 1))), (0, .ref 35), (1, .int y1), (2, .int y2), (3, .int y3), (5, .int y5), (6, .int y6), (7, .int y7), (8, .int y8)]) (st' := [.int y8, .int y1, .ref 13]) (sh' := ab_SH) (D' := ab_dD (ab_wI h 31 (y8 : Int32).toNatClampNeg y4)) (fun n => rfl) ?_
            obtain ⟨r21, hr21, hf⟩ := ab_bind_s hf
            refine ab_Ex.call (d := d + 2) (M2 := 99) (as := [.ref 13, .int y1, .int y8]) (rest := []) (fun n => rfl) rfl (Nat.not_lt.mpr (Nat.le_of_ble_eq_true rfl)) (sX7_nextStand (d) X y1 y8 (ab_wI h 31 (y8 : Int32).toNatClampNeg y4) _ hr21) (fun r hr => ?_)
            subst hr
            show ab_Ex X (d + 3) 115 125 [(4, .int ((y4 + 1))), (0, .ref 35), (1, .int y1), (2, .int y2), (3, .int y3), (5, .int y5), (6, .int y6), (7, .int y7), (8, .int y8)] [.int r21] ab_SH (ab_dD (ab_wI h 31 (y8 : Int32).toNatClampNeg y4)) _
            refine ab_Ex.blk (k := 2) (pc' := 71) (lv' := [(0, .ref 35), (1, .int y1), (2, .int y2), (3, .int y3), (4, .int ((y4 + 1))), (5, .int y5), (6, .int y6), (7, .int y7), (8, .int r21)]) (st' := []) (sh' := ab_SH) (D' := ab_dD (ab_wI h 31 (y8 : Int32).toNatClampNeg y4)) (fun n => rfl) ?_
            exact ih y1 y2 y3 ((y4 + 1)) y5 y6 y7 r21 (ab_wI h 31 (y8 : Int32).toNatClampNeg y4) _ hf
          · replace hf := (if_neg c19).symm.trans hf
            exact sX8_countAgain_J130 d X k45 hk45 y1 y2 y3 y4 y5 y6 y7 y8 h _ hf
set_option maxRecDepth 20000 in
theorem sX8_countAgain_L45 (d : Nat) (X : abX) (k21 : Int32 → Int32 → Int32 → Int32 → Int32 → abJ → Option (Int32 × abJ)) (hk21 : ∀ (y1 : Int32) (y2 : Int32) (y3 : Int32) (y4 : Int32) (y5 : Int32) (h : abJ) (z : (Int32 × abJ)), k21 y1 y2 y3 y4 y5 h = some z → ab_Ex X (d + 3) 115 21 [(0, .ref 35), (1, .int y1), (2, .int y2), (3, .int y3), (4, .int y4), (5, .int y5)] [] ab_SH (ab_dD h) (fun r => r = (some (.int z.1), ab_SH, ab_dD z.2))) : ∀ (n : Nat), ∀ (y1 : Int32) (y2 : Int32) (y3 : Int32) (y4 : Int32) (y5 : Int32) (y6 : Int32) (h : abJ) (z : (Int32 × abJ)), fX8_countAgain_L45 k21 n y1 y2 y3 y4 y5 y6 h = some z → ab_Ex X (d + 3) 115 45 [(0, .ref 35), (1, .int y1), (2, .int y2), (3, .int y3), (4, .int y4), (5, .int y5), (6, .int y6)] [] ab_SH (ab_dD h) (fun r => r = (some (.int z.1), ab_SH, ab_dD z.2)) := by
  intro n
  induction n with
  | zero => intro y1 y2 y3 y4 y5 y6 h z hf; cases hf
  | succ n ih =>
    intro y1 y2 y3 y4 y5 y6 h z hf
    rw [fX8_countAgain_L45] at hf
    refine ab_Ex.blk (k := 4) (pc' := 54) (lv' := [(0, .ref 35), (1, .int y1), (2, .int y2), (3, .int y3), (4, .int y4), (5, .int y5), (6, .int y6)]) (st' := [.int ((h.1 1 0)), .int y6]) (sh' := ab_SH) (D' := ab_dD h) (fun n => rfl) ?_
    refine ab_Ex.ifc (c := (h.1 1 0) ≤ y6) (SA := (174, [(0, .ref 35), (1, .int y1), (2, .int y2), (3, .int y3), (4, .int y4), (5, .int y5), (6, .int y6)], [], ab_dD h)) (SB := (57, [(0, .ref 35), (1, .int y1), (2, .int y2), (3, .int y3), (4, .int y4), (5, .int y5), (6, .int y6)], [], ab_dD h)) (fun n => rfl) (fun c6 => ?_) (fun c6 => ?_)
    · replace hf := (if_pos c6).symm.trans hf
      exact sX8_countAgain_J174 d X k21 hk21 y1 y2 y3 y4 y5 h _ hf
    · replace hf := (if_neg c6).symm.trans hf
      refine ab_Ex.blk (k := 8) (pc' := 71) (lv' := [(0, .ref 35), (1, .int y1), (2, .int y2), (3, .int y3), (4, .int y4), (5, .int y5), (6, .int y6), (7, .int y4), (8, .int (((y5 * 6) + y6)))]) (st' := []) (sh' := ab_SH) (D' := ab_dD h) (fun n => rfl) ?_
      exact sX8_countAgain_L71 d X (fun y1 y2 y3 y4 y5 y6 h => fX8_countAgain_L45 k21 n y1 y2 y3 y4 y5 y6 h) (fun y1 y2 y3 y4 y5 y6 h z hz => ih y1 y2 y3 y4 y5 y6 h z hz) ab_N y1 y2 y3 y4 y5 y6 y4 (((y5 * 6) + y6)) h _ hf
set_option maxRecDepth 20000 in
theorem sX8_countAgain_L21 (d : Nat) (X : abX)   : ∀ (n : Nat), ∀ (y1 : Int32) (y2 : Int32) (y3 : Int32) (y4 : Int32) (y5 : Int32) (h : abJ) (z : (Int32 × abJ)), fX8_countAgain_L21 n y1 y2 y3 y4 y5 h = some z → ab_Ex X (d + 3) 115 21 [(0, .ref 35), (1, .int y1), (2, .int y2), (3, .int y3), (4, .int y4), (5, .int y5)] [] ab_SH (ab_dD h) (fun r => r = (some (.int z.1), ab_SH, ab_dD z.2)) := by
  intro n
  induction n with
  | zero => intro y1 y2 y3 y4 y5 h z hf; cases hf
  | succ n ih =>
    intro y1 y2 y3 y4 y5 h z hf
    rw [fX8_countAgain_L21] at hf
    refine ab_Ex.blk (k := 2) (pc' := 24) (lv' := [(0, .ref 35), (1, .int y1), (2, .int y2), (3, .int y3), (4, .int y4), (5, .int y5)]) (st' := [.int y2, .int y5]) (sh' := ab_SH) (D' := ab_dD h) (fun n => rfl) ?_
    refine ab_Ex.ifc (c := y2 ≤ y5) (SA := (180, [(0, .ref 35), (1, .int y1), (2, .int y2), (3, .int y3), (4, .int y4), (5, .int y5)], [], ab_dD h)) (SB := (27, [(0, .ref 35), (1, .int y1), (2, .int y2), (3, .int y3), (4, .int y4), (5, .int y5)], [], ab_dD h)) (fun n => rfl) (fun c3 => ?_) (fun c3 => ?_)
    · replace hf := (if_pos c3).symm.trans hf
      refine ab_Ex.blk (k := 1) (pc' := 181) (lv' := [(0, .ref 35), (1, .int y1), (2, .int y2), (3, .int y3), (4, .int y4), (5, .int y5)]) (st' := [.int y3]) (sh' := ab_SH) (D' := ab_dD h) (fun n => rfl) ?_
      obtain rfl := Option.some.inj hf
      exact ab_Ex.ret (fun n => rfl) rfl
    · replace hf := (if_neg c3).symm.trans hf
      refine ab_Ex.blk (k := 3) (pc' := 33) (lv' := [(0, .ref 35), (1, .int y1), (2, .int y2), (3, .int y3), (4, .int y4), (5, .int y5)]) (st' := [.int y5, .ref 1]) (sh' := ab_SH) (D' := ab_dD h) (fun n => rfl) ?_
      obtain ⟨r4, hr4, hf⟩ := ab_bind_s hf
      refine ab_Ex.call (d := d + 2) (M2 := 42) (as := [.ref 1, .int y5]) (rest := []) (fun n => rfl) rfl (Nat.not_lt.mpr (Nat.le_of_ble_eq_true rfl)) (sX3_canShow (d + 1) X y5 h _ hr4) (fun r hr => ?_)
      subst hr
      show ab_Ex X (d + 3) 115 36 [(0, .ref 35), (1, .int y1), (2, .int y2), (3, .int y3), (4, .int y4), (5, .int y5)] [.int r4] ab_SH (ab_dD h) _
      refine ab_Ex.ifc (c := r4 = 0) (SA := (39, [(0, .ref 35), (1, .int y1), (2, .int y2), (3, .int y3), (4, .int y4), (5, .int y5)], [], ab_dD h)) (SB := (42, [(0, .ref 35), (1, .int y1), (2, .int y2), (3, .int y3), (4, .int y4), (5, .int y5)], [], ab_dD h)) (fun n => rfl) (fun c5 => ?_) (fun c5 => ?_)
      · replace hf := (if_pos c5).symm.trans hf
        refine ab_Ex.blk (k := 1) (pc' := 174) (lv' := [(0, .ref 35), (1, .int y1), (2, .int y2), (3, .int y3), (4, .int y4), (5, .int y5)]) (st' := []) (sh' := ab_SH) (D' := ab_dD h) (fun n => rfl) ?_
        exact sX8_countAgain_J174 d X (fun y1 y2 y3 y4 y5 h => fX8_countAgain_L21 n y1 y2 y3 y4 y5 h) (fun y1 y2 y3 y4 y5 h z hz => ih y1 y2 y3 y4 y5 h z hz) y1 y2 y3 y4 y5 h _ hf
      · replace hf := (if_neg c5).symm.trans hf
        refine ab_Ex.blk (k := 2) (pc' := 45) (lv' := [(0, .ref 35), (1, .int y1), (2, .int y2), (3, .int y3), (4, .int y4), (5, .int y5), (6, .int 0)]) (st' := []) (sh' := ab_SH) (D' := ab_dD h) (fun n => rfl) ?_
        exact sX8_countAgain_L45 d X (fun y1 y2 y3 y4 y5 h => fX8_countAgain_L21 n y1 y2 y3 y4 y5 h) (fun y1 y2 y3 y4 y5 h z hz => ih y1 y2 y3 y4 y5 h z hz) ab_N y1 y2 y3 y4 y5 0 h _ hf
set_option maxRecDepth 20000 in
theorem sX8_countAgain (d : Nat) (X : abX) (x0 : Int32) (h : abJ) (z : (Int32 × abJ)) (hf : fX8_countAgain x0 h = some z) : ab_Ex X (d + 3) 115 0 [(0, .ref 35), (1, .int x0)] [] ab_SH (ab_dD h) (fun r => r = (some (.int z.1), ab_SH, ab_dD z.2)) := by
  unfold fX8_countAgain at hf
  refine ab_Ex.blk (k := 2) (pc' := 2) (lv' := [(0, .ref 35), (1, .int x0)]) (st' := [.int ((-1)), .ref 35]) (sh' := ab_SH) (D' := ab_dD h) (fun n => rfl) ?_
  obtain ⟨r1, hr1, hf⟩ := ab_bind_s hf
  refine ab_Ex.call (d := d + 2) (M2 := 105) (as := [.ref 35, .int ((-1))]) (rest := []) (fun n => rfl) rfl (Nat.not_lt.mpr (Nat.le_of_ble_eq_true rfl)) (sX8_clearSeen (d) X ((-1)) h _ hr1) (fun r hr => ?_)
  subst hr
  show ab_Ex X (d + 3) 115 5 [(0, .ref 35), (1, .int x0)] [] ab_SH (ab_dD r1) _
  refine ab_Ex.blk (k := 2) (pc' := 9) (lv' := [(0, .ref 35), (1, .int x0)]) (st' := [.ref 1]) (sh' := ab_SH) (D' := ab_dD r1) (fun n => rfl) ?_
  obtain ⟨r2, hr2, hf⟩ := ab_bind_s hf
  refine ab_Ex.call (d := d + 2) (M2 := 41) (as := [.ref 1]) (rest := []) (fun n => rfl) rfl (Nat.not_lt.mpr (Nat.le_of_ble_eq_true rfl)) (sX3_armLimit (d + 2) X  r1 _ hr2) (fun r hr => ?_)
  subst hr
  show ab_Ex X (d + 3) 115 12 [(0, .ref 35), (1, .int x0)] [.int r2] ab_SH (ab_dD r1) _
  refine ab_Ex.blk (k := 7) (pc' := 21) (lv' := [(0, .ref 35), (1, .int x0), (2, .int r2), (3, .int 0), (4, .int 0), (5, .int 0)]) (st' := []) (sh' := ab_SH) (D' := ab_dD r1) (fun n => rfl) ?_
  exact sX8_countAgain_L21 d X  ab_N x0 r2 0 0 0 r1 _ hf
def fJ7_fill_d0a16_L6 (x0 : Nat)  : Nat → Int64 → Int32 → Int32 → abJ → Option abJ
  | 0, _, _, _, _ => none
  | n + 1, y1, y3, y4, h => if y4 ≤ y3 then some h else ab_ask (y3 < 0 ∨ (ab_ln x0) ≤ (y3 : Int32).toNatClampNeg) (fJ7_fill_d0a16_L6 x0 n y1 ((y3 + 1)) y4 (ab_wL h x0 (y3 : Int32).toNatClampNeg y1))
def fJ7_fill_d0a16 (x0 : Nat) (x1 : Int64) (h : abJ) : Option abJ := fJ7_fill_d0a16_L6 x0 ab_N x1 0 ((Int32.ofNat (ab_ln x0))) h
set_option maxRecDepth 20000 in
theorem sJ7_fill_d0a16_L6_45 (d : Nat) (X : abX)   : ∀ (n : Nat), ∀ (y1 : Int64) (y3 : Int32) (y4 : Int32) (h : abJ) (z : abJ), fJ7_fill_d0a16_L6 45 n y1 y3 y4 h = some z → ab_Ex X (d + 0) 316 6 [(0, .ref 45), (1, .long y1), (3, .int y3), (4, .int y4)] [] ab_SH (ab_dD h) (fun r => r = (none, ab_SH, ab_dD z)) := by
  intro n
  induction n with
  | zero => intro y1 y3 y4 h z hf; cases hf
  | succ n ih =>
    intro y1 y3 y4 h z hf
    rw [fJ7_fill_d0a16_L6] at hf
    try simp only [Nat.reduceAdd] at hf
    refine ab_Ex.blk (k := 2) (pc' := 9) (lv' := [(0, .ref 45), (1, .long y1), (3, .int y3), (4, .int y4)]) (st' := [.int y4, .int y3]) (sh' := ab_SH) (D' := ab_dD h) (fun n => rfl) ?_
    refine ab_Ex.ifc (c := y4 ≤ y3) (SA := (22, [(0, .ref 45), (1, .long y1), (3, .int y3), (4, .int y4)], [], ab_dD h)) (SB := (12, [(0, .ref 45), (1, .long y1), (3, .int y3), (4, .int y4)], [], ab_dD h)) (fun n => rfl) (fun c1 => ?_) (fun c1 => ?_)
    · replace hf := (if_pos c1).symm.trans hf
      obtain rfl := Option.some.inj hf
      exact ab_Ex.ret (fun n => rfl) rfl
    · replace hf := (if_neg c1).symm.trans hf
      refine ab_Ex.blk (k := 3) (pc' := 15) (lv' := [(0, .ref 45), (1, .long y1), (3, .int y3), (4, .int y4)]) (st' := [.long y1, .int y3, .ref 45]) (sh' := ab_SH) (D' := ab_dD h) (fun n => rfl) ?_
      obtain ⟨c2, hf⟩ := ab_ask_s hf
      refine ab_Ex.grd (c := y3 < 0 ∨ 40 ≤ (y3 : Int32).toNatClampNeg) (S := (16, [(0, .ref 45), (1, .long y1), (3, .int y3), (4, .int y4)], [], ab_dD (ab_wL h 45 (y3 : Int32).toNatClampNeg y1))) (fun n => rfl) c2 ?_
      refine ab_Ex.blk (k := 2) (pc' := 6) (lv' := [(0, .ref 45), (1, .long y1), (3, .int ((y3 + 1))), (4, .int y4)]) (st' := []) (sh' := ab_SH) (D' := ab_dD (ab_wL h 45 (y3 : Int32).toNatClampNeg y1)) (fun n => rfl) ?_
      exact ih y1 ((y3 + 1)) y4 (ab_wL h 45 (y3 : Int32).toNatClampNeg y1) _ hf
set_option maxRecDepth 20000 in
theorem sJ7_fill_d0a16_45 (d : Nat) (X : abX) (x1 : Int64) (h : abJ) (z : abJ) (hf : fJ7_fill_d0a16 45 x1 h = some z) : ab_Ex X (d + 0) 316 0 [(0, .ref 45), (1, .long x1)] [] ab_SH (ab_dD h) (fun r => r = (none, ab_SH, ab_dD z)) := by
  unfold fJ7_fill_d0a16 at hf
  try simp only [Nat.reduceAdd] at hf
  refine ab_Ex.blk (k := 5) (pc' := 6) (lv' := [(0, .ref 45), (1, .long x1), (3, .int 0), (4, .int ((Int32.ofNat 40)))]) (st' := []) (sh' := ab_SH) (D' := ab_dD h) (fun n => rfl) ?_
  exact sJ7_fill_d0a16_L6_45 d X  ab_N x1 0 ((Int32.ofNat 40)) h _ hf
set_option maxRecDepth 20000 in
theorem sJ7_fill_d0a16_L6_47 (d : Nat) (X : abX)   : ∀ (n : Nat), ∀ (y1 : Int64) (y3 : Int32) (y4 : Int32) (h : abJ) (z : abJ), fJ7_fill_d0a16_L6 47 n y1 y3 y4 h = some z → ab_Ex X (d + 0) 316 6 [(0, .ref 47), (1, .long y1), (3, .int y3), (4, .int y4)] [] ab_SH (ab_dD h) (fun r => r = (none, ab_SH, ab_dD z)) := by
  intro n
  induction n with
  | zero => intro y1 y3 y4 h z hf; cases hf
  | succ n ih =>
    intro y1 y3 y4 h z hf
    rw [fJ7_fill_d0a16_L6] at hf
    try simp only [Nat.reduceAdd] at hf
    refine ab_Ex.blk (k := 2) (pc' := 9) (lv' := [(0, .ref 47), (1, .long y1), (3, .int y3), (4, .int y4)]) (st' := [.int y4, .int y3]) (sh' := ab_SH) (D' := ab_dD h) (fun n => rfl) ?_
    refine ab_Ex.ifc (c := y4 ≤ y3) (SA := (22, [(0, .ref 47), (1, .long y1), (3, .int y3), (4, .int y4)], [], ab_dD h)) (SB := (12, [(0, .ref 47), (1, .long y1), (3, .int y3), (4, .int y4)], [], ab_dD h)) (fun n => rfl) (fun c1 => ?_) (fun c1 => ?_)
    · replace hf := (if_pos c1).symm.trans hf
      obtain rfl := Option.some.inj hf
      exact ab_Ex.ret (fun n => rfl) rfl
    · replace hf := (if_neg c1).symm.trans hf
      refine ab_Ex.blk (k := 3) (pc' := 15) (lv' := [(0, .ref 47), (1, .long y1), (3, .int y3), (4, .int y4)]) (st' := [.long y1, .int y3, .ref 47]) (sh' := ab_SH) (D' := ab_dD h) (fun n => rfl) ?_
      obtain ⟨c2, hf⟩ := ab_ask_s hf
      refine ab_Ex.grd (c := y3 < 0 ∨ 40 ≤ (y3 : Int32).toNatClampNeg) (S := (16, [(0, .ref 47), (1, .long y1), (3, .int y3), (4, .int y4)], [], ab_dD (ab_wL h 47 (y3 : Int32).toNatClampNeg y1))) (fun n => rfl) c2 ?_
      refine ab_Ex.blk (k := 2) (pc' := 6) (lv' := [(0, .ref 47), (1, .long y1), (3, .int ((y3 + 1))), (4, .int y4)]) (st' := []) (sh' := ab_SH) (D' := ab_dD (ab_wL h 47 (y3 : Int32).toNatClampNeg y1)) (fun n => rfl) ?_
      exact ih y1 ((y3 + 1)) y4 (ab_wL h 47 (y3 : Int32).toNatClampNeg y1) _ hf
set_option maxRecDepth 20000 in
theorem sJ7_fill_d0a16_47 (d : Nat) (X : abX) (x1 : Int64) (h : abJ) (z : abJ) (hf : fJ7_fill_d0a16 47 x1 h = some z) : ab_Ex X (d + 0) 316 0 [(0, .ref 47), (1, .long x1)] [] ab_SH (ab_dD h) (fun r => r = (none, ab_SH, ab_dD z)) := by
  unfold fJ7_fill_d0a16 at hf
  try simp only [Nat.reduceAdd] at hf
  refine ab_Ex.blk (k := 5) (pc' := 6) (lv' := [(0, .ref 47), (1, .long x1), (3, .int 0), (4, .int ((Int32.ofNat 40)))]) (st' := []) (sh' := ab_SH) (D' := ab_dD h) (fun n => rfl) ?_
  exact sJ7_fill_d0a16_L6_47 d X  ab_N x1 0 ((Int32.ofNat 40)) h _ hf
set_option maxRecDepth 20000 in
theorem sJ7_fill_d0a16_L6_49 (d : Nat) (X : abX)   : ∀ (n : Nat), ∀ (y1 : Int64) (y3 : Int32) (y4 : Int32) (h : abJ) (z : abJ), fJ7_fill_d0a16_L6 49 n y1 y3 y4 h = some z → ab_Ex X (d + 0) 316 6 [(0, .ref 49), (1, .long y1), (3, .int y3), (4, .int y4)] [] ab_SH (ab_dD h) (fun r => r = (none, ab_SH, ab_dD z)) := by
  intro n
  induction n with
  | zero => intro y1 y3 y4 h z hf; cases hf
  | succ n ih =>
    intro y1 y3 y4 h z hf
    rw [fJ7_fill_d0a16_L6] at hf
    try simp only [Nat.reduceAdd] at hf
    refine ab_Ex.blk (k := 2) (pc' := 9) (lv' := [(0, .ref 49), (1, .long y1), (3, .int y3), (4, .int y4)]) (st' := [.int y4, .int y3]) (sh' := ab_SH) (D' := ab_dD h) (fun n => rfl) ?_
    refine ab_Ex.ifc (c := y4 ≤ y3) (SA := (22, [(0, .ref 49), (1, .long y1), (3, .int y3), (4, .int y4)], [], ab_dD h)) (SB := (12, [(0, .ref 49), (1, .long y1), (3, .int y3), (4, .int y4)], [], ab_dD h)) (fun n => rfl) (fun c1 => ?_) (fun c1 => ?_)
    · replace hf := (if_pos c1).symm.trans hf
      obtain rfl := Option.some.inj hf
      exact ab_Ex.ret (fun n => rfl) rfl
    · replace hf := (if_neg c1).symm.trans hf
      refine ab_Ex.blk (k := 3) (pc' := 15) (lv' := [(0, .ref 49), (1, .long y1), (3, .int y3), (4, .int y4)]) (st' := [.long y1, .int y3, .ref 49]) (sh' := ab_SH) (D' := ab_dD h) (fun n => rfl) ?_
      obtain ⟨c2, hf⟩ := ab_ask_s hf
      refine ab_Ex.grd (c := y3 < 0 ∨ 40 ≤ (y3 : Int32).toNatClampNeg) (S := (16, [(0, .ref 49), (1, .long y1), (3, .int y3), (4, .int y4)], [], ab_dD (ab_wL h 49 (y3 : Int32).toNatClampNeg y1))) (fun n => rfl) c2 ?_
      refine ab_Ex.blk (k := 2) (pc' := 6) (lv' := [(0, .ref 49), (1, .long y1), (3, .int ((y3 + 1))), (4, .int y4)]) (st' := []) (sh' := ab_SH) (D' := ab_dD (ab_wL h 49 (y3 : Int32).toNatClampNeg y1)) (fun n => rfl) ?_
      exact ih y1 ((y3 + 1)) y4 (ab_wL h 49 (y3 : Int32).toNatClampNeg y1) _ hf
set_option maxRecDepth 20000 in
theorem sJ7_fill_d0a16_49 (d : Nat) (X : abX) (x1 : Int64) (h : abJ) (z : abJ) (hf : fJ7_fill_d0a16 49 x1 h = some z) : ab_Ex X (d + 0) 316 0 [(0, .ref 49), (1, .long x1)] [] ab_SH (ab_dD h) (fun r => r = (none, ab_SH, ab_dD z)) := by
  unfold fJ7_fill_d0a16 at hf
  try simp only [Nat.reduceAdd] at hf
  refine ab_Ex.blk (k := 5) (pc' := 6) (lv' := [(0, .ref 49), (1, .long x1), (3, .int 0), (4, .int ((Int32.ofNat 40)))]) (st' := []) (sh' := ab_SH) (D' := ab_dD h) (fun n => rfl) ?_
  exact sJ7_fill_d0a16_L6_49 d X  ab_N x1 0 ((Int32.ofNat 40)) h _ hf
set_option maxRecDepth 20000 in
theorem sJ7_fill_d0a16_L6_51 (d : Nat) (X : abX)   : ∀ (n : Nat), ∀ (y1 : Int64) (y3 : Int32) (y4 : Int32) (h : abJ) (z : abJ), fJ7_fill_d0a16_L6 51 n y1 y3 y4 h = some z → ab_Ex X (d + 0) 316 6 [(0, .ref 51), (1, .long y1), (3, .int y3), (4, .int y4)] [] ab_SH (ab_dD h) (fun r => r = (none, ab_SH, ab_dD z)) := by
  intro n
  induction n with
  | zero => intro y1 y3 y4 h z hf; cases hf
  | succ n ih =>
    intro y1 y3 y4 h z hf
    rw [fJ7_fill_d0a16_L6] at hf
    try simp only [Nat.reduceAdd] at hf
    refine ab_Ex.blk (k := 2) (pc' := 9) (lv' := [(0, .ref 51), (1, .long y1), (3, .int y3), (4, .int y4)]) (st' := [.int y4, .int y3]) (sh' := ab_SH) (D' := ab_dD h) (fun n => rfl) ?_
    refine ab_Ex.ifc (c := y4 ≤ y3) (SA := (22, [(0, .ref 51), (1, .long y1), (3, .int y3), (4, .int y4)], [], ab_dD h)) (SB := (12, [(0, .ref 51), (1, .long y1), (3, .int y3), (4, .int y4)], [], ab_dD h)) (fun n => rfl) (fun c1 => ?_) (fun c1 => ?_)
    · replace hf := (if_pos c1).symm.trans hf
      obtain rfl := Option.some.inj hf
      exact ab_Ex.ret (fun n => rfl) rfl
    · replace hf := (if_neg c1).symm.trans hf
      refine ab_Ex.blk (k := 3) (pc' := 15) (lv' := [(0, .ref 51), (1, .long y1), (3, .int y3), (4, .int y4)]) (st' := [.long y1, .int y3, .ref 51]) (sh' := ab_SH) (D' := ab_dD h) (fun n => rfl) ?_
      obtain ⟨c2, hf⟩ := ab_ask_s hf
      refine ab_Ex.grd (c := y3 < 0 ∨ 40 ≤ (y3 : Int32).toNatClampNeg) (S := (16, [(0, .ref 51), (1, .long y1), (3, .int y3), (4, .int y4)], [], ab_dD (ab_wL h 51 (y3 : Int32).toNatClampNeg y1))) (fun n => rfl) c2 ?_
      refine ab_Ex.blk (k := 2) (pc' := 6) (lv' := [(0, .ref 51), (1, .long y1), (3, .int ((y3 + 1))), (4, .int y4)]) (st' := []) (sh' := ab_SH) (D' := ab_dD (ab_wL h 51 (y3 : Int32).toNatClampNeg y1)) (fun n => rfl) ?_
      exact ih y1 ((y3 + 1)) y4 (ab_wL h 51 (y3 : Int32).toNatClampNeg y1) _ hf
set_option maxRecDepth 20000 in
theorem sJ7_fill_d0a16_51 (d : Nat) (X : abX) (x1 : Int64) (h : abJ) (z : abJ) (hf : fJ7_fill_d0a16 51 x1 h = some z) : ab_Ex X (d + 0) 316 0 [(0, .ref 51), (1, .long x1)] [] ab_SH (ab_dD h) (fun r => r = (none, ab_SH, ab_dD z)) := by
  unfold fJ7_fill_d0a16 at hf
  try simp only [Nat.reduceAdd] at hf
  refine ab_Ex.blk (k := 5) (pc' := 6) (lv' := [(0, .ref 51), (1, .long x1), (3, .int 0), (4, .int ((Int32.ofNat 40)))]) (st' := []) (sh' := ab_SH) (D' := ab_dD h) (fun n => rfl) ?_
  exact sJ7_fill_d0a16_L6_51 d X  ab_N x1 0 ((Int32.ofNat 40)) h _ hf
