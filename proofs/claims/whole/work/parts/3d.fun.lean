def fX12_goesStep  (h : abJ) : Option abJ := (fX12_standNow h).bind (fun r1 => (fX12_stepTo r1 ((h.1 65 40)) h).bind (fun r2 => (fX12_isStand (r2.1) r2.2).bind (fun r3 => some (ab_wI r3 65 41 ((r3.1 65 41) + 1)))))
set_option maxRecDepth 20000 in
theorem sX12_goesStep (d : Nat) (X : abX)  (h : abJ) (z : abJ) (hf : fX12_goesStep  h = some z) : ab_Ex X (d + 4) 231 0 [(0, .ref 64)] [] ab_SH (ab_dD h) (fun r => r = (none, ab_SH, ab_dD z)) := by
  unfold fX12_goesStep at hf
  refine ab_Ex.blk (k := 3) (pc' := 3) (lv' := [(0, .ref 64)]) (st' := [.ref 64, .ref 64, .ref 64]) (sh' := ab_SH) (D' := ab_dD h) (fun n => rfl) ?_
  obtain ⟨r1, hr1, hf⟩ := ab_bind_s hf
  refine ab_Ex.call (d := d + 3) (M2 := 216) (as := [.ref 64]) (rest := [.ref 64, .ref 64]) (fun n => rfl) rfl (Nat.not_lt.mpr (Nat.le_of_ble_eq_true rfl)) (sX12_standNow (d + 1) X  h _ hr1) (fun r hr => ?_)
  subst hr
  show ab_Ex X (d + 4) 231 6 [(0, .ref 64)] [.int r1, .ref 64, .ref 64] ab_SH (ab_dD h) _
  refine ab_Ex.blk (k := 3) (pc' := 12) (lv' := [(0, .ref 64)]) (st' := [.int 40, .ref 65, .int r1, .ref 64, .ref 64]) (sh' := ab_SH) (D' := ab_dD h) (fun n => rfl) ?_
  refine ab_Ex.blk (k := 1) (pc' := 13) (lv' := [(0, .ref 64)]) (st' := [.int ((h.1 65 40)), .int r1, .ref 64, .ref 64]) (sh' := ab_SH) (D' := ab_dD h) (fun n => rfl) ?_
  obtain ⟨r2, hr2, hf⟩ := ab_bind_s hf
  refine ab_Ex.call (d := d + 3) (M2 := 224) (as := [.ref 64, .int r1, .int ((h.1 65 40))]) (rest := [.ref 64]) (fun n => rfl) rfl (Nat.not_lt.mpr (Nat.le_of_ble_eq_true rfl)) (sX12_stepTo (d) X r1 ((h.1 65 40)) h _ hr2) (fun r hr => ?_)
  subst hr
  show ab_Ex X (d + 4) 231 16 [(0, .ref 64)] [.int r2.1, .ref 64] ab_SH (ab_dD r2.2) _
  obtain ⟨r3, hr3, hf⟩ := ab_bind_s hf
  refine ab_Ex.call (d := d + 3) (M2 := 217) (as := [.ref 64, .int r2.1]) (rest := []) (fun n => rfl) rfl (Nat.not_lt.mpr (Nat.le_of_ble_eq_true rfl)) (sX12_isStand (d + 1) X (r2.1) r2.2 _ hr3) (fun r hr => ?_)
  subst hr
  show ab_Ex X (d + 4) 231 19 [(0, .ref 64)] [] ab_SH (ab_dD r3) _
  refine ab_Ex.blk (k := 4) (pc' := 26) (lv' := [(0, .ref 64)]) (st' := [.int 41, .ref 65, .int 41, .ref 65]) (sh' := ab_SH) (D' := ab_dD r3) (fun n => rfl) ?_
  refine ab_Ex.blk (k := 1) (pc' := 27) (lv' := [(0, .ref 64)]) (st' := [.int ((r3.1 65 41)), .int 41, .ref 65]) (sh' := ab_SH) (D' := ab_dD r3) (fun n => rfl) ?_
  refine ab_Ex.blk (k := 2) (pc' := 29) (lv' := [(0, .ref 64)]) (st' := [.int (((r3.1 65 41) + 1)), .int 41, .ref 65]) (sh' := ab_SH) (D' := ab_dD r3) (fun n => rfl) ?_
  refine ab_Ex.blk (k := 1) (pc' := 30) (lv' := [(0, .ref 64)]) (st' := []) (sh' := ab_SH) (D' := ab_dD (ab_wI r3 65 41 ((r3.1 65 41) + 1))) (fun n => rfl) ?_
  obtain rfl := Option.some.inj hf
  exact ab_Ex.ret (fun n => rfl) rfl
def fX12_step  (h : abJ) : Option (Int32 × abJ) := (fX12_isRest (((ab_wI h 64 0 0).1 65 33)) (ab_wI h 64 0 0)).bind (fun r1 => if r1 = 0 then (fX12_stores (ab_wI h 64 0 0)).bind (fun r3 => (fX12_goesStep r3).bind (fun r4 => (fX12_notes r4).bind (fun r5 => some ((r5.1 65 33), r5)))) else some ((-12), (ab_wI h 64 0 0)))
set_option maxRecDepth 20000 in
theorem sX12_step (d : Nat) (X : abX)  (h : abJ) (z : (Int32 × abJ)) (hf : fX12_step  h = some z) : ab_Ex X (d + 5) 232 0 [(0, .ref 64)] [] ab_SH (ab_dD h) (fun r => r = (some (.int z.1), ab_SH, ab_dD z.2)) := by
  unfold fX12_step at hf
  refine ab_Ex.blk (k := 7) (pc' := 12) (lv' := [(0, .ref 64)]) (st' := [.int 33, .ref 65, .ref 64]) (sh' := ab_SH) (D' := ab_dD (ab_wI h 64 0 0)) (fun n => rfl) ?_
  refine ab_Ex.blk (k := 1) (pc' := 13) (lv' := [(0, .ref 64)]) (st' := [.int (((ab_wI h 64 0 0).1 65 33)), .ref 64]) (sh' := ab_SH) (D' := ab_dD (ab_wI h 64 0 0)) (fun n => rfl) ?_
  obtain ⟨r1, hr1, hf⟩ := ab_bind_s hf
  refine ab_Ex.call (d := d + 4) (M2 := 223) (as := [.ref 64, .int (((ab_wI h 64 0 0).1 65 33))]) (rest := []) (fun n => rfl) rfl (Nat.not_lt.mpr (Nat.le_of_ble_eq_true rfl)) (sX12_isRest (d + 3) X (((ab_wI h 64 0 0).1 65 33)) (ab_wI h 64 0 0) _ hr1) (fun r hr => ?_)
  subst hr
  show ab_Ex X (d + 5) 232 16 [(0, .ref 64)] [.int r1] ab_SH (ab_dD (ab_wI h 64 0 0)) _
  refine ab_Ex.ifc (c := r1 = 0) (SA := (22, [(0, .ref 64)], [], ab_dD (ab_wI h 64 0 0))) (SB := (19, [(0, .ref 64)], [], ab_dD (ab_wI h 64 0 0))) (fun n => rfl) (fun c2 => ?_) (fun c2 => ?_)
  · replace hf := (if_pos c2).symm.trans hf
    refine ab_Ex.blk (k := 1) (pc' := 23) (lv' := [(0, .ref 64)]) (st' := [.ref 64]) (sh' := ab_SH) (D' := ab_dD (ab_wI h 64 0 0)) (fun n => rfl) ?_
    obtain ⟨r3, hr3, hf⟩ := ab_bind_s hf
    refine ab_Ex.call (d := d + 4) (M2 := 228) (as := [.ref 64]) (rest := []) (fun n => rfl) rfl (Nat.not_lt.mpr (Nat.le_of_ble_eq_true rfl)) (sX12_stores (d + 4) X  (ab_wI h 64 0 0) _ hr3) (fun r hr => ?_)
    subst hr
    show ab_Ex X (d + 5) 232 26 [(0, .ref 64)] [] ab_SH (ab_dD r3) _
    refine ab_Ex.blk (k := 1) (pc' := 27) (lv' := [(0, .ref 64)]) (st' := [.ref 64]) (sh' := ab_SH) (D' := ab_dD r3) (fun n => rfl) ?_
    obtain ⟨r4, hr4, hf⟩ := ab_bind_s hf
    refine ab_Ex.call (d := d + 4) (M2 := 231) (as := [.ref 64]) (rest := []) (fun n => rfl) rfl (Nat.not_lt.mpr (Nat.le_of_ble_eq_true rfl)) (sX12_goesStep (d) X  r3 _ hr4) (fun r hr => ?_)
    subst hr
    show ab_Ex X (d + 5) 232 30 [(0, .ref 64)] [] ab_SH (ab_dD r4) _
    refine ab_Ex.blk (k := 1) (pc' := 31) (lv' := [(0, .ref 64)]) (st' := [.ref 64]) (sh' := ab_SH) (D' := ab_dD r4) (fun n => rfl) ?_
    obtain ⟨r5, hr5, hf⟩ := ab_bind_s hf
    refine ab_Ex.call (d := d + 4) (M2 := 230) (as := [.ref 64]) (rest := []) (fun n => rfl) rfl (Nat.not_lt.mpr (Nat.le_of_ble_eq_true rfl)) (sX12_notes (d + 4) X  r4 _ hr5) (fun r hr => ?_)
    subst hr
    show ab_Ex X (d + 5) 232 34 [(0, .ref 64)] [] ab_SH (ab_dD r5) _
    refine ab_Ex.blk (k := 3) (pc' := 40) (lv' := [(0, .ref 64)]) (st' := [.int 33, .ref 65]) (sh' := ab_SH) (D' := ab_dD r5) (fun n => rfl) ?_
    refine ab_Ex.blk (k := 1) (pc' := 41) (lv' := [(0, .ref 64)]) (st' := [.int ((r5.1 65 33))]) (sh' := ab_SH) (D' := ab_dD r5) (fun n => rfl) ?_
    obtain rfl := Option.some.inj hf
    exact ab_Ex.ret (fun n => rfl) rfl
  · replace hf := (if_neg c2).symm.trans hf
    refine ab_Ex.blk (k := 1) (pc' := 21) (lv' := [(0, .ref 64)]) (st' := [.int ((-12))]) (sh' := ab_SH) (D' := ab_dD (ab_wI h 64 0 0)) (fun n => rfl) ?_
    obtain rfl := Option.some.inj hf
    exact ab_Ex.ret (fun n => rfl) rfl
def fX12_steps_L42   : Nat → Int32 → Int32 → abJ → Option (Int32 × abJ)
  | 0, _, _, _ => none
  | n + 1, y1, y2, h => if y1 ≤ y2 then (fX12_notes h).bind (fun r7 => some (((r7.1 65 41) - (r7.1 71 8)), r7)) else (fX12_isRest ((h.1 65 33)) h).bind (fun r8 => if r8 = 0 then (fX12_goesStep h).bind (fun r10 => fX12_steps_L42 n y1 ((y2 + 1)) r10) else (fX12_notes h).bind (fun r11 => some (((r11.1 65 41) - (r11.1 71 8)), r11)))
def fX12_steps (x0 : Int32) (h : abJ) : Option (Int32 × abJ) := (fX12_within ((x0 : Int32).toInt64) 1 99 (ab_wI h 64 0 0)).bind (fun r1 => if r1 = 0 then some ((-3), (ab_wI h 64 0 0)) else (fX12_isRest (((ab_wI h 64 0 0).1 65 33)) (ab_wI h 64 0 0)).bind (fun r3 => if r3 = 0 then (fX12_stores (ab_wI h 64 0 0)).bind (fun r5 => fX12_steps_L42 ab_N x0 0 r5) else some (0, (ab_wI h 64 0 0))))
set_option maxRecDepth 20000 in
theorem sX12_steps_L42 (d : Nat) (X : abX)   : ∀ (n : Nat), ∀ (y1 : Int32) (y2 : Int32) (h : abJ) (z : (Int32 × abJ)), fX12_steps_L42 n y1 y2 h = some z → ab_Ex X (d + 5) 233 42 [(0, .ref 64), (1, .int y1), (2, .int y2)] [] ab_SH (ab_dD h) (fun r => r = (some (.int z.1), ab_SH, ab_dD z.2)) := by
  intro n
  induction n with
  | zero => intro y1 y2 h z hf; cases hf
  | succ n ih =>
    intro y1 y2 h z hf
    rw [fX12_steps_L42] at hf
    refine ab_Ex.blk (k := 2) (pc' := 44) (lv' := [(0, .ref 64), (1, .int y1), (2, .int y2)]) (st' := [.int y1, .int y2]) (sh' := ab_SH) (D' := ab_dD h) (fun n => rfl) ?_
    refine ab_Ex.ifc (c := y1 ≤ y2) (SA := (71, [(0, .ref 64), (1, .int y1), (2, .int y2)], [], ab_dD h)) (SB := (47, [(0, .ref 64), (1, .int y1), (2, .int y2)], [], ab_dD h)) (fun n => rfl) (fun c6 => ?_) (fun c6 => ?_)
    · replace hf := (if_pos c6).symm.trans hf
      refine ab_Ex.blk (k := 1) (pc' := 72) (lv' := [(0, .ref 64)]) (st' := [.ref 64]) (sh' := ab_SH) (D' := ab_dD h) (fun n => rfl) ?_
      obtain ⟨r7, hr7, hf⟩ := ab_bind_s hf
      refine ab_Ex.call (d := d + 4) (M2 := 230) (as := [.ref 64]) (rest := []) (fun n => rfl) rfl (Nat.not_lt.mpr (Nat.le_of_ble_eq_true rfl)) (sX12_notes (d + 4) X  h _ hr7) (fun r hr => ?_)
      subst hr
      show ab_Ex X (d + 5) 233 75 [(0, .ref 64)] [] ab_SH (ab_dD r7) _
      refine ab_Ex.blk (k := 3) (pc' := 81) (lv' := [(0, .ref 64)]) (st' := [.int 41, .ref 65]) (sh' := ab_SH) (D' := ab_dD r7) (fun n => rfl) ?_
      refine ab_Ex.blk (k := 1) (pc' := 82) (lv' := [(0, .ref 64)]) (st' := [.int ((r7.1 65 41))]) (sh' := ab_SH) (D' := ab_dD r7) (fun n => rfl) ?_
      refine ab_Ex.blk (k := 3) (pc' := 88) (lv' := [(0, .ref 64)]) (st' := [.int 8, .ref 71, .int ((r7.1 65 41))]) (sh' := ab_SH) (D' := ab_dD r7) (fun n => rfl) ?_
      refine ab_Ex.blk (k := 1) (pc' := 89) (lv' := [(0, .ref 64)]) (st' := [.int ((r7.1 71 8)), .int ((r7.1 65 41))]) (sh' := ab_SH) (D' := ab_dD r7) (fun n => rfl) ?_
      refine ab_Ex.blk (k := 1) (pc' := 90) (lv' := [(0, .ref 64)]) (st' := [.int (((r7.1 65 41) - (r7.1 71 8)))]) (sh' := ab_SH) (D' := ab_dD r7) (fun n => rfl) ?_
      obtain rfl := Option.some.inj hf
      exact ab_Ex.ret (fun n => rfl) rfl
    · replace hf := (if_neg c6).symm.trans hf
      refine ab_Ex.blk (k := 4) (pc' := 54) (lv' := [(0, .ref 64), (1, .int y1), (2, .int y2)]) (st' := [.int 33, .ref 65, .ref 64]) (sh' := ab_SH) (D' := ab_dD h) (fun n => rfl) ?_
      refine ab_Ex.blk (k := 1) (pc' := 55) (lv' := [(0, .ref 64), (1, .int y1), (2, .int y2)]) (st' := [.int ((h.1 65 33)), .ref 64]) (sh' := ab_SH) (D' := ab_dD h) (fun n => rfl) ?_
      obtain ⟨r8, hr8, hf⟩ := ab_bind_s hf
      refine ab_Ex.call (d := d + 4) (M2 := 223) (as := [.ref 64, .int ((h.1 65 33))]) (rest := []) (fun n => rfl) rfl (Nat.not_lt.mpr (Nat.le_of_ble_eq_true rfl)) (sX12_isRest (d + 3) X ((h.1 65 33)) h _ hr8) (fun r hr => ?_)
      subst hr
      show ab_Ex X (d + 5) 233 58 [(0, .ref 64), (1, .int y1), (2, .int y2)] [.int r8] ab_SH (ab_dD h) _
      refine ab_Ex.ifc (c := r8 = 0) (SA := (61, [(0, .ref 64), (1, .int y1), (2, .int y2)], [], ab_dD h)) (SB := (71, [(0, .ref 64), (1, .int y1), (2, .int y2)], [], ab_dD h)) (fun n => rfl) (fun c9 => ?_) (fun c9 => ?_)
      · replace hf := (if_pos c9).symm.trans hf
        refine ab_Ex.blk (k := 1) (pc' := 62) (lv' := [(0, .ref 64), (1, .int y1), (2, .int y2)]) (st' := [.ref 64]) (sh' := ab_SH) (D' := ab_dD h) (fun n => rfl) ?_
        obtain ⟨r10, hr10, hf⟩ := ab_bind_s hf
        refine ab_Ex.call (d := d + 4) (M2 := 231) (as := [.ref 64]) (rest := []) (fun n => rfl) rfl (Nat.not_lt.mpr (Nat.le_of_ble_eq_true rfl)) (sX12_goesStep (d) X  h _ hr10) (fun r hr => ?_)
        subst hr
        show ab_Ex X (d + 5) 233 65 [(0, .ref 64), (1, .int y1), (2, .int y2)] [] ab_SH (ab_dD r10) _
        refine ab_Ex.blk (k := 2) (pc' := 42) (lv' := [(0, .ref 64), (1, .int y1), (2, .int ((y2 + 1)))]) (st' := []) (sh' := ab_SH) (D' := ab_dD r10) (fun n => rfl) ?_
        exact ih y1 ((y2 + 1)) r10 _ hf
      · replace hf := (if_neg c9).symm.trans hf
        refine ab_Ex.blk (k := 1) (pc' := 72) (lv' := [(0, .ref 64)]) (st' := [.ref 64]) (sh' := ab_SH) (D' := ab_dD h) (fun n => rfl) ?_
        obtain ⟨r11, hr11, hf⟩ := ab_bind_s hf
        refine ab_Ex.call (d := d + 4) (M2 := 230) (as := [.ref 64]) (rest := []) (fun n => rfl) rfl (Nat.not_lt.mpr (Nat.le_of_ble_eq_true rfl)) (sX12_notes (d + 4) X  h _ hr11) (fun r hr => ?_)
        subst hr
        show ab_Ex X (d + 5) 233 75 [(0, .ref 64)] [] ab_SH (ab_dD r11) _
        refine ab_Ex.blk (k := 3) (pc' := 81) (lv' := [(0, .ref 64)]) (st' := [.int 41, .ref 65]) (sh' := ab_SH) (D' := ab_dD r11) (fun n => rfl) ?_
        refine ab_Ex.blk (k := 1) (pc' := 82) (lv' := [(0, .ref 64)]) (st' := [.int ((r11.1 65 41))]) (sh' := ab_SH) (D' := ab_dD r11) (fun n => rfl) ?_
        refine ab_Ex.blk (k := 3) (pc' := 88) (lv' := [(0, .ref 64)]) (st' := [.int 8, .ref 71, .int ((r11.1 65 41))]) (sh' := ab_SH) (D' := ab_dD r11) (fun n => rfl) ?_
        refine ab_Ex.blk (k := 1) (pc' := 89) (lv' := [(0, .ref 64)]) (st' := [.int ((r11.1 71 8)), .int ((r11.1 65 41))]) (sh' := ab_SH) (D' := ab_dD r11) (fun n => rfl) ?_
        refine ab_Ex.blk (k := 1) (pc' := 90) (lv' := [(0, .ref 64)]) (st' := [.int (((r11.1 65 41) - (r11.1 71 8)))]) (sh' := ab_SH) (D' := ab_dD r11) (fun n => rfl) ?_
        obtain rfl := Option.some.inj hf
        exact ab_Ex.ret (fun n => rfl) rfl
set_option maxRecDepth 20000 in
theorem sX12_steps (d : Nat) (X : abX) (x0 : Int32) (h : abJ) (z : (Int32 × abJ)) (hf : fX12_steps x0 h = some z) : ab_Ex X (d + 5) 233 0 [(0, .ref 64), (1, .int x0)] [] ab_SH (ab_dD h) (fun r => r = (some (.int z.1), ab_SH, ab_dD z.2)) := by
  unfold fX12_steps at hf
  refine ab_Ex.blk (k := 7) (pc' := 11) (lv' := [(0, .ref 64), (1, .int x0)]) (st' := [.long 99, .long 1, .long ((x0 : Int32).toInt64)]) (sh' := ab_SH) (D' := ab_dD (ab_wI h 64 0 0)) (fun n => rfl) ?_
  obtain ⟨r1, hr1, hf⟩ := ab_bind_s hf
  refine ab_Ex.call (d := d + 4) (M2 := 175) (as := [.long ((x0 : Int32).toInt64), .long 1, .long 99]) (rest := []) (fun n => rfl) rfl (Nat.not_lt.mpr (Nat.le_of_ble_eq_true rfl)) (sX12_within (d + 4) X ((x0 : Int32).toInt64) 1 99 (ab_wI h 64 0 0) _ hr1) (fun r hr => ?_)
  subst hr
  show ab_Ex X (d + 5) 233 14 [(0, .ref 64), (1, .int x0)] [.int r1] ab_SH (ab_dD (ab_wI h 64 0 0)) _
  refine ab_Ex.ifc (c := r1 = 0) (SA := (17, [(0, .ref 64), (1, .int x0)], [], ab_dD (ab_wI h 64 0 0))) (SB := (20, [(0, .ref 64), (1, .int x0)], [], ab_dD (ab_wI h 64 0 0))) (fun n => rfl) (fun c2 => ?_) (fun c2 => ?_)
  · replace hf := (if_pos c2).symm.trans hf
    refine ab_Ex.blk (k := 1) (pc' := 19) (lv' := [(0, .ref 64), (1, .int x0)]) (st' := [.int ((-3))]) (sh' := ab_SH) (D' := ab_dD (ab_wI h 64 0 0)) (fun n => rfl) ?_
    obtain rfl := Option.some.inj hf
    exact ab_Ex.ret (fun n => rfl) rfl
  · replace hf := (if_neg c2).symm.trans hf
    refine ab_Ex.blk (k := 4) (pc' := 27) (lv' := [(0, .ref 64), (1, .int x0)]) (st' := [.int 33, .ref 65, .ref 64]) (sh' := ab_SH) (D' := ab_dD (ab_wI h 64 0 0)) (fun n => rfl) ?_
    refine ab_Ex.blk (k := 1) (pc' := 28) (lv' := [(0, .ref 64), (1, .int x0)]) (st' := [.int (((ab_wI h 64 0 0).1 65 33)), .ref 64]) (sh' := ab_SH) (D' := ab_dD (ab_wI h 64 0 0)) (fun n => rfl) ?_
    obtain ⟨r3, hr3, hf⟩ := ab_bind_s hf
    refine ab_Ex.call (d := d + 4) (M2 := 223) (as := [.ref 64, .int (((ab_wI h 64 0 0).1 65 33))]) (rest := []) (fun n => rfl) rfl (Nat.not_lt.mpr (Nat.le_of_ble_eq_true rfl)) (sX12_isRest (d + 3) X (((ab_wI h 64 0 0).1 65 33)) (ab_wI h 64 0 0) _ hr3) (fun r hr => ?_)
    subst hr
    show ab_Ex X (d + 5) 233 31 [(0, .ref 64), (1, .int x0)] [.int r3] ab_SH (ab_dD (ab_wI h 64 0 0)) _
    refine ab_Ex.ifc (c := r3 = 0) (SA := (36, [(0, .ref 64), (1, .int x0)], [], ab_dD (ab_wI h 64 0 0))) (SB := (34, [(0, .ref 64), (1, .int x0)], [], ab_dD (ab_wI h 64 0 0))) (fun n => rfl) (fun c4 => ?_) (fun c4 => ?_)
    · replace hf := (if_pos c4).symm.trans hf
      refine ab_Ex.blk (k := 1) (pc' := 37) (lv' := [(0, .ref 64), (1, .int x0)]) (st' := [.ref 64]) (sh' := ab_SH) (D' := ab_dD (ab_wI h 64 0 0)) (fun n => rfl) ?_
      obtain ⟨r5, hr5, hf⟩ := ab_bind_s hf
      refine ab_Ex.call (d := d + 4) (M2 := 228) (as := [.ref 64]) (rest := []) (fun n => rfl) rfl (Nat.not_lt.mpr (Nat.le_of_ble_eq_true rfl)) (sX12_stores (d + 4) X  (ab_wI h 64 0 0) _ hr5) (fun r hr => ?_)
      subst hr
      show ab_Ex X (d + 5) 233 40 [(0, .ref 64), (1, .int x0)] [] ab_SH (ab_dD r5) _
      refine ab_Ex.blk (k := 2) (pc' := 42) (lv' := [(0, .ref 64), (1, .int x0), (2, .int 0)]) (st' := []) (sh' := ab_SH) (D' := ab_dD r5) (fun n => rfl) ?_
      exact sX12_steps_L42 d X  ab_N x0 0 r5 _ hf
    · replace hf := (if_neg c4).symm.trans hf
      refine ab_Ex.blk (k := 1) (pc' := 35) (lv' := [(0, .ref 64), (1, .int x0)]) (st' := [.int 0]) (sh' := ab_SH) (D' := ab_dD (ab_wI h 64 0 0)) (fun n => rfl) ?_
      obtain rfl := Option.some.inj hf
      exact ab_Ex.ret (fun n => rfl) rfl
def fX12_turn (x0 : Int32) (x1 : Int32) (h : abJ) : Option (Int32 × abJ) := (fX12_isPost ((x0 : Int32).toInt64) (ab_wI h 64 0 0)).bind (fun r1 => if r1 = 0 then some ((-11), (ab_wI h 64 0 0)) else (fX12_isRoad x0 ((x1 : Int32).toInt64) (ab_wI h 64 0 0)).bind (fun r3 => if r3 = 0 then some ((-11), (ab_wI h 64 0 0)) else (fX12_stores (ab_wI h 64 0 0)).bind (fun r5 => ab_ask ((34 + x0) < 0 ∨ 3102 ≤ ((34 + x0) : Int32).toNatClampNeg) ((fX12_notes (ab_wI r5 65 ((34 + x0) : Int32).toNatClampNeg x1)).bind (fun r7 => ab_ask ((1 + x0) < 0 ∨ 9 ≤ ((1 + x0) : Int32).toNatClampNeg) (some ((r7.1 71 ((1 + x0) : Int32).toNatClampNeg), r7)))))))
set_option maxRecDepth 20000 in
theorem sX12_turn (d : Nat) (X : abX) (x0 : Int32) (x1 : Int32) (h : abJ) (z : (Int32 × abJ)) (hf : fX12_turn x0 x1 h = some z) : ab_Ex X (d + 2) 234 0 [(0, .ref 64), (1, .int x0), (2, .int x1)] [] ab_SH (ab_dD h) (fun r => r = (some (.int z.1), ab_SH, ab_dD z.2)) := by
  unfold fX12_turn at hf
  refine ab_Ex.blk (k := 6) (pc' := 8) (lv' := [(0, .ref 64), (1, .int x0), (2, .int x1)]) (st' := [.long ((x0 : Int32).toInt64), .ref 64]) (sh' := ab_SH) (D' := ab_dD (ab_wI h 64 0 0)) (fun n => rfl) ?_
  obtain ⟨r1, hr1, hf⟩ := ab_bind_s hf
  refine ab_Ex.call (d := d + 1) (M2 := 209) (as := [.ref 64, .long ((x0 : Int32).toInt64)]) (rest := []) (fun n => rfl) rfl (Nat.not_lt.mpr (Nat.le_of_ble_eq_true rfl)) (sX12_isPost (d) X ((x0 : Int32).toInt64) (ab_wI h 64 0 0) _ hr1) (fun r hr => ?_)
  subst hr
  show ab_Ex X (d + 2) 234 11 [(0, .ref 64), (1, .int x0), (2, .int x1)] [.int r1] ab_SH (ab_dD (ab_wI h 64 0 0)) _
  refine ab_Ex.ifc (c := r1 = 0) (SA := (24, [(0, .ref 64), (1, .int x0), (2, .int x1)], [], ab_dD (ab_wI h 64 0 0))) (SB := (14, [(0, .ref 64), (1, .int x0), (2, .int x1)], [], ab_dD (ab_wI h 64 0 0))) (fun n => rfl) (fun c2 => ?_) (fun c2 => ?_)
  · replace hf := (if_pos c2).symm.trans hf
    refine ab_Ex.blk (k := 1) (pc' := 26) (lv' := []) (st' := [.int ((-11))]) (sh' := ab_SH) (D' := ab_dD (ab_wI h 64 0 0)) (fun n => rfl) ?_
    obtain rfl := Option.some.inj hf
    exact ab_Ex.ret (fun n => rfl) rfl
  · replace hf := (if_neg c2).symm.trans hf
    refine ab_Ex.blk (k := 4) (pc' := 18) (lv' := [(0, .ref 64), (1, .int x0), (2, .int x1)]) (st' := [.long ((x1 : Int32).toInt64), .int x0, .ref 64]) (sh' := ab_SH) (D' := ab_dD (ab_wI h 64 0 0)) (fun n => rfl) ?_
    obtain ⟨r3, hr3, hf⟩ := ab_bind_s hf
    refine ab_Ex.call (d := d + 1) (M2 := 210) (as := [.ref 64, .int x0, .long ((x1 : Int32).toInt64)]) (rest := []) (fun n => rfl) rfl (Nat.not_lt.mpr (Nat.le_of_ble_eq_true rfl)) (sX12_isRoad (d) X x0 ((x1 : Int32).toInt64) (ab_wI h 64 0 0) _ hr3) (fun r hr => ?_)
    subst hr
    show ab_Ex X (d + 2) 234 21 [(0, .ref 64), (1, .int x0), (2, .int x1)] [.int r3] ab_SH (ab_dD (ab_wI h 64 0 0)) _
    refine ab_Ex.ifc (c := r3 = 0) (SA := (24, [(0, .ref 64), (1, .int x0), (2, .int x1)], [], ab_dD (ab_wI h 64 0 0))) (SB := (27, [(0, .ref 64), (1, .int x0), (2, .int x1)], [], ab_dD (ab_wI h 64 0 0))) (fun n => rfl) (fun c4 => ?_) (fun c4 => ?_)
    · replace hf := (if_pos c4).symm.trans hf
      refine ab_Ex.blk (k := 1) (pc' := 26) (lv' := []) (st' := [.int ((-11))]) (sh' := ab_SH) (D' := ab_dD (ab_wI h 64 0 0)) (fun n => rfl) ?_
      obtain rfl := Option.some.inj hf
      exact ab_Ex.ret (fun n => rfl) rfl
    · replace hf := (if_neg c4).symm.trans hf
      refine ab_Ex.blk (k := 1) (pc' := 28) (lv' := [(0, .ref 64), (1, .int x0), (2, .int x1)]) (st' := [.ref 64]) (sh' := ab_SH) (D' := ab_dD (ab_wI h 64 0 0)) (fun n => rfl) ?_
      obtain ⟨r5, hr5, hf⟩ := ab_bind_s hf
      refine ab_Ex.call (d := d + 1) (M2 := 228) (as := [.ref 64]) (rest := []) (fun n => rfl) rfl (Nat.not_lt.mpr (Nat.le_of_ble_eq_true rfl)) (sX12_stores (d + 1) X  (ab_wI h 64 0 0) _ hr5) (fun r hr => ?_)
      subst hr
      show ab_Ex X (d + 2) 234 31 [(0, .ref 64), (1, .int x0), (2, .int x1)] [] ab_SH (ab_dD r5) _
      refine ab_Ex.blk (k := 6) (pc' := 40) (lv' := [(0, .ref 64), (1, .int x0), (2, .int x1)]) (st' := [.int x1, .int ((34 + x0)), .ref 65]) (sh' := ab_SH) (D' := ab_dD r5) (fun n => rfl) ?_
      obtain ⟨c6, hf⟩ := ab_ask_s hf
      refine ab_Ex.grd (c := (34 + x0) < 0 ∨ 3102 ≤ ((34 + x0) : Int32).toNatClampNeg) (S := (41, [(0, .ref 64), (1, .int x0), (2, .int x1)], [], ab_dD (ab_wI r5 65 ((34 + x0) : Int32).toNatClampNeg x1))) (fun n => rfl) c6 ?_
      refine ab_Ex.blk (k := 1) (pc' := 42) (lv' := [(0, .ref 64), (1, .int x0), (2, .int x1)]) (st' := [.ref 64]) (sh' := ab_SH) (D' := ab_dD (ab_wI r5 65 ((34 + x0) : Int32).toNatClampNeg x1)) (fun n => rfl) ?_
      obtain ⟨r7, hr7, hf⟩ := ab_bind_s hf
      refine ab_Ex.call (d := d + 1) (M2 := 230) (as := [.ref 64]) (rest := []) (fun n => rfl) rfl (Nat.not_lt.mpr (Nat.le_of_ble_eq_true rfl)) (sX12_notes (d + 1) X  (ab_wI r5 65 ((34 + x0) : Int32).toNatClampNeg x1) _ hr7) (fun r hr => ?_)
      subst hr
      show ab_Ex X (d + 2) 234 45 [(0, .ref 64), (1, .int x0), (2, .int x1)] [] ab_SH (ab_dD r7) _
      refine ab_Ex.blk (k := 5) (pc' := 52) (lv' := [(0, .ref 64), (1, .int x0), (2, .int x1)]) (st' := [.int ((1 + x0)), .ref 71]) (sh' := ab_SH) (D' := ab_dD r7) (fun n => rfl) ?_
      obtain ⟨c9, hf⟩ := ab_ask_s hf
      refine ab_Ex.grd (c := (1 + x0) < 0 ∨ 9 ≤ ((1 + x0) : Int32).toNatClampNeg) (S := (53, [(0, .ref 64), (1, .int x0), (2, .int x1)], [.int ((r7.1 71 ((1 + x0) : Int32).toNatClampNeg))], ab_dD r7)) (fun n => rfl) c9 ?_
      obtain rfl := Option.some.inj hf
      exact ab_Ex.ret (fun n => rfl) rfl
def fX12_setsOut (x0 : Int32) (h : abJ) : Option (Int32 × abJ) := (fX12_isPost ((x0 : Int32).toInt64) (ab_wI h 64 0 0)).bind (fun r1 => if r1 = 0 then some ((-11), (ab_wI h 64 0 0)) else (fX12_stores (ab_wI h 64 0 0)).bind (fun r3 => (fX12_notes (ab_wI r3 65 33 x0)).bind (fun r4 => some ((r4.1 71 0), r4))))
set_option maxRecDepth 20000 in
theorem sX12_setsOut (d : Nat) (X : abX) (x0 : Int32) (h : abJ) (z : (Int32 × abJ)) (hf : fX12_setsOut x0 h = some z) : ab_Ex X (d + 2) 235 0 [(0, .ref 64), (1, .int x0)] [] ab_SH (ab_dD h) (fun r => r = (some (.int z.1), ab_SH, ab_dD z.2)) := by
  unfold fX12_setsOut at hf
  refine ab_Ex.blk (k := 6) (pc' := 8) (lv' := [(0, .ref 64), (1, .int x0)]) (st' := [.long ((x0 : Int32).toInt64), .ref 64]) (sh' := ab_SH) (D' := ab_dD (ab_wI h 64 0 0)) (fun n => rfl) ?_
  obtain ⟨r1, hr1, hf⟩ := ab_bind_s hf
  refine ab_Ex.call (d := d + 1) (M2 := 209) (as := [.ref 64, .long ((x0 : Int32).toInt64)]) (rest := []) (fun n => rfl) rfl (Nat.not_lt.mpr (Nat.le_of_ble_eq_true rfl)) (sX12_isPost (d) X ((x0 : Int32).toInt64) (ab_wI h 64 0 0) _ hr1) (fun r hr => ?_)
  subst hr
  show ab_Ex X (d + 2) 235 11 [(0, .ref 64), (1, .int x0)] [.int r1] ab_SH (ab_dD (ab_wI h 64 0 0)) _
  refine ab_Ex.ifc (c := r1 = 0) (SA := (14, [(0, .ref 64), (1, .int x0)], [], ab_dD (ab_wI h 64 0 0))) (SB := (17, [(0, .ref 64), (1, .int x0)], [], ab_dD (ab_wI h 64 0 0))) (fun n => rfl) (fun c2 => ?_) (fun c2 => ?_)
  · replace hf := (if_pos c2).symm.trans hf
    refine ab_Ex.blk (k := 1) (pc' := 16) (lv' := [(0, .ref 64), (1, .int x0)]) (st' := [.int ((-11))]) (sh' := ab_SH) (D' := ab_dD (ab_wI h 64 0 0)) (fun n => rfl) ?_
    obtain rfl := Option.some.inj hf
    exact ab_Ex.ret (fun n => rfl) rfl
  · replace hf := (if_neg c2).symm.trans hf
    refine ab_Ex.blk (k := 1) (pc' := 18) (lv' := [(0, .ref 64), (1, .int x0)]) (st' := [.ref 64]) (sh' := ab_SH) (D' := ab_dD (ab_wI h 64 0 0)) (fun n => rfl) ?_
    obtain ⟨r3, hr3, hf⟩ := ab_bind_s hf
    refine ab_Ex.call (d := d + 1) (M2 := 228) (as := [.ref 64]) (rest := []) (fun n => rfl) rfl (Nat.not_lt.mpr (Nat.le_of_ble_eq_true rfl)) (sX12_stores (d + 1) X  (ab_wI h 64 0 0) _ hr3) (fun r hr => ?_)
    subst hr
    show ab_Ex X (d + 2) 235 21 [(0, .ref 64), (1, .int x0)] [] ab_SH (ab_dD r3) _
    refine ab_Ex.blk (k := 4) (pc' := 28) (lv' := [(0, .ref 64), (1, .int x0)]) (st' := [.int x0, .int 33, .ref 65]) (sh' := ab_SH) (D' := ab_dD r3) (fun n => rfl) ?_
    refine ab_Ex.blk (k := 1) (pc' := 29) (lv' := [(0, .ref 64), (1, .int x0)]) (st' := []) (sh' := ab_SH) (D' := ab_dD (ab_wI r3 65 33 x0)) (fun n => rfl) ?_
    refine ab_Ex.blk (k := 1) (pc' := 30) (lv' := [(0, .ref 64), (1, .int x0)]) (st' := [.ref 64]) (sh' := ab_SH) (D' := ab_dD (ab_wI r3 65 33 x0)) (fun n => rfl) ?_
    obtain ⟨r4, hr4, hf⟩ := ab_bind_s hf
    refine ab_Ex.call (d := d + 1) (M2 := 230) (as := [.ref 64]) (rest := []) (fun n => rfl) rfl (Nat.not_lt.mpr (Nat.le_of_ble_eq_true rfl)) (sX12_notes (d + 1) X  (ab_wI r3 65 33 x0) _ hr4) (fun r hr => ?_)
    subst hr
    show ab_Ex X (d + 2) 235 33 [(0, .ref 64), (1, .int x0)] [] ab_SH (ab_dD r4) _
    refine ab_Ex.blk (k := 3) (pc' := 38) (lv' := [(0, .ref 64), (1, .int x0)]) (st' := [.int 0, .ref 71]) (sh' := ab_SH) (D' := ab_dD r4) (fun n => rfl) ?_
    refine ab_Ex.blk (k := 1) (pc' := 39) (lv' := [(0, .ref 64), (1, .int x0)]) (st' := [.int ((r4.1 71 0))]) (sh' := ab_SH) (D' := ab_dD r4) (fun n => rfl) ?_
    obtain rfl := Option.some.inj hf
    exact ab_Ex.ret (fun n => rfl) rfl
def fX12_fog (x0 : Int32) (h : abJ) : Option (Int32 × abJ) := (fX12_within ((x0 : Int32).toInt64) 0 9 (ab_wI h 64 0 0)).bind (fun r1 => if r1 = 0 then some ((-11), (ab_wI h 64 0 0)) else (fX12_stores (ab_wI h 64 0 0)).bind (fun r3 => (fX12_notes (ab_wI r3 65 40 x0)).bind (fun r4 => some ((r4.1 71 7), r4))))
set_option maxRecDepth 20000 in
theorem sX12_fog (d : Nat) (X : abX) (x0 : Int32) (h : abJ) (z : (Int32 × abJ)) (hf : fX12_fog x0 h = some z) : ab_Ex X (d + 1) 236 0 [(0, .ref 64), (1, .int x0)] [] ab_SH (ab_dD h) (fun r => r = (some (.int z.1), ab_SH, ab_dD z.2)) := by
  unfold fX12_fog at hf
  refine ab_Ex.blk (k := 7) (pc' := 11) (lv' := [(0, .ref 64), (1, .int x0)]) (st' := [.long 9, .long 0, .long ((x0 : Int32).toInt64)]) (sh' := ab_SH) (D' := ab_dD (ab_wI h 64 0 0)) (fun n => rfl) ?_
  obtain ⟨r1, hr1, hf⟩ := ab_bind_s hf
  refine ab_Ex.call (d := d + 0) (M2 := 175) (as := [.long ((x0 : Int32).toInt64), .long 0, .long 9]) (rest := []) (fun n => rfl) rfl (Nat.not_lt.mpr (Nat.le_of_ble_eq_true rfl)) (sX12_within (d) X ((x0 : Int32).toInt64) 0 9 (ab_wI h 64 0 0) _ hr1) (fun r hr => ?_)
  subst hr
  show ab_Ex X (d + 1) 236 14 [(0, .ref 64), (1, .int x0)] [.int r1] ab_SH (ab_dD (ab_wI h 64 0 0)) _
  refine ab_Ex.ifc (c := r1 = 0) (SA := (17, [(0, .ref 64), (1, .int x0)], [], ab_dD (ab_wI h 64 0 0))) (SB := (20, [(0, .ref 64), (1, .int x0)], [], ab_dD (ab_wI h 64 0 0))) (fun n => rfl) (fun c2 => ?_) (fun c2 => ?_)
  · replace hf := (if_pos c2).symm.trans hf
    refine ab_Ex.blk (k := 1) (pc' := 19) (lv' := [(0, .ref 64), (1, .int x0)]) (st' := [.int ((-11))]) (sh' := ab_SH) (D' := ab_dD (ab_wI h 64 0 0)) (fun n => rfl) ?_
    obtain rfl := Option.some.inj hf
    exact ab_Ex.ret (fun n => rfl) rfl
  · replace hf := (if_neg c2).symm.trans hf
    refine ab_Ex.blk (k := 1) (pc' := 21) (lv' := [(0, .ref 64), (1, .int x0)]) (st' := [.ref 64]) (sh' := ab_SH) (D' := ab_dD (ab_wI h 64 0 0)) (fun n => rfl) ?_
    obtain ⟨r3, hr3, hf⟩ := ab_bind_s hf
    refine ab_Ex.call (d := d + 0) (M2 := 228) (as := [.ref 64]) (rest := []) (fun n => rfl) rfl (Nat.not_lt.mpr (Nat.le_of_ble_eq_true rfl)) (sX12_stores (d) X  (ab_wI h 64 0 0) _ hr3) (fun r hr => ?_)
    subst hr
    show ab_Ex X (d + 1) 236 24 [(0, .ref 64), (1, .int x0)] [] ab_SH (ab_dD r3) _
    refine ab_Ex.blk (k := 4) (pc' := 31) (lv' := [(0, .ref 64), (1, .int x0)]) (st' := [.int x0, .int 40, .ref 65]) (sh' := ab_SH) (D' := ab_dD r3) (fun n => rfl) ?_
    refine ab_Ex.blk (k := 1) (pc' := 32) (lv' := [(0, .ref 64), (1, .int x0)]) (st' := []) (sh' := ab_SH) (D' := ab_dD (ab_wI r3 65 40 x0)) (fun n => rfl) ?_
    refine ab_Ex.blk (k := 1) (pc' := 33) (lv' := [(0, .ref 64), (1, .int x0)]) (st' := [.ref 64]) (sh' := ab_SH) (D' := ab_dD (ab_wI r3 65 40 x0)) (fun n => rfl) ?_
    obtain ⟨r4, hr4, hf⟩ := ab_bind_s hf
    refine ab_Ex.call (d := d + 0) (M2 := 230) (as := [.ref 64]) (rest := []) (fun n => rfl) rfl (Nat.not_lt.mpr (Nat.le_of_ble_eq_true rfl)) (sX12_notes (d) X  (ab_wI r3 65 40 x0) _ hr4) (fun r hr => ?_)
    subst hr
    show ab_Ex X (d + 1) 236 36 [(0, .ref 64), (1, .int x0)] [] ab_SH (ab_dD r4) _
    refine ab_Ex.blk (k := 3) (pc' := 42) (lv' := [(0, .ref 64), (1, .int x0)]) (st' := [.int 7, .ref 71]) (sh' := ab_SH) (D' := ab_dD r4) (fun n => rfl) ?_
    refine ab_Ex.blk (k := 1) (pc' := 43) (lv' := [(0, .ref 64), (1, .int x0)]) (st' := [.int ((r4.1 71 7))]) (sh' := ab_SH) (D' := ab_dD r4) (fun n => rfl) ?_
    obtain rfl := Option.some.inj hf
    exact ab_Ex.ret (fun n => rfl) rfl
def fX12_undo_L44   : Nat → Int32 → abJ → Option (Int32 × abJ)
  | 0, _, _ => none
  | n + 1, y2, h => if 9 ≤ y2 then some ((h.1 65 42), h) else ab_ask (((43 + (9 * (h.1 65 42))) + y2) < 0 ∨ 3102 ≤ (((43 + (9 * (h.1 65 42))) + y2) : Int32).toNatClampNeg) (ab_ask ((33 + y2) < 0 ∨ 3102 ≤ ((33 + y2) : Int32).toNatClampNeg) (fX12_undo_L44 n ((y2 + 1)) (ab_wI h 65 ((33 + y2) : Int32).toNatClampNeg (h.1 65 (((43 + (9 * (h.1 65 42))) + y2) : Int32).toNatClampNeg))))
def fX12_undo (x0 : Int32) (h : abJ) : Option (Int32 × abJ) := (fX12_within ((x0 : Int32).toInt64) 1 10 (ab_wI h 64 0 0)).bind (fun r1 => if r1 = 0 then some ((-3), (ab_wI h 64 0 0)) else if x0 ≤ ((ab_wI h 64 0 0).1 65 42) then fX12_undo_L44 ab_N 0 (ab_wI (ab_wI h 64 0 0) 65 42 (((ab_wI h 64 0 0).1 65 42) - x0)) else some ((-3), (ab_wI h 64 0 0)))
set_option maxRecDepth 20000 in
theorem sX12_undo_L44 (d : Nat) (X : abX)   : ∀ (n : Nat), ∀ (y2 : Int32) (h : abJ) (z : (Int32 × abJ)), fX12_undo_L44 n y2 h = some z → ab_Ex X (d + 1) 237 44 [(0, .ref 64), (2, .int y2)] [] ab_SH (ab_dD h) (fun r => r = (some (.int z.1), ab_SH, ab_dD z.2)) := by
  intro n
  induction n with
  | zero => intro y2 h z hf; cases hf
  | succ n ih =>
    intro y2 h z hf
    rw [fX12_undo_L44] at hf
    refine ab_Ex.blk (k := 2) (pc' := 47) (lv' := [(0, .ref 64), (2, .int y2)]) (st' := [.int 9, .int y2]) (sh' := ab_SH) (D' := ab_dD h) (fun n => rfl) ?_
    refine ab_Ex.ifc (c := 9 ≤ y2) (SA := (85, [(0, .ref 64), (2, .int y2)], [], ab_dD h)) (SB := (50, [(0, .ref 64), (2, .int y2)], [], ab_dD h)) (fun n => rfl) (fun c4 => ?_) (fun c4 => ?_)
    · replace hf := (if_pos c4).symm.trans hf
      refine ab_Ex.blk (k := 3) (pc' := 91) (lv' := [(0, .ref 64), (2, .int y2)]) (st' := [.int 42, .ref 65]) (sh' := ab_SH) (D' := ab_dD h) (fun n => rfl) ?_
      refine ab_Ex.blk (k := 1) (pc' := 92) (lv' := [(0, .ref 64), (2, .int y2)]) (st' := [.int ((h.1 65 42))]) (sh' := ab_SH) (D' := ab_dD h) (fun n => rfl) ?_
      obtain rfl := Option.some.inj hf
      exact ab_Ex.ret (fun n => rfl) rfl
    · replace hf := (if_neg c4).symm.trans hf
      refine ab_Ex.blk (k := 12) (pc' := 72) (lv' := [(0, .ref 64), (2, .int y2)]) (st' := [.int 42, .ref 65, .int 9, .int 43, .ref 65, .int ((33 + y2)), .ref 65]) (sh' := ab_SH) (D' := ab_dD h) (fun n => rfl) ?_
      refine ab_Ex.blk (k := 1) (pc' := 73) (lv' := [(0, .ref 64), (2, .int y2)]) (st' := [.int ((h.1 65 42)), .int 9, .int 43, .ref 65, .int ((33 + y2)), .ref 65]) (sh' := ab_SH) (D' := ab_dD h) (fun n => rfl) ?_
      refine ab_Ex.blk (k := 4) (pc' := 77) (lv' := [(0, .ref 64), (2, .int y2)]) (st' := [.int (((43 + (9 * (h.1 65 42))) + y2)), .ref 65, .int ((33 + y2)), .ref 65]) (sh' := ab_SH) (D' := ab_dD h) (fun n => rfl) ?_
      obtain ⟨c6, hf⟩ := ab_ask_s hf
      refine ab_Ex.grd (c := ((43 + (9 * (h.1 65 42))) + y2) < 0 ∨ 3102 ≤ (((43 + (9 * (h.1 65 42))) + y2) : Int32).toNatClampNeg) (S := (78, [(0, .ref 64), (2, .int y2)], [.int ((h.1 65 (((43 + (9 * (h.1 65 42))) + y2) : Int32).toNatClampNeg)), .int ((33 + y2)), .ref 65], ab_dD h)) (fun n => rfl) c6 ?_
      obtain ⟨c7, hf⟩ := ab_ask_s hf
      refine ab_Ex.grd (c := (33 + y2) < 0 ∨ 3102 ≤ ((33 + y2) : Int32).toNatClampNeg) (S := (79, [(0, .ref 64), (2, .int y2)], [], ab_dD (ab_wI h 65 ((33 + y2) : Int32).toNatClampNeg (h.1 65 (((43 + (9 * (h.1 65 42))) + y2) : Int32).toNatClampNeg)))) (fun n => rfl) c7 ?_
      refine ab_Ex.blk (k := 2) (pc' := 44) (lv' := [(0, .ref 64), (2, .int ((y2 + 1)))]) (st' := []) (sh' := ab_SH) (D' := ab_dD (ab_wI h 65 ((33 + y2) : Int32).toNatClampNeg (h.1 65 (((43 + (9 * (h.1 65 42))) + y2) : Int32).toNatClampNeg))) (fun n => rfl) ?_
      exact ih ((y2 + 1)) (ab_wI h 65 ((33 + y2) : Int32).toNatClampNeg (h.1 65 (((43 + (9 * (h.1 65 42))) + y2) : Int32).toNatClampNeg)) _ hf
set_option maxRecDepth 20000 in
theorem sX12_undo (d : Nat) (X : abX) (x0 : Int32) (h : abJ) (z : (Int32 × abJ)) (hf : fX12_undo x0 h = some z) : ab_Ex X (d + 1) 237 0 [(0, .ref 64), (1, .int x0)] [] ab_SH (ab_dD h) (fun r => r = (some (.int z.1), ab_SH, ab_dD z.2)) := by
  unfold fX12_undo at hf
  refine ab_Ex.blk (k := 7) (pc' := 11) (lv' := [(0, .ref 64), (1, .int x0)]) (st' := [.long 10, .long 1, .long ((x0 : Int32).toInt64)]) (sh' := ab_SH) (D' := ab_dD (ab_wI h 64 0 0)) (fun n => rfl) ?_
  obtain ⟨r1, hr1, hf⟩ := ab_bind_s hf
  refine ab_Ex.call (d := d + 0) (M2 := 175) (as := [.long ((x0 : Int32).toInt64), .long 1, .long 10]) (rest := []) (fun n => rfl) rfl (Nat.not_lt.mpr (Nat.le_of_ble_eq_true rfl)) (sX12_within (d) X ((x0 : Int32).toInt64) 1 10 (ab_wI h 64 0 0) _ hr1) (fun r hr => ?_)
  subst hr
  show ab_Ex X (d + 1) 237 14 [(0, .ref 64), (1, .int x0)] [.int r1] ab_SH (ab_dD (ab_wI h 64 0 0)) _
  refine ab_Ex.ifc (c := r1 = 0) (SA := (28, [(0, .ref 64), (1, .int x0)], [], ab_dD (ab_wI h 64 0 0))) (SB := (17, [(0, .ref 64), (1, .int x0)], [], ab_dD (ab_wI h 64 0 0))) (fun n => rfl) (fun c2 => ?_) (fun c2 => ?_)
  · replace hf := (if_pos c2).symm.trans hf
    refine ab_Ex.blk (k := 1) (pc' := 30) (lv' := []) (st' := [.int ((-3))]) (sh' := ab_SH) (D' := ab_dD (ab_wI h 64 0 0)) (fun n => rfl) ?_
    obtain rfl := Option.some.inj hf
    exact ab_Ex.ret (fun n => rfl) rfl
  · replace hf := (if_neg c2).symm.trans hf
    refine ab_Ex.blk (k := 4) (pc' := 24) (lv' := [(0, .ref 64), (1, .int x0)]) (st' := [.int 42, .ref 65, .int x0]) (sh' := ab_SH) (D' := ab_dD (ab_wI h 64 0 0)) (fun n => rfl) ?_
    refine ab_Ex.blk (k := 1) (pc' := 25) (lv' := [(0, .ref 64), (1, .int x0)]) (st' := [.int (((ab_wI h 64 0 0).1 65 42)), .int x0]) (sh' := ab_SH) (D' := ab_dD (ab_wI h 64 0 0)) (fun n => rfl) ?_
    refine ab_Ex.ifc (c := x0 ≤ ((ab_wI h 64 0 0).1 65 42)) (SA := (31, [(0, .ref 64), (1, .int x0)], [], ab_dD (ab_wI h 64 0 0))) (SB := (28, [(0, .ref 64), (1, .int x0)], [], ab_dD (ab_wI h 64 0 0))) (fun n => rfl) (fun c3 => ?_) (fun c3 => ?_)
    · replace hf := (if_pos c3).symm.trans hf
      refine ab_Ex.blk (k := 4) (pc' := 38) (lv' := [(0, .ref 64), (1, .int x0)]) (st' := [.int 42, .ref 65, .int 42, .ref 65]) (sh' := ab_SH) (D' := ab_dD (ab_wI h 64 0 0)) (fun n => rfl) ?_
      refine ab_Ex.blk (k := 1) (pc' := 39) (lv' := [(0, .ref 64), (1, .int x0)]) (st' := [.int (((ab_wI h 64 0 0).1 65 42)), .int 42, .ref 65]) (sh' := ab_SH) (D' := ab_dD (ab_wI h 64 0 0)) (fun n => rfl) ?_
      refine ab_Ex.blk (k := 2) (pc' := 41) (lv' := [(0, .ref 64), (1, .int x0)]) (st' := [.int ((((ab_wI h 64 0 0).1 65 42) - x0)), .int 42, .ref 65]) (sh' := ab_SH) (D' := ab_dD (ab_wI h 64 0 0)) (fun n => rfl) ?_
      refine ab_Ex.blk (k := 1) (pc' := 42) (lv' := [(0, .ref 64), (1, .int x0)]) (st' := []) (sh' := ab_SH) (D' := ab_dD (ab_wI (ab_wI h 64 0 0) 65 42 (((ab_wI h 64 0 0).1 65 42) - x0))) (fun n => rfl) ?_
      refine ab_Ex.blk (k := 2) (pc' := 44) (lv' := [(0, .ref 64), (2, .int 0)]) (st' := []) (sh' := ab_SH) (D' := ab_dD (ab_wI (ab_wI h 64 0 0) 65 42 (((ab_wI h 64 0 0).1 65 42) - x0))) (fun n => rfl) ?_
      exact sX12_undo_L44 d X  ab_N 0 (ab_wI (ab_wI h 64 0 0) 65 42 (((ab_wI h 64 0 0).1 65 42) - x0)) _ hf
    · replace hf := (if_neg c3).symm.trans hf
      refine ab_Ex.blk (k := 1) (pc' := 30) (lv' := []) (st' := [.int ((-3))]) (sh' := ab_SH) (D' := ab_dD (ab_wI h 64 0 0)) (fun n => rfl) ?_
      obtain rfl := Option.some.inj hf
      exact ab_Ex.ret (fun n => rfl) rfl
def fX12_whyNot (x0 : Int64) (h : abJ) : Option Int32 := if (lg_cmp x0 0) = 0 then (fX12_isRest ((h.1 65 33)) h).bind (fun r2 => if r2 = 0 then some 0 else some 2) else (fX12_within x0 10 19 h).bind (fun r4 => if r4 = 0 then (fX12_within x0 20 29 h).bind (fun r6 => if r6 = 0 then (fX12_within x0 100 199 h).bind (fun r8 => if r8 = 0 then some 1 else (fX12_isPost (((x0 - 100) / 10)) h).bind (fun r10 => if r10 = 0 then some 1 else (fX12_isRoad ((((x0 - 100) : Int64).toInt32 / 10)) ((x0 - x0 / 10 * 10)) h).bind (fun r12 => if r12 = 0 then some 1 else some 0))) else (fX12_isPost ((x0 - 20)) h).bind (fun r14 => if r14 = 0 then some 1 else some 0)) else some 0)
set_option maxRecDepth 20000 in
theorem sX12_whyNot (d : Nat) (X : abX) (x0 : Int64) (h : abJ) (z : Int32) (hf : fX12_whyNot x0 h = some z) : ab_Ex X (d + 2) 238 0 [(0, .ref 64), (1, .long x0)] [] ab_SH (ab_dD h) (fun r => r = (some (.int z), ab_SH, ab_dD h)) := by
  unfold fX12_whyNot at hf
  refine ab_Ex.blk (k := 3) (pc' := 3) (lv' := [(0, .ref 64), (1, .long x0)]) (st' := [.int ((lg_cmp x0 0))]) (sh' := ab_SH) (D' := ab_dD h) (fun n => rfl) ?_
  refine ab_Ex.ifc (c := (lg_cmp x0 0) = 0) (SA := (6, [(0, .ref 64), (1, .long x0)], [], ab_dD h)) (SB := (26, [(0, .ref 64), (1, .long x0)], [], ab_dD h)) (fun n => rfl) (fun c1 => ?_) (fun c1 => ?_)
  · replace hf := (if_pos c1).symm.trans hf
    refine ab_Ex.blk (k := 4) (pc' := 13) (lv' := [(0, .ref 64), (1, .long x0)]) (st' := [.int 33, .ref 65, .ref 64]) (sh' := ab_SH) (D' := ab_dD h) (fun n => rfl) ?_
    refine ab_Ex.blk (k := 1) (pc' := 14) (lv' := [(0, .ref 64), (1, .long x0)]) (st' := [.int ((h.1 65 33)), .ref 64]) (sh' := ab_SH) (D' := ab_dD h) (fun n => rfl) ?_
    obtain ⟨r2, hr2, hf⟩ := ab_bind_s hf
    refine ab_Ex.call (d := d + 1) (M2 := 223) (as := [.ref 64, .int ((h.1 65 33))]) (rest := []) (fun n => rfl) rfl (Nat.not_lt.mpr (Nat.le_of_ble_eq_true rfl)) (sX12_isRest (d) X ((h.1 65 33)) h _ hr2) (fun r hr => ?_)
    subst hr
    show ab_Ex X (d + 2) 238 17 [(0, .ref 64), (1, .long x0)] [.int r2] ab_SH (ab_dD h) _
    refine ab_Ex.ifc (c := r2 = 0) (SA := (24, [(0, .ref 64), (1, .long x0)], [], ab_dD h)) (SB := (20, [(0, .ref 64), (1, .long x0)], [], ab_dD h)) (fun n => rfl) (fun c3 => ?_) (fun c3 => ?_)
    · replace hf := (if_pos c3).symm.trans hf
      refine ab_Ex.blk (k := 1) (pc' := 25) (lv' := []) (st' := [.int 0]) (sh' := ab_SH) (D' := ab_dD h) (fun n => rfl) ?_
      obtain rfl := Option.some.inj hf
      exact ab_Ex.ret (fun n => rfl) rfl
    · replace hf := (if_neg c3).symm.trans hf
      refine ab_Ex.blk (k := 2) (pc' := 25) (lv' := []) (st' := [.int 2]) (sh' := ab_SH) (D' := ab_dD h) (fun n => rfl) ?_
      obtain rfl := Option.some.inj hf
      exact ab_Ex.ret (fun n => rfl) rfl
  · replace hf := (if_neg c1).symm.trans hf
    refine ab_Ex.blk (k := 3) (pc' := 33) (lv' := [(0, .ref 64), (1, .long x0)]) (st' := [.long 19, .long 10, .long x0]) (sh' := ab_SH) (D' := ab_dD h) (fun n => rfl) ?_
    obtain ⟨r4, hr4, hf⟩ := ab_bind_s hf
    refine ab_Ex.call (d := d + 1) (M2 := 175) (as := [.long x0, .long 10, .long 19]) (rest := []) (fun n => rfl) rfl (Nat.not_lt.mpr (Nat.le_of_ble_eq_true rfl)) (sX12_within (d + 1) X x0 10 19 h _ hr4) (fun r hr => ?_)
    subst hr
    show ab_Ex X (d + 2) 238 36 [(0, .ref 64), (1, .long x0)] [.int r4] ab_SH (ab_dD h) _
    refine ab_Ex.ifc (c := r4 = 0) (SA := (41, [(0, .ref 64), (1, .long x0)], [], ab_dD h)) (SB := (39, [(0, .ref 64), (1, .long x0)], [], ab_dD h)) (fun n => rfl) (fun c5 => ?_) (fun c5 => ?_)
    · replace hf := (if_pos c5).symm.trans hf
      refine ab_Ex.blk (k := 3) (pc' := 48) (lv' := [(0, .ref 64), (1, .long x0)]) (st' := [.long 29, .long 20, .long x0]) (sh' := ab_SH) (D' := ab_dD h) (fun n => rfl) ?_
      obtain ⟨r6, hr6, hf⟩ := ab_bind_s hf
      refine ab_Ex.call (d := d + 1) (M2 := 175) (as := [.long x0, .long 20, .long 29]) (rest := []) (fun n => rfl) rfl (Nat.not_lt.mpr (Nat.le_of_ble_eq_true rfl)) (sX12_within (d + 1) X x0 20 29 h _ hr6) (fun r hr => ?_)
      subst hr
      show ab_Ex X (d + 2) 238 51 [(0, .ref 64), (1, .long x0)] [.int r6] ab_SH (ab_dD h) _
      refine ab_Ex.ifc (c := r6 = 0) (SA := (72, [(0, .ref 64), (1, .long x0)], [], ab_dD h)) (SB := (54, [(0, .ref 64), (1, .long x0)], [], ab_dD h)) (fun n => rfl) (fun c7 => ?_) (fun c7 => ?_)
      · replace hf := (if_pos c7).symm.trans hf
        refine ab_Ex.blk (k := 3) (pc' := 79) (lv' := [(0, .ref 64), (1, .long x0)]) (st' := [.long 199, .long 100, .long x0]) (sh' := ab_SH) (D' := ab_dD h) (fun n => rfl) ?_
        obtain ⟨r8, hr8, hf⟩ := ab_bind_s hf
        refine ab_Ex.call (d := d + 1) (M2 := 175) (as := [.long x0, .long 100, .long 199]) (rest := []) (fun n => rfl) rfl (Nat.not_lt.mpr (Nat.le_of_ble_eq_true rfl)) (sX12_within (d + 1) X x0 100 199 h _ hr8) (fun r hr => ?_)
        subst hr
        show ab_Ex X (d + 2) 238 82 [(0, .ref 64), (1, .long x0)] [.int r8] ab_SH (ab_dD h) _
        refine ab_Ex.ifc (c := r8 = 0) (SA := (126, [(0, .ref 64), (1, .long x0)], [], ab_dD h)) (SB := (85, [(0, .ref 64), (1, .long x0)], [], ab_dD h)) (fun n => rfl) (fun c9 => ?_) (fun c9 => ?_)
        · replace hf := (if_pos c9).symm.trans hf
          refine ab_Ex.blk (k := 1) (pc' := 127) (lv' := []) (st' := [.int 1]) (sh' := ab_SH) (D' := ab_dD h) (fun n => rfl) ?_
          obtain rfl := Option.some.inj hf
          exact ab_Ex.ret (fun n => rfl) rfl
        · replace hf := (if_neg c9).symm.trans hf
          refine ab_Ex.blk (k := 5) (pc' := 94) (lv' := [(0, .ref 64), (1, .long x0)]) (st' := [.long 10, .long ((x0 - 100)), .ref 64]) (sh' := ab_SH) (D' := ab_dD h) (fun n => rfl) ?_
          refine ab_Ex.blk (k := 1) (pc' := 95) (lv' := [(0, .ref 64), (1, .long x0)]) (st' := [.long (((x0 - 100) / 10)), .ref 64]) (sh' := ab_SH) (D' := ab_dD h) (fun n => rfl) ?_
          obtain ⟨r10, hr10, hf⟩ := ab_bind_s hf
          refine ab_Ex.call (d := d + 1) (M2 := 209) (as := [.ref 64, .long (((x0 - 100) / 10))]) (rest := []) (fun n => rfl) rfl (Nat.not_lt.mpr (Nat.le_of_ble_eq_true rfl)) (sX12_isPost (d) X (((x0 - 100) / 10)) h _ hr10) (fun r hr => ?_)
          subst hr
          show ab_Ex X (d + 2) 238 98 [(0, .ref 64), (1, .long x0)] [.int r10] ab_SH (ab_dD h) _
          refine ab_Ex.ifc (c := r10 = 0) (SA := (126, [(0, .ref 64), (1, .long x0)], [], ab_dD h)) (SB := (101, [(0, .ref 64), (1, .long x0)], [], ab_dD h)) (fun n => rfl) (fun c11 => ?_) (fun c11 => ?_)
          · replace hf := (if_pos c11).symm.trans hf
            refine ab_Ex.blk (k := 1) (pc' := 127) (lv' := []) (st' := [.int 1]) (sh' := ab_SH) (D' := ab_dD h) (fun n => rfl) ?_
            obtain rfl := Option.some.inj hf
            exact ab_Ex.ret (fun n => rfl) rfl
          · replace hf := (if_neg c11).symm.trans hf
            refine ab_Ex.blk (k := 6) (pc' := 110) (lv' := [(0, .ref 64), (1, .long x0)]) (st' := [.int 10, .int (((x0 - 100) : Int64).toInt32), .ref 64]) (sh' := ab_SH) (D' := ab_dD h) (fun n => rfl) ?_
            refine ab_Ex.blk (k := 1) (pc' := 111) (lv' := [(0, .ref 64), (1, .long x0)]) (st' := [.int ((((x0 - 100) : Int64).toInt32 / 10)), .ref 64]) (sh' := ab_SH) (D' := ab_dD h) (fun n => rfl) ?_
            refine ab_Ex.blk (k := 2) (pc' := 115) (lv' := [(0, .ref 64), (1, .long x0)]) (st' := [.long 10, .long x0, .int ((((x0 - 100) : Int64).toInt32 / 10)), .ref 64]) (sh' := ab_SH) (D' := ab_dD h) (fun n => rfl) ?_
            refine ab_Ex.blk (k := 1) (pc' := 116) (lv' := [(0, .ref 64), (1, .long x0)]) (st' := [.long ((x0 - x0 / 10 * 10)), .int ((((x0 - 100) : Int64).toInt32 / 10)), .ref 64]) (sh' := ab_SH) (D' := ab_dD h) (fun n => rfl) ?_
            obtain ⟨r12, hr12, hf⟩ := ab_bind_s hf
            refine ab_Ex.call (d := d + 1) (M2 := 210) (as := [.ref 64, .int ((((x0 - 100) : Int64).toInt32 / 10)), .long ((x0 - x0 / 10 * 10))]) (rest := []) (fun n => rfl) rfl (Nat.not_lt.mpr (Nat.le_of_ble_eq_true rfl)) (sX12_isRoad (d) X ((((x0 - 100) : Int64).toInt32 / 10)) ((x0 - x0 / 10 * 10)) h _ hr12) (fun r hr => ?_)
            subst hr
            show ab_Ex X (d + 2) 238 119 [(0, .ref 64), (1, .long x0)] [.int r12] ab_SH (ab_dD h) _
            refine ab_Ex.ifc (c := r12 = 0) (SA := (126, [(0, .ref 64), (1, .long x0)], [], ab_dD h)) (SB := (122, [(0, .ref 64), (1, .long x0)], [], ab_dD h)) (fun n => rfl) (fun c13 => ?_) (fun c13 => ?_)
            · replace hf := (if_pos c13).symm.trans hf
              refine ab_Ex.blk (k := 1) (pc' := 127) (lv' := []) (st' := [.int 1]) (sh' := ab_SH) (D' := ab_dD h) (fun n => rfl) ?_
              obtain rfl := Option.some.inj hf
              exact ab_Ex.ret (fun n => rfl) rfl
            · replace hf := (if_neg c13).symm.trans hf
              refine ab_Ex.blk (k := 2) (pc' := 127) (lv' := []) (st' := [.int 0]) (sh' := ab_SH) (D' := ab_dD h) (fun n => rfl) ?_
              obtain rfl := Option.some.inj hf
              exact ab_Ex.ret (fun n => rfl) rfl
      · replace hf := (if_neg c7).symm.trans hf
        refine ab_Ex.blk (k := 4) (pc' := 60) (lv' := [(0, .ref 64), (1, .long x0)]) (st' := [.long ((x0 - 20)), .ref 64]) (sh' := ab_SH) (D' := ab_dD h) (fun n => rfl) ?_
        obtain ⟨r14, hr14, hf⟩ := ab_bind_s hf
        refine ab_Ex.call (d := d + 1) (M2 := 209) (as := [.ref 64, .long ((x0 - 20))]) (rest := []) (fun n => rfl) rfl (Nat.not_lt.mpr (Nat.le_of_ble_eq_true rfl)) (sX12_isPost (d) X ((x0 - 20)) h _ hr14) (fun r hr => ?_)
        subst hr
        show ab_Ex X (d + 2) 238 63 [(0, .ref 64), (1, .long x0)] [.int r14] ab_SH (ab_dD h) _
        refine ab_Ex.ifc (c := r14 = 0) (SA := (70, [(0, .ref 64), (1, .long x0)], [], ab_dD h)) (SB := (66, [(0, .ref 64), (1, .long x0)], [], ab_dD h)) (fun n => rfl) (fun c15 => ?_) (fun c15 => ?_)
        · replace hf := (if_pos c15).symm.trans hf
          refine ab_Ex.blk (k := 1) (pc' := 71) (lv' := []) (st' := [.int 1]) (sh' := ab_SH) (D' := ab_dD h) (fun n => rfl) ?_
          obtain rfl := Option.some.inj hf
          exact ab_Ex.ret (fun n => rfl) rfl
        · replace hf := (if_neg c15).symm.trans hf
          refine ab_Ex.blk (k := 2) (pc' := 71) (lv' := []) (st' := [.int 0]) (sh' := ab_SH) (D' := ab_dD h) (fun n => rfl) ?_
          obtain rfl := Option.some.inj hf
          exact ab_Ex.ret (fun n => rfl) rfl
    · replace hf := (if_neg c5).symm.trans hf
      refine ab_Ex.blk (k := 1) (pc' := 40) (lv' := [(0, .ref 64), (1, .long x0)]) (st' := [.int 0]) (sh' := ab_SH) (D' := ab_dD h) (fun n => rfl) ?_
      obtain rfl := Option.some.inj hf
      exact ab_Ex.ret (fun n => rfl) rfl
def fX12_does (x0 : Int32) (h : abJ) : Option abJ := if x0 = 0 then (fX12_goesStep h).bind (fun r2 => some r2) else if 20 ≤ x0 then if 30 ≤ x0 then ab_ask ((34 + ((x0 - 100) / 10)) < 0 ∨ 3102 ≤ ((34 + ((x0 - 100) / 10)) : Int32).toNatClampNeg) (some (ab_wI h 65 ((34 + ((x0 - 100) / 10)) : Int32).toNatClampNeg (x0 - x0 / 10 * 10))) else some (ab_wI h 65 33 (x0 - 20)) else some (ab_wI h 65 40 (x0 - 10))
set_option maxRecDepth 20000 in
theorem sX12_does (d : Nat) (X : abX) (x0 : Int32) (h : abJ) (z : abJ) (hf : fX12_does x0 h = some z) : ab_Ex X (d + 5) 239 0 [(0, .ref 64), (1, .int x0)] [] ab_SH (ab_dD h) (fun r => r = (none, ab_SH, ab_dD z)) := by
  unfold fX12_does at hf
  refine ab_Ex.blk (k := 1) (pc' := 1) (lv' := [(0, .ref 64), (1, .int x0)]) (st' := [.int x0]) (sh' := ab_SH) (D' := ab_dD h) (fun n => rfl) ?_
  refine ab_Ex.ifc (c := x0 = 0) (SA := (4, [(0, .ref 64), (1, .int x0)], [], ab_dD h)) (SB := (11, [(0, .ref 64), (1, .int x0)], [], ab_dD h)) (fun n => rfl) (fun c1 => ?_) (fun c1 => ?_)
  · replace hf := (if_pos c1).symm.trans hf
    refine ab_Ex.blk (k := 1) (pc' := 5) (lv' := [(0, .ref 64), (1, .int x0)]) (st' := [.ref 64]) (sh' := ab_SH) (D' := ab_dD h) (fun n => rfl) ?_
    obtain ⟨r2, hr2, hf⟩ := ab_bind_s hf
    refine ab_Ex.call (d := d + 4) (M2 := 231) (as := [.ref 64]) (rest := []) (fun n => rfl) rfl (Nat.not_lt.mpr (Nat.le_of_ble_eq_true rfl)) (sX12_goesStep (d) X  h _ hr2) (fun r hr => ?_)
    subst hr
    show ab_Ex X (d + 5) 239 8 [(0, .ref 64), (1, .int x0)] [] ab_SH (ab_dD r2) _
    refine ab_Ex.blk (k := 1) (pc' := 70) (lv' := []) (st' := []) (sh' := ab_SH) (D' := ab_dD r2) (fun n => rfl) ?_
    obtain rfl := Option.some.inj hf
    exact ab_Ex.ret (fun n => rfl) rfl
  · replace hf := (if_neg c1).symm.trans hf
    refine ab_Ex.blk (k := 2) (pc' := 14) (lv' := [(0, .ref 64), (1, .int x0)]) (st' := [.int 20, .int x0]) (sh' := ab_SH) (D' := ab_dD h) (fun n => rfl) ?_
    refine ab_Ex.ifc (c := 20 ≤ x0) (SA := (31, [(0, .ref 64), (1, .int x0)], [], ab_dD h)) (SB := (17, [(0, .ref 64), (1, .int x0)], [], ab_dD h)) (fun n => rfl) (fun c3 => ?_) (fun c3 => ?_)
    · replace hf := (if_pos c3).symm.trans hf
      refine ab_Ex.blk (k := 2) (pc' := 34) (lv' := [(0, .ref 64), (1, .int x0)]) (st' := [.int 30, .int x0]) (sh' := ab_SH) (D' := ab_dD h) (fun n => rfl) ?_
      refine ab_Ex.ifc (c := 30 ≤ x0) (SA := (51, [(0, .ref 64), (1, .int x0)], [], ab_dD h)) (SB := (37, [(0, .ref 64), (1, .int x0)], [], ab_dD h)) (fun n => rfl) (fun c4 => ?_) (fun c4 => ?_)
      · replace hf := (if_pos c4).symm.trans hf
        refine ab_Ex.blk (k := 7) (pc' := 63) (lv' := [(0, .ref 64), (1, .int x0)]) (st' := [.int 10, .int ((x0 - 100)), .int 34, .ref 65]) (sh' := ab_SH) (D' := ab_dD h) (fun n => rfl) ?_
        refine ab_Ex.blk (k := 1) (pc' := 64) (lv' := [(0, .ref 64), (1, .int x0)]) (st' := [.int (((x0 - 100) / 10)), .int 34, .ref 65]) (sh' := ab_SH) (D' := ab_dD h) (fun n => rfl) ?_
        refine ab_Ex.blk (k := 3) (pc' := 68) (lv' := [(0, .ref 64), (1, .int x0)]) (st' := [.int 10, .int x0, .int ((34 + ((x0 - 100) / 10))), .ref 65]) (sh' := ab_SH) (D' := ab_dD h) (fun n => rfl) ?_
        refine ab_Ex.blk (k := 1) (pc' := 69) (lv' := [(0, .ref 64), (1, .int x0)]) (st' := [.int ((x0 - x0 / 10 * 10)), .int ((34 + ((x0 - 100) / 10))), .ref 65]) (sh' := ab_SH) (D' := ab_dD h) (fun n => rfl) ?_
        obtain ⟨c5, hf⟩ := ab_ask_s hf
        refine ab_Ex.grd (c := (34 + ((x0 - 100) / 10)) < 0 ∨ 3102 ≤ ((34 + ((x0 - 100) / 10)) : Int32).toNatClampNeg) (S := (70, [(0, .ref 64), (1, .int x0)], [], ab_dD (ab_wI h 65 ((34 + ((x0 - 100) / 10)) : Int32).toNatClampNeg (x0 - x0 / 10 * 10)))) (fun n => rfl) c5 ?_
        obtain rfl := Option.some.inj hf
        exact ab_Ex.ret (fun n => rfl) rfl
      · replace hf := (if_neg c4).symm.trans hf
        refine ab_Ex.blk (k := 6) (pc' := 47) (lv' := [(0, .ref 64), (1, .int x0)]) (st' := [.int ((x0 - 20)), .int 33, .ref 65]) (sh' := ab_SH) (D' := ab_dD h) (fun n => rfl) ?_
        refine ab_Ex.blk (k := 1) (pc' := 48) (lv' := [(0, .ref 64), (1, .int x0)]) (st' := []) (sh' := ab_SH) (D' := ab_dD (ab_wI h 65 33 (x0 - 20))) (fun n => rfl) ?_
        refine ab_Ex.blk (k := 1) (pc' := 70) (lv' := []) (st' := []) (sh' := ab_SH) (D' := ab_dD (ab_wI h 65 33 (x0 - 20))) (fun n => rfl) ?_
        obtain rfl := Option.some.inj hf
        exact ab_Ex.ret (fun n => rfl) rfl
    · replace hf := (if_neg c3).symm.trans hf
      refine ab_Ex.blk (k := 6) (pc' := 27) (lv' := [(0, .ref 64), (1, .int x0)]) (st' := [.int ((x0 - 10)), .int 40, .ref 65]) (sh' := ab_SH) (D' := ab_dD h) (fun n => rfl) ?_
      refine ab_Ex.blk (k := 1) (pc' := 28) (lv' := [(0, .ref 64), (1, .int x0)]) (st' := []) (sh' := ab_SH) (D' := ab_dD (ab_wI h 65 40 (x0 - 10))) (fun n => rfl) ?_
      refine ab_Ex.blk (k := 1) (pc' := 70) (lv' := []) (st' := []) (sh' := ab_SH) (D' := ab_dD (ab_wI h 65 40 (x0 - 10))) (fun n => rfl) ?_
      obtain rfl := Option.some.inj hf
      exact ab_Ex.ret (fun n => rfl) rfl
def fX12_tells_L7   : Nat → Int32 → Int32 → abJ → Option (Int32 × abJ)
  | 0, _, _, _ => none
  | n + 1, y1, y2, h => ab_ask (y1 < 0 ∨ 4 ≤ (y1 : Int32).toNatClampNeg) (if (h.1 86 (y1 : Int32).toNatClampNeg) ≤ y2 then ab_ask (y1 < 0 ∨ 4 ≤ (y1 : Int32).toNatClampNeg) (some ((h.1 86 (y1 : Int32).toNatClampNeg), h)) else ab_ask (((40 * y1) + y2) < 0 ∨ 160 ≤ (((40 * y1) + y2) : Int32).toNatClampNeg) ((fX12_whyNot ((h.2 87 (((40 * y1) + y2) : Int32).toNatClampNeg)) h).bind (fun r8 => if (((ab_wI h 64 18 r8)).1 64 18) = 0 then ab_ask (((40 * y1) + y2) < 0 ∨ 160 ≤ (((40 * y1) + y2) : Int32).toNatClampNeg) ((fX12_does ((((ab_wI h 64 18 r8).2 87 (((40 * y1) + y2) : Int32).toNatClampNeg) : Int64).toInt32) (ab_wI h 64 18 r8)).bind (fun r12 => fX12_tells_L7 n y1 ((y2 + 1)) r12)) else some (y2, (ab_wI h 64 18 r8)))))
def fX12_tells (x0 : Int32) (h : abJ) : Option (Int32 × abJ) := fX12_tells_L7 ab_N x0 0 (ab_wI h 64 18 0)
set_option maxRecDepth 20000 in
theorem sX12_tells_L7 (d : Nat) (X : abX)   : ∀ (n : Nat), ∀ (y1 : Int32) (y2 : Int32) (h : abJ) (z : (Int32 × abJ)), fX12_tells_L7 n y1 y2 h = some z → ab_Ex X (d + 6) 240 7 [(0, .ref 64), (1, .int y1), (2, .int y2)] [] ab_SH (ab_dD h) (fun r => r = (some (.int z.1), ab_SH, ab_dD z.2)) := by
  intro n
  induction n with
  | zero => intro y1 y2 h z hf; cases hf
  | succ n ih =>
    intro y1 y2 h z hf
    rw [fX12_tells_L7] at hf
    refine ab_Ex.blk (k := 4) (pc' := 13) (lv' := [(0, .ref 64), (1, .int y1), (2, .int y2)]) (st' := [.int y1, .ref 86, .int y2]) (sh' := ab_SH) (D' := ab_dD h) (fun n => rfl) ?_
    obtain ⟨c2, hf⟩ := ab_ask_s hf
    refine ab_Ex.grd (c := y1 < 0 ∨ 4 ≤ (y1 : Int32).toNatClampNeg) (S := (14, [(0, .ref 64), (1, .int y1), (2, .int y2)], [.int ((h.1 86 (y1 : Int32).toNatClampNeg)), .int y2], ab_dD h)) (fun n => rfl) c2 ?_
    refine ab_Ex.ifc (c := (h.1 86 (y1 : Int32).toNatClampNeg) ≤ y2) (SA := (67, [(0, .ref 64), (1, .int y1), (2, .int y2)], [], ab_dD h)) (SB := (17, [(0, .ref 64), (1, .int y1), (2, .int y2)], [], ab_dD h)) (fun n => rfl) (fun c3 => ?_) (fun c3 => ?_)
    · replace hf := (if_pos c3).symm.trans hf
      refine ab_Ex.blk (k := 3) (pc' := 72) (lv' := [(0, .ref 64), (1, .int y1), (2, .int y2)]) (st' := [.int y1, .ref 86]) (sh' := ab_SH) (D' := ab_dD h) (fun n => rfl) ?_
      obtain ⟨c5, hf⟩ := ab_ask_s hf
      refine ab_Ex.grd (c := y1 < 0 ∨ 4 ≤ (y1 : Int32).toNatClampNeg) (S := (73, [(0, .ref 64), (1, .int y1), (2, .int y2)], [.int ((h.1 86 (y1 : Int32).toNatClampNeg))], ab_dD h)) (fun n => rfl) c5 ?_
      obtain rfl := Option.some.inj hf
      exact ab_Ex.ret (fun n => rfl) rfl
    · replace hf := (if_neg c3).symm.trans hf
      refine ab_Ex.blk (k := 9) (pc' := 29) (lv' := [(0, .ref 64), (1, .int y1), (2, .int y2)]) (st' := [.int (((40 * y1) + y2)), .ref 87, .ref 64, .ref 64]) (sh' := ab_SH) (D' := ab_dD h) (fun n => rfl) ?_
      obtain ⟨c7, hf⟩ := ab_ask_s hf
      refine ab_Ex.grd (c := ((40 * y1) + y2) < 0 ∨ 160 ≤ (((40 * y1) + y2) : Int32).toNatClampNeg) (S := (30, [(0, .ref 64), (1, .int y1), (2, .int y2)], [.long ((h.2 87 (((40 * y1) + y2) : Int32).toNatClampNeg)), .ref 64, .ref 64], ab_dD h)) (fun n => rfl) c7 ?_
      obtain ⟨r8, hr8, hf⟩ := ab_bind_s hf
      refine ab_Ex.call (d := d + 5) (M2 := 238) (as := [.ref 64, .long ((h.2 87 (((40 * y1) + y2) : Int32).toNatClampNeg))]) (rest := [.ref 64]) (fun n => rfl) rfl (Nat.not_lt.mpr (Nat.le_of_ble_eq_true rfl)) (sX12_whyNot (d + 3) X ((h.2 87 (((40 * y1) + y2) : Int32).toNatClampNeg)) h _ hr8) (fun r hr => ?_)
      subst hr
      show ab_Ex X (d + 6) 240 33 [(0, .ref 64), (1, .int y1), (2, .int y2)] [.int r8, .ref 64] ab_SH (ab_dD h) _
      refine ab_Ex.blk (k := 3) (pc' := 40) (lv' := [(0, .ref 64), (1, .int y1), (2, .int y2)]) (st' := [.int ((((ab_wI h 64 18 r8)).1 64 18))]) (sh' := ab_SH) (D' := ab_dD (ab_wI h 64 18 r8)) (fun n => rfl) ?_
      refine ab_Ex.ifc (c := (((ab_wI h 64 18 r8)).1 64 18) = 0) (SA := (45, [(0, .ref 64), (1, .int y1), (2, .int y2)], [], ab_dD (ab_wI h 64 18 r8))) (SB := (43, [(0, .ref 64), (1, .int y1), (2, .int y2)], [], ab_dD (ab_wI h 64 18 r8))) (fun n => rfl) (fun c9 => ?_) (fun c9 => ?_)
      · replace hf := (if_pos c9).symm.trans hf
        refine ab_Ex.blk (k := 8) (pc' := 56) (lv' := [(0, .ref 64), (1, .int y1), (2, .int y2)]) (st' := [.int (((40 * y1) + y2)), .ref 87, .ref 64]) (sh' := ab_SH) (D' := ab_dD (ab_wI h 64 18 r8)) (fun n => rfl) ?_
        obtain ⟨c11, hf⟩ := ab_ask_s hf
        refine ab_Ex.grd (c := ((40 * y1) + y2) < 0 ∨ 160 ≤ (((40 * y1) + y2) : Int32).toNatClampNeg) (S := (57, [(0, .ref 64), (1, .int y1), (2, .int y2)], [.long (((ab_wI h 64 18 r8).2 87 (((40 * y1) + y2) : Int32).toNatClampNeg)), .ref 64], ab_dD (ab_wI h 64 18 r8))) (fun n => rfl) c11 ?_
        refine ab_Ex.blk (k := 1) (pc' := 58) (lv' := [(0, .ref 64), (1, .int y1), (2, .int y2)]) (st' := [.int ((((ab_wI h 64 18 r8).2 87 (((40 * y1) + y2) : Int32).toNatClampNeg) : Int64).toInt32), .ref 64]) (sh' := ab_SH) (D' := ab_dD (ab_wI h 64 18 r8)) (fun n => rfl) ?_
        obtain ⟨r12, hr12, hf⟩ := ab_bind_s hf
        refine ab_Ex.call (d := d + 5) (M2 := 239) (as := [.ref 64, .int ((((ab_wI h 64 18 r8).2 87 (((40 * y1) + y2) : Int32).toNatClampNeg) : Int64).toInt32)]) (rest := []) (fun n => rfl) rfl (Nat.not_lt.mpr (Nat.le_of_ble_eq_true rfl)) (sX12_does (d) X ((((ab_wI h 64 18 r8).2 87 (((40 * y1) + y2) : Int32).toNatClampNeg) : Int64).toInt32) (ab_wI h 64 18 r8) _ hr12) (fun r hr => ?_)
        subst hr
        show ab_Ex X (d + 6) 240 61 [(0, .ref 64), (1, .int y1), (2, .int y2)] [] ab_SH (ab_dD r12) _
        refine ab_Ex.blk (k := 2) (pc' := 7) (lv' := [(0, .ref 64), (1, .int y1), (2, .int ((y2 + 1)))]) (st' := []) (sh' := ab_SH) (D' := ab_dD r12) (fun n => rfl) ?_
        exact ih y1 ((y2 + 1)) r12 _ hf
      · replace hf := (if_neg c9).symm.trans hf
        refine ab_Ex.blk (k := 1) (pc' := 44) (lv' := [(0, .ref 64), (1, .int y1), (2, .int y2)]) (st' := [.int y2]) (sh' := ab_SH) (D' := ab_dD (ab_wI h 64 18 r8)) (fun n => rfl) ?_
        obtain rfl := Option.some.inj hf
        exact ab_Ex.ret (fun n => rfl) rfl
set_option maxRecDepth 20000 in
theorem sX12_tells (d : Nat) (X : abX) (x0 : Int32) (h : abJ) (z : (Int32 × abJ)) (hf : fX12_tells x0 h = some z) : ab_Ex X (d + 6) 240 0 [(0, .ref 64), (1, .int x0)] [] ab_SH (ab_dD h) (fun r => r = (some (.int z.1), ab_SH, ab_dD z.2)) := by
  unfold fX12_tells at hf
  refine ab_Ex.blk (k := 5) (pc' := 7) (lv' := [(0, .ref 64), (1, .int x0), (2, .int 0)]) (st' := []) (sh' := ab_SH) (D' := ab_dD (ab_wI h 64 18 0)) (fun n => rfl) ?_
  exact sX12_tells_L7 d X  ab_N x0 0 (ab_wI h 64 18 0) _ hf
def fX12_noTray (x0 : Int32) (h : abJ) : Option Int32 := (fX12_within ((x0 : Int32).toInt64) 0 3 h).bind (fun r1 => if r1 = 0 then some (-2) else ab_ask (x0 < 0 ∨ 4 ≤ (x0 : Int32).toNatClampNeg) (if (h.1 85 (x0 : Int32).toNatClampNeg) = (-1) then some (-6) else some 0))
set_option maxRecDepth 20000 in
theorem sX12_noTray (d : Nat) (X : abX) (x0 : Int32) (h : abJ) (z : Int32) (hf : fX12_noTray x0 h = some z) : ab_Ex X (d + 1) 241 0 [(0, .ref 64), (1, .int x0)] [] ab_SH (ab_dD h) (fun r => r = (some (.int z), ab_SH, ab_dD h)) := by
  unfold fX12_noTray at hf
  refine ab_Ex.blk (k := 4) (pc' := 6) (lv' := [(0, .ref 64), (1, .int x0)]) (st' := [.long 3, .long 0, .long ((x0 : Int32).toInt64)]) (sh' := ab_SH) (D' := ab_dD h) (fun n => rfl) ?_
  obtain ⟨r1, hr1, hf⟩ := ab_bind_s hf
  refine ab_Ex.call (d := d + 0) (M2 := 175) (as := [.long ((x0 : Int32).toInt64), .long 0, .long 3]) (rest := []) (fun n => rfl) rfl (Nat.not_lt.mpr (Nat.le_of_ble_eq_true rfl)) (sX12_within (d) X ((x0 : Int32).toInt64) 0 3 h _ hr1) (fun r hr => ?_)
  subst hr
  show ab_Ex X (d + 1) 241 9 [(0, .ref 64), (1, .int x0)] [.int r1] ab_SH (ab_dD h) _
  refine ab_Ex.ifc (c := r1 = 0) (SA := (12, [(0, .ref 64), (1, .int x0)], [], ab_dD h)) (SB := (17, [(0, .ref 64), (1, .int x0)], [], ab_dD h)) (fun n => rfl) (fun c2 => ?_) (fun c2 => ?_)
  · replace hf := (if_pos c2).symm.trans hf
    refine ab_Ex.blk (k := 2) (pc' := 33) (lv' := []) (st' := [.int ((-2))]) (sh' := ab_SH) (D' := ab_dD h) (fun n => rfl) ?_
    obtain rfl := Option.some.inj hf
    exact ab_Ex.ret (fun n => rfl) rfl
  · replace hf := (if_neg c2).symm.trans hf
    refine ab_Ex.blk (k := 3) (pc' := 22) (lv' := [(0, .ref 64), (1, .int x0)]) (st' := [.int x0, .ref 85]) (sh' := ab_SH) (D' := ab_dD h) (fun n => rfl) ?_
    obtain ⟨c4, hf⟩ := ab_ask_s hf
    refine ab_Ex.grd (c := x0 < 0 ∨ 4 ≤ (x0 : Int32).toNatClampNeg) (S := (23, [(0, .ref 64), (1, .int x0)], [.int ((h.1 85 (x0 : Int32).toNatClampNeg))], ab_dD h)) (fun n => rfl) c4 ?_
    refine ab_Ex.blk (k := 1) (pc' := 24) (lv' := [(0, .ref 64), (1, .int x0)]) (st' := [.int ((-1)), .int ((h.1 85 (x0 : Int32).toNatClampNeg))]) (sh' := ab_SH) (D' := ab_dD h) (fun n => rfl) ?_
    refine ab_Ex.ifc (c := (h.1 85 (x0 : Int32).toNatClampNeg) = (-1)) (SA := (27, [(0, .ref 64), (1, .int x0)], [], ab_dD h)) (SB := (32, [(0, .ref 64), (1, .int x0)], [], ab_dD h)) (fun n => rfl) (fun c5 => ?_) (fun c5 => ?_)
    · replace hf := (if_pos c5).symm.trans hf
      refine ab_Ex.blk (k := 2) (pc' := 33) (lv' := []) (st' := [.int ((-6))]) (sh' := ab_SH) (D' := ab_dD h) (fun n => rfl) ?_
      obtain rfl := Option.some.inj hf
      exact ab_Ex.ret (fun n => rfl) rfl
    · replace hf := (if_neg c5).symm.trans hf
      refine ab_Ex.blk (k := 1) (pc' := 33) (lv' := []) (st' := [.int 0]) (sh' := ab_SH) (D' := ab_dD h) (fun n => rfl) ?_
      obtain rfl := Option.some.inj hf
      exact ab_Ex.ret (fun n => rfl) rfl
def fX12_judge (x0 : Int32) (x1 : Int32) (h : abJ) : Option (Int32 × abJ) := (fX12_within ((x1 : Int32).toInt64) 0 3 (ab_wI h 64 0 0)).bind (fun r1 => if r1 = 0 then some ((-2), (ab_wI h 64 0 0)) else (fX12_noTray x0 (ab_wI h 64 0 0)).bind (fun r3 => if r3 = 0 then (fX12_stores (ab_wI h 64 0 0)).bind (fun r5 => (fX12_tells x0 r5).bind (fun r6 => (fX12_standNow r6.2).bind (fun r7 => (fX12_isAgain r6.2).bind (fun r8 => if x1 = 0 then if ((r8).1 64 18) = 0 then some ((-1), r8) else some (r6.1, r8) else if x1 = 1 then some (((r8).1 64 18), r8) else if x1 = 2 then some ((r7 - r7 / 6 * 6), r8) else some ((r7 / 6), r8))))) else some (r3, (ab_wI h 64 0 0))))
set_option maxRecDepth 20000 in
theorem sX12_judge (d : Nat) (X : abX) (x0 : Int32) (x1 : Int32) (h : abJ) (z : (Int32 × abJ)) (hf : fX12_judge x0 x1 h = some z) : ab_Ex X (d + 7) 242 0 [(0, .ref 64), (1, .int x0), (2, .int x1)] [] ab_SH (ab_dD h) (fun r => r = (some (.int z.1), ab_SH, ab_dD z.2)) := by
  unfold fX12_judge at hf
  refine ab_Ex.blk (k := 7) (pc' := 11) (lv' := [(0, .ref 64), (1, .int x0), (2, .int x1)]) (st' := [.long 3, .long 0, .long ((x1 : Int32).toInt64)]) (sh' := ab_SH) (D' := ab_dD (ab_wI h 64 0 0)) (fun n => rfl) ?_
  obtain ⟨r1, hr1, hf⟩ := ab_bind_s hf
  refine ab_Ex.call (d := d + 6) (M2 := 175) (as := [.long ((x1 : Int32).toInt64), .long 0, .long 3]) (rest := []) (fun n => rfl) rfl (Nat.not_lt.mpr (Nat.le_of_ble_eq_true rfl)) (sX12_within (d + 6) X ((x1 : Int32).toInt64) 0 3 (ab_wI h 64 0 0) _ hr1) (fun r hr => ?_)
  subst hr
  show ab_Ex X (d + 7) 242 14 [(0, .ref 64), (1, .int x0), (2, .int x1)] [.int r1] ab_SH (ab_dD (ab_wI h 64 0 0)) _
  refine ab_Ex.ifc (c := r1 = 0) (SA := (17, [(0, .ref 64), (1, .int x0), (2, .int x1)], [], ab_dD (ab_wI h 64 0 0))) (SB := (20, [(0, .ref 64), (1, .int x0), (2, .int x1)], [], ab_dD (ab_wI h 64 0 0))) (fun n => rfl) (fun c2 => ?_) (fun c2 => ?_)
  · replace hf := (if_pos c2).symm.trans hf
    refine ab_Ex.blk (k := 1) (pc' := 19) (lv' := [(0, .ref 64), (1, .int x0), (2, .int x1)]) (st' := [.int ((-2))]) (sh' := ab_SH) (D' := ab_dD (ab_wI h 64 0 0)) (fun n => rfl) ?_
    obtain rfl := Option.some.inj hf
    exact ab_Ex.ret (fun n => rfl) rfl
  · replace hf := (if_neg c2).symm.trans hf
    refine ab_Ex.blk (k := 2) (pc' := 22) (lv' := [(0, .ref 64), (1, .int x0), (2, .int x1)]) (st' := [.int x0, .ref 64]) (sh' := ab_SH) (D' := ab_dD (ab_wI h 64 0 0)) (fun n => rfl) ?_
    obtain ⟨r3, hr3, hf⟩ := ab_bind_s hf
    refine ab_Ex.call (d := d + 6) (M2 := 241) (as := [.ref 64, .int x0]) (rest := []) (fun n => rfl) rfl (Nat.not_lt.mpr (Nat.le_of_ble_eq_true rfl)) (sX12_noTray (d + 5) X x0 (ab_wI h 64 0 0) _ hr3) (fun r hr => ?_)
    subst hr
    show ab_Ex X (d + 7) 242 25 [(0, .ref 64), (1, .int x0), (2, .int x1)] [.int r3] ab_SH (ab_dD (ab_wI h 64 0 0)) _
    refine ab_Ex.blk (k := 2) (pc' := 27) (lv' := [(3, .int r3), (0, .ref 64), (1, .int x0), (2, .int x1)]) (st' := [.int r3]) (sh' := ab_SH) (D' := ab_dD (ab_wI h 64 0 0)) (fun n => rfl) ?_
    refine ab_Ex.ifc (c := r3 = 0) (SA := (32, [(3, .int r3), (0, .ref 64), (1, .int x0), (2, .int x1)], [], ab_dD (ab_wI h 64 0 0))) (SB := (30, [(3, .int r3), (0, .ref 64), (1, .int x0), (2, .int x1)], [], ab_dD (ab_wI h 64 0 0))) (fun n => rfl) (fun c4 => ?_) (fun c4 => ?_)
    · replace hf := (if_pos c4).symm.trans hf
      refine ab_Ex.blk (k := 1) (pc' := 33) (lv' := [(3, .int r3), (0, .ref 64), (1, .int x0), (2, .int x1)]) (st' := [.ref 64]) (sh' := ab_SH) (D' := ab_dD (ab_wI h 64 0 0)) (fun n => rfl) ?_
      obtain ⟨r5, hr5, hf⟩ := ab_bind_s hf
      refine ab_Ex.call (d := d + 6) (M2 := 228) (as := [.ref 64]) (rest := []) (fun n => rfl) rfl (Nat.not_lt.mpr (Nat.le_of_ble_eq_true rfl)) (sX12_stores (d + 6) X  (ab_wI h 64 0 0) _ hr5) (fun r hr => ?_)
      subst hr
      show ab_Ex X (d + 7) 242 36 [(3, .int r3), (0, .ref 64), (1, .int x0), (2, .int x1)] [] ab_SH (ab_dD r5) _
      refine ab_Ex.blk (k := 2) (pc' := 38) (lv' := [(3, .int r3), (0, .ref 64), (1, .int x0), (2, .int x1)]) (st' := [.int x0, .ref 64]) (sh' := ab_SH) (D' := ab_dD r5) (fun n => rfl) ?_
      obtain ⟨r6, hr6, hf⟩ := ab_bind_s hf
      refine ab_Ex.call (d := d + 6) (M2 := 240) (as := [.ref 64, .int x0]) (rest := []) (fun n => rfl) rfl (Nat.not_lt.mpr (Nat.le_of_ble_eq_true rfl)) (sX12_tells (d) X x0 r5 _ hr6) (fun r hr => ?_)
      subst hr
      show ab_Ex X (d + 7) 242 41 [(3, .int r3), (0, .ref 64), (1, .int x0), (2, .int x1)] [.int r6.1] ab_SH (ab_dD r6.2) _
      refine ab_Ex.blk (k := 2) (pc' := 44) (lv' := [(4, .int r6.1), (3, .int r3), (0, .ref 64), (1, .int x0), (2, .int x1)]) (st' := [.ref 64]) (sh' := ab_SH) (D' := ab_dD r6.2) (fun n => rfl) ?_
      obtain ⟨r7, hr7, hf⟩ := ab_bind_s hf
      refine ab_Ex.call (d := d + 6) (M2 := 216) (as := [.ref 64]) (rest := []) (fun n => rfl) rfl (Nat.not_lt.mpr (Nat.le_of_ble_eq_true rfl)) (sX12_standNow (d + 4) X  r6.2 _ hr7) (fun r hr => ?_)
      subst hr
      show ab_Ex X (d + 7) 242 47 [(4, .int r6.1), (3, .int r3), (0, .ref 64), (1, .int x0), (2, .int x1)] [.int r7] ab_SH (ab_dD r6.2) _
      refine ab_Ex.blk (k := 2) (pc' := 50) (lv' := [(5, .int r7), (4, .int r6.1), (3, .int r3), (0, .ref 64), (1, .int x0), (2, .int x1)]) (st' := [.ref 64]) (sh' := ab_SH) (D' := ab_dD r6.2) (fun n => rfl) ?_
      obtain ⟨r8, hr8, hf⟩ := ab_bind_s hf
      refine ab_Ex.call (d := d + 6) (M2 := 229) (as := [.ref 64]) (rest := []) (fun n => rfl) rfl (Nat.not_lt.mpr (Nat.le_of_ble_eq_true rfl)) (sX12_isAgain (d + 6) X  r6.2 _ hr8) (fun r hr => ?_)
      subst hr
      show ab_Ex X (d + 7) 242 53 [(5, .int r7), (4, .int r6.1), (3, .int r3), (0, .ref 64), (1, .int x0), (2, .int x1)] [] ab_SH (ab_dD r8) _
      refine ab_Ex.blk (k := 1) (pc' := 54) (lv' := [(5, .int r7), (4, .int r6.1), (3, .int r3), (0, .ref 64), (1, .int x0), (2, .int x1)]) (st' := [.int x1]) (sh' := ab_SH) (D' := ab_dD r8) (fun n => rfl) ?_
      refine ab_Ex.ifc (c := x1 = 0) (SA := (57, [(5, .int r7), (4, .int r6.1), (3, .int r3), (0, .ref 64), (1, .int x0), (2, .int x1)], [], ab_dD r8)) (SB := (73, [(5, .int r7), (4, .int r6.1), (3, .int r3), (0, .ref 64), (1, .int x0), (2, .int x1)], [], ab_dD r8)) (fun n => rfl) (fun c9 => ?_) (fun c9 => ?_)
      · replace hf := (if_pos c9).symm.trans hf
        refine ab_Ex.blk (k := 2) (pc' := 61) (lv' := [(5, .int r7), (4, .int r6.1), (3, .int r3), (0, .ref 64), (1, .int x0), (2, .int x1)]) (st' := [.int (((r8).1 64 18))]) (sh' := ab_SH) (D' := ab_dD r8) (fun n => rfl) ?_
        refine ab_Ex.ifc (c := ((r8).1 64 18) = 0) (SA := (64, [(5, .int r7), (4, .int r6.1), (3, .int r3), (0, .ref 64), (1, .int x0), (2, .int x1)], [], ab_dD r8)) (SB := (68, [(5, .int r7), (4, .int r6.1), (3, .int r3), (0, .ref 64), (1, .int x0), (2, .int x1)], [], ab_dD r8)) (fun n => rfl) (fun c10 => ?_) (fun c10 => ?_)
        · replace hf := (if_pos c10).symm.trans hf
          refine ab_Ex.blk (k := 2) (pc' := 103) (lv' := []) (st' := [.int ((-1))]) (sh' := ab_SH) (D' := ab_dD r8) (fun n => rfl) ?_
          obtain rfl := Option.some.inj hf
          exact ab_Ex.ret (fun n => rfl) rfl
        · replace hf := (if_neg c10).symm.trans hf
          refine ab_Ex.blk (k := 2) (pc' := 103) (lv' := []) (st' := [.int r6.1]) (sh' := ab_SH) (D' := ab_dD r8) (fun n => rfl) ?_
          obtain rfl := Option.some.inj hf
          exact ab_Ex.ret (fun n => rfl) rfl
      · replace hf := (if_neg c9).symm.trans hf
        refine ab_Ex.blk (k := 2) (pc' := 75) (lv' := [(5, .int r7), (4, .int r6.1), (3, .int r3), (0, .ref 64), (1, .int x0), (2, .int x1)]) (st' := [.int 1, .int x1]) (sh' := ab_SH) (D' := ab_dD r8) (fun n => rfl) ?_
        refine ab_Ex.ifc (c := x1 = 1) (SA := (78, [(5, .int r7), (4, .int r6.1), (3, .int r3), (0, .ref 64), (1, .int x0), (2, .int x1)], [], ab_dD r8)) (SB := (85, [(5, .int r7), (4, .int r6.1), (3, .int r3), (0, .ref 64), (1, .int x0), (2, .int x1)], [], ab_dD r8)) (fun n => rfl) (fun c11 => ?_) (fun c11 => ?_)
        · replace hf := (if_pos c11).symm.trans hf
          refine ab_Ex.blk (k := 3) (pc' := 103) (lv' := []) (st' := [.int (((r8).1 64 18))]) (sh' := ab_SH) (D' := ab_dD r8) (fun n => rfl) ?_
          obtain rfl := Option.some.inj hf
          exact ab_Ex.ret (fun n => rfl) rfl
        · replace hf := (if_neg c11).symm.trans hf
          refine ab_Ex.blk (k := 2) (pc' := 87) (lv' := [(5, .int r7), (4, .int r6.1), (3, .int r3), (0, .ref 64), (1, .int x0), (2, .int x1)]) (st' := [.int 2, .int x1]) (sh' := ab_SH) (D' := ab_dD r8) (fun n => rfl) ?_
          refine ab_Ex.ifc (c := x1 = 2) (SA := (90, [(5, .int r7), (4, .int r6.1), (3, .int r3), (0, .ref 64), (1, .int x0), (2, .int x1)], [], ab_dD r8)) (SB := (98, [(5, .int r7), (4, .int r6.1), (3, .int r3), (0, .ref 64), (1, .int x0), (2, .int x1)], [], ab_dD r8)) (fun n => rfl) (fun c12 => ?_) (fun c12 => ?_)
          · replace hf := (if_pos c12).symm.trans hf
            refine ab_Ex.blk (k := 2) (pc' := 94) (lv' := [(5, .int r7), (4, .int r6.1), (3, .int r3), (0, .ref 64), (1, .int x0), (2, .int x1)]) (st' := [.int 6, .int r7]) (sh' := ab_SH) (D' := ab_dD r8) (fun n => rfl) ?_
            refine ab_Ex.blk (k := 1) (pc' := 95) (lv' := [(5, .int r7), (4, .int r6.1), (3, .int r3), (0, .ref 64), (1, .int x0), (2, .int x1)]) (st' := [.int ((r7 - r7 / 6 * 6))]) (sh' := ab_SH) (D' := ab_dD r8) (fun n => rfl) ?_
            refine ab_Ex.blk (k := 1) (pc' := 103) (lv' := []) (st' := [.int ((r7 - r7 / 6 * 6))]) (sh' := ab_SH) (D' := ab_dD r8) (fun n => rfl) ?_
            obtain rfl := Option.some.inj hf
            exact ab_Ex.ret (fun n => rfl) rfl
          · replace hf := (if_neg c12).symm.trans hf
            refine ab_Ex.blk (k := 2) (pc' := 102) (lv' := [(5, .int r7), (4, .int r6.1), (3, .int r3), (0, .ref 64), (1, .int x0), (2, .int x1)]) (st' := [.int 6, .int r7]) (sh' := ab_SH) (D' := ab_dD r8) (fun n => rfl) ?_
            refine ab_Ex.blk (k := 1) (pc' := 103) (lv' := []) (st' := [.int ((r7 / 6))]) (sh' := ab_SH) (D' := ab_dD r8) (fun n => rfl) ?_
            obtain rfl := Option.some.inj hf
            exact ab_Ex.ret (fun n => rfl) rfl
    · replace hf := (if_neg c4).symm.trans hf
      refine ab_Ex.blk (k := 1) (pc' := 31) (lv' := [(3, .int r3), (0, .ref 64), (1, .int x0), (2, .int x1)]) (st' := [.int r3]) (sh' := ab_SH) (D' := ab_dD (ab_wI h 64 0 0)) (fun n => rfl) ?_
      obtain rfl := Option.some.inj hf
      exact ab_Ex.ret (fun n => rfl) rfl
def fX12_perform (x0 : Int32) (h : abJ) : Option (Int32 × abJ) := (fX12_noTray x0 (ab_wI h 64 0 0)).bind (fun r1 => if r1 = 0 then (fX12_stores (ab_wI h 64 0 0)).bind (fun r3 => (fX12_tells x0 r3).bind (fun r4 => if r4.1 ≤ 0 then some (r4.1, r4.2) else (fX12_notes r4.2).bind (fun r6 => some (r4.1, r6)))) else some (r1, (ab_wI h 64 0 0)))
set_option maxRecDepth 20000 in
theorem sX12_perform (d : Nat) (X : abX) (x0 : Int32) (h : abJ) (z : (Int32 × abJ)) (hf : fX12_perform x0 h = some z) : ab_Ex X (d + 7) 243 0 [(0, .ref 64), (1, .int x0)] [] ab_SH (ab_dD h) (fun r => r = (some (.int z.1), ab_SH, ab_dD z.2)) := by
  unfold fX12_perform at hf
  refine ab_Ex.blk (k := 5) (pc' := 7) (lv' := [(0, .ref 64), (1, .int x0)]) (st' := [.int x0, .ref 64]) (sh' := ab_SH) (D' := ab_dD (ab_wI h 64 0 0)) (fun n => rfl) ?_
  obtain ⟨r1, hr1, hf⟩ := ab_bind_s hf
  refine ab_Ex.call (d := d + 6) (M2 := 241) (as := [.ref 64, .int x0]) (rest := []) (fun n => rfl) rfl (Nat.not_lt.mpr (Nat.le_of_ble_eq_true rfl)) (sX12_noTray (d + 5) X x0 (ab_wI h 64 0 0) _ hr1) (fun r hr => ?_)
  subst hr
  show ab_Ex X (d + 7) 243 10 [(0, .ref 64), (1, .int x0)] [.int r1] ab_SH (ab_dD (ab_wI h 64 0 0)) _
  refine ab_Ex.blk (k := 2) (pc' := 12) (lv' := [(2, .int r1), (0, .ref 64), (1, .int x0)]) (st' := [.int r1]) (sh' := ab_SH) (D' := ab_dD (ab_wI h 64 0 0)) (fun n => rfl) ?_
  refine ab_Ex.ifc (c := r1 = 0) (SA := (17, [(2, .int r1), (0, .ref 64), (1, .int x0)], [], ab_dD (ab_wI h 64 0 0))) (SB := (15, [(2, .int r1), (0, .ref 64), (1, .int x0)], [], ab_dD (ab_wI h 64 0 0))) (fun n => rfl) (fun c2 => ?_) (fun c2 => ?_)
  · replace hf := (if_pos c2).symm.trans hf
    refine ab_Ex.blk (k := 1) (pc' := 18) (lv' := [(2, .int r1), (0, .ref 64), (1, .int x0)]) (st' := [.ref 64]) (sh' := ab_SH) (D' := ab_dD (ab_wI h 64 0 0)) (fun n => rfl) ?_
    obtain ⟨r3, hr3, hf⟩ := ab_bind_s hf
    refine ab_Ex.call (d := d + 6) (M2 := 228) (as := [.ref 64]) (rest := []) (fun n => rfl) rfl (Nat.not_lt.mpr (Nat.le_of_ble_eq_true rfl)) (sX12_stores (d + 6) X  (ab_wI h 64 0 0) _ hr3) (fun r hr => ?_)
    subst hr
    show ab_Ex X (d + 7) 243 21 [(2, .int r1), (0, .ref 64), (1, .int x0)] [] ab_SH (ab_dD r3) _
    refine ab_Ex.blk (k := 2) (pc' := 23) (lv' := [(2, .int r1), (0, .ref 64), (1, .int x0)]) (st' := [.int x0, .ref 64]) (sh' := ab_SH) (D' := ab_dD r3) (fun n => rfl) ?_
    obtain ⟨r4, hr4, hf⟩ := ab_bind_s hf
    refine ab_Ex.call (d := d + 6) (M2 := 240) (as := [.ref 64, .int x0]) (rest := []) (fun n => rfl) rfl (Nat.not_lt.mpr (Nat.le_of_ble_eq_true rfl)) (sX12_tells (d) X x0 r3 _ hr4) (fun r hr => ?_)
    subst hr
    show ab_Ex X (d + 7) 243 26 [(2, .int r1), (0, .ref 64), (1, .int x0)] [.int r4.1] ab_SH (ab_dD r4.2) _
    refine ab_Ex.blk (k := 2) (pc' := 28) (lv' := [(3, .int r4.1), (2, .int r1), (0, .ref 64), (1, .int x0)]) (st' := [.int r4.1]) (sh' := ab_SH) (D' := ab_dD r4.2) (fun n => rfl) ?_
    refine ab_Ex.ifc (c := r4.1 ≤ 0) (SA := (35, [(3, .int r4.1), (2, .int r1), (0, .ref 64), (1, .int x0)], [], ab_dD r4.2)) (SB := (31, [(3, .int r4.1), (2, .int r1), (0, .ref 64), (1, .int x0)], [], ab_dD r4.2)) (fun n => rfl) (fun c5 => ?_) (fun c5 => ?_)
    · replace hf := (if_pos c5).symm.trans hf
      refine ab_Ex.blk (k := 1) (pc' := 36) (lv' := [(3, .int r4.1)]) (st' := [.int r4.1]) (sh' := ab_SH) (D' := ab_dD r4.2) (fun n => rfl) ?_
      obtain rfl := Option.some.inj hf
      exact ab_Ex.ret (fun n => rfl) rfl
    · replace hf := (if_neg c5).symm.trans hf
      refine ab_Ex.blk (k := 1) (pc' := 32) (lv' := [(3, .int r4.1), (2, .int r1), (0, .ref 64), (1, .int x0)]) (st' := [.ref 64]) (sh' := ab_SH) (D' := ab_dD r4.2) (fun n => rfl) ?_
      obtain ⟨r6, hr6, hf⟩ := ab_bind_s hf
      refine ab_Ex.call (d := d + 6) (M2 := 230) (as := [.ref 64]) (rest := []) (fun n => rfl) rfl (Nat.not_lt.mpr (Nat.le_of_ble_eq_true rfl)) (sX12_notes (d + 6) X  r4.2 _ hr6) (fun r hr => ?_)
      subst hr
      show ab_Ex X (d + 7) 243 35 [(3, .int r4.1)] [] ab_SH (ab_dD r6) _
      refine ab_Ex.blk (k := 1) (pc' := 36) (lv' := [(3, .int r4.1)]) (st' := [.int r4.1]) (sh' := ab_SH) (D' := ab_dD r6) (fun n => rfl) ?_
      obtain rfl := Option.some.inj hf
      exact ab_Ex.ret (fun n => rfl) rfl
  · replace hf := (if_neg c2).symm.trans hf
    refine ab_Ex.blk (k := 1) (pc' := 16) (lv' := [(2, .int r1), (0, .ref 64), (1, .int x0)]) (st' := [.int r1]) (sh' := ab_SH) (D' := ab_dD (ab_wI h 64 0 0)) (fun n => rfl) ?_
    obtain rfl := Option.some.inj hf
    exact ab_Ex.ret (fun n => rfl) rfl
def fX12_draw (x0 : Int32) (h : abJ) : Option (Int32 × abJ) := ab_ask (x0 = 0) (some (((((((ab_wI h 64 19 ((1103515245 * (h.1 64 19)) + 12345))).1 64 19) : Int32).toUInt32 >>> ((16 : Int32).toUInt32 &&& Int32.toUInt32 31)).toInt32 - (((((ab_wI h 64 19 ((1103515245 * (h.1 64 19)) + 12345))).1 64 19) : Int32).toUInt32 >>> ((16 : Int32).toUInt32 &&& Int32.toUInt32 31)).toInt32 / x0 * x0), (ab_wI h 64 19 ((1103515245 * (h.1 64 19)) + 12345))))
set_option maxRecDepth 20000 in
theorem sX12_draw (d : Nat) (X : abX) (x0 : Int32) (h : abJ) (z : (Int32 × abJ)) (hf : fX12_draw x0 h = some z) : ab_Ex X (d + 0) 244 0 [(0, .ref 64), (1, .int x0)] [] ab_SH (ab_dD h) (fun r => r = (some (.int z.1), ab_SH, ab_dD z.2)) := by
  unfold fX12_draw at hf
  refine ab_Ex.blk (k := 13) (pc' := 24) (lv' := [(0, .ref 64), (1, .int x0)]) (st' := [.int x0, .int ((((((ab_wI h 64 19 ((1103515245 * (h.1 64 19)) + 12345))).1 64 19) : Int32).toUInt32 >>> ((16 : Int32).toUInt32 &&& Int32.toUInt32 31)).toInt32)]) (sh' := ab_SH) (D' := ab_dD (ab_wI h 64 19 ((1103515245 * (h.1 64 19)) + 12345))) (fun n => rfl) ?_
  obtain ⟨c1, hf⟩ := ab_ask_s hf
  refine ab_Ex.grd (c := x0 = 0) (S := (25, [(0, .ref 64), (1, .int x0)], [.int (((((((ab_wI h 64 19 ((1103515245 * (h.1 64 19)) + 12345))).1 64 19) : Int32).toUInt32 >>> ((16 : Int32).toUInt32 &&& Int32.toUInt32 31)).toInt32 - (((((ab_wI h 64 19 ((1103515245 * (h.1 64 19)) + 12345))).1 64 19) : Int32).toUInt32 >>> ((16 : Int32).toUInt32 &&& Int32.toUInt32 31)).toInt32 / x0 * x0))], ab_dD (ab_wI h 64 19 ((1103515245 * (h.1 64 19)) + 12345)))) (fun n => rfl) c1 ?_
  obtain rfl := Option.some.inj hf
  exact ab_Ex.ret (fun n => rfl) rfl
def fX12_drawn  (h : abJ) : Option (Int32 × abJ) := (fX12_draw 6 h).bind (fun r1 => if 4 ≤ r1.1 then (fX12_draw 6 r1.2).bind (fun r3 => if r1.1 = 4 then some ((20 + r3.1), r3.2) else (fX12_draw 3 r3.2).bind (fun r5 => some (((100 + (10 * r3.1)) + r5.1), r5.2))) else if 3 ≤ r1.1 then (fX12_draw 10 r1.2).bind (fun r7 => some ((10 + r7.1), r7.2)) else some (0, r1.2))
set_option maxRecDepth 20000 in
theorem sX12_drawn (d : Nat) (X : abX)  (h : abJ) (z : (Int32 × abJ)) (hf : fX12_drawn  h = some z) : ab_Ex X (d + 1) 245 0 [(0, .ref 64)] [] ab_SH (ab_dD h) (fun r => r = (some (.int z.1), ab_SH, ab_dD z.2)) := by
  unfold fX12_drawn at hf
  refine ab_Ex.blk (k := 2) (pc' := 3) (lv' := [(0, .ref 64)]) (st' := [.int 6, .ref 64]) (sh' := ab_SH) (D' := ab_dD h) (fun n => rfl) ?_
  obtain ⟨r1, hr1, hf⟩ := ab_bind_s hf
  refine ab_Ex.call (d := d + 0) (M2 := 244) (as := [.ref 64, .int 6]) (rest := []) (fun n => rfl) rfl (Nat.not_lt.mpr (Nat.le_of_ble_eq_true rfl)) (sX12_draw (d) X 6 h _ hr1) (fun r hr => ?_)
  subst hr
  show ab_Ex X (d + 1) 245 6 [(0, .ref 64)] [.int r1.1] ab_SH (ab_dD r1.2) _
  refine ab_Ex.blk (k := 3) (pc' := 9) (lv' := [(1, .int r1.1), (0, .ref 64)]) (st' := [.int 4, .int r1.1]) (sh' := ab_SH) (D' := ab_dD r1.2) (fun n => rfl) ?_
  refine ab_Ex.ifc (c := 4 ≤ r1.1) (SA := (31, [(1, .int r1.1), (0, .ref 64)], [], ab_dD r1.2)) (SB := (12, [(1, .int r1.1), (0, .ref 64)], [], ab_dD r1.2)) (fun n => rfl) (fun c2 => ?_) (fun c2 => ?_)
  · replace hf := (if_pos c2).symm.trans hf
    refine ab_Ex.blk (k := 2) (pc' := 34) (lv' := [(1, .int r1.1), (0, .ref 64)]) (st' := [.int 6, .ref 64]) (sh' := ab_SH) (D' := ab_dD r1.2) (fun n => rfl) ?_
    obtain ⟨r3, hr3, hf⟩ := ab_bind_s hf
    refine ab_Ex.call (d := d + 0) (M2 := 244) (as := [.ref 64, .int 6]) (rest := []) (fun n => rfl) rfl (Nat.not_lt.mpr (Nat.le_of_ble_eq_true rfl)) (sX12_draw (d) X 6 r1.2 _ hr3) (fun r hr => ?_)
    subst hr
    show ab_Ex X (d + 1) 245 37 [(1, .int r1.1), (0, .ref 64)] [.int r3.1] ab_SH (ab_dD r3.2) _
    refine ab_Ex.blk (k := 3) (pc' := 40) (lv' := [(2, .int r3.1), (1, .int r1.1), (0, .ref 64)]) (st' := [.int 4, .int r1.1]) (sh' := ab_SH) (D' := ab_dD r3.2) (fun n => rfl) ?_
    refine ab_Ex.ifc (c := r1.1 = 4) (SA := (43, [(2, .int r3.1), (1, .int r1.1), (0, .ref 64)], [], ab_dD r3.2)) (SB := (50, [(2, .int r3.1), (1, .int r1.1), (0, .ref 64)], [], ab_dD r3.2)) (fun n => rfl) (fun c4 => ?_) (fun c4 => ?_)
    · replace hf := (if_pos c4).symm.trans hf
      refine ab_Ex.blk (k := 4) (pc' := 63) (lv' := []) (st' := [.int ((20 + r3.1))]) (sh' := ab_SH) (D' := ab_dD r3.2) (fun n => rfl) ?_
      obtain rfl := Option.some.inj hf
      exact ab_Ex.ret (fun n => rfl) rfl
    · replace hf := (if_neg c4).symm.trans hf
      refine ab_Ex.blk (k := 7) (pc' := 59) (lv' := [(2, .int r3.1), (1, .int r1.1), (0, .ref 64)]) (st' := [.int 3, .ref 64, .int ((100 + (10 * r3.1)))]) (sh' := ab_SH) (D' := ab_dD r3.2) (fun n => rfl) ?_
      obtain ⟨r5, hr5, hf⟩ := ab_bind_s hf
      refine ab_Ex.call (d := d + 0) (M2 := 244) (as := [.ref 64, .int 3]) (rest := [.int ((100 + (10 * r3.1)))]) (fun n => rfl) rfl (Nat.not_lt.mpr (Nat.le_of_ble_eq_true rfl)) (sX12_draw (d) X 3 r3.2 _ hr5) (fun r hr => ?_)
      subst hr
      show ab_Ex X (d + 1) 245 62 [(2, .int r3.1), (1, .int r1.1), (0, .ref 64)] [.int r5.1, .int ((100 + (10 * r3.1)))] ab_SH (ab_dD r5.2) _
      refine ab_Ex.blk (k := 1) (pc' := 63) (lv' := []) (st' := [.int (((100 + (10 * r3.1)) + r5.1))]) (sh' := ab_SH) (D' := ab_dD r5.2) (fun n => rfl) ?_
      obtain rfl := Option.some.inj hf
      exact ab_Ex.ret (fun n => rfl) rfl
  · replace hf := (if_neg c2).symm.trans hf
    refine ab_Ex.blk (k := 2) (pc' := 14) (lv' := [(1, .int r1.1), (0, .ref 64)]) (st' := [.int 3, .int r1.1]) (sh' := ab_SH) (D' := ab_dD r1.2) (fun n => rfl) ?_
    refine ab_Ex.ifc (c := 3 ≤ r1.1) (SA := (21, [(1, .int r1.1), (0, .ref 64)], [], ab_dD r1.2)) (SB := (17, [(1, .int r1.1), (0, .ref 64)], [], ab_dD r1.2)) (fun n => rfl) (fun c6 => ?_) (fun c6 => ?_)
    · replace hf := (if_pos c6).symm.trans hf
      refine ab_Ex.blk (k := 3) (pc' := 26) (lv' := [(1, .int r1.1), (0, .ref 64)]) (st' := [.int 10, .ref 64, .int 10]) (sh' := ab_SH) (D' := ab_dD r1.2) (fun n => rfl) ?_
      obtain ⟨r7, hr7, hf⟩ := ab_bind_s hf
      refine ab_Ex.call (d := d + 0) (M2 := 244) (as := [.ref 64, .int 10]) (rest := [.int 10]) (fun n => rfl) rfl (Nat.not_lt.mpr (Nat.le_of_ble_eq_true rfl)) (sX12_draw (d) X 10 r1.2 _ hr7) (fun r hr => ?_)
      subst hr
      show ab_Ex X (d + 1) 245 29 [(1, .int r1.1), (0, .ref 64)] [.int r7.1, .int 10] ab_SH (ab_dD r7.2) _
      refine ab_Ex.blk (k := 1) (pc' := 30) (lv' := []) (st' := [.int ((10 + r7.1))]) (sh' := ab_SH) (D' := ab_dD r7.2) (fun n => rfl) ?_
      obtain rfl := Option.some.inj hf
      exact ab_Ex.ret (fun n => rfl) rfl
    · replace hf := (if_neg c6).symm.trans hf
      refine ab_Ex.blk (k := 2) (pc' := 30) (lv' := []) (st' := [.int 0]) (sh' := ab_SH) (D' := ab_dD r1.2) (fun n => rfl) ?_
      obtain rfl := Option.some.inj hf
      exact ab_Ex.ret (fun n => rfl) rfl
def fX12_year_J68  (k34 : Int32 → Int32 → Int32 → abJ → Option (Int32 × abJ)) (y2 : Int32) (y3 : Int32) (y4 : Int32) (h : abJ) : Option (Int32 × abJ) := k34 y2 y3 ((y4 + 1)) h
def fX12_year_L34   : Nat → Int32 → Int32 → Int32 → abJ → Option (Int32 × abJ)
  | 0, _, _, _, _ => none
  | n + 1, y2, y3, y4, h => if y2 ≤ y4 then if y3 ≤ 0 then some (y3, h) else (fX12_notes h).bind (fun r6 => some (y3, r6)) else (fX12_drawn h).bind (fun r7 => (fX12_whyNot ((r7.1 : Int32).toInt64) r7.2).bind (fun r8 => if r8 = 0 then (fX12_does (r7.1) r7.2).bind (fun r10 => fX12_year_J68 (fun y2 y3 y4 h => fX12_year_L34 n y2 y3 y4 h) y2 ((y3 + 1)) y4 r10) else fX12_year_J68 (fun y2 y3 y4 h => fX12_year_L34 n y2 y3 y4 h) y2 y3 y4 r7.2))
def fX12_year (x0 : Int32) (x1 : Int32) (h : abJ) : Option (Int32 × abJ) := (fX12_within ((x1 : Int32).toInt64) 1 40 (ab_wI h 64 0 0)).bind (fun r1 => if r1 = 0 then some ((-3), (ab_wI h 64 0 0)) else (fX12_stores (ab_wI h 64 0 0)).bind (fun r3 => fX12_year_L34 ab_N x1 0 0 (ab_wI r3 64 19 x0)))
set_option maxRecDepth 20000 in
theorem sX12_year_J68 (d : Nat) (X : abX) (k34 : Int32 → Int32 → Int32 → abJ → Option (Int32 × abJ)) (hk34 : ∀ (y2 : Int32) (y3 : Int32) (y4 : Int32) (h : abJ) (z : (Int32 × abJ)), k34 y2 y3 y4 h = some z → ab_Ex X (d + 6) 246 34 [(0, .ref 64), (2, .int y2), (3, .int y3), (4, .int y4)] [] ab_SH (ab_dD h) (fun r => r = (some (.int z.1), ab_SH, ab_dD z.2))) : ∀ (y2 : Int32) (y3 : Int32) (y4 : Int32) (h : abJ) (z : (Int32 × abJ)), fX12_year_J68 k34 y2 y3 y4 h = some z → ab_Ex X (d + 6) 246 68 [(0, .ref 64), (2, .int y2), (3, .int y3), (4, .int y4)] [] ab_SH (ab_dD h) (fun r => r = (some (.int z.1), ab_SH, ab_dD z.2)) := by
  intro y2 y3 y4 h z hf
  unfold fX12_year_J68 at hf
  refine ab_Ex.blk (k := 2) (pc' := 34) (lv' := [(0, .ref 64), (2, .int y2), (3, .int y3), (4, .int ((y4 + 1)))]) (st' := []) (sh' := ab_SH) (D' := ab_dD h) (fun n => rfl) ?_
  exact hk34 y2 y3 ((y4 + 1)) h _ hf
set_option maxRecDepth 20000 in
theorem sX12_year_L34 (d : Nat) (X : abX)   : ∀ (n : Nat), ∀ (y2 : Int32) (y3 : Int32) (y4 : Int32) (h : abJ) (z : (Int32 × abJ)), fX12_year_L34 n y2 y3 y4 h = some z → ab_Ex X (d + 6) 246 34 [(0, .ref 64), (2, .int y2), (3, .int y3), (4, .int y4)] [] ab_SH (ab_dD h) (fun r => r = (some (.int z.1), ab_SH, ab_dD z.2)) := by
  intro n
  induction n with
  | zero => intro y2 y3 y4 h z hf; cases hf
  | succ n ih =>
    intro y2 y3 y4 h z hf
    rw [fX12_year_L34] at hf
    refine ab_Ex.blk (k := 2) (pc' := 37) (lv' := [(0, .ref 64), (2, .int y2), (3, .int y3), (4, .int y4)]) (st' := [.int y2, .int y4]) (sh' := ab_SH) (D' := ab_dD h) (fun n => rfl) ?_
    refine ab_Ex.ifc (c := y2 ≤ y4) (SA := (74, [(0, .ref 64), (2, .int y2), (3, .int y3), (4, .int y4)], [], ab_dD h)) (SB := (40, [(0, .ref 64), (2, .int y2), (3, .int y3), (4, .int y4)], [], ab_dD h)) (fun n => rfl) (fun c4 => ?_) (fun c4 => ?_)
    · replace hf := (if_pos c4).symm.trans hf
      refine ab_Ex.blk (k := 1) (pc' := 75) (lv' := [(0, .ref 64), (2, .int y2), (3, .int y3), (4, .int y4)]) (st' := [.int y3]) (sh' := ab_SH) (D' := ab_dD h) (fun n => rfl) ?_
      refine ab_Ex.ifc (c := y3 ≤ 0) (SA := (82, [(0, .ref 64), (2, .int y2), (3, .int y3), (4, .int y4)], [], ab_dD h)) (SB := (78, [(0, .ref 64), (2, .int y2), (3, .int y3), (4, .int y4)], [], ab_dD h)) (fun n => rfl) (fun c5 => ?_) (fun c5 => ?_)
      · replace hf := (if_pos c5).symm.trans hf
        refine ab_Ex.blk (k := 1) (pc' := 83) (lv' := [(3, .int y3)]) (st' := [.int y3]) (sh' := ab_SH) (D' := ab_dD h) (fun n => rfl) ?_
        obtain rfl := Option.some.inj hf
        exact ab_Ex.ret (fun n => rfl) rfl
      · replace hf := (if_neg c5).symm.trans hf
        refine ab_Ex.blk (k := 1) (pc' := 79) (lv' := [(0, .ref 64), (2, .int y2), (3, .int y3), (4, .int y4)]) (st' := [.ref 64]) (sh' := ab_SH) (D' := ab_dD h) (fun n => rfl) ?_
        obtain ⟨r6, hr6, hf⟩ := ab_bind_s hf
        refine ab_Ex.call (d := d + 5) (M2 := 230) (as := [.ref 64]) (rest := []) (fun n => rfl) rfl (Nat.not_lt.mpr (Nat.le_of_ble_eq_true rfl)) (sX12_notes (d + 5) X  h _ hr6) (fun r hr => ?_)
        subst hr
        show ab_Ex X (d + 6) 246 82 [(3, .int y3)] [] ab_SH (ab_dD r6) _
        refine ab_Ex.blk (k := 1) (pc' := 83) (lv' := [(3, .int y3)]) (st' := [.int y3]) (sh' := ab_SH) (D' := ab_dD r6) (fun n => rfl) ?_
        obtain rfl := Option.some.inj hf
        exact ab_Ex.ret (fun n => rfl) rfl
    · replace hf := (if_neg c4).symm.trans hf
      refine ab_Ex.blk (k := 1) (pc' := 41) (lv' := [(0, .ref 64), (2, .int y2), (3, .int y3), (4, .int y4)]) (st' := [.ref 64]) (sh' := ab_SH) (D' := ab_dD h) (fun n => rfl) ?_
      obtain ⟨r7, hr7, hf⟩ := ab_bind_s hf
      refine ab_Ex.call (d := d + 5) (M2 := 245) (as := [.ref 64]) (rest := []) (fun n => rfl) rfl (Nat.not_lt.mpr (Nat.le_of_ble_eq_true rfl)) (sX12_drawn (d + 4) X  h _ hr7) (fun r hr => ?_)
      subst hr
      show ab_Ex X (d + 6) 246 44 [(0, .ref 64), (2, .int y2), (3, .int y3), (4, .int y4)] [.int r7.1] ab_SH (ab_dD r7.2) _
      refine ab_Ex.blk (k := 4) (pc' := 50) (lv' := [(5, .int r7.1), (0, .ref 64), (2, .int y2), (3, .int y3), (4, .int y4)]) (st' := [.long ((r7.1 : Int32).toInt64), .ref 64]) (sh' := ab_SH) (D' := ab_dD r7.2) (fun n => rfl) ?_
      obtain ⟨r8, hr8, hf⟩ := ab_bind_s hf
      refine ab_Ex.call (d := d + 5) (M2 := 238) (as := [.ref 64, .long ((r7.1 : Int32).toInt64)]) (rest := []) (fun n => rfl) rfl (Nat.not_lt.mpr (Nat.le_of_ble_eq_true rfl)) (sX12_whyNot (d + 3) X ((r7.1 : Int32).toInt64) r7.2 _ hr8) (fun r hr => ?_)
      subst hr
      show ab_Ex X (d + 6) 246 53 [(5, .int r7.1), (0, .ref 64), (2, .int y2), (3, .int y3), (4, .int y4)] [.int r8] ab_SH (ab_dD r7.2) _
      refine ab_Ex.ifc (c := r8 = 0) (SA := (59, [(5, .int r7.1), (0, .ref 64), (2, .int y2), (3, .int y3), (4, .int y4)], [], ab_dD r7.2)) (SB := (56, [(5, .int r7.1), (0, .ref 64), (2, .int y2), (3, .int y3), (4, .int y4)], [], ab_dD r7.2)) (fun n => rfl) (fun c9 => ?_) (fun c9 => ?_)
      · replace hf := (if_pos c9).symm.trans hf
        refine ab_Ex.blk (k := 2) (pc' := 62) (lv' := [(5, .int r7.1), (0, .ref 64), (2, .int y2), (3, .int y3), (4, .int y4)]) (st' := [.int r7.1, .ref 64]) (sh' := ab_SH) (D' := ab_dD r7.2) (fun n => rfl) ?_
        obtain ⟨r10, hr10, hf⟩ := ab_bind_s hf
        refine ab_Ex.call (d := d + 5) (M2 := 239) (as := [.ref 64, .int r7.1]) (rest := []) (fun n => rfl) rfl (Nat.not_lt.mpr (Nat.le_of_ble_eq_true rfl)) (sX12_does (d) X (r7.1) r7.2 _ hr10) (fun r hr => ?_)
        subst hr
        show ab_Ex X (d + 6) 246 65 [(5, .int r7.1), (0, .ref 64), (2, .int y2), (3, .int y3), (4, .int y4)] [] ab_SH (ab_dD r10) _
        refine ab_Ex.blk (k := 1) (pc' := 68) (lv' := [(0, .ref 64), (2, .int y2), (3, .int ((y3 + 1))), (4, .int y4)]) (st' := []) (sh' := ab_SH) (D' := ab_dD r10) (fun n => rfl) ?_
        exact sX12_year_J68 d X (fun y2 y3 y4 h => fX12_year_L34 n y2 y3 y4 h) (fun y2 y3 y4 h z hz => ih y2 y3 y4 h z hz) y2 ((y3 + 1)) y4 r10 _ hf
      · replace hf := (if_neg c9).symm.trans hf
        refine ab_Ex.blk (k := 1) (pc' := 68) (lv' := [(0, .ref 64), (2, .int y2), (3, .int y3), (4, .int y4)]) (st' := []) (sh' := ab_SH) (D' := ab_dD r7.2) (fun n => rfl) ?_
        exact sX12_year_J68 d X (fun y2 y3 y4 h => fX12_year_L34 n y2 y3 y4 h) (fun y2 y3 y4 h z hz => ih y2 y3 y4 h z hz) y2 y3 y4 r7.2 _ hf
set_option maxRecDepth 20000 in
theorem sX12_year (d : Nat) (X : abX) (x0 : Int32) (x1 : Int32) (h : abJ) (z : (Int32 × abJ)) (hf : fX12_year x0 x1 h = some z) : ab_Ex X (d + 6) 246 0 [(0, .ref 64), (1, .int x0), (2, .int x1)] [] ab_SH (ab_dD h) (fun r => r = (some (.int z.1), ab_SH, ab_dD z.2)) := by
  unfold fX12_year at hf
  refine ab_Ex.blk (k := 7) (pc' := 11) (lv' := [(0, .ref 64), (1, .int x0), (2, .int x1)]) (st' := [.long 40, .long 1, .long ((x1 : Int32).toInt64)]) (sh' := ab_SH) (D' := ab_dD (ab_wI h 64 0 0)) (fun n => rfl) ?_
  obtain ⟨r1, hr1, hf⟩ := ab_bind_s hf
  refine ab_Ex.call (d := d + 5) (M2 := 175) (as := [.long ((x1 : Int32).toInt64), .long 1, .long 40]) (rest := []) (fun n => rfl) rfl (Nat.not_lt.mpr (Nat.le_of_ble_eq_true rfl)) (sX12_within (d + 5) X ((x1 : Int32).toInt64) 1 40 (ab_wI h 64 0 0) _ hr1) (fun r hr => ?_)
  subst hr
  show ab_Ex X (d + 6) 246 14 [(0, .ref 64), (1, .int x0), (2, .int x1)] [.int r1] ab_SH (ab_dD (ab_wI h 64 0 0)) _
  refine ab_Ex.ifc (c := r1 = 0) (SA := (17, [(0, .ref 64), (1, .int x0), (2, .int x1)], [], ab_dD (ab_wI h 64 0 0))) (SB := (20, [(0, .ref 64), (1, .int x0), (2, .int x1)], [], ab_dD (ab_wI h 64 0 0))) (fun n => rfl) (fun c2 => ?_) (fun c2 => ?_)
  · replace hf := (if_pos c2).symm.trans hf
    refine ab_Ex.blk (k := 1) (pc' := 19) (lv' := [(0, .ref 64), (1, .int x0), (2, .int x1)]) (st' := [.int ((-3))]) (sh' := ab_SH) (D' := ab_dD (ab_wI h 64 0 0)) (fun n => rfl) ?_
    obtain rfl := Option.some.inj hf
    exact ab_Ex.ret (fun n => rfl) rfl
  · replace hf := (if_neg c2).symm.trans hf
    refine ab_Ex.blk (k := 1) (pc' := 21) (lv' := [(0, .ref 64), (1, .int x0), (2, .int x1)]) (st' := [.ref 64]) (sh' := ab_SH) (D' := ab_dD (ab_wI h 64 0 0)) (fun n => rfl) ?_
    obtain ⟨r3, hr3, hf⟩ := ab_bind_s hf
    refine ab_Ex.call (d := d + 5) (M2 := 228) (as := [.ref 64]) (rest := []) (fun n => rfl) rfl (Nat.not_lt.mpr (Nat.le_of_ble_eq_true rfl)) (sX12_stores (d + 5) X  (ab_wI h 64 0 0) _ hr3) (fun r hr => ?_)
    subst hr
    show ab_Ex X (d + 6) 246 24 [(0, .ref 64), (1, .int x0), (2, .int x1)] [] ab_SH (ab_dD r3) _
    refine ab_Ex.blk (k := 7) (pc' := 34) (lv' := [(0, .ref 64), (2, .int x1), (3, .int 0), (4, .int 0)]) (st' := []) (sh' := ab_SH) (D' := ab_dD (ab_wI r3 64 19 x0)) (fun n => rfl) ?_
    exact sX12_year_L34 d X  ab_N x1 0 0 (ab_wI r3 64 19 x0) _ hf
def fX12_laysLine_L34   : Nat → Int32 → abJ → Option abJ
  | 0, _, _ => none
  | n + 1, y2, h => ab_ask (y2 < 0 ∨ 4374 ≤ (y2 : Int32).toNatClampNeg) (if (h.1 73 (y2 : Int32).toNatClampNeg) = (-1) then ab_ask (y2 < 0 ∨ 4374 ≤ (y2 : Int32).toNatClampNeg) (ab_ask ((((ab_wI h 73 (y2 : Int32).toNatClampNeg (h.1 64 22))).1 64 22) < 0 ∨ 4375 ≤ ((((ab_wI h 73 (y2 : Int32).toNatClampNeg (h.1 64 22))).1 64 22) : Int32).toNatClampNeg) ((fX12_isRest ((y2 - y2 / 6 * 6)) (ab_wI (ab_wI (ab_wI h 73 (y2 : Int32).toNatClampNeg (h.1 64 22)) 72 ((((ab_wI h 73 (y2 : Int32).toNatClampNeg (h.1 64 22))).1 64 22) : Int32).toNatClampNeg y2) 64 22 ((((ab_wI (ab_wI h 73 (y2 : Int32).toNatClampNeg (h.1 64 22)) 72 ((((ab_wI h 73 (y2 : Int32).toNatClampNeg (h.1 64 22))).1 64 22) : Int32).toNatClampNeg y2)).1 64 22) + 1))).bind (fun r7 => if r7 = 0 then (fX12_stepTo y2 (((ab_wI (ab_wI (ab_wI h 73 (y2 : Int32).toNatClampNeg (h.1 64 22)) 72 ((((ab_wI h 73 (y2 : Int32).toNatClampNeg (h.1 64 22))).1 64 22) : Int32).toNatClampNeg y2) 64 22 ((((ab_wI (ab_wI h 73 (y2 : Int32).toNatClampNeg (h.1 64 22)) 72 ((((ab_wI h 73 (y2 : Int32).toNatClampNeg (h.1 64 22))).1 64 22) : Int32).toNatClampNeg y2)).1 64 22) + 1)).1 65 40)) (ab_wI (ab_wI (ab_wI h 73 (y2 : Int32).toNatClampNeg (h.1 64 22)) 72 ((((ab_wI h 73 (y2 : Int32).toNatClampNeg (h.1 64 22))).1 64 22) : Int32).toNatClampNeg y2) 64 22 ((((ab_wI (ab_wI h 73 (y2 : Int32).toNatClampNeg (h.1 64 22)) 72 ((((ab_wI h 73 (y2 : Int32).toNatClampNeg (h.1 64 22))).1 64 22) : Int32).toNatClampNeg y2)).1 64 22) + 1))).bind (fun r9 => fX12_laysLine_L34 n r9.1 r9.2) else some (ab_wI (ab_wI (ab_wI h 73 (y2 : Int32).toNatClampNeg (h.1 64 22)) 72 ((((ab_wI h 73 (y2 : Int32).toNatClampNeg (h.1 64 22))).1 64 22) : Int32).toNatClampNeg y2) 64 22 ((((ab_wI (ab_wI h 73 (y2 : Int32).toNatClampNeg (h.1 64 22)) 72 ((((ab_wI h 73 (y2 : Int32).toNatClampNeg (h.1 64 22))).1 64 22) : Int32).toNatClampNeg y2)).1 64 22) + 1))))) else ab_ask (y2 < 0 ∨ 4374 ≤ (y2 : Int32).toNatClampNeg) (some (ab_wI h 64 23 (h.1 73 (y2 : Int32).toNatClampNeg))))
def fX12_laysLine_L2   : Nat → Int32 → Int32 → abJ → Option abJ
  | 0, _, _, _ => none
  | n + 1, y1, y2, h => if 4374 ≤ y2 then fX12_laysLine_L34 ab_N y1 (ab_wI (ab_wI h 64 22 0) 64 23 (-1)) else ab_ask (y2 < 0 ∨ 4374 ≤ (y2 : Int32).toNatClampNeg) (fX12_laysLine_L2 n y1 ((y2 + 1)) (ab_wI h 73 (y2 : Int32).toNatClampNeg (-1)))
def fX12_laysLine (x0 : Int32) (h : abJ) : Option abJ := fX12_laysLine_L2 ab_N x0 0 h
set_option maxRecDepth 20000 in
theorem sX12_laysLine_L34 (d : Nat) (X : abX)   : ∀ (n : Nat), ∀ (y2 : Int32) (h : abJ) (z : abJ), fX12_laysLine_L34 n y2 h = some z → ab_Ex X (d + 4) 247 34 [(0, .ref 64), (2, .int y2)] [] ab_SH (ab_dD h) (fun r => r = (none, ab_SH, ab_dD z)) := by
  intro n
  induction n with
  | zero => intro y2 h z hf; cases hf
  | succ n ih =>
    intro y2 h z hf
    rw [fX12_laysLine_L34] at hf
    refine ab_Ex.blk (k := 3) (pc' := 39) (lv' := [(0, .ref 64), (2, .int y2)]) (st' := [.int y2, .ref 73]) (sh' := ab_SH) (D' := ab_dD h) (fun n => rfl) ?_
    obtain ⟨c3, hf⟩ := ab_ask_s hf
    refine ab_Ex.grd (c := y2 < 0 ∨ 4374 ≤ (y2 : Int32).toNatClampNeg) (S := (40, [(0, .ref 64), (2, .int y2)], [.int ((h.1 73 (y2 : Int32).toNatClampNeg))], ab_dD h)) (fun n => rfl) c3 ?_
    refine ab_Ex.blk (k := 1) (pc' := 41) (lv' := [(0, .ref 64), (2, .int y2)]) (st' := [.int ((-1)), .int ((h.1 73 (y2 : Int32).toNatClampNeg))]) (sh' := ab_SH) (D' := ab_dD h) (fun n => rfl) ?_
    refine ab_Ex.ifc (c := (h.1 73 (y2 : Int32).toNatClampNeg) = (-1)) (SA := (44, [(0, .ref 64), (2, .int y2)], [], ab_dD h)) (SB := (102, [(0, .ref 64), (2, .int y2)], [], ab_dD h)) (fun n => rfl) (fun c4 => ?_) (fun c4 => ?_)
    · replace hf := (if_pos c4).symm.trans hf
      refine ab_Ex.blk (k := 5) (pc' := 53) (lv' := [(0, .ref 64), (2, .int y2)]) (st' := [.int ((h.1 64 22)), .int y2, .ref 73]) (sh' := ab_SH) (D' := ab_dD h) (fun n => rfl) ?_
      obtain ⟨c5, hf⟩ := ab_ask_s hf
      refine ab_Ex.grd (c := y2 < 0 ∨ 4374 ≤ (y2 : Int32).toNatClampNeg) (S := (54, [(0, .ref 64), (2, .int y2)], [], ab_dD (ab_wI h 73 (y2 : Int32).toNatClampNeg (h.1 64 22)))) (fun n => rfl) c5 ?_
      refine ab_Ex.blk (k := 5) (pc' := 63) (lv' := [(0, .ref 64), (2, .int y2)]) (st' := [.int y2, .int ((((ab_wI h 73 (y2 : Int32).toNatClampNeg (h.1 64 22))).1 64 22)), .ref 72]) (sh' := ab_SH) (D' := ab_dD (ab_wI h 73 (y2 : Int32).toNatClampNeg (h.1 64 22))) (fun n => rfl) ?_
      obtain ⟨c6, hf⟩ := ab_ask_s hf
      refine ab_Ex.grd (c := (((ab_wI h 73 (y2 : Int32).toNatClampNeg (h.1 64 22))).1 64 22) < 0 ∨ 4375 ≤ ((((ab_wI h 73 (y2 : Int32).toNatClampNeg (h.1 64 22))).1 64 22) : Int32).toNatClampNeg) (S := (64, [(0, .ref 64), (2, .int y2)], [], ab_dD (ab_wI (ab_wI h 73 (y2 : Int32).toNatClampNeg (h.1 64 22)) 72 ((((ab_wI h 73 (y2 : Int32).toNatClampNeg (h.1 64 22))).1 64 22) : Int32).toNatClampNeg y2))) (fun n => rfl) c6 ?_
      refine ab_Ex.blk (k := 9) (pc' := 78) (lv' := [(0, .ref 64), (2, .int y2)]) (st' := [.int 6, .int y2, .ref 64]) (sh' := ab_SH) (D' := ab_dD (ab_wI (ab_wI (ab_wI h 73 (y2 : Int32).toNatClampNeg (h.1 64 22)) 72 ((((ab_wI h 73 (y2 : Int32).toNatClampNeg (h.1 64 22))).1 64 22) : Int32).toNatClampNeg y2) 64 22 ((((ab_wI (ab_wI h 73 (y2 : Int32).toNatClampNeg (h.1 64 22)) 72 ((((ab_wI h 73 (y2 : Int32).toNatClampNeg (h.1 64 22))).1 64 22) : Int32).toNatClampNeg y2)).1 64 22) + 1))) (fun n => rfl) ?_
      refine ab_Ex.blk (k := 1) (pc' := 79) (lv' := [(0, .ref 64), (2, .int y2)]) (st' := [.int ((y2 - y2 / 6 * 6)), .ref 64]) (sh' := ab_SH) (D' := ab_dD (ab_wI (ab_wI (ab_wI h 73 (y2 : Int32).toNatClampNeg (h.1 64 22)) 72 ((((ab_wI h 73 (y2 : Int32).toNatClampNeg (h.1 64 22))).1 64 22) : Int32).toNatClampNeg y2) 64 22 ((((ab_wI (ab_wI h 73 (y2 : Int32).toNatClampNeg (h.1 64 22)) 72 ((((ab_wI h 73 (y2 : Int32).toNatClampNeg (h.1 64 22))).1 64 22) : Int32).toNatClampNeg y2)).1 64 22) + 1))) (fun n => rfl) ?_
      obtain ⟨r7, hr7, hf⟩ := ab_bind_s hf
      refine ab_Ex.call (d := d + 3) (M2 := 223) (as := [.ref 64, .int ((y2 - y2 / 6 * 6))]) (rest := []) (fun n => rfl) rfl (Nat.not_lt.mpr (Nat.le_of_ble_eq_true rfl)) (sX12_isRest (d + 2) X ((y2 - y2 / 6 * 6)) (ab_wI (ab_wI (ab_wI h 73 (y2 : Int32).toNatClampNeg (h.1 64 22)) 72 ((((ab_wI h 73 (y2 : Int32).toNatClampNeg (h.1 64 22))).1 64 22) : Int32).toNatClampNeg y2) 64 22 ((((ab_wI (ab_wI h 73 (y2 : Int32).toNatClampNeg (h.1 64 22)) 72 ((((ab_wI h 73 (y2 : Int32).toNatClampNeg (h.1 64 22))).1 64 22) : Int32).toNatClampNeg y2)).1 64 22) + 1)) _ hr7) (fun r hr => ?_)
      subst hr
      show ab_Ex X (d + 4) 247 82 [(0, .ref 64), (2, .int y2)] [.int r7] ab_SH (ab_dD (ab_wI (ab_wI (ab_wI h 73 (y2 : Int32).toNatClampNeg (h.1 64 22)) 72 ((((ab_wI h 73 (y2 : Int32).toNatClampNeg (h.1 64 22))).1 64 22) : Int32).toNatClampNeg y2) 64 22 ((((ab_wI (ab_wI h 73 (y2 : Int32).toNatClampNeg (h.1 64 22)) 72 ((((ab_wI h 73 (y2 : Int32).toNatClampNeg (h.1 64 22))).1 64 22) : Int32).toNatClampNeg y2)).1 64 22) + 1))) _
      refine ab_Ex.ifc (c := r7 = 0) (SA := (86, [(0, .ref 64), (2, .int y2)], [], ab_dD (ab_wI (ab_wI (ab_wI h 73 (y2 : Int32).toNatClampNeg (h.1 64 22)) 72 ((((ab_wI h 73 (y2 : Int32).toNatClampNeg (h.1 64 22))).1 64 22) : Int32).toNatClampNeg y2) 64 22 ((((ab_wI (ab_wI h 73 (y2 : Int32).toNatClampNeg (h.1 64 22)) 72 ((((ab_wI h 73 (y2 : Int32).toNatClampNeg (h.1 64 22))).1 64 22) : Int32).toNatClampNeg y2)).1 64 22) + 1)))) (SB := (85, [(0, .ref 64), (2, .int y2)], [], ab_dD (ab_wI (ab_wI (ab_wI h 73 (y2 : Int32).toNatClampNeg (h.1 64 22)) 72 ((((ab_wI h 73 (y2 : Int32).toNatClampNeg (h.1 64 22))).1 64 22) : Int32).toNatClampNeg y2) 64 22 ((((ab_wI (ab_wI h 73 (y2 : Int32).toNatClampNeg (h.1 64 22)) 72 ((((ab_wI h 73 (y2 : Int32).toNatClampNeg (h.1 64 22))).1 64 22) : Int32).toNatClampNeg y2)).1 64 22) + 1)))) (fun n => rfl) (fun c8 => ?_) (fun c8 => ?_)
      · replace hf := (if_pos c8).symm.trans hf
        refine ab_Ex.blk (k := 5) (pc' := 94) (lv' := [(0, .ref 64), (2, .int y2)]) (st' := [.int 40, .ref 65, .int y2, .ref 64]) (sh' := ab_SH) (D' := ab_dD (ab_wI (ab_wI (ab_wI h 73 (y2 : Int32).toNatClampNeg (h.1 64 22)) 72 ((((ab_wI h 73 (y2 : Int32).toNatClampNeg (h.1 64 22))).1 64 22) : Int32).toNatClampNeg y2) 64 22 ((((ab_wI (ab_wI h 73 (y2 : Int32).toNatClampNeg (h.1 64 22)) 72 ((((ab_wI h 73 (y2 : Int32).toNatClampNeg (h.1 64 22))).1 64 22) : Int32).toNatClampNeg y2)).1 64 22) + 1))) (fun n => rfl) ?_
        refine ab_Ex.blk (k := 1) (pc' := 95) (lv' := [(0, .ref 64), (2, .int y2)]) (st' := [.int (((ab_wI (ab_wI (ab_wI h 73 (y2 : Int32).toNatClampNeg (h.1 64 22)) 72 ((((ab_wI h 73 (y2 : Int32).toNatClampNeg (h.1 64 22))).1 64 22) : Int32).toNatClampNeg y2) 64 22 ((((ab_wI (ab_wI h 73 (y2 : Int32).toNatClampNeg (h.1 64 22)) 72 ((((ab_wI h 73 (y2 : Int32).toNatClampNeg (h.1 64 22))).1 64 22) : Int32).toNatClampNeg y2)).1 64 22) + 1)).1 65 40)), .int y2, .ref 64]) (sh' := ab_SH) (D' := ab_dD (ab_wI (ab_wI (ab_wI h 73 (y2 : Int32).toNatClampNeg (h.1 64 22)) 72 ((((ab_wI h 73 (y2 : Int32).toNatClampNeg (h.1 64 22))).1 64 22) : Int32).toNatClampNeg y2) 64 22 ((((ab_wI (ab_wI h 73 (y2 : Int32).toNatClampNeg (h.1 64 22)) 72 ((((ab_wI h 73 (y2 : Int32).toNatClampNeg (h.1 64 22))).1 64 22) : Int32).toNatClampNeg y2)).1 64 22) + 1))) (fun n => rfl) ?_
        obtain ⟨r9, hr9, hf⟩ := ab_bind_s hf
        refine ab_Ex.call (d := d + 3) (M2 := 224) (as := [.ref 64, .int y2, .int (((ab_wI (ab_wI (ab_wI h 73 (y2 : Int32).toNatClampNeg (h.1 64 22)) 72 ((((ab_wI h 73 (y2 : Int32).toNatClampNeg (h.1 64 22))).1 64 22) : Int32).toNatClampNeg y2) 64 22 ((((ab_wI (ab_wI h 73 (y2 : Int32).toNatClampNeg (h.1 64 22)) 72 ((((ab_wI h 73 (y2 : Int32).toNatClampNeg (h.1 64 22))).1 64 22) : Int32).toNatClampNeg y2)).1 64 22) + 1)).1 65 40))]) (rest := []) (fun n => rfl) rfl (Nat.not_lt.mpr (Nat.le_of_ble_eq_true rfl)) (sX12_stepTo (d) X y2 (((ab_wI (ab_wI (ab_wI h 73 (y2 : Int32).toNatClampNeg (h.1 64 22)) 72 ((((ab_wI h 73 (y2 : Int32).toNatClampNeg (h.1 64 22))).1 64 22) : Int32).toNatClampNeg y2) 64 22 ((((ab_wI (ab_wI h 73 (y2 : Int32).toNatClampNeg (h.1 64 22)) 72 ((((ab_wI h 73 (y2 : Int32).toNatClampNeg (h.1 64 22))).1 64 22) : Int32).toNatClampNeg y2)).1 64 22) + 1)).1 65 40)) (ab_wI (ab_wI (ab_wI h 73 (y2 : Int32).toNatClampNeg (h.1 64 22)) 72 ((((ab_wI h 73 (y2 : Int32).toNatClampNeg (h.1 64 22))).1 64 22) : Int32).toNatClampNeg y2) 64 22 ((((ab_wI (ab_wI h 73 (y2 : Int32).toNatClampNeg (h.1 64 22)) 72 ((((ab_wI h 73 (y2 : Int32).toNatClampNeg (h.1 64 22))).1 64 22) : Int32).toNatClampNeg y2)).1 64 22) + 1)) _ hr9) (fun r hr => ?_)
        subst hr
        show ab_Ex X (d + 4) 247 98 [(0, .ref 64), (2, .int y2)] [.int r9.1] ab_SH (ab_dD r9.2) _
        refine ab_Ex.blk (k := 2) (pc' := 34) (lv' := [(0, .ref 64), (2, .int r9.1)]) (st' := []) (sh' := ab_SH) (D' := ab_dD r9.2) (fun n => rfl) ?_
        exact ih r9.1 r9.2 _ hf
      · replace hf := (if_neg c8).symm.trans hf
        obtain rfl := Option.some.inj hf
        exact ab_Ex.ret (fun n => rfl) rfl
    · replace hf := (if_neg c4).symm.trans hf
      refine ab_Ex.blk (k := 4) (pc' := 108) (lv' := [(0, .ref 64), (2, .int y2)]) (st' := [.int y2, .ref 73, .ref 64]) (sh' := ab_SH) (D' := ab_dD h) (fun n => rfl) ?_
      obtain ⟨c11, hf⟩ := ab_ask_s hf
      refine ab_Ex.grd (c := y2 < 0 ∨ 4374 ≤ (y2 : Int32).toNatClampNeg) (S := (109, [(0, .ref 64), (2, .int y2)], [.int ((h.1 73 (y2 : Int32).toNatClampNeg)), .ref 64], ab_dD h)) (fun n => rfl) c11 ?_
      refine ab_Ex.blk (k := 1) (pc' := 112) (lv' := [(0, .ref 64), (2, .int y2)]) (st' := []) (sh' := ab_SH) (D' := ab_dD (ab_wI h 64 23 (h.1 73 (y2 : Int32).toNatClampNeg))) (fun n => rfl) ?_
      obtain rfl := Option.some.inj hf
      exact ab_Ex.ret (fun n => rfl) rfl
set_option maxRecDepth 20000 in
theorem sX12_laysLine_L2 (d : Nat) (X : abX)   : ∀ (n : Nat), ∀ (y1 : Int32) (y2 : Int32) (h : abJ) (z : abJ), fX12_laysLine_L2 n y1 y2 h = some z → ab_Ex X (d + 4) 247 2 [(0, .ref 64), (1, .int y1), (2, .int y2)] [] ab_SH (ab_dD h) (fun r => r = (none, ab_SH, ab_dD z)) := by
  intro n
  induction n with
  | zero => intro y1 y2 h z hf; cases hf
  | succ n ih =>
    intro y1 y2 h z hf
    rw [fX12_laysLine_L2] at hf
    refine ab_Ex.blk (k := 2) (pc' := 6) (lv' := [(0, .ref 64), (1, .int y1), (2, .int y2)]) (st' := [.int 4374, .int y2]) (sh' := ab_SH) (D' := ab_dD h) (fun n => rfl) ?_
    refine ab_Ex.ifc (c := 4374 ≤ y2) (SA := (22, [(0, .ref 64), (1, .int y1), (2, .int y2)], [], ab_dD h)) (SB := (9, [(0, .ref 64), (1, .int y1), (2, .int y2)], [], ab_dD h)) (fun n => rfl) (fun c1 => ?_) (fun c1 => ?_)
    · replace hf := (if_pos c1).symm.trans hf
      refine ab_Ex.blk (k := 8) (pc' := 34) (lv' := [(0, .ref 64), (2, .int y1)]) (st' := []) (sh' := ab_SH) (D' := ab_dD (ab_wI (ab_wI h 64 22 0) 64 23 (-1))) (fun n => rfl) ?_
      exact sX12_laysLine_L34 d X  ab_N y1 (ab_wI (ab_wI h 64 22 0) 64 23 (-1)) _ hf
    · replace hf := (if_neg c1).symm.trans hf
      refine ab_Ex.blk (k := 4) (pc' := 15) (lv' := [(0, .ref 64), (1, .int y1), (2, .int y2)]) (st' := [.int ((-1)), .int y2, .ref 73]) (sh' := ab_SH) (D' := ab_dD h) (fun n => rfl) ?_
      obtain ⟨c12, hf⟩ := ab_ask_s hf
      refine ab_Ex.grd (c := y2 < 0 ∨ 4374 ≤ (y2 : Int32).toNatClampNeg) (S := (16, [(0, .ref 64), (1, .int y1), (2, .int y2)], [], ab_dD (ab_wI h 73 (y2 : Int32).toNatClampNeg (-1)))) (fun n => rfl) c12 ?_
      refine ab_Ex.blk (k := 2) (pc' := 2) (lv' := [(0, .ref 64), (1, .int y1), (2, .int ((y2 + 1)))]) (st' := []) (sh' := ab_SH) (D' := ab_dD (ab_wI h 73 (y2 : Int32).toNatClampNeg (-1))) (fun n => rfl) ?_
      exact ih y1 ((y2 + 1)) (ab_wI h 73 (y2 : Int32).toNatClampNeg (-1)) _ hf
set_option maxRecDepth 20000 in
theorem sX12_laysLine (d : Nat) (X : abX) (x0 : Int32) (h : abJ) (z : abJ) (hf : fX12_laysLine x0 h = some z) : ab_Ex X (d + 4) 247 0 [(0, .ref 64), (1, .int x0)] [] ab_SH (ab_dD h) (fun r => r = (none, ab_SH, ab_dD z)) := by
  unfold fX12_laysLine at hf
  refine ab_Ex.blk (k := 2) (pc' := 2) (lv' := [(0, .ref 64), (1, .int x0), (2, .int 0)]) (st' := []) (sh' := ab_SH) (D' := ab_dD h) (fun n => rfl) ?_
  exact sX12_laysLine_L2 d X  ab_N x0 0 h _ hf
def fX12_lineAt (x0 : Int64) (h : abJ) : Option Int32 := if 0 ≤ (lg_cmp x0 ((h.1 64 22) : Int32).toInt64) then if (h.1 64 23) = (-1) then ab_ask (((h.1 64 22) - 1) < 0 ∨ 4375 ≤ (((h.1 64 22) - 1) : Int32).toNatClampNeg) (some (h.1 72 (((h.1 64 22) - 1) : Int32).toNatClampNeg)) else ab_ask ((((h.1 64 22) - (h.1 64 23)) : Int32).toInt64 = 0) (ab_ask (((h.1 64 23) + (((x0 - ((h.1 64 23) : Int32).toInt64) - (x0 - ((h.1 64 23) : Int32).toInt64) / (((h.1 64 22) - (h.1 64 23)) : Int32).toInt64 * (((h.1 64 22) - (h.1 64 23)) : Int32).toInt64) : Int64).toInt32) < 0 ∨ 4375 ≤ (((h.1 64 23) + (((x0 - ((h.1 64 23) : Int32).toInt64) - (x0 - ((h.1 64 23) : Int32).toInt64) / (((h.1 64 22) - (h.1 64 23)) : Int32).toInt64 * (((h.1 64 22) - (h.1 64 23)) : Int32).toInt64) : Int64).toInt32) : Int32).toNatClampNeg) (some (h.1 72 (((h.1 64 23) + (((x0 - ((h.1 64 23) : Int32).toInt64) - (x0 - ((h.1 64 23) : Int32).toInt64) / (((h.1 64 22) - (h.1 64 23)) : Int32).toInt64 * (((h.1 64 22) - (h.1 64 23)) : Int32).toInt64) : Int64).toInt32) : Int32).toNatClampNeg))) else ab_ask ((x0 : Int64).toInt32 < 0 ∨ 4375 ≤ ((x0 : Int64).toInt32 : Int32).toNatClampNeg) (some (h.1 72 ((x0 : Int64).toInt32 : Int32).toNatClampNeg))
set_option maxRecDepth 20000 in
theorem sX12_lineAt (d : Nat) (X : abX) (x0 : Int64) (h : abJ) (z : Int32) (hf : fX12_lineAt x0 h = some z) : ab_Ex X (d + 0) 248 0 [(0, .ref 64), (1, .long x0)] [] ab_SH (ab_dD h) (fun r => r = (some (.int z), ab_SH, ab_dD h)) := by
  unfold fX12_lineAt at hf
  refine ab_Ex.blk (k := 5) (pc' := 7) (lv' := [(0, .ref 64), (1, .long x0)]) (st' := [.int ((lg_cmp x0 ((h.1 64 22) : Int32).toInt64))]) (sh' := ab_SH) (D' := ab_dD h) (fun n => rfl) ?_
  refine ab_Ex.ifc (c := 0 ≤ (lg_cmp x0 ((h.1 64 22) : Int32).toInt64)) (SA := (18, [(0, .ref 64), (1, .long x0)], [], ab_dD h)) (SB := (10, [(0, .ref 64), (1, .long x0)], [], ab_dD h)) (fun n => rfl) (fun c1 => ?_) (fun c1 => ?_)
  · replace hf := (if_pos c1).symm.trans hf
    refine ab_Ex.blk (k := 5) (pc' := 27) (lv' := [(0, .ref 64), (1, .long x0)]) (st' := [.int ((-1)), .int ((h.1 64 23)), .ref 72]) (sh' := ab_SH) (D' := ab_dD h) (fun n => rfl) ?_
    refine ab_Ex.ifc (c := (h.1 64 23) = (-1)) (SA := (30, [(0, .ref 64), (1, .long x0)], [.ref 72], ab_dD h)) (SB := (39, [(0, .ref 64), (1, .long x0)], [.ref 72], ab_dD h)) (fun n => rfl) (fun c2 => ?_) (fun c2 => ?_)
    · replace hf := (if_pos c2).symm.trans hf
      refine ab_Ex.blk (k := 5) (pc' := 63) (lv' := []) (st' := [.int (((h.1 64 22) - 1)), .ref 72]) (sh' := ab_SH) (D' := ab_dD h) (fun n => rfl) ?_
      obtain ⟨c4, hf⟩ := ab_ask_s hf
      refine ab_Ex.grd (c := ((h.1 64 22) - 1) < 0 ∨ 4375 ≤ (((h.1 64 22) - 1) : Int32).toNatClampNeg) (S := (64, [], [.int ((h.1 72 (((h.1 64 22) - 1) : Int32).toNatClampNeg))], ab_dD h)) (fun n => rfl) c4 ?_
      obtain rfl := Option.some.inj hf
      exact ab_Ex.ret (fun n => rfl) rfl
    · replace hf := (if_neg c2).symm.trans hf
      refine ab_Ex.blk (k := 13) (pc' := 60) (lv' := [(0, .ref 64), (1, .long x0)]) (st' := [.long ((((h.1 64 22) - (h.1 64 23)) : Int32).toInt64), .long ((x0 - ((h.1 64 23) : Int32).toInt64)), .int ((h.1 64 23)), .ref 72]) (sh' := ab_SH) (D' := ab_dD h) (fun n => rfl) ?_
      obtain ⟨c5, hf⟩ := ab_ask_s hf
      refine ab_Ex.grd (c := (((h.1 64 22) - (h.1 64 23)) : Int32).toInt64 = 0) (S := (61, [(0, .ref 64), (1, .long x0)], [.long (((x0 - ((h.1 64 23) : Int32).toInt64) - (x0 - ((h.1 64 23) : Int32).toInt64) / (((h.1 64 22) - (h.1 64 23)) : Int32).toInt64 * (((h.1 64 22) - (h.1 64 23)) : Int32).toInt64)), .int ((h.1 64 23)), .ref 72], ab_dD h)) (fun n => rfl) c5 ?_
      refine ab_Ex.blk (k := 2) (pc' := 63) (lv' := []) (st' := [.int (((h.1 64 23) + (((x0 - ((h.1 64 23) : Int32).toInt64) - (x0 - ((h.1 64 23) : Int32).toInt64) / (((h.1 64 22) - (h.1 64 23)) : Int32).toInt64 * (((h.1 64 22) - (h.1 64 23)) : Int32).toInt64) : Int64).toInt32)), .ref 72]) (sh' := ab_SH) (D' := ab_dD h) (fun n => rfl) ?_
      obtain ⟨c7, hf⟩ := ab_ask_s hf
      refine ab_Ex.grd (c := ((h.1 64 23) + (((x0 - ((h.1 64 23) : Int32).toInt64) - (x0 - ((h.1 64 23) : Int32).toInt64) / (((h.1 64 22) - (h.1 64 23)) : Int32).toInt64 * (((h.1 64 22) - (h.1 64 23)) : Int32).toInt64) : Int64).toInt32) < 0 ∨ 4375 ≤ (((h.1 64 23) + (((x0 - ((h.1 64 23) : Int32).toInt64) - (x0 - ((h.1 64 23) : Int32).toInt64) / (((h.1 64 22) - (h.1 64 23)) : Int32).toInt64 * (((h.1 64 22) - (h.1 64 23)) : Int32).toInt64) : Int64).toInt32) : Int32).toNatClampNeg) (S := (64, [], [.int ((h.1 72 (((h.1 64 23) + (((x0 - ((h.1 64 23) : Int32).toInt64) - (x0 - ((h.1 64 23) : Int32).toInt64) / (((h.1 64 22) - (h.1 64 23)) : Int32).toInt64 * (((h.1 64 22) - (h.1 64 23)) : Int32).toInt64) : Int64).toInt32) : Int32).toNatClampNeg))], ab_dD h)) (fun n => rfl) c7 ?_
      obtain rfl := Option.some.inj hf
      exact ab_Ex.ret (fun n => rfl) rfl
  · replace hf := (if_neg c1).symm.trans hf
    refine ab_Ex.blk (k := 4) (pc' := 16) (lv' := [(0, .ref 64), (1, .long x0)]) (st' := [.int ((x0 : Int64).toInt32), .ref 72]) (sh' := ab_SH) (D' := ab_dD h) (fun n => rfl) ?_
    obtain ⟨c9, hf⟩ := ab_ask_s hf
    refine ab_Ex.grd (c := (x0 : Int64).toInt32 < 0 ∨ 4375 ≤ ((x0 : Int64).toInt32 : Int32).toNatClampNeg) (S := (17, [(0, .ref 64), (1, .long x0)], [.int ((h.1 72 ((x0 : Int64).toInt32 : Int32).toNatClampNeg))], ab_dD h)) (fun n => rfl) c9 ?_
    obtain rfl := Option.some.inj hf
    exact ab_Ex.ret (fun n => rfl) rfl
def fX12_at (x0 : Int64) (h : abJ) : Option (Int32 × abJ) := (fX12_within x0 0 1000000000000000 (ab_wI h 64 0 0)).bind (fun r1 => if r1 = 0 then some ((-3), (ab_wI h 64 0 0)) else (fX12_standNow (ab_wI h 64 0 0)).bind (fun r3 => (fX12_laysLine r3 (ab_wI h 64 0 0)).bind (fun r4 => (fX12_lineAt x0 r4).bind (fun r5 => some ((r5 - r5 / 6 * 6), r4)))))
set_option maxRecDepth 20000 in
theorem sX12_at (d : Nat) (X : abX) (x0 : Int64) (h : abJ) (z : (Int32 × abJ)) (hf : fX12_at x0 h = some z) : ab_Ex X (d + 5) 249 0 [(0, .ref 64), (1, .long x0)] [] ab_SH (ab_dD h) (fun r => r = (some (.int z.1), ab_SH, ab_dD z.2)) := by
  unfold fX12_at at hf
  refine ab_Ex.blk (k := 6) (pc' := 10) (lv' := [(0, .ref 64), (1, .long x0)]) (st' := [.long 1000000000000000, .long 0, .long x0]) (sh' := ab_SH) (D' := ab_dD (ab_wI h 64 0 0)) (fun n => rfl) ?_
  obtain ⟨r1, hr1, hf⟩ := ab_bind_s hf
  refine ab_Ex.call (d := d + 4) (M2 := 175) (as := [.long x0, .long 0, .long 1000000000000000]) (rest := []) (fun n => rfl) rfl (Nat.not_lt.mpr (Nat.le_of_ble_eq_true rfl)) (sX12_within (d + 4) X x0 0 1000000000000000 (ab_wI h 64 0 0) _ hr1) (fun r hr => ?_)
  subst hr
  show ab_Ex X (d + 5) 249 13 [(0, .ref 64), (1, .long x0)] [.int r1] ab_SH (ab_dD (ab_wI h 64 0 0)) _
  refine ab_Ex.ifc (c := r1 = 0) (SA := (16, [(0, .ref 64), (1, .long x0)], [], ab_dD (ab_wI h 64 0 0))) (SB := (19, [(0, .ref 64), (1, .long x0)], [], ab_dD (ab_wI h 64 0 0))) (fun n => rfl) (fun c2 => ?_) (fun c2 => ?_)
  · replace hf := (if_pos c2).symm.trans hf
    refine ab_Ex.blk (k := 1) (pc' := 18) (lv' := [(0, .ref 64), (1, .long x0)]) (st' := [.int ((-3))]) (sh' := ab_SH) (D' := ab_dD (ab_wI h 64 0 0)) (fun n => rfl) ?_
    obtain rfl := Option.some.inj hf
    exact ab_Ex.ret (fun n => rfl) rfl
  · replace hf := (if_neg c2).symm.trans hf
    refine ab_Ex.blk (k := 2) (pc' := 21) (lv' := [(0, .ref 64), (1, .long x0)]) (st' := [.ref 64, .ref 64]) (sh' := ab_SH) (D' := ab_dD (ab_wI h 64 0 0)) (fun n => rfl) ?_
    obtain ⟨r3, hr3, hf⟩ := ab_bind_s hf
    refine ab_Ex.call (d := d + 4) (M2 := 216) (as := [.ref 64]) (rest := [.ref 64]) (fun n => rfl) rfl (Nat.not_lt.mpr (Nat.le_of_ble_eq_true rfl)) (sX12_standNow (d + 2) X  (ab_wI h 64 0 0) _ hr3) (fun r hr => ?_)
    subst hr
    show ab_Ex X (d + 5) 249 24 [(0, .ref 64), (1, .long x0)] [.int r3, .ref 64] ab_SH (ab_dD (ab_wI h 64 0 0)) _
    obtain ⟨r4, hr4, hf⟩ := ab_bind_s hf
    refine ab_Ex.call (d := d + 4) (M2 := 247) (as := [.ref 64, .int r3]) (rest := []) (fun n => rfl) rfl (Nat.not_lt.mpr (Nat.le_of_ble_eq_true rfl)) (sX12_laysLine (d) X r3 (ab_wI h 64 0 0) _ hr4) (fun r hr => ?_)
    subst hr
    show ab_Ex X (d + 5) 249 27 [(0, .ref 64), (1, .long x0)] [] ab_SH (ab_dD r4) _
    refine ab_Ex.blk (k := 2) (pc' := 29) (lv' := [(0, .ref 64), (1, .long x0)]) (st' := [.long x0, .ref 64]) (sh' := ab_SH) (D' := ab_dD r4) (fun n => rfl) ?_
    obtain ⟨r5, hr5, hf⟩ := ab_bind_s hf
    refine ab_Ex.call (d := d + 4) (M2 := 248) (as := [.ref 64, .long x0]) (rest := []) (fun n => rfl) rfl (Nat.not_lt.mpr (Nat.le_of_ble_eq_true rfl)) (sX12_lineAt (d + 4) X x0 r4 _ hr5) (fun r hr => ?_)
    subst hr
    show ab_Ex X (d + 5) 249 32 [(0, .ref 64), (1, .long x0)] [.int r5] ab_SH (ab_dD r4) _
    refine ab_Ex.blk (k := 1) (pc' := 34) (lv' := [(0, .ref 64), (1, .long x0)]) (st' := [.int 6, .int r5]) (sh' := ab_SH) (D' := ab_dD r4) (fun n => rfl) ?_
    refine ab_Ex.blk (k := 1) (pc' := 35) (lv' := [(0, .ref 64), (1, .long x0)]) (st' := [.int ((r5 - r5 / 6 * 6))]) (sh' := ab_SH) (D' := ab_dD r4) (fun n => rfl) ?_
    obtain rfl := Option.some.inj hf
    exact ab_Ex.ret (fun n => rfl) rfl
def fX12_arms (x0 : Int64) (h : abJ) : Option (Int32 × abJ) := (fX12_within x0 0 1000000000000000 (ab_wI h 64 0 0)).bind (fun r1 => if r1 = 0 then some ((-3), (ab_wI h 64 0 0)) else (fX12_standNow (ab_wI h 64 0 0)).bind (fun r3 => (fX12_laysLine r3 (ab_wI h 64 0 0)).bind (fun r4 => (fX12_lineAt x0 r4).bind (fun r5 => some ((r5 / 6), r4)))))
set_option maxRecDepth 20000 in
theorem sX12_arms (d : Nat) (X : abX) (x0 : Int64) (h : abJ) (z : (Int32 × abJ)) (hf : fX12_arms x0 h = some z) : ab_Ex X (d + 5) 250 0 [(0, .ref 64), (1, .long x0)] [] ab_SH (ab_dD h) (fun r => r = (some (.int z.1), ab_SH, ab_dD z.2)) := by
  unfold fX12_arms at hf
  refine ab_Ex.blk (k := 6) (pc' := 10) (lv' := [(0, .ref 64), (1, .long x0)]) (st' := [.long 1000000000000000, .long 0, .long x0]) (sh' := ab_SH) (D' := ab_dD (ab_wI h 64 0 0)) (fun n => rfl) ?_
  obtain ⟨r1, hr1, hf⟩ := ab_bind_s hf
  refine ab_Ex.call (d := d + 4) (M2 := 175) (as := [.long x0, .long 0, .long 1000000000000000]) (rest := []) (fun n => rfl) rfl (Nat.not_lt.mpr (Nat.le_of_ble_eq_true rfl)) (sX12_within (d + 4) X x0 0 1000000000000000 (ab_wI h 64 0 0) _ hr1) (fun r hr => ?_)
  subst hr
  show ab_Ex X (d + 5) 250 13 [(0, .ref 64), (1, .long x0)] [.int r1] ab_SH (ab_dD (ab_wI h 64 0 0)) _
  refine ab_Ex.ifc (c := r1 = 0) (SA := (16, [(0, .ref 64), (1, .long x0)], [], ab_dD (ab_wI h 64 0 0))) (SB := (19, [(0, .ref 64), (1, .long x0)], [], ab_dD (ab_wI h 64 0 0))) (fun n => rfl) (fun c2 => ?_) (fun c2 => ?_)
  · replace hf := (if_pos c2).symm.trans hf
    refine ab_Ex.blk (k := 1) (pc' := 18) (lv' := [(0, .ref 64), (1, .long x0)]) (st' := [.int ((-3))]) (sh' := ab_SH) (D' := ab_dD (ab_wI h 64 0 0)) (fun n => rfl) ?_
    obtain rfl := Option.some.inj hf
    exact ab_Ex.ret (fun n => rfl) rfl
  · replace hf := (if_neg c2).symm.trans hf
    refine ab_Ex.blk (k := 2) (pc' := 21) (lv' := [(0, .ref 64), (1, .long x0)]) (st' := [.ref 64, .ref 64]) (sh' := ab_SH) (D' := ab_dD (ab_wI h 64 0 0)) (fun n => rfl) ?_
    obtain ⟨r3, hr3, hf⟩ := ab_bind_s hf
    refine ab_Ex.call (d := d + 4) (M2 := 216) (as := [.ref 64]) (rest := [.ref 64]) (fun n => rfl) rfl (Nat.not_lt.mpr (Nat.le_of_ble_eq_true rfl)) (sX12_standNow (d + 2) X  (ab_wI h 64 0 0) _ hr3) (fun r hr => ?_)
    subst hr
    show ab_Ex X (d + 5) 250 24 [(0, .ref 64), (1, .long x0)] [.int r3, .ref 64] ab_SH (ab_dD (ab_wI h 64 0 0)) _
    obtain ⟨r4, hr4, hf⟩ := ab_bind_s hf
    refine ab_Ex.call (d := d + 4) (M2 := 247) (as := [.ref 64, .int r3]) (rest := []) (fun n => rfl) rfl (Nat.not_lt.mpr (Nat.le_of_ble_eq_true rfl)) (sX12_laysLine (d) X r3 (ab_wI h 64 0 0) _ hr4) (fun r hr => ?_)
    subst hr
    show ab_Ex X (d + 5) 250 27 [(0, .ref 64), (1, .long x0)] [] ab_SH (ab_dD r4) _
    refine ab_Ex.blk (k := 2) (pc' := 29) (lv' := [(0, .ref 64), (1, .long x0)]) (st' := [.long x0, .ref 64]) (sh' := ab_SH) (D' := ab_dD r4) (fun n => rfl) ?_
    obtain ⟨r5, hr5, hf⟩ := ab_bind_s hf
    refine ab_Ex.call (d := d + 4) (M2 := 248) (as := [.ref 64, .long x0]) (rest := []) (fun n => rfl) rfl (Nat.not_lt.mpr (Nat.le_of_ble_eq_true rfl)) (sX12_lineAt (d + 4) X x0 r4 _ hr5) (fun r hr => ?_)
    subst hr
    show ab_Ex X (d + 5) 250 32 [(0, .ref 64), (1, .long x0)] [.int r5] ab_SH (ab_dD r4) _
    refine ab_Ex.blk (k := 1) (pc' := 34) (lv' := [(0, .ref 64), (1, .long x0)]) (st' := [.int 6, .int r5]) (sh' := ab_SH) (D' := ab_dD r4) (fun n => rfl) ?_
    refine ab_Ex.blk (k := 1) (pc' := 35) (lv' := [(0, .ref 64), (1, .long x0)]) (st' := [.int ((r5 / 6))]) (sh' := ab_SH) (D' := ab_dD r4) (fun n => rfl) ?_
    obtain rfl := Option.some.inj hf
    exact ab_Ex.ret (fun n => rfl) rfl
def fX12_oftenAt_J33  (h : abJ) (k6 : Int32 → Int32 → Int32 → Int32 → Option Int32) (y1 : Int32) (y3 : Int32) (y5 : Int32) (t0 : Int32) (t1 : Int32) : Option Int32 := k6 y1 y3 ((t0 + t1)) ((y5 + 1))
def fX12_oftenAt_L6  (h : abJ)  : Nat → Int32 → Int32 → Int32 → Int32 → Option Int32
  | 0, _, _, _, _ => none
  | n + 1, y1, y3, y4, y5 => if y3 ≤ y5 then some y4 else ab_ask (y5 < 0 ∨ 4375 ≤ (y5 : Int32).toNatClampNeg) (if ((h.1 72 (y5 : Int32).toNatClampNeg) - (h.1 72 (y5 : Int32).toNatClampNeg) / 6 * 6) = y1 then fX12_oftenAt_J33 h (fun y1 y3 y4 y5 => fX12_oftenAt_L6 h n y1 y3 y4 y5) y1 y3 y5 y4 1 else fX12_oftenAt_J33 h (fun y1 y3 y4 y5 => fX12_oftenAt_L6 h n y1 y3 y4 y5) y1 y3 y5 y4 0)
def fX12_oftenAt (x0 : Int32) (x1 : Int32) (x2 : Int32) (h : abJ) : Option Int32 := fX12_oftenAt_L6 h ab_N x0 x2 0 x1
set_option maxRecDepth 20000 in
theorem sX12_oftenAt_J33 (d : Nat) (X : abX) (h : abJ) (k6 : Int32 → Int32 → Int32 → Int32 → Option Int32) (hk6 : ∀ (y1 : Int32) (y3 : Int32) (y4 : Int32) (y5 : Int32) (z : Int32), k6 y1 y3 y4 y5 = some z → ab_Ex X (d + 0) 251 6 [(0, .ref 64), (1, .int y1), (3, .int y3), (4, .int y4), (5, .int y5)] [] ab_SH (ab_dD h) (fun r => r = (some (.int z), ab_SH, ab_dD h))) : ∀ (y1 : Int32) (y3 : Int32) (y5 : Int32) (t0 : Int32) (t1 : Int32) (z : Int32), fX12_oftenAt_J33 h k6 y1 y3 y5 t0 t1 = some z → ab_Ex X (d + 0) 251 33 [(0, .ref 64), (1, .int y1), (3, .int y3), (5, .int y5)] [.int t1, .int t0] ab_SH (ab_dD h) (fun r => r = (some (.int z), ab_SH, ab_dD h)) := by
  intro y1 y3 y5 t0 t1 z hf
  unfold fX12_oftenAt_J33 at hf
  refine ab_Ex.blk (k := 4) (pc' := 6) (lv' := [(0, .ref 64), (1, .int y1), (3, .int y3), (4, .int ((t0 + t1))), (5, .int ((y5 + 1)))]) (st' := []) (sh' := ab_SH) (D' := ab_dD h) (fun n => rfl) ?_
  exact hk6 y1 y3 ((t0 + t1)) ((y5 + 1)) _ hf
set_option maxRecDepth 20000 in
theorem sX12_oftenAt_L6 (d : Nat) (X : abX) (h : abJ)   : ∀ (n : Nat), ∀ (y1 : Int32) (y3 : Int32) (y4 : Int32) (y5 : Int32) (z : Int32), fX12_oftenAt_L6 h n y1 y3 y4 y5 = some z → ab_Ex X (d + 0) 251 6 [(0, .ref 64), (1, .int y1), (3, .int y3), (4, .int y4), (5, .int y5)] [] ab_SH (ab_dD h) (fun r => r = (some (.int z), ab_SH, ab_dD h)) := by
  intro n
  induction n with
  | zero => intro y1 y3 y4 y5 z hf; cases hf
  | succ n ih =>
    intro y1 y3 y4 y5 z hf
    rw [fX12_oftenAt_L6] at hf
    refine ab_Ex.blk (k := 2) (pc' := 9) (lv' := [(0, .ref 64), (1, .int y1), (3, .int y3), (4, .int y4), (5, .int y5)]) (st' := [.int y3, .int y5]) (sh' := ab_SH) (D' := ab_dD h) (fun n => rfl) ?_
    refine ab_Ex.ifc (c := y3 ≤ y5) (SA := (42, [(0, .ref 64), (1, .int y1), (3, .int y3), (4, .int y4), (5, .int y5)], [], ab_dD h)) (SB := (12, [(0, .ref 64), (1, .int y1), (3, .int y3), (4, .int y4), (5, .int y5)], [], ab_dD h)) (fun n => rfl) (fun c1 => ?_) (fun c1 => ?_)
    · replace hf := (if_pos c1).symm.trans hf
      refine ab_Ex.blk (k := 1) (pc' := 44) (lv' := [(0, .ref 64), (1, .int y1), (3, .int y3), (4, .int y4), (5, .int y5)]) (st' := [.int y4]) (sh' := ab_SH) (D' := ab_dD h) (fun n => rfl) ?_
      obtain rfl := Option.some.inj hf
      exact ab_Ex.ret (fun n => rfl) rfl
    · replace hf := (if_neg c1).symm.trans hf
      refine ab_Ex.blk (k := 4) (pc' := 20) (lv' := [(0, .ref 64), (1, .int y1), (3, .int y3), (4, .int y4), (5, .int y5)]) (st' := [.int y5, .ref 72, .int y4]) (sh' := ab_SH) (D' := ab_dD h) (fun n => rfl) ?_
      obtain ⟨c3, hf⟩ := ab_ask_s hf
      refine ab_Ex.grd (c := y5 < 0 ∨ 4375 ≤ (y5 : Int32).toNatClampNeg) (S := (21, [(0, .ref 64), (1, .int y1), (3, .int y3), (4, .int y4), (5, .int y5)], [.int ((h.1 72 (y5 : Int32).toNatClampNeg)), .int y4], ab_dD h)) (fun n => rfl) c3 ?_
      refine ab_Ex.blk (k := 1) (pc' := 23) (lv' := [(0, .ref 64), (1, .int y1), (3, .int y3), (4, .int y4), (5, .int y5)]) (st' := [.int 6, .int ((h.1 72 (y5 : Int32).toNatClampNeg)), .int y4]) (sh' := ab_SH) (D' := ab_dD h) (fun n => rfl) ?_
      refine ab_Ex.blk (k := 1) (pc' := 24) (lv' := [(0, .ref 64), (1, .int y1), (3, .int y3), (4, .int y4), (5, .int y5)]) (st' := [.int (((h.1 72 (y5 : Int32).toNatClampNeg) - (h.1 72 (y5 : Int32).toNatClampNeg) / 6 * 6)), .int y4]) (sh' := ab_SH) (D' := ab_dD h) (fun n => rfl) ?_
      refine ab_Ex.blk (k := 1) (pc' := 25) (lv' := [(0, .ref 64), (1, .int y1), (3, .int y3), (4, .int y4), (5, .int y5)]) (st' := [.int y1, .int (((h.1 72 (y5 : Int32).toNatClampNeg) - (h.1 72 (y5 : Int32).toNatClampNeg) / 6 * 6)), .int y4]) (sh' := ab_SH) (D' := ab_dD h) (fun n => rfl) ?_
      refine ab_Ex.ifc (c := ((h.1 72 (y5 : Int32).toNatClampNeg) - (h.1 72 (y5 : Int32).toNatClampNeg) / 6 * 6) = y1) (SA := (28, [(0, .ref 64), (1, .int y1), (3, .int y3), (4, .int y4), (5, .int y5)], [.int y4], ab_dD h)) (SB := (32, [(0, .ref 64), (1, .int y1), (3, .int y3), (4, .int y4), (5, .int y5)], [.int y4], ab_dD h)) (fun n => rfl) (fun c4 => ?_) (fun c4 => ?_)
      · replace hf := (if_pos c4).symm.trans hf
        refine ab_Ex.blk (k := 2) (pc' := 33) (lv' := [(0, .ref 64), (1, .int y1), (3, .int y3), (5, .int y5)]) (st' := [.int 1, .int y4]) (sh' := ab_SH) (D' := ab_dD h) (fun n => rfl) ?_
        exact sX12_oftenAt_J33 d X h (fun y1 y3 y4 y5 => fX12_oftenAt_L6 h n y1 y3 y4 y5) (fun y1 y3 y4 y5 z hz => ih y1 y3 y4 y5 z hz) y1 y3 y5 y4 1 _ hf
      · replace hf := (if_neg c4).symm.trans hf
        refine ab_Ex.blk (k := 1) (pc' := 33) (lv' := [(0, .ref 64), (1, .int y1), (3, .int y3), (5, .int y5)]) (st' := [.int 0, .int y4]) (sh' := ab_SH) (D' := ab_dD h) (fun n => rfl) ?_
        exact sX12_oftenAt_J33 d X h (fun y1 y3 y4 y5 => fX12_oftenAt_L6 h n y1 y3 y4 y5) (fun y1 y3 y4 y5 z hz => ih y1 y3 y4 y5 z hz) y1 y3 y5 y4 0 _ hf
set_option maxRecDepth 20000 in
theorem sX12_oftenAt (d : Nat) (X : abX) (x0 : Int32) (x1 : Int32) (x2 : Int32) (h : abJ) (z : Int32) (hf : fX12_oftenAt x0 x1 x2 h = some z) : ab_Ex X (d + 0) 251 0 [(0, .ref 64), (1, .int x0), (2, .int x1), (3, .int x2)] [] ab_SH (ab_dD h) (fun r => r = (some (.int z), ab_SH, ab_dD h)) := by
  unfold fX12_oftenAt at hf
  refine ab_Ex.blk (k := 4) (pc' := 6) (lv' := [(0, .ref 64), (1, .int x0), (3, .int x2), (4, .int 0), (5, .int x1)]) (st' := []) (sh' := ab_SH) (D' := ab_dD h) (fun n => rfl) ?_
  exact sX12_oftenAt_L6 d X h ab_N x0 x2 0 x1 _ hf
def fX12_visits (x0 : Int32) (x1 : Int64) (h : abJ) : Option (Int64 × abJ) := (fX12_isPost ((x0 : Int32).toInt64) (ab_wI h 64 0 0)).bind (fun r1 => if r1 = 0 then some ((-2), (ab_wI h 64 0 0)) else (fX12_within x1 0 1000000000000000 (ab_wI h 64 0 0)).bind (fun r3 => if r3 = 0 then some ((-3), (ab_wI h 64 0 0)) else (fX12_standNow (ab_wI h 64 0 0)).bind (fun r5 => (fX12_laysLine r5 (ab_wI h 64 0 0)).bind (fun r6 => if 0 ≤ (lg_cmp x1 (((r6).1 64 22) : Int32).toInt64) then if ((r6).1 64 23) = (-1) then (fX12_oftenAt x0 1 (((r6).1 64 22)) r6).bind (fun r9 => some ((r9 : Int32).toInt64, r6)) else (fX12_oftenAt x0 1 (((r6).1 64 22)) r6).bind (fun r10 => ab_ask (((((r6).1 64 22) - ((r6).1 64 23)) : Int32).toInt64 = 0) ((fX12_oftenAt x0 (((r6).1 64 23)) (((r6).1 64 22)) r6).bind (fun r12 => ab_ask (((((r6).1 64 22) - ((r6).1 64 23)) : Int32).toInt64 = 0) ((fX12_oftenAt x0 (((r6).1 64 23)) ((((r6).1 64 23) + ((((x1 - (((r6).1 64 22) : Int32).toInt64) + 1) - ((x1 - (((r6).1 64 22) : Int32).toInt64) + 1) / ((((r6).1 64 22) - ((r6).1 64 23)) : Int32).toInt64 * ((((r6).1 64 22) - ((r6).1 64 23)) : Int32).toInt64) : Int64).toInt32)) r6).bind (fun r14 => some ((((r10 : Int32).toInt64 + ((((x1 - (((r6).1 64 22) : Int32).toInt64) + 1) / ((((r6).1 64 22) - ((r6).1 64 23)) : Int32).toInt64) * (r12 : Int32).toInt64)) + (r14 : Int32).toInt64), r6)))))) else (fX12_oftenAt x0 1 (((x1 : Int64).toInt32 + 1)) r6).bind (fun r15 => some ((r15 : Int32).toInt64, r6))))))
set_option maxRecDepth 20000 in
theorem sX12_visits (d : Nat) (X : abX) (x0 : Int32) (x1 : Int64) (h : abJ) (z : (Int64 × abJ)) (hf : fX12_visits x0 x1 h = some z) : ab_Ex X (d + 5) 252 0 [(0, .ref 64), (1, .int x0), (2, .long x1)] [] ab_SH (ab_dD h) (fun r => r = (some (.long z.1), ab_SH, ab_dD z.2)) := by
  unfold fX12_visits at hf
  refine ab_Ex.blk (k := 6) (pc' := 8) (lv' := [(0, .ref 64), (1, .int x0), (2, .long x1)]) (st' := [.long ((x0 : Int32).toInt64), .ref 64]) (sh' := ab_SH) (D' := ab_dD (ab_wI h 64 0 0)) (fun n => rfl) ?_
  obtain ⟨r1, hr1, hf⟩ := ab_bind_s hf
  refine ab_Ex.call (d := d + 4) (M2 := 209) (as := [.ref 64, .long ((x0 : Int32).toInt64)]) (rest := []) (fun n => rfl) rfl (Nat.not_lt.mpr (Nat.le_of_ble_eq_true rfl)) (sX12_isPost (d + 3) X ((x0 : Int32).toInt64) (ab_wI h 64 0 0) _ hr1) (fun r hr => ?_)
  subst hr
  show ab_Ex X (d + 5) 252 11 [(0, .ref 64), (1, .int x0), (2, .long x1)] [.int r1] ab_SH (ab_dD (ab_wI h 64 0 0)) _
  refine ab_Ex.ifc (c := r1 = 0) (SA := (14, [(0, .ref 64), (1, .int x0), (2, .long x1)], [], ab_dD (ab_wI h 64 0 0))) (SB := (18, [(0, .ref 64), (1, .int x0), (2, .long x1)], [], ab_dD (ab_wI h 64 0 0))) (fun n => rfl) (fun c2 => ?_) (fun c2 => ?_)
  · replace hf := (if_pos c2).symm.trans hf
    refine ab_Ex.blk (k := 1) (pc' := 17) (lv' := [(0, .ref 64), (1, .int x0), (2, .long x1)]) (st' := [.long ((-2))]) (sh' := ab_SH) (D' := ab_dD (ab_wI h 64 0 0)) (fun n => rfl) ?_
    obtain rfl := Option.some.inj hf
    exact ab_Ex.ret (fun n => rfl) rfl
  · replace hf := (if_neg c2).symm.trans hf
    refine ab_Ex.blk (k := 3) (pc' := 23) (lv' := [(0, .ref 64), (1, .int x0), (2, .long x1)]) (st' := [.long 1000000000000000, .long 0, .long x1]) (sh' := ab_SH) (D' := ab_dD (ab_wI h 64 0 0)) (fun n => rfl) ?_
    obtain ⟨r3, hr3, hf⟩ := ab_bind_s hf
    refine ab_Ex.call (d := d + 4) (M2 := 175) (as := [.long x1, .long 0, .long 1000000000000000]) (rest := []) (fun n => rfl) rfl (Nat.not_lt.mpr (Nat.le_of_ble_eq_true rfl)) (sX12_within (d + 4) X x1 0 1000000000000000 (ab_wI h 64 0 0) _ hr3) (fun r hr => ?_)
    subst hr
    show ab_Ex X (d + 5) 252 26 [(0, .ref 64), (1, .int x0), (2, .long x1)] [.int r3] ab_SH (ab_dD (ab_wI h 64 0 0)) _
    refine ab_Ex.ifc (c := r3 = 0) (SA := (29, [(0, .ref 64), (1, .int x0), (2, .long x1)], [], ab_dD (ab_wI h 64 0 0))) (SB := (33, [(0, .ref 64), (1, .int x0), (2, .long x1)], [], ab_dD (ab_wI h 64 0 0))) (fun n => rfl) (fun c4 => ?_) (fun c4 => ?_)
    · replace hf := (if_pos c4).symm.trans hf
      refine ab_Ex.blk (k := 1) (pc' := 32) (lv' := [(0, .ref 64), (1, .int x0), (2, .long x1)]) (st' := [.long ((-3))]) (sh' := ab_SH) (D' := ab_dD (ab_wI h 64 0 0)) (fun n => rfl) ?_
      obtain rfl := Option.some.inj hf
      exact ab_Ex.ret (fun n => rfl) rfl
    · replace hf := (if_neg c4).symm.trans hf
      refine ab_Ex.blk (k := 2) (pc' := 35) (lv' := [(0, .ref 64), (1, .int x0), (2, .long x1)]) (st' := [.ref 64, .ref 64]) (sh' := ab_SH) (D' := ab_dD (ab_wI h 64 0 0)) (fun n => rfl) ?_
      obtain ⟨r5, hr5, hf⟩ := ab_bind_s hf
      refine ab_Ex.call (d := d + 4) (M2 := 216) (as := [.ref 64]) (rest := [.ref 64]) (fun n => rfl) rfl (Nat.not_lt.mpr (Nat.le_of_ble_eq_true rfl)) (sX12_standNow (d + 2) X  (ab_wI h 64 0 0) _ hr5) (fun r hr => ?_)
      subst hr
      show ab_Ex X (d + 5) 252 38 [(0, .ref 64), (1, .int x0), (2, .long x1)] [.int r5, .ref 64] ab_SH (ab_dD (ab_wI h 64 0 0)) _
      obtain ⟨r6, hr6, hf⟩ := ab_bind_s hf
      refine ab_Ex.call (d := d + 4) (M2 := 247) (as := [.ref 64, .int r5]) (rest := []) (fun n => rfl) rfl (Nat.not_lt.mpr (Nat.le_of_ble_eq_true rfl)) (sX12_laysLine (d) X r5 (ab_wI h 64 0 0) _ hr6) (fun r hr => ?_)
      subst hr
      show ab_Ex X (d + 5) 252 41 [(0, .ref 64), (1, .int x0), (2, .long x1)] [] ab_SH (ab_dD r6) _
      refine ab_Ex.blk (k := 5) (pc' := 48) (lv' := [(0, .ref 64), (1, .int x0), (2, .long x1)]) (st' := [.int ((lg_cmp x1 (((r6).1 64 22) : Int32).toInt64))]) (sh' := ab_SH) (D' := ab_dD r6) (fun n => rfl) ?_
      refine ab_Ex.ifc (c := 0 ≤ (lg_cmp x1 (((r6).1 64 22) : Int32).toInt64)) (SA := (63, [(0, .ref 64), (1, .int x0), (2, .long x1)], [], ab_dD r6)) (SB := (51, [(0, .ref 64), (1, .int x0), (2, .long x1)], [], ab_dD r6)) (fun n => rfl) (fun c7 => ?_) (fun c7 => ?_)
      · replace hf := (if_pos c7).symm.trans hf
        refine ab_Ex.blk (k := 3) (pc' := 68) (lv' := [(0, .ref 64), (1, .int x0), (2, .long x1)]) (st' := [.int ((-1)), .int (((r6).1 64 23))]) (sh' := ab_SH) (D' := ab_dD r6) (fun n => rfl) ?_
        refine ab_Ex.ifc (c := ((r6).1 64 23) = (-1)) (SA := (71, [(0, .ref 64), (1, .int x0), (2, .long x1)], [], ab_dD r6)) (SB := (83, [(0, .ref 64), (1, .int x0), (2, .long x1)], [], ab_dD r6)) (fun n => rfl) (fun c8 => ?_) (fun c8 => ?_)
        · replace hf := (if_pos c8).symm.trans hf
          refine ab_Ex.blk (k := 5) (pc' := 78) (lv' := [(0, .ref 64), (1, .int x0), (2, .long x1)]) (st' := [.int (((r6).1 64 22)), .int 1, .int x0, .ref 64]) (sh' := ab_SH) (D' := ab_dD r6) (fun n => rfl) ?_
          obtain ⟨r9, hr9, hf⟩ := ab_bind_s hf
          refine ab_Ex.call (d := d + 4) (M2 := 251) (as := [.ref 64, .int x0, .int 1, .int (((r6).1 64 22))]) (rest := []) (fun n => rfl) rfl (Nat.not_lt.mpr (Nat.le_of_ble_eq_true rfl)) (sX12_oftenAt (d + 4) X x0 1 (((r6).1 64 22)) r6 _ hr9) (fun r hr => ?_)
          subst hr
          show ab_Ex X (d + 5) 252 81 [(0, .ref 64), (1, .int x0), (2, .long x1)] [.int r9] ab_SH (ab_dD r6) _
          refine ab_Ex.blk (k := 1) (pc' := 82) (lv' := [(0, .ref 64), (1, .int x0), (2, .long x1)]) (st' := [.long ((r9 : Int32).toInt64)]) (sh' := ab_SH) (D' := ab_dD r6) (fun n => rfl) ?_
          obtain rfl := Option.some.inj hf
          exact ab_Ex.ret (fun n => rfl) rfl
        · replace hf := (if_neg c8).symm.trans hf
          refine ab_Ex.blk (k := 19) (pc' := 112) (lv' := [(6, .int ((((r6).1 64 22) - ((r6).1 64 23)))), (4, .long (((x1 - (((r6).1 64 22) : Int32).toInt64) + 1))), (0, .ref 64), (1, .int x0), (2, .long x1)]) (st' := [.int (((r6).1 64 22)), .int 1, .int x0, .ref 64]) (sh' := ab_SH) (D' := ab_dD r6) (fun n => rfl) ?_
          obtain ⟨r10, hr10, hf⟩ := ab_bind_s hf
          refine ab_Ex.call (d := d + 4) (M2 := 251) (as := [.ref 64, .int x0, .int 1, .int (((r6).1 64 22))]) (rest := []) (fun n => rfl) rfl (Nat.not_lt.mpr (Nat.le_of_ble_eq_true rfl)) (sX12_oftenAt (d + 4) X x0 1 (((r6).1 64 22)) r6 _ hr10) (fun r hr => ?_)
          subst hr
          show ab_Ex X (d + 5) 252 115 [(6, .int ((((r6).1 64 22) - ((r6).1 64 23)))), (4, .long (((x1 - (((r6).1 64 22) : Int32).toInt64) + 1))), (0, .ref 64), (1, .int x0), (2, .long x1)] [.int r10] ab_SH (ab_dD r6) _
          refine ab_Ex.blk (k := 4) (pc' := 121) (lv' := [(6, .int ((((r6).1 64 22) - ((r6).1 64 23)))), (4, .long (((x1 - (((r6).1 64 22) : Int32).toInt64) + 1))), (0, .ref 64), (1, .int x0), (2, .long x1)]) (st' := [.long (((((r6).1 64 22) - ((r6).1 64 23)) : Int32).toInt64), .long (((x1 - (((r6).1 64 22) : Int32).toInt64) + 1)), .long ((r10 : Int32).toInt64)]) (sh' := ab_SH) (D' := ab_dD r6) (fun n => rfl) ?_
          obtain ⟨c11, hf⟩ := ab_ask_s hf
          refine ab_Ex.grd (c := ((((r6).1 64 22) - ((r6).1 64 23)) : Int32).toInt64 = 0) (S := (122, [(6, .int ((((r6).1 64 22) - ((r6).1 64 23)))), (4, .long (((x1 - (((r6).1 64 22) : Int32).toInt64) + 1))), (0, .ref 64), (1, .int x0), (2, .long x1)], [.long ((((x1 - (((r6).1 64 22) : Int32).toInt64) + 1) / ((((r6).1 64 22) - ((r6).1 64 23)) : Int32).toInt64)), .long ((r10 : Int32).toInt64)], ab_dD r6)) (fun n => rfl) c11 ?_
          refine ab_Ex.blk (k := 6) (pc' := 132) (lv' := [(6, .int ((((r6).1 64 22) - ((r6).1 64 23)))), (4, .long (((x1 - (((r6).1 64 22) : Int32).toInt64) + 1))), (0, .ref 64), (1, .int x0), (2, .long x1)]) (st' := [.int (((r6).1 64 22)), .int (((r6).1 64 23)), .int x0, .ref 64, .long ((((x1 - (((r6).1 64 22) : Int32).toInt64) + 1) / ((((r6).1 64 22) - ((r6).1 64 23)) : Int32).toInt64)), .long ((r10 : Int32).toInt64)]) (sh' := ab_SH) (D' := ab_dD r6) (fun n => rfl) ?_
          obtain ⟨r12, hr12, hf⟩ := ab_bind_s hf
          refine ab_Ex.call (d := d + 4) (M2 := 251) (as := [.ref 64, .int x0, .int (((r6).1 64 23)), .int (((r6).1 64 22))]) (rest := [.long ((((x1 - (((r6).1 64 22) : Int32).toInt64) + 1) / ((((r6).1 64 22) - ((r6).1 64 23)) : Int32).toInt64)), .long ((r10 : Int32).toInt64)]) (fun n => rfl) rfl (Nat.not_lt.mpr (Nat.le_of_ble_eq_true rfl)) (sX12_oftenAt (d + 4) X x0 (((r6).1 64 23)) (((r6).1 64 22)) r6 _ hr12) (fun r hr => ?_)
          subst hr
          show ab_Ex X (d + 5) 252 135 [(6, .int ((((r6).1 64 22) - ((r6).1 64 23)))), (4, .long (((x1 - (((r6).1 64 22) : Int32).toInt64) + 1))), (0, .ref 64), (1, .int x0), (2, .long x1)] [.int r12, .long ((((x1 - (((r6).1 64 22) : Int32).toInt64) + 1) / ((((r6).1 64 22) - ((r6).1 64 23)) : Int32).toInt64)), .long ((r10 : Int32).toInt64)] ab_SH (ab_dD r6) _
          refine ab_Ex.blk (k := 12) (pc' := 153) (lv' := [(6, .int ((((r6).1 64 22) - ((r6).1 64 23)))), (4, .long (((x1 - (((r6).1 64 22) : Int32).toInt64) + 1))), (0, .ref 64), (1, .int x0), (2, .long x1)]) (st' := [.long (((((r6).1 64 22) - ((r6).1 64 23)) : Int32).toInt64), .long (((x1 - (((r6).1 64 22) : Int32).toInt64) + 1)), .int (((r6).1 64 23)), .int (((r6).1 64 23)), .int x0, .ref 64, .long (((r10 : Int32).toInt64 + ((((x1 - (((r6).1 64 22) : Int32).toInt64) + 1) / ((((r6).1 64 22) - ((r6).1 64 23)) : Int32).toInt64) * (r12 : Int32).toInt64)))]) (sh' := ab_SH) (D' := ab_dD r6) (fun n => rfl) ?_
          obtain ⟨c13, hf⟩ := ab_ask_s hf
          refine ab_Ex.grd (c := ((((r6).1 64 22) - ((r6).1 64 23)) : Int32).toInt64 = 0) (S := (154, [(6, .int ((((r6).1 64 22) - ((r6).1 64 23)))), (4, .long (((x1 - (((r6).1 64 22) : Int32).toInt64) + 1))), (0, .ref 64), (1, .int x0), (2, .long x1)], [.long ((((x1 - (((r6).1 64 22) : Int32).toInt64) + 1) - ((x1 - (((r6).1 64 22) : Int32).toInt64) + 1) / ((((r6).1 64 22) - ((r6).1 64 23)) : Int32).toInt64 * ((((r6).1 64 22) - ((r6).1 64 23)) : Int32).toInt64)), .int (((r6).1 64 23)), .int (((r6).1 64 23)), .int x0, .ref 64, .long (((r10 : Int32).toInt64 + ((((x1 - (((r6).1 64 22) : Int32).toInt64) + 1) / ((((r6).1 64 22) - ((r6).1 64 23)) : Int32).toInt64) * (r12 : Int32).toInt64)))], ab_dD r6)) (fun n => rfl) c13 ?_
          refine ab_Ex.blk (k := 2) (pc' := 156) (lv' := [(6, .int ((((r6).1 64 22) - ((r6).1 64 23)))), (4, .long (((x1 - (((r6).1 64 22) : Int32).toInt64) + 1))), (0, .ref 64), (1, .int x0), (2, .long x1)]) (st' := [.int ((((r6).1 64 23) + ((((x1 - (((r6).1 64 22) : Int32).toInt64) + 1) - ((x1 - (((r6).1 64 22) : Int32).toInt64) + 1) / ((((r6).1 64 22) - ((r6).1 64 23)) : Int32).toInt64 * ((((r6).1 64 22) - ((r6).1 64 23)) : Int32).toInt64) : Int64).toInt32)), .int (((r6).1 64 23)), .int x0, .ref 64, .long (((r10 : Int32).toInt64 + ((((x1 - (((r6).1 64 22) : Int32).toInt64) + 1) / ((((r6).1 64 22) - ((r6).1 64 23)) : Int32).toInt64) * (r12 : Int32).toInt64)))]) (sh' := ab_SH) (D' := ab_dD r6) (fun n => rfl) ?_
          obtain ⟨r14, hr14, hf⟩ := ab_bind_s hf
          refine ab_Ex.call (d := d + 4) (M2 := 251) (as := [.ref 64, .int x0, .int (((r6).1 64 23)), .int ((((r6).1 64 23) + ((((x1 - (((r6).1 64 22) : Int32).toInt64) + 1) - ((x1 - (((r6).1 64 22) : Int32).toInt64) + 1) / ((((r6).1 64 22) - ((r6).1 64 23)) : Int32).toInt64 * ((((r6).1 64 22) - ((r6).1 64 23)) : Int32).toInt64) : Int64).toInt32))]) (rest := [.long (((r10 : Int32).toInt64 + ((((x1 - (((r6).1 64 22) : Int32).toInt64) + 1) / ((((r6).1 64 22) - ((r6).1 64 23)) : Int32).toInt64) * (r12 : Int32).toInt64)))]) (fun n => rfl) rfl (Nat.not_lt.mpr (Nat.le_of_ble_eq_true rfl)) (sX12_oftenAt (d + 4) X x0 (((r6).1 64 23)) ((((r6).1 64 23) + ((((x1 - (((r6).1 64 22) : Int32).toInt64) + 1) - ((x1 - (((r6).1 64 22) : Int32).toInt64) + 1) / ((((r6).1 64 22) - ((r6).1 64 23)) : Int32).toInt64 * ((((r6).1 64 22) - ((r6).1 64 23)) : Int32).toInt64) : Int64).toInt32)) r6 _ hr14) (fun r hr => ?_)
          subst hr
          show ab_Ex X (d + 5) 252 159 [(6, .int ((((r6).1 64 22) - ((r6).1 64 23)))), (4, .long (((x1 - (((r6).1 64 22) : Int32).toInt64) + 1))), (0, .ref 64), (1, .int x0), (2, .long x1)] [.int r14, .long (((r10 : Int32).toInt64 + ((((x1 - (((r6).1 64 22) : Int32).toInt64) + 1) / ((((r6).1 64 22) - ((r6).1 64 23)) : Int32).toInt64) * (r12 : Int32).toInt64)))] ab_SH (ab_dD r6) _
          refine ab_Ex.blk (k := 2) (pc' := 161) (lv' := [(6, .int ((((r6).1 64 22) - ((r6).1 64 23)))), (4, .long (((x1 - (((r6).1 64 22) : Int32).toInt64) + 1))), (0, .ref 64), (1, .int x0), (2, .long x1)]) (st' := [.long ((((r10 : Int32).toInt64 + ((((x1 - (((r6).1 64 22) : Int32).toInt64) + 1) / ((((r6).1 64 22) - ((r6).1 64 23)) : Int32).toInt64) * (r12 : Int32).toInt64)) + (r14 : Int32).toInt64))]) (sh' := ab_SH) (D' := ab_dD r6) (fun n => rfl) ?_
          obtain rfl := Option.some.inj hf
          exact ab_Ex.ret (fun n => rfl) rfl
      · replace hf := (if_neg c7).symm.trans hf
        refine ab_Ex.blk (k := 7) (pc' := 58) (lv' := [(0, .ref 64), (1, .int x0), (2, .long x1)]) (st' := [.int (((x1 : Int64).toInt32 + 1)), .int 1, .int x0, .ref 64]) (sh' := ab_SH) (D' := ab_dD r6) (fun n => rfl) ?_
        obtain ⟨r15, hr15, hf⟩ := ab_bind_s hf
        refine ab_Ex.call (d := d + 4) (M2 := 251) (as := [.ref 64, .int x0, .int 1, .int (((x1 : Int64).toInt32 + 1))]) (rest := []) (fun n => rfl) rfl (Nat.not_lt.mpr (Nat.le_of_ble_eq_true rfl)) (sX12_oftenAt (d + 4) X x0 1 (((x1 : Int64).toInt32 + 1)) r6 _ hr15) (fun r hr => ?_)
        subst hr
        show ab_Ex X (d + 5) 252 61 [(0, .ref 64), (1, .int x0), (2, .long x1)] [.int r15] ab_SH (ab_dD r6) _
        refine ab_Ex.blk (k := 1) (pc' := 62) (lv' := [(0, .ref 64), (1, .int x0), (2, .long x1)]) (st' := [.long ((r15 : Int32).toInt64)]) (sh' := ab_SH) (D' := ab_dD r6) (fun n => rfl) ?_
        obtain rfl := Option.some.inj hf
        exact ab_Ex.ret (fun n => rfl) rfl
def fX12_round (x0 : Int32) (h : abJ) : Option (Int32 × abJ) := (fX12_within ((x0 : Int32).toInt64) 0 1 (ab_wI h 64 0 0)).bind (fun r1 => if r1 = 0 then some ((-2), (ab_wI h 64 0 0)) else (fX12_standNow (ab_wI h 64 0 0)).bind (fun r3 => (fX12_laysLine r3 (ab_wI h 64 0 0)).bind (fun r4 => if ((r4).1 64 23) = (-1) then some ((-1), r4) else if x0 = 0 then some (((r4).1 64 23), r4) else some ((((r4).1 64 22) - ((r4).1 64 23)), r4))))
set_option maxRecDepth 20000 in
theorem sX12_round (d : Nat) (X : abX) (x0 : Int32) (h : abJ) (z : (Int32 × abJ)) (hf : fX12_round x0 h = some z) : ab_Ex X (d + 5) 253 0 [(0, .ref 64), (1, .int x0)] [] ab_SH (ab_dD h) (fun r => r = (some (.int z.1), ab_SH, ab_dD z.2)) := by
  unfold fX12_round at hf
  refine ab_Ex.blk (k := 7) (pc' := 9) (lv' := [(0, .ref 64), (1, .int x0)]) (st' := [.long 1, .long 0, .long ((x0 : Int32).toInt64)]) (sh' := ab_SH) (D' := ab_dD (ab_wI h 64 0 0)) (fun n => rfl) ?_
  obtain ⟨r1, hr1, hf⟩ := ab_bind_s hf
  refine ab_Ex.call (d := d + 4) (M2 := 175) (as := [.long ((x0 : Int32).toInt64), .long 0, .long 1]) (rest := []) (fun n => rfl) rfl (Nat.not_lt.mpr (Nat.le_of_ble_eq_true rfl)) (sX12_within (d + 4) X ((x0 : Int32).toInt64) 0 1 (ab_wI h 64 0 0) _ hr1) (fun r hr => ?_)
  subst hr
  show ab_Ex X (d + 5) 253 12 [(0, .ref 64), (1, .int x0)] [.int r1] ab_SH (ab_dD (ab_wI h 64 0 0)) _
  refine ab_Ex.ifc (c := r1 = 0) (SA := (15, [(0, .ref 64), (1, .int x0)], [], ab_dD (ab_wI h 64 0 0))) (SB := (18, [(0, .ref 64), (1, .int x0)], [], ab_dD (ab_wI h 64 0 0))) (fun n => rfl) (fun c2 => ?_) (fun c2 => ?_)
  · replace hf := (if_pos c2).symm.trans hf
    refine ab_Ex.blk (k := 1) (pc' := 17) (lv' := [(0, .ref 64), (1, .int x0)]) (st' := [.int ((-2))]) (sh' := ab_SH) (D' := ab_dD (ab_wI h 64 0 0)) (fun n => rfl) ?_
    obtain rfl := Option.some.inj hf
    exact ab_Ex.ret (fun n => rfl) rfl
  · replace hf := (if_neg c2).symm.trans hf
    refine ab_Ex.blk (k := 2) (pc' := 20) (lv' := [(0, .ref 64), (1, .int x0)]) (st' := [.ref 64, .ref 64]) (sh' := ab_SH) (D' := ab_dD (ab_wI h 64 0 0)) (fun n => rfl) ?_
    obtain ⟨r3, hr3, hf⟩ := ab_bind_s hf
    refine ab_Ex.call (d := d + 4) (M2 := 216) (as := [.ref 64]) (rest := [.ref 64]) (fun n => rfl) rfl (Nat.not_lt.mpr (Nat.le_of_ble_eq_true rfl)) (sX12_standNow (d + 2) X  (ab_wI h 64 0 0) _ hr3) (fun r hr => ?_)
    subst hr
    show ab_Ex X (d + 5) 253 23 [(0, .ref 64), (1, .int x0)] [.int r3, .ref 64] ab_SH (ab_dD (ab_wI h 64 0 0)) _
    obtain ⟨r4, hr4, hf⟩ := ab_bind_s hf
    refine ab_Ex.call (d := d + 4) (M2 := 247) (as := [.ref 64, .int r3]) (rest := []) (fun n => rfl) rfl (Nat.not_lt.mpr (Nat.le_of_ble_eq_true rfl)) (sX12_laysLine (d) X r3 (ab_wI h 64 0 0) _ hr4) (fun r hr => ?_)
    subst hr
    show ab_Ex X (d + 5) 253 26 [(0, .ref 64), (1, .int x0)] [] ab_SH (ab_dD r4) _
    refine ab_Ex.blk (k := 3) (pc' := 31) (lv' := [(0, .ref 64), (1, .int x0)]) (st' := [.int ((-1)), .int (((r4).1 64 23))]) (sh' := ab_SH) (D' := ab_dD r4) (fun n => rfl) ?_
    refine ab_Ex.ifc (c := ((r4).1 64 23) = (-1)) (SA := (34, [(0, .ref 64), (1, .int x0)], [], ab_dD r4)) (SB := (38, [(0, .ref 64), (1, .int x0)], [], ab_dD r4)) (fun n => rfl) (fun c5 => ?_) (fun c5 => ?_)
    · replace hf := (if_pos c5).symm.trans hf
      refine ab_Ex.blk (k := 2) (pc' := 58) (lv' := []) (st' := [.int ((-1))]) (sh' := ab_SH) (D' := ab_dD r4) (fun n => rfl) ?_
      obtain rfl := Option.some.inj hf
      exact ab_Ex.ret (fun n => rfl) rfl
    · replace hf := (if_neg c5).symm.trans hf
      refine ab_Ex.blk (k := 1) (pc' := 39) (lv' := [(0, .ref 64), (1, .int x0)]) (st' := [.int x0]) (sh' := ab_SH) (D' := ab_dD r4) (fun n => rfl) ?_
      refine ab_Ex.ifc (c := x0 = 0) (SA := (42, [(0, .ref 64), (1, .int x0)], [], ab_dD r4)) (SB := (49, [(0, .ref 64), (1, .int x0)], [], ab_dD r4)) (fun n => rfl) (fun c6 => ?_) (fun c6 => ?_)
      · replace hf := (if_pos c6).symm.trans hf
        refine ab_Ex.blk (k := 3) (pc' := 58) (lv' := []) (st' := [.int (((r4).1 64 23))]) (sh' := ab_SH) (D' := ab_dD r4) (fun n => rfl) ?_
        obtain rfl := Option.some.inj hf
        exact ab_Ex.ret (fun n => rfl) rfl
      · replace hf := (if_neg c6).symm.trans hf
        refine ab_Ex.blk (k := 5) (pc' := 58) (lv' := []) (st' := [.int ((((r4).1 64 22) - ((r4).1 64 23)))]) (sh' := ab_SH) (D' := ab_dD r4) (fun n => rfl) ?_
        obtain rfl := Option.some.inj hf
        exact ab_Ex.ret (fun n => rfl) rfl
def fX12_first_L27   : Nat → Int32 → Int32 → abJ → Option (Int32 × abJ)
  | 0, _, _, _ => none
  | n + 1, y1, y2, h => if (h.1 64 22) ≤ y2 then some ((-1), h) else ab_ask (y2 < 0 ∨ 4375 ≤ (y2 : Int32).toNatClampNeg) (if ((h.1 72 (y2 : Int32).toNatClampNeg) - (h.1 72 (y2 : Int32).toNatClampNeg) / 6 * 6) = y1 then some (y2, h) else fX12_first_L27 n y1 ((y2 + 1)) h)
def fX12_first (x0 : Int32) (h : abJ) : Option (Int32 × abJ) := (fX12_isPost ((x0 : Int32).toInt64) (ab_wI h 64 0 0)).bind (fun r1 => if r1 = 0 then some ((-2), (ab_wI h 64 0 0)) else (fX12_standNow (ab_wI h 64 0 0)).bind (fun r3 => (fX12_laysLine r3 (ab_wI h 64 0 0)).bind (fun r4 => fX12_first_L27 ab_N x0 0 r4)))
set_option maxRecDepth 20000 in
theorem sX12_first_L27 (d : Nat) (X : abX)   : ∀ (n : Nat), ∀ (y1 : Int32) (y2 : Int32) (h : abJ) (z : (Int32 × abJ)), fX12_first_L27 n y1 y2 h = some z → ab_Ex X (d + 5) 254 27 [(0, .ref 64), (1, .int y1), (2, .int y2)] [] ab_SH (ab_dD h) (fun r => r = (some (.int z.1), ab_SH, ab_dD z.2)) := by
  intro n
  induction n with
  | zero => intro y1 y2 h z hf; cases hf
  | succ n ih =>
    intro y1 y2 h z hf
    rw [fX12_first_L27] at hf
    refine ab_Ex.blk (k := 3) (pc' := 32) (lv' := [(0, .ref 64), (1, .int y1), (2, .int y2)]) (st' := [.int ((h.1 64 22)), .int y2]) (sh' := ab_SH) (D' := ab_dD h) (fun n => rfl) ?_
    refine ab_Ex.ifc (c := (h.1 64 22) ≤ y2) (SA := (56, [(0, .ref 64), (1, .int y1), (2, .int y2)], [], ab_dD h)) (SB := (35, [(0, .ref 64), (1, .int y1), (2, .int y2)], [], ab_dD h)) (fun n => rfl) (fun c5 => ?_) (fun c5 => ?_)
    · replace hf := (if_pos c5).symm.trans hf
      refine ab_Ex.blk (k := 1) (pc' := 57) (lv' := [(0, .ref 64), (1, .int y1), (2, .int y2)]) (st' := [.int ((-1))]) (sh' := ab_SH) (D' := ab_dD h) (fun n => rfl) ?_
      obtain rfl := Option.some.inj hf
      exact ab_Ex.ret (fun n => rfl) rfl
    · replace hf := (if_neg c5).symm.trans hf
      refine ab_Ex.blk (k := 3) (pc' := 40) (lv' := [(0, .ref 64), (1, .int y1), (2, .int y2)]) (st' := [.int y2, .ref 72]) (sh' := ab_SH) (D' := ab_dD h) (fun n => rfl) ?_
      obtain ⟨c7, hf⟩ := ab_ask_s hf
      refine ab_Ex.grd (c := y2 < 0 ∨ 4375 ≤ (y2 : Int32).toNatClampNeg) (S := (41, [(0, .ref 64), (1, .int y1), (2, .int y2)], [.int ((h.1 72 (y2 : Int32).toNatClampNeg))], ab_dD h)) (fun n => rfl) c7 ?_
      refine ab_Ex.blk (k := 1) (pc' := 43) (lv' := [(0, .ref 64), (1, .int y1), (2, .int y2)]) (st' := [.int 6, .int ((h.1 72 (y2 : Int32).toNatClampNeg))]) (sh' := ab_SH) (D' := ab_dD h) (fun n => rfl) ?_
      refine ab_Ex.blk (k := 1) (pc' := 44) (lv' := [(0, .ref 64), (1, .int y1), (2, .int y2)]) (st' := [.int (((h.1 72 (y2 : Int32).toNatClampNeg) - (h.1 72 (y2 : Int32).toNatClampNeg) / 6 * 6))]) (sh' := ab_SH) (D' := ab_dD h) (fun n => rfl) ?_
      refine ab_Ex.blk (k := 1) (pc' := 45) (lv' := [(0, .ref 64), (1, .int y1), (2, .int y2)]) (st' := [.int y1, .int (((h.1 72 (y2 : Int32).toNatClampNeg) - (h.1 72 (y2 : Int32).toNatClampNeg) / 6 * 6))]) (sh' := ab_SH) (D' := ab_dD h) (fun n => rfl) ?_
      refine ab_Ex.ifc (c := ((h.1 72 (y2 : Int32).toNatClampNeg) - (h.1 72 (y2 : Int32).toNatClampNeg) / 6 * 6) = y1) (SA := (48, [(0, .ref 64), (1, .int y1), (2, .int y2)], [], ab_dD h)) (SB := (50, [(0, .ref 64), (1, .int y1), (2, .int y2)], [], ab_dD h)) (fun n => rfl) (fun c8 => ?_) (fun c8 => ?_)
      · replace hf := (if_pos c8).symm.trans hf
        refine ab_Ex.blk (k := 1) (pc' := 49) (lv' := [(0, .ref 64), (1, .int y1), (2, .int y2)]) (st' := [.int y2]) (sh' := ab_SH) (D' := ab_dD h) (fun n => rfl) ?_
        obtain rfl := Option.some.inj hf
        exact ab_Ex.ret (fun n => rfl) rfl
      · replace hf := (if_neg c8).symm.trans hf
        refine ab_Ex.blk (k := 2) (pc' := 27) (lv' := [(0, .ref 64), (1, .int y1), (2, .int ((y2 + 1)))]) (st' := []) (sh' := ab_SH) (D' := ab_dD h) (fun n => rfl) ?_
        exact ih y1 ((y2 + 1)) h _ hf
set_option maxRecDepth 20000 in
theorem sX12_first (d : Nat) (X : abX) (x0 : Int32) (h : abJ) (z : (Int32 × abJ)) (hf : fX12_first x0 h = some z) : ab_Ex X (d + 5) 254 0 [(0, .ref 64), (1, .int x0)] [] ab_SH (ab_dD h) (fun r => r = (some (.int z.1), ab_SH, ab_dD z.2)) := by
  unfold fX12_first at hf
  refine ab_Ex.blk (k := 6) (pc' := 8) (lv' := [(0, .ref 64), (1, .int x0)]) (st' := [.long ((x0 : Int32).toInt64), .ref 64]) (sh' := ab_SH) (D' := ab_dD (ab_wI h 64 0 0)) (fun n => rfl) ?_
  obtain ⟨r1, hr1, hf⟩ := ab_bind_s hf
  refine ab_Ex.call (d := d + 4) (M2 := 209) (as := [.ref 64, .long ((x0 : Int32).toInt64)]) (rest := []) (fun n => rfl) rfl (Nat.not_lt.mpr (Nat.le_of_ble_eq_true rfl)) (sX12_isPost (d + 3) X ((x0 : Int32).toInt64) (ab_wI h 64 0 0) _ hr1) (fun r hr => ?_)
  subst hr
  show ab_Ex X (d + 5) 254 11 [(0, .ref 64), (1, .int x0)] [.int r1] ab_SH (ab_dD (ab_wI h 64 0 0)) _
  refine ab_Ex.ifc (c := r1 = 0) (SA := (14, [(0, .ref 64), (1, .int x0)], [], ab_dD (ab_wI h 64 0 0))) (SB := (17, [(0, .ref 64), (1, .int x0)], [], ab_dD (ab_wI h 64 0 0))) (fun n => rfl) (fun c2 => ?_) (fun c2 => ?_)
  · replace hf := (if_pos c2).symm.trans hf
    refine ab_Ex.blk (k := 1) (pc' := 16) (lv' := [(0, .ref 64), (1, .int x0)]) (st' := [.int ((-2))]) (sh' := ab_SH) (D' := ab_dD (ab_wI h 64 0 0)) (fun n => rfl) ?_
    obtain rfl := Option.some.inj hf
    exact ab_Ex.ret (fun n => rfl) rfl
  · replace hf := (if_neg c2).symm.trans hf
    refine ab_Ex.blk (k := 2) (pc' := 19) (lv' := [(0, .ref 64), (1, .int x0)]) (st' := [.ref 64, .ref 64]) (sh' := ab_SH) (D' := ab_dD (ab_wI h 64 0 0)) (fun n => rfl) ?_
    obtain ⟨r3, hr3, hf⟩ := ab_bind_s hf
    refine ab_Ex.call (d := d + 4) (M2 := 216) (as := [.ref 64]) (rest := [.ref 64]) (fun n => rfl) rfl (Nat.not_lt.mpr (Nat.le_of_ble_eq_true rfl)) (sX12_standNow (d + 2) X  (ab_wI h 64 0 0) _ hr3) (fun r hr => ?_)
    subst hr
    show ab_Ex X (d + 5) 254 22 [(0, .ref 64), (1, .int x0)] [.int r3, .ref 64] ab_SH (ab_dD (ab_wI h 64 0 0)) _
    obtain ⟨r4, hr4, hf⟩ := ab_bind_s hf
    refine ab_Ex.call (d := d + 4) (M2 := 247) (as := [.ref 64, .int r3]) (rest := []) (fun n => rfl) rfl (Nat.not_lt.mpr (Nat.le_of_ble_eq_true rfl)) (sX12_laysLine (d) X r3 (ab_wI h 64 0 0) _ hr4) (fun r hr => ?_)
    subst hr
    show ab_Ex X (d + 5) 254 25 [(0, .ref 64), (1, .int x0)] [] ab_SH (ab_dD r4) _
    refine ab_Ex.blk (k := 2) (pc' := 27) (lv' := [(0, .ref 64), (1, .int x0), (2, .int 0)]) (st' := []) (sh' := ab_SH) (D' := ab_dD r4) (fun n => rfl) ?_
    exact sX12_first_L27 d X  ab_N x0 0 r4 _ hf
def fX12_rests  (h : abJ) : Option (Int32 × abJ) := (fX12_standNow (ab_wI h 64 0 0)).bind (fun r1 => (fX12_laysLine r1 (ab_wI h 64 0 0)).bind (fun r2 => if ((r2).1 64 23) = (-1) then some ((((r2).1 64 22) - 1), r2) else some ((-1), r2)))
set_option maxRecDepth 20000 in
theorem sX12_rests (d : Nat) (X : abX)  (h : abJ) (z : (Int32 × abJ)) (hf : fX12_rests  h = some z) : ab_Ex X (d + 5) 255 0 [(0, .ref 64)] [] ab_SH (ab_dD h) (fun r => r = (some (.int z.1), ab_SH, ab_dD z.2)) := by
  unfold fX12_rests at hf
  refine ab_Ex.blk (k := 5) (pc' := 7) (lv' := [(0, .ref 64)]) (st' := [.ref 64, .ref 64]) (sh' := ab_SH) (D' := ab_dD (ab_wI h 64 0 0)) (fun n => rfl) ?_
  obtain ⟨r1, hr1, hf⟩ := ab_bind_s hf
  refine ab_Ex.call (d := d + 4) (M2 := 216) (as := [.ref 64]) (rest := [.ref 64]) (fun n => rfl) rfl (Nat.not_lt.mpr (Nat.le_of_ble_eq_true rfl)) (sX12_standNow (d + 2) X  (ab_wI h 64 0 0) _ hr1) (fun r hr => ?_)
  subst hr
  show ab_Ex X (d + 5) 255 10 [(0, .ref 64)] [.int r1, .ref 64] ab_SH (ab_dD (ab_wI h 64 0 0)) _
  obtain ⟨r2, hr2, hf⟩ := ab_bind_s hf
  refine ab_Ex.call (d := d + 4) (M2 := 247) (as := [.ref 64, .int r1]) (rest := []) (fun n => rfl) rfl (Nat.not_lt.mpr (Nat.le_of_ble_eq_true rfl)) (sX12_laysLine (d) X r1 (ab_wI h 64 0 0) _ hr2) (fun r hr => ?_)
  subst hr
  show ab_Ex X (d + 5) 255 13 [(0, .ref 64)] [] ab_SH (ab_dD r2) _
  refine ab_Ex.blk (k := 3) (pc' := 18) (lv' := [(0, .ref 64)]) (st' := [.int ((-1)), .int (((r2).1 64 23))]) (sh' := ab_SH) (D' := ab_dD r2) (fun n => rfl) ?_
  refine ab_Ex.ifc (c := ((r2).1 64 23) = (-1)) (SA := (21, [(0, .ref 64)], [], ab_dD r2)) (SB := (30, [(0, .ref 64)], [], ab_dD r2)) (fun n => rfl) (fun c3 => ?_) (fun c3 => ?_)
  · replace hf := (if_pos c3).symm.trans hf
    refine ab_Ex.blk (k := 5) (pc' := 31) (lv' := []) (st' := [.int ((((r2).1 64 22) - 1))]) (sh' := ab_SH) (D' := ab_dD r2) (fun n => rfl) ?_
    obtain rfl := Option.some.inj hf
    exact ab_Ex.ret (fun n => rfl) rfl
  · replace hf := (if_neg c3).symm.trans hf
    refine ab_Ex.blk (k := 1) (pc' := 31) (lv' := []) (st' := [.int ((-1))]) (sh' := ab_SH) (D' := ab_dD r2) (fun n => rfl) ?_
    obtain rfl := Option.some.inj hf
    exact ab_Ex.ret (fun n => rfl) rfl
def fX12_homeFrom (x0 : Int32) (h : abJ) : Option (Int32 × abJ) := (fX12_laysLine x0 h).bind (fun r1 => if ((r1).1 64 23) = (-1) then ab_ask ((((r1).1 64 22) - 1) < 0 ∨ 4375 ≤ ((((r1).1 64 22) - 1) : Int32).toNatClampNeg) ((fX12_isIn (((r1.1 65 2) : Int32).toInt64) (((r1.1 72 ((((r1).1 64 22) - 1) : Int32).toNatClampNeg) - (r1.1 72 ((((r1).1 64 22) - 1) : Int32).toNatClampNeg) / 6 * 6)) r1).bind (fun r5 => if r5 = 0 then some ((-1), r1) else some ((((r1).1 64 22) - 1), r1))) else some ((-1), r1))
set_option maxRecDepth 20000 in
theorem sX12_homeFrom (d : Nat) (X : abX) (x0 : Int32) (h : abJ) (z : (Int32 × abJ)) (hf : fX12_homeFrom x0 h = some z) : ab_Ex X (d + 5) 256 0 [(0, .ref 64), (1, .int x0)] [] ab_SH (ab_dD h) (fun r => r = (some (.int z.1), ab_SH, ab_dD z.2)) := by
  unfold fX12_homeFrom at hf
  refine ab_Ex.blk (k := 2) (pc' := 2) (lv' := [(0, .ref 64), (1, .int x0)]) (st' := [.int x0, .ref 64]) (sh' := ab_SH) (D' := ab_dD h) (fun n => rfl) ?_
  obtain ⟨r1, hr1, hf⟩ := ab_bind_s hf
  refine ab_Ex.call (d := d + 4) (M2 := 247) (as := [.ref 64, .int x0]) (rest := []) (fun n => rfl) rfl (Nat.not_lt.mpr (Nat.le_of_ble_eq_true rfl)) (sX12_laysLine (d) X x0 h _ hr1) (fun r hr => ?_)
  subst hr
  show ab_Ex X (d + 5) 256 5 [(0, .ref 64), (1, .int x0)] [] ab_SH (ab_dD r1) _
  refine ab_Ex.blk (k := 3) (pc' := 10) (lv' := [(0, .ref 64), (1, .int x0)]) (st' := [.int ((-1)), .int (((r1).1 64 23))]) (sh' := ab_SH) (D' := ab_dD r1) (fun n => rfl) ?_
  refine ab_Ex.ifc (c := ((r1).1 64 23) = (-1)) (SA := (13, [(0, .ref 64), (1, .int x0)], [], ab_dD r1)) (SB := (49, [(0, .ref 64), (1, .int x0)], [], ab_dD r1)) (fun n => rfl) (fun c2 => ?_) (fun c2 => ?_)
  · replace hf := (if_pos c2).symm.trans hf
    refine ab_Ex.blk (k := 3) (pc' := 18) (lv' := [(0, .ref 64), (1, .int x0)]) (st' := [.int 2, .ref 65]) (sh' := ab_SH) (D' := ab_dD r1) (fun n => rfl) ?_
    refine ab_Ex.blk (k := 1) (pc' := 19) (lv' := [(0, .ref 64), (1, .int x0)]) (st' := [.int ((r1.1 65 2))]) (sh' := ab_SH) (D' := ab_dD r1) (fun n => rfl) ?_
    refine ab_Ex.blk (k := 7) (pc' := 30) (lv' := [(0, .ref 64), (1, .int x0)]) (st' := [.int ((((r1).1 64 22) - 1)), .ref 72, .long (((r1.1 65 2) : Int32).toInt64)]) (sh' := ab_SH) (D' := ab_dD r1) (fun n => rfl) ?_
    obtain ⟨c4, hf⟩ := ab_ask_s hf
    refine ab_Ex.grd (c := (((r1).1 64 22) - 1) < 0 ∨ 4375 ≤ ((((r1).1 64 22) - 1) : Int32).toNatClampNeg) (S := (31, [(0, .ref 64), (1, .int x0)], [.int ((r1.1 72 ((((r1).1 64 22) - 1) : Int32).toNatClampNeg)), .long (((r1.1 65 2) : Int32).toInt64)], ab_dD r1)) (fun n => rfl) c4 ?_
    refine ab_Ex.blk (k := 1) (pc' := 33) (lv' := [(0, .ref 64), (1, .int x0)]) (st' := [.int 6, .int ((r1.1 72 ((((r1).1 64 22) - 1) : Int32).toNatClampNeg)), .long (((r1.1 65 2) : Int32).toInt64)]) (sh' := ab_SH) (D' := ab_dD r1) (fun n => rfl) ?_
    refine ab_Ex.blk (k := 1) (pc' := 34) (lv' := [(0, .ref 64), (1, .int x0)]) (st' := [.int (((r1.1 72 ((((r1).1 64 22) - 1) : Int32).toNatClampNeg) - (r1.1 72 ((((r1).1 64 22) - 1) : Int32).toNatClampNeg) / 6 * 6)), .long (((r1.1 65 2) : Int32).toInt64)]) (sh' := ab_SH) (D' := ab_dD r1) (fun n => rfl) ?_
    obtain ⟨r5, hr5, hf⟩ := ab_bind_s hf
    refine ab_Ex.call (d := d + 4) (M2 := 188) (as := [.long (((r1.1 65 2) : Int32).toInt64), .int (((r1.1 72 ((((r1).1 64 22) - 1) : Int32).toNatClampNeg) - (r1.1 72 ((((r1).1 64 22) - 1) : Int32).toNatClampNeg) / 6 * 6))]) (rest := []) (fun n => rfl) rfl (Nat.not_lt.mpr (Nat.le_of_ble_eq_true rfl)) (sX12_isIn (d + 4) X (((r1.1 65 2) : Int32).toInt64) (((r1.1 72 ((((r1).1 64 22) - 1) : Int32).toNatClampNeg) - (r1.1 72 ((((r1).1 64 22) - 1) : Int32).toNatClampNeg) / 6 * 6)) r1 _ hr5) (fun r hr => ?_)
    subst hr
    show ab_Ex X (d + 5) 256 37 [(0, .ref 64), (1, .int x0)] [.int r5] ab_SH (ab_dD r1) _
    refine ab_Ex.ifc (c := r5 = 0) (SA := (49, [(0, .ref 64), (1, .int x0)], [], ab_dD r1)) (SB := (40, [(0, .ref 64), (1, .int x0)], [], ab_dD r1)) (fun n => rfl) (fun c6 => ?_) (fun c6 => ?_)
    · replace hf := (if_pos c6).symm.trans hf
      refine ab_Ex.blk (k := 1) (pc' := 50) (lv' := []) (st' := [.int ((-1))]) (sh' := ab_SH) (D' := ab_dD r1) (fun n => rfl) ?_
      obtain rfl := Option.some.inj hf
      exact ab_Ex.ret (fun n => rfl) rfl
    · replace hf := (if_neg c6).symm.trans hf
      refine ab_Ex.blk (k := 5) (pc' := 50) (lv' := []) (st' := [.int ((((r1).1 64 22) - 1))]) (sh' := ab_SH) (D' := ab_dD r1) (fun n => rfl) ?_
      obtain rfl := Option.some.inj hf
      exact ab_Ex.ret (fun n => rfl) rfl
  · replace hf := (if_neg c2).symm.trans hf
    refine ab_Ex.blk (k := 1) (pc' := 50) (lv' := []) (st' := [.int ((-1))]) (sh' := ab_SH) (D' := ab_dD r1) (fun n => rfl) ?_
    obtain rfl := Option.some.inj hf
    exact ab_Ex.ret (fun n => rfl) rfl
def fX12_homing_J117  (k35 : Int32 → Int32 → Int32 → Int32 → Int32 → Int32 → abJ → Option (Int32 × abJ)) (y1 : Int32) (y2 : Int32) (y3 : Int32) (y4 : Int32) (y5 : Int32) (y6 : Int32) (h : abJ) : Option (Int32 × abJ) := k35 y1 y2 y3 y4 y5 ((y6 + 1)) h
def fX12_homing_J100  (k35 : Int32 → Int32 → Int32 → Int32 → Int32 → Int32 → abJ → Option (Int32 × abJ)) (y1 : Int32) (y2 : Int32) (y3 : Int32) (y5 : Int32) (y6 : Int32) (y7 : Int32) (t0 : Int32) (h : abJ) : Option (Int32 × abJ) := if y7 < y2 then fX12_homing_J117 k35 y1 y7 y6 t0 y5 y6 h else fX12_homing_J117 k35 y1 y2 y3 t0 y5 y6 h
def fX12_homing_J72  (k35 : Int32 → Int32 → Int32 → Int32 → Int32 → Int32 → abJ → Option (Int32 × abJ)) (y1 : Int32) (y2 : Int32) (y3 : Int32) (y4 : Int32) (y5 : Int32) (y6 : Int32) (t0 : Int32) (h : abJ) : Option (Int32 × abJ) := if t0 = (-1) then fX12_homing_J117 k35 y1 y2 y3 y4 y5 y6 h else if t0 ≤ y4 then fX12_homing_J100 k35 y1 y2 y3 ((y5 + 1)) y6 t0 y4 h else fX12_homing_J100 k35 y1 y2 y3 ((y5 + 1)) y6 t0 t0 h
def fX12_homing_L35   : Nat → Int32 → Int32 → Int32 → Int32 → Int32 → Int32 → abJ → Option (Int32 × abJ)
  | 0, _, _, _, _, _, _, _ => none
  | n + 1, y1, y2, y3, y4, y5, y6, h => if 729 ≤ y6 then if y1 = 3 then some (y5, h) else if y5 = 0 then some ((-1), h) else if y1 = 0 then some (y2, h) else if y1 = 1 then some (y3, h) else some (y4, h) else (fX12_areArms y6 h).bind (fun r8 => if r8 = 0 then fX12_homing_J72 (fun y1 y2 y3 y4 y5 y6 h => fX12_homing_L35 n y1 y2 y3 y4 y5 y6 h) y1 y2 y3 y4 y5 y6 ((-1)) h else (fX12_standOf ((h.1 65 33)) y6 h).bind (fun r13 => (fX12_homeFrom r13 h).bind (fun r14 => fX12_homing_J72 (fun y1 y2 y3 y4 y5 y6 h => fX12_homing_L35 n y1 y2 y3 y4 y5 y6 h) y1 y2 y3 y4 y5 y6 r14.1 r14.2)))
def fX12_homing (x0 : Int32) (h : abJ) : Option (Int32 × abJ) := (fX12_within ((x0 : Int32).toInt64) 0 3 (ab_wI h 64 0 0)).bind (fun r1 => if r1 = 0 then some ((-2), (ab_wI h 64 0 0)) else fX12_homing_L35 ab_N x0 268435456 ((-1)) ((-1)) 0 0 (ab_wI h 64 0 0))
set_option maxRecDepth 20000 in
theorem sX12_homing_J117 (d : Nat) (X : abX) (k35 : Int32 → Int32 → Int32 → Int32 → Int32 → Int32 → abJ → Option (Int32 × abJ)) (hk35 : ∀ (y1 : Int32) (y2 : Int32) (y3 : Int32) (y4 : Int32) (y5 : Int32) (y6 : Int32) (h : abJ) (z : (Int32 × abJ)), k35 y1 y2 y3 y4 y5 y6 h = some z → ab_Ex X (d + 6) 257 35 [(0, .ref 64), (1, .int y1), (2, .int y2), (3, .int y3), (4, .int y4), (5, .int y5), (6, .int y6)] [] ab_SH (ab_dD h) (fun r => r = (some (.int z.1), ab_SH, ab_dD z.2))) : ∀ (y1 : Int32) (y2 : Int32) (y3 : Int32) (y4 : Int32) (y5 : Int32) (y6 : Int32) (h : abJ) (z : (Int32 × abJ)), fX12_homing_J117 k35 y1 y2 y3 y4 y5 y6 h = some z → ab_Ex X (d + 6) 257 117 [(0, .ref 64), (1, .int y1), (2, .int y2), (3, .int y3), (4, .int y4), (5, .int y5), (6, .int y6)] [] ab_SH (ab_dD h) (fun r => r = (some (.int z.1), ab_SH, ab_dD z.2)) := by
  intro y1 y2 y3 y4 y5 y6 h z hf
  unfold fX12_homing_J117 at hf
  refine ab_Ex.blk (k := 2) (pc' := 35) (lv' := [(0, .ref 64), (1, .int y1), (2, .int y2), (3, .int y3), (4, .int y4), (5, .int y5), (6, .int ((y6 + 1)))]) (st' := []) (sh' := ab_SH) (D' := ab_dD h) (fun n => rfl) ?_
  exact hk35 y1 y2 y3 y4 y5 ((y6 + 1)) h _ hf
set_option maxRecDepth 20000 in
theorem sX12_homing_J100 (d : Nat) (X : abX) (k35 : Int32 → Int32 → Int32 → Int32 → Int32 → Int32 → abJ → Option (Int32 × abJ)) (hk35 : ∀ (y1 : Int32) (y2 : Int32) (y3 : Int32) (y4 : Int32) (y5 : Int32) (y6 : Int32) (h : abJ) (z : (Int32 × abJ)), k35 y1 y2 y3 y4 y5 y6 h = some z → ab_Ex X (d + 6) 257 35 [(0, .ref 64), (1, .int y1), (2, .int y2), (3, .int y3), (4, .int y4), (5, .int y5), (6, .int y6)] [] ab_SH (ab_dD h) (fun r => r = (some (.int z.1), ab_SH, ab_dD z.2))) : ∀ (y1 : Int32) (y2 : Int32) (y3 : Int32) (y5 : Int32) (y6 : Int32) (y7 : Int32) (t0 : Int32) (h : abJ) (z : (Int32 × abJ)), fX12_homing_J100 k35 y1 y2 y3 y5 y6 y7 t0 h = some z → ab_Ex X (d + 6) 257 100 [(0, .ref 64), (1, .int y1), (2, .int y2), (3, .int y3), (5, .int y5), (6, .int y6), (7, .int y7)] [.int t0] ab_SH (ab_dD h) (fun r => r = (some (.int z.1), ab_SH, ab_dD z.2)) := by
  intro y1 y2 y3 y5 y6 y7 t0 h z hf
  unfold fX12_homing_J100 at hf
  refine ab_Ex.blk (k := 3) (pc' := 105) (lv' := [(4, .int t0), (0, .ref 64), (1, .int y1), (2, .int y2), (3, .int y3), (5, .int y5), (6, .int y6), (7, .int y7)]) (st' := [.int y2, .int y7]) (sh' := ab_SH) (D' := ab_dD h) (fun n => rfl) ?_
  refine ab_Ex.ifc (c := y7 < y2) (SA := (111, [(4, .int t0), (0, .ref 64), (1, .int y1), (2, .int y2), (3, .int y3), (5, .int y5), (6, .int y6), (7, .int y7)], [], ab_dD h)) (SB := (108, [(4, .int t0), (0, .ref 64), (1, .int y1), (2, .int y2), (3, .int y3), (5, .int y5), (6, .int y6), (7, .int y7)], [], ab_dD h)) (fun n => rfl) (fun c12 => ?_) (fun c12 => ?_)
  · replace hf := (if_pos c12).symm.trans hf
    refine ab_Ex.blk (k := 4) (pc' := 117) (lv' := [(0, .ref 64), (1, .int y1), (2, .int y7), (3, .int y6), (4, .int t0), (5, .int y5), (6, .int y6)]) (st' := []) (sh' := ab_SH) (D' := ab_dD h) (fun n => rfl) ?_
    exact sX12_homing_J117 d X k35 hk35 y1 y7 y6 t0 y5 y6 h _ hf
  · replace hf := (if_neg c12).symm.trans hf
    refine ab_Ex.blk (k := 1) (pc' := 117) (lv' := [(0, .ref 64), (1, .int y1), (2, .int y2), (3, .int y3), (4, .int t0), (5, .int y5), (6, .int y6)]) (st' := []) (sh' := ab_SH) (D' := ab_dD h) (fun n => rfl) ?_
    exact sX12_homing_J117 d X k35 hk35 y1 y2 y3 t0 y5 y6 h _ hf
set_option maxRecDepth 20000 in
theorem sX12_homing_J72 (d : Nat) (X : abX) (k35 : Int32 → Int32 → Int32 → Int32 → Int32 → Int32 → abJ → Option (Int32 × abJ)) (hk35 : ∀ (y1 : Int32) (y2 : Int32) (y3 : Int32) (y4 : Int32) (y5 : Int32) (y6 : Int32) (h : abJ) (z : (Int32 × abJ)), k35 y1 y2 y3 y4 y5 y6 h = some z → ab_Ex X (d + 6) 257 35 [(0, .ref 64), (1, .int y1), (2, .int y2), (3, .int y3), (4, .int y4), (5, .int y5), (6, .int y6)] [] ab_SH (ab_dD h) (fun r => r = (some (.int z.1), ab_SH, ab_dD z.2))) : ∀ (y1 : Int32) (y2 : Int32) (y3 : Int32) (y4 : Int32) (y5 : Int32) (y6 : Int32) (t0 : Int32) (h : abJ) (z : (Int32 × abJ)), fX12_homing_J72 k35 y1 y2 y3 y4 y5 y6 t0 h = some z → ab_Ex X (d + 6) 257 72 [(0, .ref 64), (1, .int y1), (2, .int y2), (3, .int y3), (4, .int y4), (5, .int y5), (6, .int y6)] [.int t0] ab_SH (ab_dD h) (fun r => r = (some (.int z.1), ab_SH, ab_dD z.2)) := by
  intro y1 y2 y3 y4 y5 y6 t0 h z hf
  unfold fX12_homing_J72 at hf
  refine ab_Ex.blk (k := 3) (pc' := 77) (lv' := [(7, .int t0), (0, .ref 64), (1, .int y1), (2, .int y2), (3, .int y3), (4, .int y4), (5, .int y5), (6, .int y6)]) (st' := [.int ((-1)), .int t0]) (sh' := ab_SH) (D' := ab_dD h) (fun n => rfl) ?_
  refine ab_Ex.ifc (c := t0 = (-1)) (SA := (80, [(7, .int t0), (0, .ref 64), (1, .int y1), (2, .int y2), (3, .int y3), (4, .int y4), (5, .int y5), (6, .int y6)], [], ab_dD h)) (SB := (83, [(7, .int t0), (0, .ref 64), (1, .int y1), (2, .int y2), (3, .int y3), (4, .int y4), (5, .int y5), (6, .int y6)], [], ab_dD h)) (fun n => rfl) (fun c10 => ?_) (fun c10 => ?_)
  · replace hf := (if_pos c10).symm.trans hf
    refine ab_Ex.blk (k := 1) (pc' := 117) (lv' := [(0, .ref 64), (1, .int y1), (2, .int y2), (3, .int y3), (4, .int y4), (5, .int y5), (6, .int y6)]) (st' := []) (sh' := ab_SH) (D' := ab_dD h) (fun n => rfl) ?_
    exact sX12_homing_J117 d X k35 hk35 y1 y2 y3 y4 y5 y6 h _ hf
  · replace hf := (if_neg c10).symm.trans hf
    refine ab_Ex.blk (k := 3) (pc' := 90) (lv' := [(5, .int ((y5 + 1))), (7, .int t0), (0, .ref 64), (1, .int y1), (2, .int y2), (3, .int y3), (4, .int y4), (6, .int y6)]) (st' := [.int y4, .int t0]) (sh' := ab_SH) (D' := ab_dD h) (fun n => rfl) ?_
    refine ab_Ex.ifc (c := t0 ≤ y4) (SA := (98, [(5, .int ((y5 + 1))), (7, .int t0), (0, .ref 64), (1, .int y1), (2, .int y2), (3, .int y3), (4, .int y4), (6, .int y6)], [], ab_dD h)) (SB := (93, [(5, .int ((y5 + 1))), (7, .int t0), (0, .ref 64), (1, .int y1), (2, .int y2), (3, .int y3), (4, .int y4), (6, .int y6)], [], ab_dD h)) (fun n => rfl) (fun c11 => ?_) (fun c11 => ?_)
    · replace hf := (if_pos c11).symm.trans hf
      refine ab_Ex.blk (k := 1) (pc' := 100) (lv' := [(0, .ref 64), (1, .int y1), (2, .int y2), (3, .int y3), (5, .int ((y5 + 1))), (6, .int y6), (7, .int t0)]) (st' := [.int y4]) (sh' := ab_SH) (D' := ab_dD h) (fun n => rfl) ?_
      exact sX12_homing_J100 d X k35 hk35 y1 y2 y3 ((y5 + 1)) y6 t0 y4 h _ hf
    · replace hf := (if_neg c11).symm.trans hf
      refine ab_Ex.blk (k := 2) (pc' := 100) (lv' := [(0, .ref 64), (1, .int y1), (2, .int y2), (3, .int y3), (5, .int ((y5 + 1))), (6, .int y6), (7, .int t0)]) (st' := [.int t0]) (sh' := ab_SH) (D' := ab_dD h) (fun n => rfl) ?_
      exact sX12_homing_J100 d X k35 hk35 y1 y2 y3 ((y5 + 1)) y6 t0 t0 h _ hf
set_option maxRecDepth 20000 in
theorem sX12_homing_L35 (d : Nat) (X : abX)   : ∀ (n : Nat), ∀ (y1 : Int32) (y2 : Int32) (y3 : Int32) (y4 : Int32) (y5 : Int32) (y6 : Int32) (h : abJ) (z : (Int32 × abJ)), fX12_homing_L35 n y1 y2 y3 y4 y5 y6 h = some z → ab_Ex X (d + 6) 257 35 [(0, .ref 64), (1, .int y1), (2, .int y2), (3, .int y3), (4, .int y4), (5, .int y5), (6, .int y6)] [] ab_SH (ab_dD h) (fun r => r = (some (.int z.1), ab_SH, ab_dD z.2)) := by
  intro n
  induction n with
  | zero => intro y1 y2 y3 y4 y5 y6 h z hf; cases hf
  | succ n ih =>
    intro y1 y2 y3 y4 y5 y6 h z hf
    rw [fX12_homing_L35] at hf
    refine ab_Ex.blk (k := 2) (pc' := 40) (lv' := [(0, .ref 64), (1, .int y1), (2, .int y2), (3, .int y3), (4, .int y4), (5, .int y5), (6, .int y6)]) (st' := [.int 729, .int y6]) (sh' := ab_SH) (D' := ab_dD h) (fun n => rfl) ?_
    refine ab_Ex.ifc (c := 729 ≤ y6) (SA := (123, [(0, .ref 64), (1, .int y1), (2, .int y2), (3, .int y3), (4, .int y4), (5, .int y5), (6, .int y6)], [], ab_dD h)) (SB := (43, [(0, .ref 64), (1, .int y1), (2, .int y2), (3, .int y3), (4, .int y4), (5, .int y5), (6, .int y6)], [], ab_dD h)) (fun n => rfl) (fun c3 => ?_) (fun c3 => ?_)
    · replace hf := (if_pos c3).symm.trans hf
      refine ab_Ex.blk (k := 2) (pc' := 125) (lv' := [(0, .ref 64), (1, .int y1), (2, .int y2), (3, .int y3), (4, .int y4), (5, .int y5), (6, .int y6)]) (st' := [.int 3, .int y1]) (sh' := ab_SH) (D' := ab_dD h) (fun n => rfl) ?_
      refine ab_Ex.ifc (c := y1 = 3) (SA := (128, [(0, .ref 64), (1, .int y1), (2, .int y2), (3, .int y3), (4, .int y4), (5, .int y5), (6, .int y6)], [], ab_dD h)) (SB := (133, [(0, .ref 64), (1, .int y1), (2, .int y2), (3, .int y3), (4, .int y4), (5, .int y5), (6, .int y6)], [], ab_dD h)) (fun n => rfl) (fun c4 => ?_) (fun c4 => ?_)
      · replace hf := (if_pos c4).symm.trans hf
        refine ab_Ex.blk (k := 2) (pc' := 161) (lv' := []) (st' := [.int y5]) (sh' := ab_SH) (D' := ab_dD h) (fun n => rfl) ?_
        obtain rfl := Option.some.inj hf
        exact ab_Ex.ret (fun n => rfl) rfl
      · replace hf := (if_neg c4).symm.trans hf
        refine ab_Ex.blk (k := 1) (pc' := 135) (lv' := [(0, .ref 64), (1, .int y1), (2, .int y2), (3, .int y3), (4, .int y4), (5, .int y5), (6, .int y6)]) (st' := [.int y5]) (sh' := ab_SH) (D' := ab_dD h) (fun n => rfl) ?_
        refine ab_Ex.ifc (c := y5 = 0) (SA := (138, [(0, .ref 64), (1, .int y1), (2, .int y2), (3, .int y3), (4, .int y4), (5, .int y5), (6, .int y6)], [], ab_dD h)) (SB := (142, [(0, .ref 64), (1, .int y1), (2, .int y2), (3, .int y3), (4, .int y4), (5, .int y5), (6, .int y6)], [], ab_dD h)) (fun n => rfl) (fun c5 => ?_) (fun c5 => ?_)
        · replace hf := (if_pos c5).symm.trans hf
          refine ab_Ex.blk (k := 2) (pc' := 161) (lv' := []) (st' := [.int ((-1))]) (sh' := ab_SH) (D' := ab_dD h) (fun n => rfl) ?_
          obtain rfl := Option.some.inj hf
          exact ab_Ex.ret (fun n => rfl) rfl
        · replace hf := (if_neg c5).symm.trans hf
          refine ab_Ex.blk (k := 1) (pc' := 143) (lv' := [(0, .ref 64), (1, .int y1), (2, .int y2), (3, .int y3), (4, .int y4), (5, .int y5), (6, .int y6)]) (st' := [.int y1]) (sh' := ab_SH) (D' := ab_dD h) (fun n => rfl) ?_
          refine ab_Ex.ifc (c := y1 = 0) (SA := (146, [(0, .ref 64), (1, .int y1), (2, .int y2), (3, .int y3), (4, .int y4), (5, .int y5), (6, .int y6)], [], ab_dD h)) (SB := (150, [(0, .ref 64), (1, .int y1), (2, .int y2), (3, .int y3), (4, .int y4), (5, .int y5), (6, .int y6)], [], ab_dD h)) (fun n => rfl) (fun c6 => ?_) (fun c6 => ?_)
          · replace hf := (if_pos c6).symm.trans hf
            refine ab_Ex.blk (k := 2) (pc' := 161) (lv' := []) (st' := [.int y2]) (sh' := ab_SH) (D' := ab_dD h) (fun n => rfl) ?_
            obtain rfl := Option.some.inj hf
            exact ab_Ex.ret (fun n => rfl) rfl
          · replace hf := (if_neg c6).symm.trans hf
            refine ab_Ex.blk (k := 2) (pc' := 152) (lv' := [(0, .ref 64), (1, .int y1), (2, .int y2), (3, .int y3), (4, .int y4), (5, .int y5), (6, .int y6)]) (st' := [.int 1, .int y1]) (sh' := ab_SH) (D' := ab_dD h) (fun n => rfl) ?_
            refine ab_Ex.ifc (c := y1 = 1) (SA := (155, [(0, .ref 64), (1, .int y1), (2, .int y2), (3, .int y3), (4, .int y4), (5, .int y5), (6, .int y6)], [], ab_dD h)) (SB := (159, [(0, .ref 64), (1, .int y1), (2, .int y2), (3, .int y3), (4, .int y4), (5, .int y5), (6, .int y6)], [], ab_dD h)) (fun n => rfl) (fun c7 => ?_) (fun c7 => ?_)
            · replace hf := (if_pos c7).symm.trans hf
              refine ab_Ex.blk (k := 2) (pc' := 161) (lv' := []) (st' := [.int y3]) (sh' := ab_SH) (D' := ab_dD h) (fun n => rfl) ?_
              obtain rfl := Option.some.inj hf
              exact ab_Ex.ret (fun n => rfl) rfl
            · replace hf := (if_neg c7).symm.trans hf
              refine ab_Ex.blk (k := 1) (pc' := 161) (lv' := []) (st' := [.int y4]) (sh' := ab_SH) (D' := ab_dD h) (fun n => rfl) ?_
              obtain rfl := Option.some.inj hf
              exact ab_Ex.ret (fun n => rfl) rfl
    · replace hf := (if_neg c3).symm.trans hf
      refine ab_Ex.blk (k := 2) (pc' := 46) (lv' := [(0, .ref 64), (1, .int y1), (2, .int y2), (3, .int y3), (4, .int y4), (5, .int y5), (6, .int y6)]) (st' := [.int y6, .ref 64]) (sh' := ab_SH) (D' := ab_dD h) (fun n => rfl) ?_
      obtain ⟨r8, hr8, hf⟩ := ab_bind_s hf
      refine ab_Ex.call (d := d + 5) (M2 := 219) (as := [.ref 64, .int y6]) (rest := []) (fun n => rfl) rfl (Nat.not_lt.mpr (Nat.le_of_ble_eq_true rfl)) (sX12_areArms (d + 3) X y6 h _ hr8) (fun r hr => ?_)
      subst hr
      show ab_Ex X (d + 6) 257 49 [(0, .ref 64), (1, .int y1), (2, .int y2), (3, .int y3), (4, .int y4), (5, .int y5), (6, .int y6)] [.int r8] ab_SH (ab_dD h) _
      refine ab_Ex.ifc (c := r8 = 0) (SA := (71, [(0, .ref 64), (1, .int y1), (2, .int y2), (3, .int y3), (4, .int y4), (5, .int y5), (6, .int y6)], [], ab_dD h)) (SB := (52, [(0, .ref 64), (1, .int y1), (2, .int y2), (3, .int y3), (4, .int y4), (5, .int y5), (6, .int y6)], [], ab_dD h)) (fun n => rfl) (fun c9 => ?_) (fun c9 => ?_)
      · replace hf := (if_pos c9).symm.trans hf
        refine ab_Ex.blk (k := 1) (pc' := 72) (lv' := [(0, .ref 64), (1, .int y1), (2, .int y2), (3, .int y3), (4, .int y4), (5, .int y5), (6, .int y6)]) (st' := [.int ((-1))]) (sh' := ab_SH) (D' := ab_dD h) (fun n => rfl) ?_
        exact sX12_homing_J72 d X (fun y1 y2 y3 y4 y5 y6 h => fX12_homing_L35 n y1 y2 y3 y4 y5 y6 h) (fun y1 y2 y3 y4 y5 y6 h z hz => ih y1 y2 y3 y4 y5 y6 h z hz) y1 y2 y3 y4 y5 y6 ((-1)) h _ hf
      · replace hf := (if_neg c9).symm.trans hf
        refine ab_Ex.blk (k := 4) (pc' := 59) (lv' := [(0, .ref 64), (1, .int y1), (2, .int y2), (3, .int y3), (4, .int y4), (5, .int y5), (6, .int y6)]) (st' := [.int 33, .ref 65, .ref 64]) (sh' := ab_SH) (D' := ab_dD h) (fun n => rfl) ?_
        refine ab_Ex.blk (k := 1) (pc' := 60) (lv' := [(0, .ref 64), (1, .int y1), (2, .int y2), (3, .int y3), (4, .int y4), (5, .int y5), (6, .int y6)]) (st' := [.int ((h.1 65 33)), .ref 64]) (sh' := ab_SH) (D' := ab_dD h) (fun n => rfl) ?_
        refine ab_Ex.blk (k := 1) (pc' := 62) (lv' := [(0, .ref 64), (1, .int y1), (2, .int y2), (3, .int y3), (4, .int y4), (5, .int y5), (6, .int y6)]) (st' := [.int y6, .int ((h.1 65 33)), .ref 64]) (sh' := ab_SH) (D' := ab_dD h) (fun n => rfl) ?_
        obtain ⟨r13, hr13, hf⟩ := ab_bind_s hf
        refine ab_Ex.call (d := d + 5) (M2 := 215) (as := [.int ((h.1 65 33)), .int y6]) (rest := [.ref 64]) (fun n => rfl) rfl (Nat.not_lt.mpr (Nat.le_of_ble_eq_true rfl)) (sX12_standOf (d + 5) X ((h.1 65 33)) y6 h _ hr13) (fun r hr => ?_)
        subst hr
        show ab_Ex X (d + 6) 257 65 [(0, .ref 64), (1, .int y1), (2, .int y2), (3, .int y3), (4, .int y4), (5, .int y5), (6, .int y6)] [.int r13, .ref 64] ab_SH (ab_dD h) _
        obtain ⟨r14, hr14, hf⟩ := ab_bind_s hf
        refine ab_Ex.call (d := d + 5) (M2 := 256) (as := [.ref 64, .int r13]) (rest := []) (fun n => rfl) rfl (Nat.not_lt.mpr (Nat.le_of_ble_eq_true rfl)) (sX12_homeFrom (d) X r13 h _ hr14) (fun r hr => ?_)
        subst hr
        show ab_Ex X (d + 6) 257 68 [(0, .ref 64), (1, .int y1), (2, .int y2), (3, .int y3), (4, .int y4), (5, .int y5), (6, .int y6)] [.int r14.1] ab_SH (ab_dD r14.2) _
        refine ab_Ex.blk (k := 1) (pc' := 72) (lv' := [(0, .ref 64), (1, .int y1), (2, .int y2), (3, .int y3), (4, .int y4), (5, .int y5), (6, .int y6)]) (st' := [.int r14.1]) (sh' := ab_SH) (D' := ab_dD r14.2) (fun n => rfl) ?_
        exact sX12_homing_J72 d X (fun y1 y2 y3 y4 y5 y6 h => fX12_homing_L35 n y1 y2 y3 y4 y5 y6 h) (fun y1 y2 y3 y4 y5 y6 h z hz => ih y1 y2 y3 y4 y5 y6 h z hz) y1 y2 y3 y4 y5 y6 r14.1 r14.2 _ hf
set_option maxRecDepth 20000 in
theorem sX12_homing (d : Nat) (X : abX) (x0 : Int32) (h : abJ) (z : (Int32 × abJ)) (hf : fX12_homing x0 h = some z) : ab_Ex X (d + 6) 257 0 [(0, .ref 64), (1, .int x0)] [] ab_SH (ab_dD h) (fun r => r = (some (.int z.1), ab_SH, ab_dD z.2)) := by
  unfold fX12_homing at hf
  refine ab_Ex.blk (k := 7) (pc' := 11) (lv' := [(0, .ref 64), (1, .int x0)]) (st' := [.long 3, .long 0, .long ((x0 : Int32).toInt64)]) (sh' := ab_SH) (D' := ab_dD (ab_wI h 64 0 0)) (fun n => rfl) ?_
  obtain ⟨r1, hr1, hf⟩ := ab_bind_s hf
  refine ab_Ex.call (d := d + 5) (M2 := 175) (as := [.long ((x0 : Int32).toInt64), .long 0, .long 3]) (rest := []) (fun n => rfl) rfl (Nat.not_lt.mpr (Nat.le_of_ble_eq_true rfl)) (sX12_within (d + 5) X ((x0 : Int32).toInt64) 0 3 (ab_wI h 64 0 0) _ hr1) (fun r hr => ?_)
  subst hr
  show ab_Ex X (d + 6) 257 14 [(0, .ref 64), (1, .int x0)] [.int r1] ab_SH (ab_dD (ab_wI h 64 0 0)) _
  refine ab_Ex.ifc (c := r1 = 0) (SA := (17, [(0, .ref 64), (1, .int x0)], [], ab_dD (ab_wI h 64 0 0))) (SB := (20, [(0, .ref 64), (1, .int x0)], [], ab_dD (ab_wI h 64 0 0))) (fun n => rfl) (fun c2 => ?_) (fun c2 => ?_)
  · replace hf := (if_pos c2).symm.trans hf
    refine ab_Ex.blk (k := 1) (pc' := 19) (lv' := [(0, .ref 64), (1, .int x0)]) (st' := [.int ((-2))]) (sh' := ab_SH) (D' := ab_dD (ab_wI h 64 0 0)) (fun n => rfl) ?_
    obtain rfl := Option.some.inj hf
    exact ab_Ex.ret (fun n => rfl) rfl
  · replace hf := (if_neg c2).symm.trans hf
    refine ab_Ex.blk (k := 10) (pc' := 35) (lv' := [(0, .ref 64), (1, .int x0), (2, .int 268435456), (3, .int ((-1))), (4, .int ((-1))), (5, .int 0), (6, .int 0)]) (st' := []) (sh' := ab_SH) (D' := ab_dD (ab_wI h 64 0 0)) (fun n => rfl) ?_
    exact sX12_homing_L35 d X  ab_N x0 268435456 ((-1)) ((-1)) 0 0 (ab_wI h 64 0 0) _ hf
def fX12_laysCost_J186  (k44 : Int32 → Int32 → abJ → Option abJ) (y1 : Int32) (y2 : Int32) (h : abJ) : Option abJ := k44 y1 ((y2 + 1)) h
def fX12_laysCost_J180  (k82 : Int32 → Int32 → Int32 → Int32 → abJ → Option abJ) (y1 : Int32) (y2 : Int32) (y3 : Int32) (y4 : Int32) (h : abJ) : Option abJ := k82 y1 y2 y3 ((y4 + 1)) h
def fX12_laysCost_J124  (k82 : Int32 → Int32 → Int32 → Int32 → abJ → Option abJ) (y1 : Int32) (y2 : Int32) (y3 : Int32) (y4 : Int32) (t0 : Int32) (t1 : Int32) (h : abJ) : Option abJ := (fX12_withArm ((y2 / 6)) y3 y4 h).bind (fun r18 => (fX12_standOf y3 r18 h).bind (fun r19 => (fX12_stepTo r19 ((h.1 65 40)) h).bind (fun r20 => ab_ask (r20.1 < 0 ∨ 4374 ≤ (r20.1 : Int32).toNatClampNeg) (if (t0 + t1) < (r20.2.1 74 (r20.1 : Int32).toNatClampNeg) then ab_ask (r20.1 < 0 ∨ 4374 ≤ (r20.1 : Int32).toNatClampNeg) (fX12_laysCost_J180 k82 1 y2 y3 y4 (ab_wI r20.2 74 (r20.1 : Int32).toNatClampNeg (t0 + t1))) else fX12_laysCost_J180 k82 y1 y2 y3 y4 r20.2))))
def fX12_laysCost_L82  (k44 : Int32 → Int32 → abJ → Option abJ) : Nat → Int32 → Int32 → Int32 → Int32 → abJ → Option abJ
  | 0, _, _, _, _, _ => none
  | n + 1, y1, y2, y3, y4, h => ab_ask ((9 + y3) < 0 ∨ 3102 ≤ ((9 + y3) : Int32).toNatClampNeg) (if (h.1 65 ((9 + y3) : Int32).toNatClampNeg) ≤ y4 then fX12_laysCost_J186 k44 y1 y2 h else ab_ask (y2 < 0 ∨ 4374 ≤ (y2 : Int32).toNatClampNeg) ((fX12_armIn ((y2 / 6)) y3 h).bind (fun r16 => if y4 = r16 then fX12_laysCost_J124 (fun y1 y2 y3 y4 h => fX12_laysCost_L82 k44 n y1 y2 y3 y4 h) y1 y2 y3 y4 (((h.1 74 (y2 : Int32).toNatClampNeg) + 1)) 0 h else fX12_laysCost_J124 (fun y1 y2 y3 y4 h => fX12_laysCost_L82 k44 n y1 y2 y3 y4 h) y1 y2 y3 y4 (((h.1 74 (y2 : Int32).toNatClampNeg) + 1)) 10000 h)))
def fX12_laysCost_L44  (k36 : Int32 → abJ → Option abJ) : Nat → Int32 → Int32 → abJ → Option abJ
  | 0, _, _, _ => none
  | n + 1, y1, y2, h => if 4374 ≤ y2 then k36 y1 h else ab_ask (y2 < 0 ∨ 4374 ≤ (y2 : Int32).toNatClampNeg) (if (h.1 74 (y2 : Int32).toNatClampNeg) = 268435456 then fX12_laysCost_J186 (fun y1 y2 h => fX12_laysCost_L44 k36 n y1 y2 h) y1 y2 h else (fX12_isRest ((y2 - y2 / 6 * 6)) h).bind (fun r9 => if r9 = 0 then fX12_laysCost_L82 (fun y1 y2 h => fX12_laysCost_L44 k36 n y1 y2 h) ab_N y1 y2 ((y2 - y2 / 6 * 6)) 0 h else fX12_laysCost_J186 (fun y1 y2 h => fX12_laysCost_L44 k36 n y1 y2 h) y1 y2 h))
def fX12_laysCost_L36   : Nat → Int32 → abJ → Option abJ
  | 0, _, _ => none
  | n + 1, y1, h => if y1 = 0 then some h else fX12_laysCost_L44 (fun y1 h => fX12_laysCost_L36 n y1 h) ab_N 0 0 h
def fX12_laysCost_L2   : Nat → Int32 → abJ → Option abJ
  | 0, _, _ => none
  | n + 1, y1, h => if 4374 ≤ y1 then (fX12_standNow h).bind (fun r2 => ab_ask (r2 < 0 ∨ 4374 ≤ (r2 : Int32).toNatClampNeg) (fX12_laysCost_L36 ab_N 1 (ab_wI h 74 (r2 : Int32).toNatClampNeg 0))) else ab_ask (y1 < 0 ∨ 4374 ≤ (y1 : Int32).toNatClampNeg) (fX12_laysCost_L2 n ((y1 + 1)) (ab_wI h 74 (y1 : Int32).toNatClampNeg 268435456))
def fX12_laysCost  (h : abJ) : Option abJ := fX12_laysCost_L2 ab_N 0 h
set_option maxRecDepth 20000 in
theorem sX12_laysCost_J186 (d : Nat) (X : abX) (k44 : Int32 → Int32 → abJ → Option abJ) (hk44 : ∀ (y1 : Int32) (y2 : Int32) (h : abJ) (z : abJ), k44 y1 y2 h = some z → ab_Ex X (d + 4) 258 44 [(0, .ref 64), (1, .int y1), (2, .int y2)] [] ab_SH (ab_dD h) (fun r => r = (none, ab_SH, ab_dD z))) : ∀ (y1 : Int32) (y2 : Int32) (h : abJ) (z : abJ), fX12_laysCost_J186 k44 y1 y2 h = some z → ab_Ex X (d + 4) 258 186 [(0, .ref 64), (1, .int y1), (2, .int y2)] [] ab_SH (ab_dD h) (fun r => r = (none, ab_SH, ab_dD z)) := by
  intro y1 y2 h z hf
  unfold fX12_laysCost_J186 at hf
  refine ab_Ex.blk (k := 2) (pc' := 44) (lv' := [(0, .ref 64), (1, .int y1), (2, .int ((y2 + 1)))]) (st' := []) (sh' := ab_SH) (D' := ab_dD h) (fun n => rfl) ?_
  exact hk44 y1 ((y2 + 1)) h _ hf
set_option maxRecDepth 20000 in
theorem sX12_laysCost_J180 (d : Nat) (X : abX) (k82 : Int32 → Int32 → Int32 → Int32 → abJ → Option abJ) (hk82 : ∀ (y1 : Int32) (y2 : Int32) (y3 : Int32) (y4 : Int32) (h : abJ) (z : abJ), k82 y1 y2 y3 y4 h = some z → ab_Ex X (d + 4) 258 82 [(0, .ref 64), (1, .int y1), (2, .int y2), (3, .int y3), (4, .int y4)] [] ab_SH (ab_dD h) (fun r => r = (none, ab_SH, ab_dD z))) : ∀ (y1 : Int32) (y2 : Int32) (y3 : Int32) (y4 : Int32) (h : abJ) (z : abJ), fX12_laysCost_J180 k82 y1 y2 y3 y4 h = some z → ab_Ex X (d + 4) 258 180 [(0, .ref 64), (1, .int y1), (2, .int y2), (3, .int y3), (4, .int y4)] [] ab_SH (ab_dD h) (fun r => r = (none, ab_SH, ab_dD z)) := by
  intro y1 y2 y3 y4 h z hf
  unfold fX12_laysCost_J180 at hf
  refine ab_Ex.blk (k := 2) (pc' := 82) (lv' := [(0, .ref 64), (1, .int y1), (2, .int y2), (3, .int y3), (4, .int ((y4 + 1)))]) (st' := []) (sh' := ab_SH) (D' := ab_dD h) (fun n => rfl) ?_
  exact hk82 y1 y2 y3 ((y4 + 1)) h _ hf
set_option maxRecDepth 20000 in
theorem sX12_laysCost_J124 (d : Nat) (X : abX) (k82 : Int32 → Int32 → Int32 → Int32 → abJ → Option abJ) (hk82 : ∀ (y1 : Int32) (y2 : Int32) (y3 : Int32) (y4 : Int32) (h : abJ) (z : abJ), k82 y1 y2 y3 y4 h = some z → ab_Ex X (d + 4) 258 82 [(0, .ref 64), (1, .int y1), (2, .int y2), (3, .int y3), (4, .int y4)] [] ab_SH (ab_dD h) (fun r => r = (none, ab_SH, ab_dD z))) : ∀ (y1 : Int32) (y2 : Int32) (y3 : Int32) (y4 : Int32) (t0 : Int32) (t1 : Int32) (h : abJ) (z : abJ), fX12_laysCost_J124 k82 y1 y2 y3 y4 t0 t1 h = some z → ab_Ex X (d + 4) 258 124 [(0, .ref 64), (1, .int y1), (2, .int y2), (3, .int y3), (4, .int y4)] [.int t1, .int t0] ab_SH (ab_dD h) (fun r => r = (none, ab_SH, ab_dD z)) := by
  intro y1 y2 y3 y4 t0 t1 h z hf
  unfold fX12_laysCost_J124 at hf
  refine ab_Ex.blk (k := 6) (pc' := 132) (lv' := [(5, .int ((t0 + t1))), (0, .ref 64), (1, .int y1), (2, .int y2), (3, .int y3), (4, .int y4)]) (st' := [.int 6, .int y2, .int y3, .ref 64]) (sh' := ab_SH) (D' := ab_dD h) (fun n => rfl) ?_
  refine ab_Ex.blk (k := 1) (pc' := 133) (lv' := [(5, .int ((t0 + t1))), (0, .ref 64), (1, .int y1), (2, .int y2), (3, .int y3), (4, .int y4)]) (st' := [.int ((y2 / 6)), .int y3, .ref 64]) (sh' := ab_SH) (D' := ab_dD h) (fun n => rfl) ?_
  refine ab_Ex.blk (k := 2) (pc' := 136) (lv' := [(5, .int ((t0 + t1))), (0, .ref 64), (1, .int y1), (2, .int y2), (3, .int y3), (4, .int y4)]) (st' := [.int y4, .int y3, .int ((y2 / 6)), .int y3, .ref 64]) (sh' := ab_SH) (D' := ab_dD h) (fun n => rfl) ?_
  obtain ⟨r18, hr18, hf⟩ := ab_bind_s hf
  refine ab_Ex.call (d := d + 3) (M2 := 213) (as := [.int ((y2 / 6)), .int y3, .int y4]) (rest := [.int y3, .ref 64]) (fun n => rfl) rfl (Nat.not_lt.mpr (Nat.le_of_ble_eq_true rfl)) (sX12_withArm (d + 1) X ((y2 / 6)) y3 y4 h _ hr18) (fun r hr => ?_)
  subst hr
  show ab_Ex X (d + 4) 258 139 [(5, .int ((t0 + t1))), (0, .ref 64), (1, .int y1), (2, .int y2), (3, .int y3), (4, .int y4)] [.int r18, .int y3, .ref 64] ab_SH (ab_dD h) _
  obtain ⟨r19, hr19, hf⟩ := ab_bind_s hf
  refine ab_Ex.call (d := d + 3) (M2 := 215) (as := [.int y3, .int r18]) (rest := [.ref 64]) (fun n => rfl) rfl (Nat.not_lt.mpr (Nat.le_of_ble_eq_true rfl)) (sX12_standOf (d + 3) X y3 r18 h _ hr19) (fun r hr => ?_)
  subst hr
  show ab_Ex X (d + 4) 258 142 [(5, .int ((t0 + t1))), (0, .ref 64), (1, .int y1), (2, .int y2), (3, .int y3), (4, .int y4)] [.int r19, .ref 64] ab_SH (ab_dD h) _
  refine ab_Ex.blk (k := 3) (pc' := 148) (lv' := [(5, .int ((t0 + t1))), (0, .ref 64), (1, .int y1), (2, .int y2), (3, .int y3), (4, .int y4)]) (st' := [.int 40, .ref 65, .int r19, .ref 64]) (sh' := ab_SH) (D' := ab_dD h) (fun n => rfl) ?_
  refine ab_Ex.blk (k := 1) (pc' := 149) (lv' := [(5, .int ((t0 + t1))), (0, .ref 64), (1, .int y1), (2, .int y2), (3, .int y3), (4, .int y4)]) (st' := [.int ((h.1 65 40)), .int r19, .ref 64]) (sh' := ab_SH) (D' := ab_dD h) (fun n => rfl) ?_
  obtain ⟨r20, hr20, hf⟩ := ab_bind_s hf
  refine ab_Ex.call (d := d + 3) (M2 := 224) (as := [.ref 64, .int r19, .int ((h.1 65 40))]) (rest := []) (fun n => rfl) rfl (Nat.not_lt.mpr (Nat.le_of_ble_eq_true rfl)) (sX12_stepTo (d) X r19 ((h.1 65 40)) h _ hr20) (fun r hr => ?_)
  subst hr
  show ab_Ex X (d + 4) 258 152 [(5, .int ((t0 + t1))), (0, .ref 64), (1, .int y1), (2, .int y2), (3, .int y3), (4, .int y4)] [.int r20.1] ab_SH (ab_dD r20.2) _
  refine ab_Ex.blk (k := 5) (pc' := 162) (lv' := [(6, .int r20.1), (5, .int ((t0 + t1))), (0, .ref 64), (1, .int y1), (2, .int y2), (3, .int y3), (4, .int y4)]) (st' := [.int r20.1, .ref 74, .int ((t0 + t1))]) (sh' := ab_SH) (D' := ab_dD r20.2) (fun n => rfl) ?_
  obtain ⟨c22, hf⟩ := ab_ask_s hf
  refine ab_Ex.grd (c := r20.1 < 0 ∨ 4374 ≤ (r20.1 : Int32).toNatClampNeg) (S := (163, [(6, .int r20.1), (5, .int ((t0 + t1))), (0, .ref 64), (1, .int y1), (2, .int y2), (3, .int y3), (4, .int y4)], [.int ((r20.2.1 74 (r20.1 : Int32).toNatClampNeg)), .int ((t0 + t1))], ab_dD r20.2)) (fun n => rfl) c22 ?_
  refine ab_Ex.ifc (c := (t0 + t1) < (r20.2.1 74 (r20.1 : Int32).toNatClampNeg)) (SA := (169, [(6, .int r20.1), (5, .int ((t0 + t1))), (0, .ref 64), (1, .int y1), (2, .int y2), (3, .int y3), (4, .int y4)], [], ab_dD r20.2)) (SB := (166, [(6, .int r20.1), (5, .int ((t0 + t1))), (0, .ref 64), (1, .int y1), (2, .int y2), (3, .int y3), (4, .int y4)], [], ab_dD r20.2)) (fun n => rfl) (fun c23 => ?_) (fun c23 => ?_)
  · replace hf := (if_pos c23).symm.trans hf
    refine ab_Ex.blk (k := 4) (pc' := 177) (lv' := [(6, .int r20.1), (5, .int ((t0 + t1))), (0, .ref 64), (1, .int y1), (2, .int y2), (3, .int y3), (4, .int y4)]) (st' := [.int ((t0 + t1)), .int r20.1, .ref 74]) (sh' := ab_SH) (D' := ab_dD r20.2) (fun n => rfl) ?_
    obtain ⟨c24, hf⟩ := ab_ask_s hf
    refine ab_Ex.grd (c := r20.1 < 0 ∨ 4374 ≤ (r20.1 : Int32).toNatClampNeg) (S := (178, [(6, .int r20.1), (5, .int ((t0 + t1))), (0, .ref 64), (1, .int y1), (2, .int y2), (3, .int y3), (4, .int y4)], [], ab_dD (ab_wI r20.2 74 (r20.1 : Int32).toNatClampNeg (t0 + t1)))) (fun n => rfl) c24 ?_
    refine ab_Ex.blk (k := 2) (pc' := 180) (lv' := [(0, .ref 64), (1, .int 1), (2, .int y2), (3, .int y3), (4, .int y4)]) (st' := []) (sh' := ab_SH) (D' := ab_dD (ab_wI r20.2 74 (r20.1 : Int32).toNatClampNeg (t0 + t1))) (fun n => rfl) ?_
    exact sX12_laysCost_J180 d X k82 hk82 1 y2 y3 y4 (ab_wI r20.2 74 (r20.1 : Int32).toNatClampNeg (t0 + t1)) _ hf
  · replace hf := (if_neg c23).symm.trans hf
    refine ab_Ex.blk (k := 1) (pc' := 180) (lv' := [(0, .ref 64), (1, .int y1), (2, .int y2), (3, .int y3), (4, .int y4)]) (st' := []) (sh' := ab_SH) (D' := ab_dD r20.2) (fun n => rfl) ?_
    exact sX12_laysCost_J180 d X k82 hk82 y1 y2 y3 y4 r20.2 _ hf
set_option maxRecDepth 20000 in
theorem sX12_laysCost_L82 (d : Nat) (X : abX) (k44 : Int32 → Int32 → abJ → Option abJ) (hk44 : ∀ (y1 : Int32) (y2 : Int32) (h : abJ) (z : abJ), k44 y1 y2 h = some z → ab_Ex X (d + 4) 258 44 [(0, .ref 64), (1, .int y1), (2, .int y2)] [] ab_SH (ab_dD h) (fun r => r = (none, ab_SH, ab_dD z))) : ∀ (n : Nat), ∀ (y1 : Int32) (y2 : Int32) (y3 : Int32) (y4 : Int32) (h : abJ) (z : abJ), fX12_laysCost_L82 k44 n y1 y2 y3 y4 h = some z → ab_Ex X (d + 4) 258 82 [(0, .ref 64), (1, .int y1), (2, .int y2), (3, .int y3), (4, .int y4)] [] ab_SH (ab_dD h) (fun r => r = (none, ab_SH, ab_dD z)) := by
  intro n
  induction n with
  | zero => intro y1 y2 y3 y4 h z hf; cases hf
  | succ n ih =>
    intro y1 y2 y3 y4 h z hf
    rw [fX12_laysCost_L82] at hf
    refine ab_Ex.blk (k := 6) (pc' := 92) (lv' := [(0, .ref 64), (1, .int y1), (2, .int y2), (3, .int y3), (4, .int y4)]) (st' := [.int ((9 + y3)), .ref 65, .int y4]) (sh' := ab_SH) (D' := ab_dD h) (fun n => rfl) ?_
    obtain ⟨c12, hf⟩ := ab_ask_s hf
    refine ab_Ex.grd (c := (9 + y3) < 0 ∨ 3102 ≤ ((9 + y3) : Int32).toNatClampNeg) (S := (93, [(0, .ref 64), (1, .int y1), (2, .int y2), (3, .int y3), (4, .int y4)], [.int ((h.1 65 ((9 + y3) : Int32).toNatClampNeg)), .int y4], ab_dD h)) (fun n => rfl) c12 ?_
    refine ab_Ex.ifc (c := (h.1 65 ((9 + y3) : Int32).toNatClampNeg) ≤ y4) (SA := (186, [(0, .ref 64), (1, .int y1), (2, .int y2), (3, .int y3), (4, .int y4)], [], ab_dD h)) (SB := (96, [(0, .ref 64), (1, .int y1), (2, .int y2), (3, .int y3), (4, .int y4)], [], ab_dD h)) (fun n => rfl) (fun c13 => ?_) (fun c13 => ?_)
    · replace hf := (if_pos c13).symm.trans hf
      exact sX12_laysCost_J186 d X k44 hk44 y1 y2 h _ hf
    · replace hf := (if_neg c13).symm.trans hf
      refine ab_Ex.blk (k := 3) (pc' := 101) (lv' := [(0, .ref 64), (1, .int y1), (2, .int y2), (3, .int y3), (4, .int y4)]) (st' := [.int y2, .ref 74]) (sh' := ab_SH) (D' := ab_dD h) (fun n => rfl) ?_
      obtain ⟨c15, hf⟩ := ab_ask_s hf
      refine ab_Ex.grd (c := y2 < 0 ∨ 4374 ≤ (y2 : Int32).toNatClampNeg) (S := (102, [(0, .ref 64), (1, .int y1), (2, .int y2), (3, .int y3), (4, .int y4)], [.int ((h.1 74 (y2 : Int32).toNatClampNeg))], ab_dD h)) (fun n => rfl) c15 ?_
      refine ab_Ex.blk (k := 5) (pc' := 109) (lv' := [(0, .ref 64), (1, .int y1), (2, .int y2), (3, .int y3), (4, .int y4)]) (st' := [.int 6, .int y2, .int y4, .int (((h.1 74 (y2 : Int32).toNatClampNeg) + 1))]) (sh' := ab_SH) (D' := ab_dD h) (fun n => rfl) ?_
      refine ab_Ex.blk (k := 1) (pc' := 110) (lv' := [(0, .ref 64), (1, .int y1), (2, .int y2), (3, .int y3), (4, .int y4)]) (st' := [.int ((y2 / 6)), .int y4, .int (((h.1 74 (y2 : Int32).toNatClampNeg) + 1))]) (sh' := ab_SH) (D' := ab_dD h) (fun n => rfl) ?_
      refine ab_Ex.blk (k := 1) (pc' := 111) (lv' := [(0, .ref 64), (1, .int y1), (2, .int y2), (3, .int y3), (4, .int y4)]) (st' := [.int y3, .int ((y2 / 6)), .int y4, .int (((h.1 74 (y2 : Int32).toNatClampNeg) + 1))]) (sh' := ab_SH) (D' := ab_dD h) (fun n => rfl) ?_
      obtain ⟨r16, hr16, hf⟩ := ab_bind_s hf
      refine ab_Ex.call (d := d + 3) (M2 := 212) (as := [.int ((y2 / 6)), .int y3]) (rest := [.int y4, .int (((h.1 74 (y2 : Int32).toNatClampNeg) + 1))]) (fun n => rfl) rfl (Nat.not_lt.mpr (Nat.le_of_ble_eq_true rfl)) (sX12_armIn (d + 2) X ((y2 / 6)) y3 h _ hr16) (fun r hr => ?_)
      subst hr
      show ab_Ex X (d + 4) 258 114 [(0, .ref 64), (1, .int y1), (2, .int y2), (3, .int y3), (4, .int y4)] [.int r16, .int y4, .int (((h.1 74 (y2 : Int32).toNatClampNeg) + 1))] ab_SH (ab_dD h) _
      refine ab_Ex.ifc (c := y4 = r16) (SA := (117, [(0, .ref 64), (1, .int y1), (2, .int y2), (3, .int y3), (4, .int y4)], [.int (((h.1 74 (y2 : Int32).toNatClampNeg) + 1))], ab_dD h)) (SB := (121, [(0, .ref 64), (1, .int y1), (2, .int y2), (3, .int y3), (4, .int y4)], [.int (((h.1 74 (y2 : Int32).toNatClampNeg) + 1))], ab_dD h)) (fun n => rfl) (fun c17 => ?_) (fun c17 => ?_)
      · replace hf := (if_pos c17).symm.trans hf
        refine ab_Ex.blk (k := 2) (pc' := 124) (lv' := [(0, .ref 64), (1, .int y1), (2, .int y2), (3, .int y3), (4, .int y4)]) (st' := [.int 0, .int (((h.1 74 (y2 : Int32).toNatClampNeg) + 1))]) (sh' := ab_SH) (D' := ab_dD h) (fun n => rfl) ?_
        exact sX12_laysCost_J124 d X (fun y1 y2 y3 y4 h => fX12_laysCost_L82 k44 n y1 y2 y3 y4 h) (fun y1 y2 y3 y4 h z hz => ih y1 y2 y3 y4 h z hz) y1 y2 y3 y4 (((h.1 74 (y2 : Int32).toNatClampNeg) + 1)) 0 h _ hf
      · replace hf := (if_neg c17).symm.trans hf
        refine ab_Ex.blk (k := 1) (pc' := 124) (lv' := [(0, .ref 64), (1, .int y1), (2, .int y2), (3, .int y3), (4, .int y4)]) (st' := [.int 10000, .int (((h.1 74 (y2 : Int32).toNatClampNeg) + 1))]) (sh' := ab_SH) (D' := ab_dD h) (fun n => rfl) ?_
        exact sX12_laysCost_J124 d X (fun y1 y2 y3 y4 h => fX12_laysCost_L82 k44 n y1 y2 y3 y4 h) (fun y1 y2 y3 y4 h z hz => ih y1 y2 y3 y4 h z hz) y1 y2 y3 y4 (((h.1 74 (y2 : Int32).toNatClampNeg) + 1)) 10000 h _ hf
set_option maxRecDepth 20000 in
theorem sX12_laysCost_L44 (d : Nat) (X : abX) (k36 : Int32 → abJ → Option abJ) (hk36 : ∀ (y1 : Int32) (h : abJ) (z : abJ), k36 y1 h = some z → ab_Ex X (d + 4) 258 36 [(0, .ref 64), (1, .int y1)] [] ab_SH (ab_dD h) (fun r => r = (none, ab_SH, ab_dD z))) : ∀ (n : Nat), ∀ (y1 : Int32) (y2 : Int32) (h : abJ) (z : abJ), fX12_laysCost_L44 k36 n y1 y2 h = some z → ab_Ex X (d + 4) 258 44 [(0, .ref 64), (1, .int y1), (2, .int y2)] [] ab_SH (ab_dD h) (fun r => r = (none, ab_SH, ab_dD z)) := by
  intro n
  induction n with
  | zero => intro y1 y2 h z hf; cases hf
  | succ n ih =>
    intro y1 y2 h z hf
    rw [fX12_laysCost_L44] at hf
    refine ab_Ex.blk (k := 2) (pc' := 48) (lv' := [(0, .ref 64), (1, .int y1), (2, .int y2)]) (st' := [.int 4374, .int y2]) (sh' := ab_SH) (D' := ab_dD h) (fun n => rfl) ?_
    refine ab_Ex.ifc (c := 4374 ≤ y2) (SA := (192, [(0, .ref 64), (1, .int y1), (2, .int y2)], [], ab_dD h)) (SB := (51, [(0, .ref 64), (1, .int y1), (2, .int y2)], [], ab_dD h)) (fun n => rfl) (fun c5 => ?_) (fun c5 => ?_)
    · replace hf := (if_pos c5).symm.trans hf
      refine ab_Ex.blk (k := 1) (pc' := 36) (lv' := [(0, .ref 64), (1, .int y1)]) (st' := []) (sh' := ab_SH) (D' := ab_dD h) (fun n => rfl) ?_
      exact hk36 y1 h _ hf
    · replace hf := (if_neg c5).symm.trans hf
      refine ab_Ex.blk (k := 2) (pc' := 54) (lv' := [(0, .ref 64), (1, .int y1), (2, .int y2)]) (st' := [.int 6, .int y2]) (sh' := ab_SH) (D' := ab_dD h) (fun n => rfl) ?_
      refine ab_Ex.blk (k := 1) (pc' := 55) (lv' := [(0, .ref 64), (1, .int y1), (2, .int y2)]) (st' := [.int ((y2 - y2 / 6 * 6))]) (sh' := ab_SH) (D' := ab_dD h) (fun n => rfl) ?_
      refine ab_Ex.blk (k := 4) (pc' := 61) (lv' := [(3, .int ((y2 - y2 / 6 * 6))), (0, .ref 64), (1, .int y1), (2, .int y2)]) (st' := [.int y2, .ref 74]) (sh' := ab_SH) (D' := ab_dD h) (fun n => rfl) ?_
      obtain ⟨c7, hf⟩ := ab_ask_s hf
      refine ab_Ex.grd (c := y2 < 0 ∨ 4374 ≤ (y2 : Int32).toNatClampNeg) (S := (62, [(3, .int ((y2 - y2 / 6 * 6))), (0, .ref 64), (1, .int y1), (2, .int y2)], [.int ((h.1 74 (y2 : Int32).toNatClampNeg))], ab_dD h)) (fun n => rfl) c7 ?_
      refine ab_Ex.blk (k := 1) (pc' := 65) (lv' := [(3, .int ((y2 - y2 / 6 * 6))), (0, .ref 64), (1, .int y1), (2, .int y2)]) (st' := [.int 268435456, .int ((h.1 74 (y2 : Int32).toNatClampNeg))]) (sh' := ab_SH) (D' := ab_dD h) (fun n => rfl) ?_
      refine ab_Ex.ifc (c := (h.1 74 (y2 : Int32).toNatClampNeg) = 268435456) (SA := (186, [(3, .int ((y2 - y2 / 6 * 6))), (0, .ref 64), (1, .int y1), (2, .int y2)], [], ab_dD h)) (SB := (68, [(3, .int ((y2 - y2 / 6 * 6))), (0, .ref 64), (1, .int y1), (2, .int y2)], [], ab_dD h)) (fun n => rfl) (fun c8 => ?_) (fun c8 => ?_)
      · replace hf := (if_pos c8).symm.trans hf
        exact sX12_laysCost_J186 d X (fun y1 y2 h => fX12_laysCost_L44 k36 n y1 y2 h) (fun y1 y2 h z hz => ih y1 y2 h z hz) y1 y2 h _ hf
      · replace hf := (if_neg c8).symm.trans hf
        refine ab_Ex.blk (k := 2) (pc' := 70) (lv' := [(3, .int ((y2 - y2 / 6 * 6))), (0, .ref 64), (1, .int y1), (2, .int y2)]) (st' := [.int ((y2 - y2 / 6 * 6)), .ref 64]) (sh' := ab_SH) (D' := ab_dD h) (fun n => rfl) ?_
        obtain ⟨r9, hr9, hf⟩ := ab_bind_s hf
        refine ab_Ex.call (d := d + 3) (M2 := 223) (as := [.ref 64, .int ((y2 - y2 / 6 * 6))]) (rest := []) (fun n => rfl) rfl (Nat.not_lt.mpr (Nat.le_of_ble_eq_true rfl)) (sX12_isRest (d + 2) X ((y2 - y2 / 6 * 6)) h _ hr9) (fun r hr => ?_)
        subst hr
        show ab_Ex X (d + 4) 258 73 [(3, .int ((y2 - y2 / 6 * 6))), (0, .ref 64), (1, .int y1), (2, .int y2)] [.int r9] ab_SH (ab_dD h) _
        refine ab_Ex.ifc (c := r9 = 0) (SA := (79, [(3, .int ((y2 - y2 / 6 * 6))), (0, .ref 64), (1, .int y1), (2, .int y2)], [], ab_dD h)) (SB := (76, [(3, .int ((y2 - y2 / 6 * 6))), (0, .ref 64), (1, .int y1), (2, .int y2)], [], ab_dD h)) (fun n => rfl) (fun c10 => ?_) (fun c10 => ?_)
        · replace hf := (if_pos c10).symm.trans hf
          refine ab_Ex.blk (k := 2) (pc' := 82) (lv' := [(0, .ref 64), (1, .int y1), (2, .int y2), (3, .int ((y2 - y2 / 6 * 6))), (4, .int 0)]) (st' := []) (sh' := ab_SH) (D' := ab_dD h) (fun n => rfl) ?_
          exact sX12_laysCost_L82 d X (fun y1 y2 h => fX12_laysCost_L44 k36 n y1 y2 h) (fun y1 y2 h z hz => ih y1 y2 h z hz) ab_N y1 y2 ((y2 - y2 / 6 * 6)) 0 h _ hf
        · replace hf := (if_neg c10).symm.trans hf
          refine ab_Ex.blk (k := 1) (pc' := 186) (lv' := [(0, .ref 64), (1, .int y1), (2, .int y2)]) (st' := []) (sh' := ab_SH) (D' := ab_dD h) (fun n => rfl) ?_
          exact sX12_laysCost_J186 d X (fun y1 y2 h => fX12_laysCost_L44 k36 n y1 y2 h) (fun y1 y2 h z hz => ih y1 y2 h z hz) y1 y2 h _ hf
set_option maxRecDepth 20000 in
theorem sX12_laysCost_L36 (d : Nat) (X : abX)   : ∀ (n : Nat), ∀ (y1 : Int32) (h : abJ) (z : abJ), fX12_laysCost_L36 n y1 h = some z → ab_Ex X (d + 4) 258 36 [(0, .ref 64), (1, .int y1)] [] ab_SH (ab_dD h) (fun r => r = (none, ab_SH, ab_dD z)) := by
  intro n
  induction n with
  | zero => intro y1 h z hf; cases hf
  | succ n ih =>
    intro y1 h z hf
    rw [fX12_laysCost_L36] at hf
    refine ab_Ex.blk (k := 1) (pc' := 37) (lv' := [(0, .ref 64), (1, .int y1)]) (st' := [.int y1]) (sh' := ab_SH) (D' := ab_dD h) (fun n => rfl) ?_
    refine ab_Ex.ifc (c := y1 = 0) (SA := (195, [(0, .ref 64), (1, .int y1)], [], ab_dD h)) (SB := (40, [(0, .ref 64), (1, .int y1)], [], ab_dD h)) (fun n => rfl) (fun c4 => ?_) (fun c4 => ?_)
    · replace hf := (if_pos c4).symm.trans hf
      obtain rfl := Option.some.inj hf
      exact ab_Ex.ret (fun n => rfl) rfl
    · replace hf := (if_neg c4).symm.trans hf
      refine ab_Ex.blk (k := 4) (pc' := 44) (lv' := [(0, .ref 64), (1, .int 0), (2, .int 0)]) (st' := []) (sh' := ab_SH) (D' := ab_dD h) (fun n => rfl) ?_
      exact sX12_laysCost_L44 d X (fun y1 h => fX12_laysCost_L36 n y1 h) (fun y1 h z hz => ih y1 h z hz) ab_N 0 0 h _ hf
set_option maxRecDepth 20000 in
theorem sX12_laysCost_L2 (d : Nat) (X : abX)   : ∀ (n : Nat), ∀ (y1 : Int32) (h : abJ) (z : abJ), fX12_laysCost_L2 n y1 h = some z → ab_Ex X (d + 4) 258 2 [(0, .ref 64), (1, .int y1)] [] ab_SH (ab_dD h) (fun r => r = (none, ab_SH, ab_dD z)) := by
  intro n
  induction n with
  | zero => intro y1 h z hf; cases hf
  | succ n ih =>
    intro y1 h z hf
    rw [fX12_laysCost_L2] at hf
    refine ab_Ex.blk (k := 2) (pc' := 6) (lv' := [(0, .ref 64), (1, .int y1)]) (st' := [.int 4374, .int y1]) (sh' := ab_SH) (D' := ab_dD h) (fun n => rfl) ?_
    refine ab_Ex.ifc (c := 4374 ≤ y1) (SA := (24, [(0, .ref 64), (1, .int y1)], [], ab_dD h)) (SB := (9, [(0, .ref 64), (1, .int y1)], [], ab_dD h)) (fun n => rfl) (fun c1 => ?_) (fun c1 => ?_)
    · replace hf := (if_pos c1).symm.trans hf
      refine ab_Ex.blk (k := 3) (pc' := 29) (lv' := [(0, .ref 64), (1, .int y1)]) (st' := [.ref 64, .ref 74]) (sh' := ab_SH) (D' := ab_dD h) (fun n => rfl) ?_
      obtain ⟨r2, hr2, hf⟩ := ab_bind_s hf
      refine ab_Ex.call (d := d + 3) (M2 := 216) (as := [.ref 64]) (rest := [.ref 74]) (fun n => rfl) rfl (Nat.not_lt.mpr (Nat.le_of_ble_eq_true rfl)) (sX12_standNow (d + 1) X  h _ hr2) (fun r hr => ?_)
      subst hr
      show ab_Ex X (d + 4) 258 32 [(0, .ref 64), (1, .int y1)] [.int r2, .ref 74] ab_SH (ab_dD h) _
      refine ab_Ex.blk (k := 1) (pc' := 33) (lv' := [(0, .ref 64), (1, .int y1)]) (st' := [.int 0, .int r2, .ref 74]) (sh' := ab_SH) (D' := ab_dD h) (fun n => rfl) ?_
      obtain ⟨c3, hf⟩ := ab_ask_s hf
      refine ab_Ex.grd (c := r2 < 0 ∨ 4374 ≤ (r2 : Int32).toNatClampNeg) (S := (34, [(0, .ref 64), (1, .int y1)], [], ab_dD (ab_wI h 74 (r2 : Int32).toNatClampNeg 0))) (fun n => rfl) c3 ?_
      refine ab_Ex.blk (k := 2) (pc' := 36) (lv' := [(0, .ref 64), (1, .int 1)]) (st' := []) (sh' := ab_SH) (D' := ab_dD (ab_wI h 74 (r2 : Int32).toNatClampNeg 0)) (fun n => rfl) ?_
      exact sX12_laysCost_L36 d X  ab_N 1 (ab_wI h 74 (r2 : Int32).toNatClampNeg 0) _ hf
    · replace hf := (if_neg c1).symm.trans hf
      refine ab_Ex.blk (k := 4) (pc' := 17) (lv' := [(0, .ref 64), (1, .int y1)]) (st' := [.int 268435456, .int y1, .ref 74]) (sh' := ab_SH) (D' := ab_dD h) (fun n => rfl) ?_
      obtain ⟨c25, hf⟩ := ab_ask_s hf
      refine ab_Ex.grd (c := y1 < 0 ∨ 4374 ≤ (y1 : Int32).toNatClampNeg) (S := (18, [(0, .ref 64), (1, .int y1)], [], ab_dD (ab_wI h 74 (y1 : Int32).toNatClampNeg 268435456))) (fun n => rfl) c25 ?_
      refine ab_Ex.blk (k := 2) (pc' := 2) (lv' := [(0, .ref 64), (1, .int ((y1 + 1)))]) (st' := []) (sh' := ab_SH) (D' := ab_dD (ab_wI h 74 (y1 : Int32).toNatClampNeg 268435456)) (fun n => rfl) ?_
      exact ih ((y1 + 1)) (ab_wI h 74 (y1 : Int32).toNatClampNeg 268435456) _ hf
set_option maxRecDepth 20000 in
theorem sX12_laysCost (d : Nat) (X : abX)  (h : abJ) (z : abJ) (hf : fX12_laysCost  h = some z) : ab_Ex X (d + 4) 258 0 [(0, .ref 64)] [] ab_SH (ab_dD h) (fun r => r = (none, ab_SH, ab_dD z)) := by
  unfold fX12_laysCost at hf
  refine ab_Ex.blk (k := 2) (pc' := 2) (lv' := [(0, .ref 64), (1, .int 0)]) (st' := []) (sh' := ab_SH) (D' := ab_dD h) (fun n => rfl) ?_
  exact sX12_laysCost_L2 d X  ab_N 0 h _ hf
