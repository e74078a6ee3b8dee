def fX12_restore_L32   : Nat → Int32 → Int32 → abJ → Option (Int32 × abJ)
  | 0, _, _, _ => none
  | n + 1, y1, y2, h => if 1034 ≤ y2 then some (0, (ab_wI h 65 42 0)) else ab_ask (((1034 * (y1 + 1)) + y2) < 0 ∨ 3102 ≤ (((1034 * (y1 + 1)) + y2) : Int32).toNatClampNeg) (ab_ask (y2 < 0 ∨ 3102 ≤ (y2 : Int32).toNatClampNeg) (fX12_restore_L32 n y1 ((y2 + 1)) (ab_wI h 65 (y2 : Int32).toNatClampNeg (h.1 65 (((1034 * (y1 + 1)) + y2) : Int32).toNatClampNeg))))
def fX12_restore (x0 : Int32) (h : abJ) : Option (Int32 × abJ) := (fX12_within ((x0 : Int32).toInt64) 0 1 (ab_wI h 64 0 0)).bind (fun r1 => if r1 = 0 then some ((-2), (ab_wI h 64 0 0)) else ab_ask (x0 < 0 ∨ 2 ≤ (x0 : Int32).toNatClampNeg) (if ((ab_wI h 64 0 0).1 66 (x0 : Int32).toNatClampNeg) = 0 then some ((-5), (ab_wI h 64 0 0)) else fX12_restore_L32 ab_N x0 0 (ab_wI h 64 0 0)))
set_option maxRecDepth 20000 in
theorem sX12_restore_L32 (d : Nat) (X : abX)   : ∀ (n : Nat), ∀ (y1 : Int32) (y2 : Int32) (h : abJ) (z : (Int32 × abJ)), fX12_restore_L32 n y1 y2 h = some z → ab_Ex X (d + 1) 298 32 [(0, .ref 64), (1, .int y1), (2, .int y2)] [] ab_SH (ab_dD h) (fun r => r = (some (.int z.1), ab_SH, ab_dD z.2)) := by
  intro n
  induction n with
  | zero => intro y1 y2 h z hf; cases hf
  | succ n ih =>
    intro y1 y2 h z hf
    rw [fX12_restore_L32] at hf
    refine ab_Ex.blk (k := 2) (pc' := 36) (lv' := [(0, .ref 64), (1, .int y1), (2, .int y2)]) (st' := [.int 1034, .int y2]) (sh' := ab_SH) (D' := ab_dD h) (fun n => rfl) ?_
    refine ab_Ex.ifc (c := 1034 ≤ y2) (SA := (65, [(0, .ref 64), (1, .int y1), (2, .int y2)], [], ab_dD h)) (SB := (39, [(0, .ref 64), (1, .int y1), (2, .int y2)], [], ab_dD h)) (fun n => rfl) (fun c6 => ?_) (fun c6 => ?_)
    · replace hf := (if_pos c6).symm.trans hf
      refine ab_Ex.blk (k := 4) (pc' := 72) (lv' := [(0, .ref 64), (1, .int y1), (2, .int y2)]) (st' := [.int 0, .int 42, .ref 65]) (sh' := ab_SH) (D' := ab_dD h) (fun n => rfl) ?_
      refine ab_Ex.blk (k := 1) (pc' := 73) (lv' := [(0, .ref 64), (1, .int y1), (2, .int y2)]) (st' := []) (sh' := ab_SH) (D' := ab_dD (ab_wI h 65 42 0)) (fun n => rfl) ?_
      refine ab_Ex.blk (k := 1) (pc' := 74) (lv' := [(0, .ref 64), (1, .int y1), (2, .int y2)]) (st' := [.int 0]) (sh' := ab_SH) (D' := ab_dD (ab_wI h 65 42 0)) (fun n => rfl) ?_
      obtain rfl := Option.some.inj hf
      exact ab_Ex.ret (fun n => rfl) rfl
    · replace hf := (if_neg c6).symm.trans hf
      refine ab_Ex.blk (k := 12) (pc' := 57) (lv' := [(0, .ref 64), (1, .int y1), (2, .int y2)]) (st' := [.int (((1034 * (y1 + 1)) + y2)), .ref 65, .int y2, .ref 65]) (sh' := ab_SH) (D' := ab_dD h) (fun n => rfl) ?_
      obtain ⟨c8, hf⟩ := ab_ask_s hf
      refine ab_Ex.grd (c := ((1034 * (y1 + 1)) + y2) < 0 ∨ 3102 ≤ (((1034 * (y1 + 1)) + y2) : Int32).toNatClampNeg) (S := (58, [(0, .ref 64), (1, .int y1), (2, .int y2)], [.int ((h.1 65 (((1034 * (y1 + 1)) + y2) : Int32).toNatClampNeg)), .int y2, .ref 65], ab_dD h)) (fun n => rfl) c8 ?_
      obtain ⟨c9, hf⟩ := ab_ask_s hf
      refine ab_Ex.grd (c := y2 < 0 ∨ 3102 ≤ (y2 : Int32).toNatClampNeg) (S := (59, [(0, .ref 64), (1, .int y1), (2, .int y2)], [], ab_dD (ab_wI h 65 (y2 : Int32).toNatClampNeg (h.1 65 (((1034 * (y1 + 1)) + y2) : Int32).toNatClampNeg)))) (fun n => rfl) c9 ?_
      refine ab_Ex.blk (k := 2) (pc' := 32) (lv' := [(0, .ref 64), (1, .int y1), (2, .int ((y2 + 1)))]) (st' := []) (sh' := ab_SH) (D' := ab_dD (ab_wI h 65 (y2 : Int32).toNatClampNeg (h.1 65 (((1034 * (y1 + 1)) + y2) : Int32).toNatClampNeg))) (fun n => rfl) ?_
      exact ih y1 ((y2 + 1)) (ab_wI h 65 (y2 : Int32).toNatClampNeg (h.1 65 (((1034 * (y1 + 1)) + y2) : Int32).toNatClampNeg)) _ hf
set_option maxRecDepth 20000 in
theorem sX12_restore (d : Nat) (X : abX) (x0 : Int32) (h : abJ) (z : (Int32 × abJ)) (hf : fX12_restore x0 h = some z) : ab_Ex X (d + 1) 298 0 [(0, .ref 64), (1, .int x0)] [] ab_SH (ab_dD h) (fun r => r = (some (.int z.1), ab_SH, ab_dD z.2)) := by
  unfold fX12_restore at hf
  refine ab_Ex.blk (k := 7) (pc' := 9) (lv' := [(0, .ref 64), (1, .int x0)]) (st' := [.long 1, .long 0, .long ((x0 : Int32).toInt64)]) (sh' := ab_SH) (D' := ab_dD (ab_wI h 64 0 0)) (fun n => rfl) ?_
  obtain ⟨r1, hr1, hf⟩ := ab_bind_s hf
  refine ab_Ex.call (d := d + 0) (M2 := 175) (as := [.long ((x0 : Int32).toInt64), .long 0, .long 1]) (rest := []) (fun n => rfl) rfl (Nat.not_lt.mpr (Nat.le_of_ble_eq_true rfl)) (sX12_within (d) X ((x0 : Int32).toInt64) 0 1 (ab_wI h 64 0 0) _ hr1) (fun r hr => ?_)
  subst hr
  show ab_Ex X (d + 1) 298 12 [(0, .ref 64), (1, .int x0)] [.int r1] ab_SH (ab_dD (ab_wI h 64 0 0)) _
  refine ab_Ex.ifc (c := r1 = 0) (SA := (15, [(0, .ref 64), (1, .int x0)], [], ab_dD (ab_wI h 64 0 0))) (SB := (18, [(0, .ref 64), (1, .int x0)], [], ab_dD (ab_wI h 64 0 0))) (fun n => rfl) (fun c2 => ?_) (fun c2 => ?_)
  · replace hf := (if_pos c2).symm.trans hf
    refine ab_Ex.blk (k := 1) (pc' := 17) (lv' := [(0, .ref 64), (1, .int x0)]) (st' := [.int ((-2))]) (sh' := ab_SH) (D' := ab_dD (ab_wI h 64 0 0)) (fun n => rfl) ?_
    obtain rfl := Option.some.inj hf
    exact ab_Ex.ret (fun n => rfl) rfl
  · replace hf := (if_neg c2).symm.trans hf
    refine ab_Ex.blk (k := 3) (pc' := 23) (lv' := [(0, .ref 64), (1, .int x0)]) (st' := [.int x0, .ref 66]) (sh' := ab_SH) (D' := ab_dD (ab_wI h 64 0 0)) (fun n => rfl) ?_
    obtain ⟨c4, hf⟩ := ab_ask_s hf
    refine ab_Ex.grd (c := x0 < 0 ∨ 2 ≤ (x0 : Int32).toNatClampNeg) (S := (24, [(0, .ref 64), (1, .int x0)], [.int (((ab_wI h 64 0 0).1 66 (x0 : Int32).toNatClampNeg))], ab_dD (ab_wI h 64 0 0))) (fun n => rfl) c4 ?_
    refine ab_Ex.ifc (c := ((ab_wI h 64 0 0).1 66 (x0 : Int32).toNatClampNeg) = 0) (SA := (27, [(0, .ref 64), (1, .int x0)], [], ab_dD (ab_wI h 64 0 0))) (SB := (30, [(0, .ref 64), (1, .int x0)], [], ab_dD (ab_wI h 64 0 0))) (fun n => rfl) (fun c5 => ?_) (fun c5 => ?_)
    · replace hf := (if_pos c5).symm.trans hf
      refine ab_Ex.blk (k := 1) (pc' := 29) (lv' := [(0, .ref 64), (1, .int x0)]) (st' := [.int ((-5))]) (sh' := ab_SH) (D' := ab_dD (ab_wI h 64 0 0)) (fun n => rfl) ?_
      obtain rfl := Option.some.inj hf
      exact ab_Ex.ret (fun n => rfl) rfl
    · replace hf := (if_neg c5).symm.trans hf
      refine ab_Ex.blk (k := 2) (pc' := 32) (lv' := [(0, .ref 64), (1, .int x0), (2, .int 0)]) (st' := []) (sh' := ab_SH) (D' := ab_dD (ab_wI h 64 0 0)) (fun n => rfl) ?_
      exact sX12_restore_L32 d X  ab_N x0 0 (ab_wI h 64 0 0) _ hf
def fX12_count_L71   : Nat → Int32 → Int32 → abJ → Option (Int32 × abJ)
  | 0, _, _, _ => none
  | n + 1, y2, y3, h => if (h.1 65 1) ≤ y3 then some (y2, h) else ab_ask ((9 + y3) < 0 ∨ 3102 ≤ ((9 + y3) : Int32).toNatClampNeg) (fX12_count_L71 n ((y2 + (h.1 65 ((9 + y3) : Int32).toNatClampNeg))) ((y3 + 1)) h)
def fX12_count (x0 : Int32) (h : abJ) : Option (Int32 × abJ) := if x0 = 0 then some (((ab_wI h 64 0 0).1 65 1), (ab_wI h 64 0 0)) else if x0 = 1 then fX12_count_L71 ab_N 0 0 (ab_wI h 64 0 0) else if x0 = 2 then some (((ab_wI h 64 0 0).1 65 2), (ab_wI h 64 0 0)) else if x0 = 3 then some (((ab_wI h 64 0 0).1 65 33), (ab_wI h 64 0 0)) else if x0 = 4 then (fX12_armsNow (ab_wI h 64 0 0)).bind (fun r9 => some (r9, (ab_wI h 64 0 0))) else if x0 = 5 then some (((ab_wI h 64 0 0).1 65 40), (ab_wI h 64 0 0)) else if x0 = 6 then some (((ab_wI h 64 0 0).1 65 41), (ab_wI h 64 0 0)) else if x0 = 7 then some (((ab_wI h 64 0 0).1 65 42), (ab_wI h 64 0 0)) else if x0 = 8 then some ((((ab_wI h 64 0 0)).1 64 5), (ab_wI h 64 0 0)) else if x0 = 9 then some (((ab_wI h 64 0 0).1 65 0), (ab_wI h 64 0 0)) else some ((-1), (ab_wI h 64 0 0))
set_option maxRecDepth 20000 in
theorem sX12_count_L71 (d : Nat) (X : abX)   : ∀ (n : Nat), ∀ (y2 : Int32) (y3 : Int32) (h : abJ) (z : (Int32 × abJ)), fX12_count_L71 n y2 y3 h = some z → ab_Ex X (d + 2) 299 71 [(0, .ref 64), (2, .int y2), (3, .int y3)] [] ab_SH (ab_dD h) (fun r => r = (some (.int z.1), ab_SH, ab_dD z.2)) := by
  intro n
  induction n with
  | zero => intro y2 y3 h z hf; cases hf
  | succ n ih =>
    intro y2 y3 h z hf
    rw [fX12_count_L71] at hf
    refine ab_Ex.blk (k := 4) (pc' := 77) (lv' := [(0, .ref 64), (2, .int y2), (3, .int y3)]) (st' := [.int 1, .ref 65, .int y3]) (sh' := ab_SH) (D' := ab_dD h) (fun n => rfl) ?_
    refine ab_Ex.blk (k := 1) (pc' := 78) (lv' := [(0, .ref 64), (2, .int y2), (3, .int y3)]) (st' := [.int ((h.1 65 1)), .int y3]) (sh' := ab_SH) (D' := ab_dD h) (fun n => rfl) ?_
    refine ab_Ex.ifc (c := (h.1 65 1) ≤ y3) (SA := (99, [(0, .ref 64), (2, .int y2), (3, .int y3)], [], ab_dD h)) (SB := (81, [(0, .ref 64), (2, .int y2), (3, .int y3)], [], ab_dD h)) (fun n => rfl) (fun c3 => ?_) (fun c3 => ?_)
    · replace hf := (if_pos c3).symm.trans hf
      refine ab_Ex.blk (k := 1) (pc' := 100) (lv' := [(0, .ref 64), (2, .int y2), (3, .int y3)]) (st' := [.int y2]) (sh' := ab_SH) (D' := ab_dD h) (fun n => rfl) ?_
      obtain rfl := Option.some.inj hf
      exact ab_Ex.ret (fun n => rfl) rfl
    · replace hf := (if_neg c3).symm.trans hf
      refine ab_Ex.blk (k := 6) (pc' := 90) (lv' := [(0, .ref 64), (2, .int y2), (3, .int y3)]) (st' := [.int ((9 + y3)), .ref 65, .int y2]) (sh' := ab_SH) (D' := ab_dD h) (fun n => rfl) ?_
      obtain ⟨c5, hf⟩ := ab_ask_s hf
      refine ab_Ex.grd (c := (9 + y3) < 0 ∨ 3102 ≤ ((9 + y3) : Int32).toNatClampNeg) (S := (91, [(0, .ref 64), (2, .int y2), (3, .int y3)], [.int ((h.1 65 ((9 + y3) : Int32).toNatClampNeg)), .int y2], ab_dD h)) (fun n => rfl) c5 ?_
      refine ab_Ex.blk (k := 4) (pc' := 71) (lv' := [(0, .ref 64), (2, .int ((y2 + (h.1 65 ((9 + y3) : Int32).toNatClampNeg)))), (3, .int ((y3 + 1)))]) (st' := []) (sh' := ab_SH) (D' := ab_dD h) (fun n => rfl) ?_
      exact ih ((y2 + (h.1 65 ((9 + y3) : Int32).toNatClampNeg))) ((y3 + 1)) h _ hf
set_option maxRecDepth 20000 in
theorem sX12_count (d : Nat) (X : abX) (x0 : Int32) (h : abJ) (z : (Int32 × abJ)) (hf : fX12_count x0 h = some z) : ab_Ex X (d + 2) 299 0 [(0, .ref 64), (1, .int x0)] [] ab_SH (ab_dD h) (fun r => r = (some (.int z.1), ab_SH, ab_dD z.2)) := by
  unfold fX12_count at hf
  refine ab_Ex.blk (k := 4) (pc' := 6) (lv' := [(0, .ref 64), (1, .int x0)]) (st' := [.int x0]) (sh' := ab_SH) (D' := ab_dD (ab_wI h 64 0 0)) (fun n => rfl) ?_
  by_cases c1 : x0 = 0
  · replace hf := (if_pos c1).symm.trans hf
    refine ab_Ex.blk (k := 1) (pc' := 60) (lv' := [(0, .ref 64), (1, .int x0)]) (st' := []) (sh' := ab_SH) (D' := ab_dD (ab_wI h 64 0 0)) (fun n => by rw [c1]; rfl) ?_
    refine ab_Ex.blk (k := 3) (pc' := 65) (lv' := [(0, .ref 64), (1, .int x0)]) (st' := [.int 1, .ref 65]) (sh' := ab_SH) (D' := ab_dD (ab_wI h 64 0 0)) (fun n => rfl) ?_
    refine ab_Ex.blk (k := 1) (pc' := 66) (lv' := [(0, .ref 64), (1, .int x0)]) (st' := [.int (((ab_wI h 64 0 0).1 65 1))]) (sh' := ab_SH) (D' := ab_dD (ab_wI h 64 0 0)) (fun n => rfl) ?_
    obtain rfl := Option.some.inj hf
    exact ab_Ex.ret (fun n => rfl) rfl
  · replace hf := (if_neg c1).symm.trans hf
    by_cases c2 : x0 = 1
    · replace hf := (if_pos c2).symm.trans hf
      refine ab_Ex.blk (k := 1) (pc' := 67) (lv' := [(0, .ref 64), (1, .int x0)]) (st' := []) (sh' := ab_SH) (D' := ab_dD (ab_wI h 64 0 0)) (fun n => by rw [c2]; rfl) ?_
      refine ab_Ex.blk (k := 4) (pc' := 71) (lv' := [(0, .ref 64), (2, .int 0), (3, .int 0)]) (st' := []) (sh' := ab_SH) (D' := ab_dD (ab_wI h 64 0 0)) (fun n => rfl) ?_
      exact sX12_count_L71 d X  ab_N 0 0 (ab_wI h 64 0 0) _ hf
    · replace hf := (if_neg c2).symm.trans hf
      by_cases c6 : x0 = 2
      · replace hf := (if_pos c6).symm.trans hf
        refine ab_Ex.blk (k := 1) (pc' := 101) (lv' := [(0, .ref 64), (1, .int x0)]) (st' := []) (sh' := ab_SH) (D' := ab_dD (ab_wI h 64 0 0)) (fun n => by rw [c6]; rfl) ?_
        refine ab_Ex.blk (k := 3) (pc' := 106) (lv' := [(0, .ref 64), (1, .int x0)]) (st' := [.int 2, .ref 65]) (sh' := ab_SH) (D' := ab_dD (ab_wI h 64 0 0)) (fun n => rfl) ?_
        refine ab_Ex.blk (k := 1) (pc' := 107) (lv' := [(0, .ref 64), (1, .int x0)]) (st' := [.int (((ab_wI h 64 0 0).1 65 2))]) (sh' := ab_SH) (D' := ab_dD (ab_wI h 64 0 0)) (fun n => rfl) ?_
        obtain rfl := Option.some.inj hf
        exact ab_Ex.ret (fun n => rfl) rfl
      · replace hf := (if_neg c6).symm.trans hf
        by_cases c7 : x0 = 3
        · replace hf := (if_pos c7).symm.trans hf
          refine ab_Ex.blk (k := 1) (pc' := 108) (lv' := [(0, .ref 64), (1, .int x0)]) (st' := []) (sh' := ab_SH) (D' := ab_dD (ab_wI h 64 0 0)) (fun n => by rw [c7]; rfl) ?_
          refine ab_Ex.blk (k := 3) (pc' := 114) (lv' := [(0, .ref 64), (1, .int x0)]) (st' := [.int 33, .ref 65]) (sh' := ab_SH) (D' := ab_dD (ab_wI h 64 0 0)) (fun n => rfl) ?_
          refine ab_Ex.blk (k := 1) (pc' := 115) (lv' := [(0, .ref 64), (1, .int x0)]) (st' := [.int (((ab_wI h 64 0 0).1 65 33))]) (sh' := ab_SH) (D' := ab_dD (ab_wI h 64 0 0)) (fun n => rfl) ?_
          obtain rfl := Option.some.inj hf
          exact ab_Ex.ret (fun n => rfl) rfl
        · replace hf := (if_neg c7).symm.trans hf
          by_cases c8 : x0 = 4
          · replace hf := (if_pos c8).symm.trans hf
            refine ab_Ex.blk (k := 1) (pc' := 116) (lv' := [(0, .ref 64), (1, .int x0)]) (st' := []) (sh' := ab_SH) (D' := ab_dD (ab_wI h 64 0 0)) (fun n => by rw [c8]; rfl) ?_
            refine ab_Ex.blk (k := 1) (pc' := 117) (lv' := [(0, .ref 64), (1, .int x0)]) (st' := [.ref 64]) (sh' := ab_SH) (D' := ab_dD (ab_wI h 64 0 0)) (fun n => rfl) ?_
            obtain ⟨r9, hr9, hf⟩ := ab_bind_s hf
            refine ab_Ex.call (d := d + 1) (M2 := 214) (as := [.ref 64]) (rest := []) (fun n => rfl) rfl (Nat.not_lt.mpr (Nat.le_of_ble_eq_true rfl)) (sX12_armsNow (d) X  (ab_wI h 64 0 0) _ hr9) (fun r hr => ?_)
            subst hr
            show ab_Ex X (d + 2) 299 120 [(0, .ref 64), (1, .int x0)] [.int r9] ab_SH (ab_dD (ab_wI h 64 0 0)) _
            obtain rfl := Option.some.inj hf
            exact ab_Ex.ret (fun n => rfl) rfl
          · replace hf := (if_neg c8).symm.trans hf
            by_cases c10 : x0 = 5
            · replace hf := (if_pos c10).symm.trans hf
              refine ab_Ex.blk (k := 1) (pc' := 121) (lv' := [(0, .ref 64), (1, .int x0)]) (st' := []) (sh' := ab_SH) (D' := ab_dD (ab_wI h 64 0 0)) (fun n => by rw [c10]; rfl) ?_
              refine ab_Ex.blk (k := 3) (pc' := 127) (lv' := [(0, .ref 64), (1, .int x0)]) (st' := [.int 40, .ref 65]) (sh' := ab_SH) (D' := ab_dD (ab_wI h 64 0 0)) (fun n => rfl) ?_
              refine ab_Ex.blk (k := 1) (pc' := 128) (lv' := [(0, .ref 64), (1, .int x0)]) (st' := [.int (((ab_wI h 64 0 0).1 65 40))]) (sh' := ab_SH) (D' := ab_dD (ab_wI h 64 0 0)) (fun n => rfl) ?_
              obtain rfl := Option.some.inj hf
              exact ab_Ex.ret (fun n => rfl) rfl
            · replace hf := (if_neg c10).symm.trans hf
              by_cases c11 : x0 = 6
              · replace hf := (if_pos c11).symm.trans hf
                refine ab_Ex.blk (k := 1) (pc' := 129) (lv' := [(0, .ref 64), (1, .int x0)]) (st' := []) (sh' := ab_SH) (D' := ab_dD (ab_wI h 64 0 0)) (fun n => by rw [c11]; rfl) ?_
                refine ab_Ex.blk (k := 3) (pc' := 135) (lv' := [(0, .ref 64), (1, .int x0)]) (st' := [.int 41, .ref 65]) (sh' := ab_SH) (D' := ab_dD (ab_wI h 64 0 0)) (fun n => rfl) ?_
                refine ab_Ex.blk (k := 1) (pc' := 136) (lv' := [(0, .ref 64), (1, .int x0)]) (st' := [.int (((ab_wI h 64 0 0).1 65 41))]) (sh' := ab_SH) (D' := ab_dD (ab_wI h 64 0 0)) (fun n => rfl) ?_
                obtain rfl := Option.some.inj hf
                exact ab_Ex.ret (fun n => rfl) rfl
              · replace hf := (if_neg c11).symm.trans hf
                by_cases c12 : x0 = 7
                · replace hf := (if_pos c12).symm.trans hf
                  refine ab_Ex.blk (k := 1) (pc' := 137) (lv' := [(0, .ref 64), (1, .int x0)]) (st' := []) (sh' := ab_SH) (D' := ab_dD (ab_wI h 64 0 0)) (fun n => by rw [c12]; rfl) ?_
                  refine ab_Ex.blk (k := 3) (pc' := 143) (lv' := [(0, .ref 64), (1, .int x0)]) (st' := [.int 42, .ref 65]) (sh' := ab_SH) (D' := ab_dD (ab_wI h 64 0 0)) (fun n => rfl) ?_
                  refine ab_Ex.blk (k := 1) (pc' := 144) (lv' := [(0, .ref 64), (1, .int x0)]) (st' := [.int (((ab_wI h 64 0 0).1 65 42))]) (sh' := ab_SH) (D' := ab_dD (ab_wI h 64 0 0)) (fun n => rfl) ?_
                  obtain rfl := Option.some.inj hf
                  exact ab_Ex.ret (fun n => rfl) rfl
                · replace hf := (if_neg c12).symm.trans hf
                  by_cases c13 : x0 = 8
                  · replace hf := (if_pos c13).symm.trans hf
                    refine ab_Ex.blk (k := 1) (pc' := 145) (lv' := [(0, .ref 64), (1, .int x0)]) (st' := []) (sh' := ab_SH) (D' := ab_dD (ab_wI h 64 0 0)) (fun n => by rw [c13]; rfl) ?_
                    refine ab_Ex.blk (k := 2) (pc' := 149) (lv' := [(0, .ref 64), (1, .int x0)]) (st' := [.int ((((ab_wI h 64 0 0)).1 64 5))]) (sh' := ab_SH) (D' := ab_dD (ab_wI h 64 0 0)) (fun n => rfl) ?_
                    obtain rfl := Option.some.inj hf
                    exact ab_Ex.ret (fun n => rfl) rfl
                  · replace hf := (if_neg c13).symm.trans hf
                    by_cases c14 : x0 = 9
                    · replace hf := (if_pos c14).symm.trans hf
                      refine ab_Ex.blk (k := 1) (pc' := 150) (lv' := [(0, .ref 64), (1, .int x0)]) (st' := []) (sh' := ab_SH) (D' := ab_dD (ab_wI h 64 0 0)) (fun n => by rw [c14]; rfl) ?_
                      refine ab_Ex.blk (k := 3) (pc' := 155) (lv' := [(0, .ref 64), (1, .int x0)]) (st' := [.int 0, .ref 65]) (sh' := ab_SH) (D' := ab_dD (ab_wI h 64 0 0)) (fun n => rfl) ?_
                      refine ab_Ex.blk (k := 1) (pc' := 156) (lv' := [(0, .ref 64), (1, .int x0)]) (st' := [.int (((ab_wI h 64 0 0).1 65 0))]) (sh' := ab_SH) (D' := ab_dD (ab_wI h 64 0 0)) (fun n => rfl) ?_
                      obtain rfl := Option.some.inj hf
                      exact ab_Ex.ret (fun n => rfl) rfl
                    · replace hf := (if_neg c14).symm.trans hf
                      have qc1 := lv_neT c1 (show (0 : Int32).toInt = 0 by decide)
                      have qc2 := lv_neT c2 (show (1 : Int32).toInt = 1 by decide)
                      have qc6 := lv_neT c6 (show (2 : Int32).toInt = 2 by decide)
                      have qc7 := lv_neT c7 (show (3 : Int32).toInt = 3 by decide)
                      have qc8 := lv_neT c8 (show (4 : Int32).toInt = 4 by decide)
                      have qc10 := lv_neT c10 (show (5 : Int32).toInt = 5 by decide)
                      have qc11 := lv_neT c11 (show (6 : Int32).toInt = 6 by decide)
                      have qc12 := lv_neT c12 (show (7 : Int32).toInt = 7 by decide)
                      have qc13 := lv_neT c13 (show (8 : Int32).toInt = 8 by decide)
                      have qc14 := lv_neT c14 (show (9 : Int32).toInt = 9 by decide)
                      refine ab_Ex.tsw (c := (x0 : Int32).toInt < 0 ∨ 9 < (x0 : Int32).toInt) (S := (157, [(0, .ref 64), (1, .int x0)], [], ab_dD (ab_wI h 64 0 0))) (fun n => rfl) (by omega) ?_
                      refine ab_Ex.blk (k := 1) (pc' := 158) (lv' := [(0, .ref 64), (1, .int x0)]) (st' := [.int ((-1))]) (sh' := ab_SH) (D' := ab_dD (ab_wI h 64 0 0)) (fun n => rfl) ?_
                      obtain rfl := Option.some.inj hf
                      exact ab_Ex.ret (fun n => rfl) rfl
