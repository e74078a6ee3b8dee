def fX11_image (x0 : Int32) (h : abJ) : Option (Int32 × abJ) := if x0 < 0 then some ((-2), h) else if x0 < 2 then ab_ask (x0 < 0 ∨ 2 ≤ (x0 : Int32).toNatClampNeg) ((fX3_copy (ab_im x0) 1 h).bind (fun r4 => ab_ask (x0 < 0 ∨ 2 ≤ (x0 : Int32).toNatClampNeg) ((fX9_copy (ab_is x0) 12 r4).bind (fun r6 => some (0, r6))))) else some ((-2), h)
set_option maxRecDepth 20000 in
theorem sX11_image (d : Nat) (X : abX) (x0 : Int32) (h : abJ) (z : (Int32 × abJ)) (hf : fX11_image x0 h = some z) : ab_Ex X (d + 1) 166 0 [(0, .ref 0), (1, .int x0)] [] ab_SH (ab_dD h) (fun r => r = (some (.int z.1), ab_SH, ab_dD z.2)) := by
  unfold fX11_image at hf
  refine ab_Ex.blk (k := 1) (pc' := 1) (lv' := [(0, .ref 0), (1, .int x0)]) (st' := [.int x0]) (sh' := ab_SH) (D' := ab_dD h) (fun n => rfl) ?_
  refine ab_Ex.ifc (c := x0 < 0) (SA := (9, [(0, .ref 0), (1, .int x0)], [], ab_dD h)) (SB := (4, [(0, .ref 0), (1, .int x0)], [], ab_dD h)) (fun n => rfl) (fun c1 => ?_) (fun c1 => ?_)
  · replace hf := (if_pos c1).symm.trans hf
    refine ab_Ex.blk (k := 1) (pc' := 11) (lv' := []) (st' := [.int ((-2))]) (sh' := ab_SH) (D' := ab_dD h) (fun n => rfl) ?_
    obtain rfl := Option.some.inj hf
    exact ab_Ex.ret (fun n => rfl) rfl
  · replace hf := (if_neg c1).symm.trans hf
    refine ab_Ex.blk (k := 2) (pc' := 6) (lv' := [(0, .ref 0), (1, .int x0)]) (st' := [.int 2, .int x0]) (sh' := ab_SH) (D' := ab_dD h) (fun n => rfl) ?_
    refine ab_Ex.ifc (c := x0 < 2) (SA := (12, [(0, .ref 0), (1, .int x0)], [], ab_dD h)) (SB := (9, [(0, .ref 0), (1, .int x0)], [], ab_dD h)) (fun n => rfl) (fun c2 => ?_) (fun c2 => ?_)
    · replace hf := (if_pos c2).symm.trans hf
      refine ab_Ex.blk (k := 3) (pc' := 17) (lv' := [(0, .ref 0), (1, .int x0)]) (st' := [.int x0, .ref 52]) (sh' := ab_SH) (D' := ab_dD h) (fun n => rfl) ?_
      obtain ⟨c3, hf⟩ := ab_ask_s hf
      rcases ab_lt2 c3 with e4 | e4
      · have oe4 : ab_im x0 = 54 := by unfold ab_im; rw [e4]
        try rw [oe4] at hf
        refine ab_Ex.aald (o := 52) (j := x0) (t := 105) (n := 2) (i := 0) (z := 54) (fun n => rfl) c3 (by decide) e4 rfl (by decide) ?_
        refine ab_Ex.blk (k := 2) (pc' := 22) (lv' := [(0, .ref 0), (1, .int x0)]) (st' := [.ref 1, .ref 54]) (sh' := ab_SH) (D' := ab_dD h) (fun n => rfl) ?_
        obtain ⟨r5, hr5, hf⟩ := ab_bind_s hf
        refine ab_Ex.call (d := d + 0) (M2 := 33) (as := [.ref 54, .ref 1]) (rest := []) (fun n => rfl) rfl (Nat.not_lt.mpr (Nat.le_of_ble_eq_true rfl)) (sX3_copy_54_1 (d) X  h _ hr5) (fun r hr => ?_)
        subst hr
        show ab_Ex X (d + 1) 166 25 [(0, .ref 0), (1, .int x0)] [] ab_SH (ab_dD r5) _
        refine ab_Ex.blk (k := 3) (pc' := 30) (lv' := [(0, .ref 0), (1, .int x0)]) (st' := [.int x0, .ref 53]) (sh' := ab_SH) (D' := ab_dD r5) (fun n => rfl) ?_
        obtain ⟨c6, hf⟩ := ab_ask_s hf
        have oe7 : ab_is x0 = 58 := by unfold ab_is; rw [e4]
        try rw [oe7] at hf
        refine ab_Ex.aald (o := 53) (j := x0) (t := 103) (n := 2) (i := 0) (z := 58) (fun n => rfl) c6 (by decide) e4 rfl (by decide) ?_
        refine ab_Ex.blk (k := 2) (pc' := 35) (lv' := [(0, .ref 0), (1, .int x0)]) (st' := [.ref 12, .ref 58]) (sh' := ab_SH) (D' := ab_dD r5) (fun n => rfl) ?_
        obtain ⟨r8, hr8, hf⟩ := ab_bind_s hf
        refine ab_Ex.call (d := d + 0) (M2 := 117) (as := [.ref 58, .ref 12]) (rest := []) (fun n => rfl) rfl (Nat.not_lt.mpr (Nat.le_of_ble_eq_true rfl)) (sX9_copy_58_12 (d) X  r5 _ hr8) (fun r hr => ?_)
        subst hr
        show ab_Ex X (d + 1) 166 38 [(0, .ref 0), (1, .int x0)] [] ab_SH (ab_dD r8) _
        refine ab_Ex.blk (k := 1) (pc' := 39) (lv' := [(0, .ref 0), (1, .int x0)]) (st' := [.int 0]) (sh' := ab_SH) (D' := ab_dD r8) (fun n => rfl) ?_
        obtain rfl := Option.some.inj hf
        exact ab_Ex.ret (fun n => rfl) rfl
      · have oe4 : ab_im x0 = 59 := by unfold ab_im; rw [e4]
        try rw [oe4] at hf
        refine ab_Ex.aald (o := 52) (j := x0) (t := 105) (n := 2) (i := 1) (z := 59) (fun n => rfl) c3 (by decide) e4 rfl (by decide) ?_
        refine ab_Ex.blk (k := 2) (pc' := 22) (lv' := [(0, .ref 0), (1, .int x0)]) (st' := [.ref 1, .ref 59]) (sh' := ab_SH) (D' := ab_dD h) (fun n => rfl) ?_
        obtain ⟨r9, hr9, hf⟩ := ab_bind_s hf
        refine ab_Ex.call (d := d + 0) (M2 := 33) (as := [.ref 59, .ref 1]) (rest := []) (fun n => rfl) rfl (Nat.not_lt.mpr (Nat.le_of_ble_eq_true rfl)) (sX3_copy_59_1 (d) X  h _ hr9) (fun r hr => ?_)
        subst hr
        show ab_Ex X (d + 1) 166 25 [(0, .ref 0), (1, .int x0)] [] ab_SH (ab_dD r9) _
        refine ab_Ex.blk (k := 3) (pc' := 30) (lv' := [(0, .ref 0), (1, .int x0)]) (st' := [.int x0, .ref 53]) (sh' := ab_SH) (D' := ab_dD r9) (fun n => rfl) ?_
        obtain ⟨c10, hf⟩ := ab_ask_s hf
        have oe11 : ab_is x0 = 63 := by unfold ab_is; rw [e4]
        try rw [oe11] at hf
        refine ab_Ex.aald (o := 53) (j := x0) (t := 103) (n := 2) (i := 1) (z := 63) (fun n => rfl) c10 (by decide) e4 rfl (by decide) ?_
        refine ab_Ex.blk (k := 2) (pc' := 35) (lv' := [(0, .ref 0), (1, .int x0)]) (st' := [.ref 12, .ref 63]) (sh' := ab_SH) (D' := ab_dD r9) (fun n => rfl) ?_
        obtain ⟨r12, hr12, hf⟩ := ab_bind_s hf
        refine ab_Ex.call (d := d + 0) (M2 := 117) (as := [.ref 63, .ref 12]) (rest := []) (fun n => rfl) rfl (Nat.not_lt.mpr (Nat.le_of_ble_eq_true rfl)) (sX9_copy_63_12 (d) X  r9 _ hr12) (fun r hr => ?_)
        subst hr
        show ab_Ex X (d + 1) 166 38 [(0, .ref 0), (1, .int x0)] [] ab_SH (ab_dD r12) _
        refine ab_Ex.blk (k := 1) (pc' := 39) (lv' := [(0, .ref 0), (1, .int x0)]) (st' := [.int 0]) (sh' := ab_SH) (D' := ab_dD r12) (fun n => rfl) ?_
        obtain rfl := Option.some.inj hf
        exact ab_Ex.ret (fun n => rfl) rfl
    · replace hf := (if_neg c2).symm.trans hf
      refine ab_Ex.blk (k := 1) (pc' := 11) (lv' := []) (st' := [.int ((-2))]) (sh' := ab_SH) (D' := ab_dD h) (fun n => rfl) ?_
      obtain rfl := Option.some.inj hf
      exact ab_Ex.ret (fun n => rfl) rfl
def fX11_restore (x0 : Int32) (h : abJ) : Option (Int32 × abJ) := if x0 < 0 then some ((-2), h) else if x0 < 2 then ab_ask (x0 < 0 ∨ 2 ≤ (x0 : Int32).toNatClampNeg) (if (h.1 (ab_im x0) 0) = 0 then some ((-5), h) else ab_ask (x0 < 0 ∨ 2 ≤ (x0 : Int32).toNatClampNeg) ((fX3_copy 1 (ab_im x0) h).bind (fun r6 => ab_ask (x0 < 0 ∨ 2 ≤ (x0 : Int32).toNatClampNeg) ((fX9_copy 12 (ab_is x0) r6).bind (fun r8 => (fX7_forget (ab_wI r8 16 6 0)).bind (fun r9 => (fX7_prepare (((r9).1 12 2)) r9).bind (fun r10 => some (0, r10)))))))) else some ((-2), h)
set_option maxRecDepth 20000 in
theorem sX11_restore (d : Nat) (X : abX) (x0 : Int32) (h : abJ) (z : (Int32 × abJ)) (hf : fX11_restore x0 h = some z) : ab_Ex X (d + 4) 167 0 [(0, .ref 0), (1, .int x0)] [] ab_SH (ab_dD h) (fun r => r = (some (.int z.1), ab_SH, ab_dD z.2)) := by
  unfold fX11_restore at hf
  refine ab_Ex.blk (k := 1) (pc' := 1) (lv' := [(0, .ref 0), (1, .int x0)]) (st' := [.int x0]) (sh' := ab_SH) (D' := ab_dD h) (fun n => rfl) ?_
  refine ab_Ex.ifc (c := x0 < 0) (SA := (9, [(0, .ref 0), (1, .int x0)], [], ab_dD h)) (SB := (4, [(0, .ref 0), (1, .int x0)], [], ab_dD h)) (fun n => rfl) (fun c1 => ?_) (fun c1 => ?_)
  · replace hf := (if_pos c1).symm.trans hf
    refine ab_Ex.blk (k := 1) (pc' := 11) (lv' := []) (st' := [.int ((-2))]) (sh' := ab_SH) (D' := ab_dD h) (fun n => rfl) ?_
    obtain rfl := Option.some.inj hf
    exact ab_Ex.ret (fun n => rfl) rfl
  · replace hf := (if_neg c1).symm.trans hf
    refine ab_Ex.blk (k := 2) (pc' := 6) (lv' := [(0, .ref 0), (1, .int x0)]) (st' := [.int 2, .int x0]) (sh' := ab_SH) (D' := ab_dD h) (fun n => rfl) ?_
    refine ab_Ex.ifc (c := x0 < 2) (SA := (12, [(0, .ref 0), (1, .int x0)], [], ab_dD h)) (SB := (9, [(0, .ref 0), (1, .int x0)], [], ab_dD h)) (fun n => rfl) (fun c2 => ?_) (fun c2 => ?_)
    · replace hf := (if_pos c2).symm.trans hf
      refine ab_Ex.blk (k := 3) (pc' := 17) (lv' := [(0, .ref 0), (1, .int x0)]) (st' := [.int x0, .ref 52]) (sh' := ab_SH) (D' := ab_dD h) (fun n => rfl) ?_
      obtain ⟨c3, hf⟩ := ab_ask_s hf
      rcases ab_lt2 c3 with e4 | e4
      · have oe4 : ab_im x0 = 54 := by unfold ab_im; rw [e4]
        try rw [oe4] at hf
        refine ab_Ex.aald (o := 52) (j := x0) (t := 105) (n := 2) (i := 0) (z := 54) (fun n => rfl) c3 (by decide) e4 rfl (by decide) ?_
        refine ab_Ex.blk (k := 1) (pc' := 21) (lv' := [(0, .ref 0), (1, .int x0)]) (st' := [.int ((h.1 54 0))]) (sh' := ab_SH) (D' := ab_dD h) (fun n => rfl) ?_
        refine ab_Ex.ifc (c := (h.1 54 0) = 0) (SA := (24, [(0, .ref 0), (1, .int x0)], [], ab_dD h)) (SB := (27, [(0, .ref 0), (1, .int x0)], [], ab_dD h)) (fun n => rfl) (fun c5 => ?_) (fun c5 => ?_)
        · replace hf := (if_pos c5).symm.trans hf
          refine ab_Ex.blk (k := 1) (pc' := 26) (lv' := [(0, .ref 0), (1, .int x0)]) (st' := [.int ((-5))]) (sh' := ab_SH) (D' := ab_dD h) (fun n => rfl) ?_
          obtain rfl := Option.some.inj hf
          exact ab_Ex.ret (fun n => rfl) rfl
        · replace hf := (if_neg c5).symm.trans hf
          refine ab_Ex.blk (k := 5) (pc' := 36) (lv' := [(0, .ref 0), (1, .int x0)]) (st' := [.int x0, .ref 52, .ref 1]) (sh' := ab_SH) (D' := ab_dD h) (fun n => rfl) ?_
          obtain ⟨c6, hf⟩ := ab_ask_s hf
          have oe7 : ab_im x0 = 54 := by unfold ab_im; rw [e4]
          try rw [oe7] at hf
          refine ab_Ex.aald (o := 52) (j := x0) (t := 105) (n := 2) (i := 0) (z := 54) (fun n => rfl) c6 (by decide) e4 rfl (by decide) ?_
          obtain ⟨r8, hr8, hf⟩ := ab_bind_s hf
          refine ab_Ex.call (d := d + 3) (M2 := 33) (as := [.ref 1, .ref 54]) (rest := []) (fun n => rfl) rfl (Nat.not_lt.mpr (Nat.le_of_ble_eq_true rfl)) (sX3_copy_1_54 (d + 3) X  h _ hr8) (fun r hr => ?_)
          subst hr
          show ab_Ex X (d + 4) 167 40 [(0, .ref 0), (1, .int x0)] [] ab_SH (ab_dD r8) _
          refine ab_Ex.blk (k := 5) (pc' := 49) (lv' := [(0, .ref 0), (1, .int x0)]) (st' := [.int x0, .ref 53, .ref 12]) (sh' := ab_SH) (D' := ab_dD r8) (fun n => rfl) ?_
          obtain ⟨c9, hf⟩ := ab_ask_s hf
          have oe10 : ab_is x0 = 58 := by unfold ab_is; rw [e4]
          try rw [oe10] at hf
          refine ab_Ex.aald (o := 53) (j := x0) (t := 103) (n := 2) (i := 0) (z := 58) (fun n => rfl) c9 (by decide) e4 rfl (by decide) ?_
          obtain ⟨r11, hr11, hf⟩ := ab_bind_s hf
          refine ab_Ex.call (d := d + 3) (M2 := 117) (as := [.ref 12, .ref 58]) (rest := []) (fun n => rfl) rfl (Nat.not_lt.mpr (Nat.le_of_ble_eq_true rfl)) (sX9_copy_12_58 (d + 3) X  r8 _ hr11) (fun r hr => ?_)
          subst hr
          show ab_Ex X (d + 4) 167 53 [(0, .ref 0), (1, .int x0)] [] ab_SH (ab_dD r11) _
          refine ab_Ex.blk (k := 6) (pc' := 65) (lv' := [(0, .ref 0), (1, .int x0)]) (st' := [.ref 13]) (sh' := ab_SH) (D' := ab_dD (ab_wI r11 16 6 0)) (fun n => rfl) ?_
          obtain ⟨r12, hr12, hf⟩ := ab_bind_s hf
          refine ab_Ex.call (d := d + 3) (M2 := 96) (as := [.ref 13]) (rest := []) (fun n => rfl) rfl (Nat.not_lt.mpr (Nat.le_of_ble_eq_true rfl)) (sX7_forget (d + 2) X  (ab_wI r11 16 6 0) _ hr12) (fun r hr => ?_)
          subst hr
          show ab_Ex X (d + 4) 167 68 [(0, .ref 0), (1, .int x0)] [] ab_SH (ab_dD r12) _
          refine ab_Ex.blk (k := 5) (pc' := 79) (lv' := [(0, .ref 0), (1, .int x0)]) (st' := [.int (((r12).1 12 2)), .ref 13]) (sh' := ab_SH) (D' := ab_dD r12) (fun n => rfl) ?_
          obtain ⟨r13, hr13, hf⟩ := ab_bind_s hf
          refine ab_Ex.call (d := d + 3) (M2 := 97) (as := [.ref 13, .int (((r12).1 12 2))]) (rest := []) (fun n => rfl) rfl (Nat.not_lt.mpr (Nat.le_of_ble_eq_true rfl)) (sX7_prepare (d) X (((r12).1 12 2)) r12 _ hr13) (fun r hr => ?_)
          subst hr
          show ab_Ex X (d + 4) 167 82 [(0, .ref 0), (1, .int x0)] [] ab_SH (ab_dD r13) _
          refine ab_Ex.blk (k := 1) (pc' := 83) (lv' := [(0, .ref 0), (1, .int x0)]) (st' := [.int 0]) (sh' := ab_SH) (D' := ab_dD r13) (fun n => rfl) ?_
          obtain rfl := Option.some.inj hf
          exact ab_Ex.ret (fun n => rfl) rfl
      · have oe4 : ab_im x0 = 59 := by unfold ab_im; rw [e4]
        try rw [oe4] at hf
        refine ab_Ex.aald (o := 52) (j := x0) (t := 105) (n := 2) (i := 1) (z := 59) (fun n => rfl) c3 (by decide) e4 rfl (by decide) ?_
        refine ab_Ex.blk (k := 1) (pc' := 21) (lv' := [(0, .ref 0), (1, .int x0)]) (st' := [.int ((h.1 59 0))]) (sh' := ab_SH) (D' := ab_dD h) (fun n => rfl) ?_
        refine ab_Ex.ifc (c := (h.1 59 0) = 0) (SA := (24, [(0, .ref 0), (1, .int x0)], [], ab_dD h)) (SB := (27, [(0, .ref 0), (1, .int x0)], [], ab_dD h)) (fun n => rfl) (fun c14 => ?_) (fun c14 => ?_)
        · replace hf := (if_pos c14).symm.trans hf
          refine ab_Ex.blk (k := 1) (pc' := 26) (lv' := [(0, .ref 0), (1, .int x0)]) (st' := [.int ((-5))]) (sh' := ab_SH) (D' := ab_dD h) (fun n => rfl) ?_
          obtain rfl := Option.some.inj hf
          exact ab_Ex.ret (fun n => rfl) rfl
        · replace hf := (if_neg c14).symm.trans hf
          refine ab_Ex.blk (k := 5) (pc' := 36) (lv' := [(0, .ref 0), (1, .int x0)]) (st' := [.int x0, .ref 52, .ref 1]) (sh' := ab_SH) (D' := ab_dD h) (fun n => rfl) ?_
          obtain ⟨c15, hf⟩ := ab_ask_s hf
          have oe16 : ab_im x0 = 59 := by unfold ab_im; rw [e4]
          try rw [oe16] at hf
          refine ab_Ex.aald (o := 52) (j := x0) (t := 105) (n := 2) (i := 1) (z := 59) (fun n => rfl) c15 (by decide) e4 rfl (by decide) ?_
          obtain ⟨r17, hr17, hf⟩ := ab_bind_s hf
          refine ab_Ex.call (d := d + 3) (M2 := 33) (as := [.ref 1, .ref 59]) (rest := []) (fun n => rfl) rfl (Nat.not_lt.mpr (Nat.le_of_ble_eq_true rfl)) (sX3_copy_1_59 (d + 3) X  h _ hr17) (fun r hr => ?_)
          subst hr
          show ab_Ex X (d + 4) 167 40 [(0, .ref 0), (1, .int x0)] [] ab_SH (ab_dD r17) _
          refine ab_Ex.blk (k := 5) (pc' := 49) (lv' := [(0, .ref 0), (1, .int x0)]) (st' := [.int x0, .ref 53, .ref 12]) (sh' := ab_SH) (D' := ab_dD r17) (fun n => rfl) ?_
          obtain ⟨c18, hf⟩ := ab_ask_s hf
          have oe19 : ab_is x0 = 63 := by unfold ab_is; rw [e4]
          try rw [oe19] at hf
          refine ab_Ex.aald (o := 53) (j := x0) (t := 103) (n := 2) (i := 1) (z := 63) (fun n => rfl) c18 (by decide) e4 rfl (by decide) ?_
          obtain ⟨r20, hr20, hf⟩ := ab_bind_s hf
          refine ab_Ex.call (d := d + 3) (M2 := 117) (as := [.ref 12, .ref 63]) (rest := []) (fun n => rfl) rfl (Nat.not_lt.mpr (Nat.le_of_ble_eq_true rfl)) (sX9_copy_12_63 (d + 3) X  r17 _ hr20) (fun r hr => ?_)
          subst hr
          show ab_Ex X (d + 4) 167 53 [(0, .ref 0), (1, .int x0)] [] ab_SH (ab_dD r20) _
          refine ab_Ex.blk (k := 6) (pc' := 65) (lv' := [(0, .ref 0), (1, .int x0)]) (st' := [.ref 13]) (sh' := ab_SH) (D' := ab_dD (ab_wI r20 16 6 0)) (fun n => rfl) ?_
          obtain ⟨r21, hr21, hf⟩ := ab_bind_s hf
          refine ab_Ex.call (d := d + 3) (M2 := 96) (as := [.ref 13]) (rest := []) (fun n => rfl) rfl (Nat.not_lt.mpr (Nat.le_of_ble_eq_true rfl)) (sX7_forget (d + 2) X  (ab_wI r20 16 6 0) _ hr21) (fun r hr => ?_)
          subst hr
          show ab_Ex X (d + 4) 167 68 [(0, .ref 0), (1, .int x0)] [] ab_SH (ab_dD r21) _
          refine ab_Ex.blk (k := 5) (pc' := 79) (lv' := [(0, .ref 0), (1, .int x0)]) (st' := [.int (((r21).1 12 2)), .ref 13]) (sh' := ab_SH) (D' := ab_dD r21) (fun n => rfl) ?_
          obtain ⟨r22, hr22, hf⟩ := ab_bind_s hf
          refine ab_Ex.call (d := d + 3) (M2 := 97) (as := [.ref 13, .int (((r21).1 12 2))]) (rest := []) (fun n => rfl) rfl (Nat.not_lt.mpr (Nat.le_of_ble_eq_true rfl)) (sX7_prepare (d) X (((r21).1 12 2)) r21 _ hr22) (fun r hr => ?_)
          subst hr
          show ab_Ex X (d + 4) 167 82 [(0, .ref 0), (1, .int x0)] [] ab_SH (ab_dD r22) _
          refine ab_Ex.blk (k := 1) (pc' := 83) (lv' := [(0, .ref 0), (1, .int x0)]) (st' := [.int 0]) (sh' := ab_SH) (D' := ab_dD r22) (fun n => rfl) ?_
          obtain rfl := Option.some.inj hf
          exact ab_Ex.ret (fun n => rfl) rfl
    · replace hf := (if_neg c2).symm.trans hf
      refine ab_Ex.blk (k := 1) (pc' := 11) (lv' := []) (st' := [.int ((-2))]) (sh' := ab_SH) (D' := ab_dD h) (fun n => rfl) ?_
      obtain rfl := Option.some.inj hf
      exact ab_Ex.ret (fun n => rfl) rfl
def fX11_count (x0 : Int32) (h : abJ) : Option Int32 := if x0 = 0 then some (h.1 1 0) else if x0 = 1 then (fX3_allRoads h).bind (fun r3 => some r3) else if x0 = 2 then some (h.1 1 2) else if x0 = 3 then some (h.1 12 0) else if x0 = 4 then some (h.1 12 1) else if x0 = 5 then some (h.1 12 2) else if x0 = 6 then some (h.1 12 3) else if x0 = 7 then some (h.1 16 6) else if x0 = 8 then some (h.1 9 4) else if x0 = 9 then some (h.1 1 1) else some (-1)
set_option maxRecDepth 20000 in
theorem sX11_count (d : Nat) (X : abX) (x0 : Int32) (h : abJ) (z : Int32) (hf : fX11_count x0 h = some z) : ab_Ex X (d + 2) 168 0 [(0, .ref 0), (1, .int x0)] [] ab_SH (ab_dD h) (fun r => r = (some (.int z), ab_SH, ab_dD h)) := by
  unfold fX11_count at hf
  refine ab_Ex.blk (k := 1) (pc' := 1) (lv' := [(0, .ref 0), (1, .int x0)]) (st' := [.int x0]) (sh' := ab_SH) (D' := ab_dD h) (fun n => rfl) ?_
  by_cases c1 : x0 = 0
  · replace hf := (if_pos c1).symm.trans hf
    refine ab_Ex.blk (k := 1) (pc' := 56) (lv' := [(0, .ref 0), (1, .int x0)]) (st' := []) (sh' := ab_SH) (D' := ab_dD h) (fun n => by rw [c1]; rfl) ?_
    refine ab_Ex.blk (k := 3) (pc' := 63) (lv' := [(0, .ref 0), (1, .int x0)]) (st' := [.int ((h.1 1 0))]) (sh' := ab_SH) (D' := ab_dD h) (fun n => rfl) ?_
    obtain rfl := Option.some.inj hf
    exact ab_Ex.ret (fun n => rfl) rfl
  · replace hf := (if_neg c1).symm.trans hf
    by_cases c2 : x0 = 1
    · replace hf := (if_pos c2).symm.trans hf
      refine ab_Ex.blk (k := 1) (pc' := 64) (lv' := [(0, .ref 0), (1, .int x0)]) (st' := []) (sh' := ab_SH) (D' := ab_dD h) (fun n => by rw [c2]; rfl) ?_
      refine ab_Ex.blk (k := 2) (pc' := 68) (lv' := [(0, .ref 0), (1, .int x0)]) (st' := [.ref 1]) (sh' := ab_SH) (D' := ab_dD h) (fun n => rfl) ?_
      obtain ⟨r3, hr3, hf⟩ := ab_bind_s hf
      refine ab_Ex.call (d := d + 1) (M2 := 39) (as := [.ref 1]) (rest := []) (fun n => rfl) rfl (Nat.not_lt.mpr (Nat.le_of_ble_eq_true rfl)) (sX3_allRoads (d) X  h _ hr3) (fun r hr => ?_)
      subst hr
      show ab_Ex X (d + 2) 168 71 [(0, .ref 0), (1, .int x0)] [.int r3] ab_SH (ab_dD h) _
      obtain rfl := Option.some.inj hf
      exact ab_Ex.ret (fun n => rfl) rfl
    · replace hf := (if_neg c2).symm.trans hf
      by_cases c4 : x0 = 2
      · replace hf := (if_pos c4).symm.trans hf
        refine ab_Ex.blk (k := 1) (pc' := 72) (lv' := [(0, .ref 0), (1, .int x0)]) (st' := []) (sh' := ab_SH) (D' := ab_dD h) (fun n => by rw [c4]; rfl) ?_
        refine ab_Ex.blk (k := 3) (pc' := 79) (lv' := [(0, .ref 0), (1, .int x0)]) (st' := [.int ((h.1 1 2))]) (sh' := ab_SH) (D' := ab_dD h) (fun n => rfl) ?_
        obtain rfl := Option.some.inj hf
        exact ab_Ex.ret (fun n => rfl) rfl
      · replace hf := (if_neg c4).symm.trans hf
        by_cases c5 : x0 = 3
        · replace hf := (if_pos c5).symm.trans hf
          refine ab_Ex.blk (k := 1) (pc' := 80) (lv' := [(0, .ref 0), (1, .int x0)]) (st' := []) (sh' := ab_SH) (D' := ab_dD h) (fun n => by rw [c5]; rfl) ?_
          refine ab_Ex.blk (k := 3) (pc' := 87) (lv' := [(0, .ref 0), (1, .int x0)]) (st' := [.int ((h.1 12 0))]) (sh' := ab_SH) (D' := ab_dD h) (fun n => rfl) ?_
          obtain rfl := Option.some.inj hf
          exact ab_Ex.ret (fun n => rfl) rfl
        · replace hf := (if_neg c5).symm.trans hf
          by_cases c6 : x0 = 4
          · replace hf := (if_pos c6).symm.trans hf
            refine ab_Ex.blk (k := 1) (pc' := 88) (lv' := [(0, .ref 0), (1, .int x0)]) (st' := []) (sh' := ab_SH) (D' := ab_dD h) (fun n => by rw [c6]; rfl) ?_
            refine ab_Ex.blk (k := 3) (pc' := 95) (lv' := [(0, .ref 0), (1, .int x0)]) (st' := [.int ((h.1 12 1))]) (sh' := ab_SH) (D' := ab_dD h) (fun n => rfl) ?_
            obtain rfl := Option.some.inj hf
            exact ab_Ex.ret (fun n => rfl) rfl
          · replace hf := (if_neg c6).symm.trans hf
            by_cases c7 : x0 = 5
            · replace hf := (if_pos c7).symm.trans hf
              refine ab_Ex.blk (k := 1) (pc' := 96) (lv' := [(0, .ref 0), (1, .int x0)]) (st' := []) (sh' := ab_SH) (D' := ab_dD h) (fun n => by rw [c7]; rfl) ?_
              refine ab_Ex.blk (k := 3) (pc' := 103) (lv' := [(0, .ref 0), (1, .int x0)]) (st' := [.int ((h.1 12 2))]) (sh' := ab_SH) (D' := ab_dD h) (fun n => rfl) ?_
              obtain rfl := Option.some.inj hf
              exact ab_Ex.ret (fun n => rfl) rfl
            · replace hf := (if_neg c7).symm.trans hf
              by_cases c8 : x0 = 6
              · replace hf := (if_pos c8).symm.trans hf
                refine ab_Ex.blk (k := 1) (pc' := 104) (lv' := [(0, .ref 0), (1, .int x0)]) (st' := []) (sh' := ab_SH) (D' := ab_dD h) (fun n => by rw [c8]; rfl) ?_
                refine ab_Ex.blk (k := 3) (pc' := 111) (lv' := [(0, .ref 0), (1, .int x0)]) (st' := [.int ((h.1 12 3))]) (sh' := ab_SH) (D' := ab_dD h) (fun n => rfl) ?_
                obtain rfl := Option.some.inj hf
                exact ab_Ex.ret (fun n => rfl) rfl
              · replace hf := (if_neg c8).symm.trans hf
                by_cases c9 : x0 = 7
                · replace hf := (if_pos c9).symm.trans hf
                  refine ab_Ex.blk (k := 1) (pc' := 112) (lv' := [(0, .ref 0), (1, .int x0)]) (st' := []) (sh' := ab_SH) (D' := ab_dD h) (fun n => by rw [c9]; rfl) ?_
                  refine ab_Ex.blk (k := 3) (pc' := 119) (lv' := [(0, .ref 0), (1, .int x0)]) (st' := [.int ((h.1 16 6))]) (sh' := ab_SH) (D' := ab_dD h) (fun n => rfl) ?_
                  obtain rfl := Option.some.inj hf
                  exact ab_Ex.ret (fun n => rfl) rfl
                · replace hf := (if_neg c9).symm.trans hf
                  by_cases c10 : x0 = 8
                  · replace hf := (if_pos c10).symm.trans hf
                    refine ab_Ex.blk (k := 1) (pc' := 120) (lv' := [(0, .ref 0), (1, .int x0)]) (st' := []) (sh' := ab_SH) (D' := ab_dD h) (fun n => by rw [c10]; rfl) ?_
                    refine ab_Ex.blk (k := 3) (pc' := 127) (lv' := [(0, .ref 0), (1, .int x0)]) (st' := [.int ((h.1 9 4))]) (sh' := ab_SH) (D' := ab_dD h) (fun n => rfl) ?_
                    obtain rfl := Option.some.inj hf
                    exact ab_Ex.ret (fun n => rfl) rfl
                  · replace hf := (if_neg c10).symm.trans hf
                    by_cases c11 : x0 = 9
                    · replace hf := (if_pos c11).symm.trans hf
                      refine ab_Ex.blk (k := 1) (pc' := 128) (lv' := [(0, .ref 0), (1, .int x0)]) (st' := []) (sh' := ab_SH) (D' := ab_dD h) (fun n => by rw [c11]; rfl) ?_
                      refine ab_Ex.blk (k := 3) (pc' := 135) (lv' := [(0, .ref 0), (1, .int x0)]) (st' := [.int ((h.1 1 1))]) (sh' := ab_SH) (D' := ab_dD h) (fun n => rfl) ?_
                      obtain rfl := Option.some.inj hf
                      exact ab_Ex.ret (fun n => rfl) rfl
                    · replace hf := (if_neg c11).symm.trans hf
                      have qc1 := lv_neT c1 (show (0 : Int32).toInt = 0 by decide)
                      have qc2 := lv_neT c2 (show (1 : Int32).toInt = 1 by decide)
                      have qc4 := lv_neT c4 (show (2 : Int32).toInt = 2 by decide)
                      have qc5 := lv_neT c5 (show (3 : Int32).toInt = 3 by decide)
                      have qc6 := lv_neT c6 (show (4 : Int32).toInt = 4 by decide)
                      have qc7 := lv_neT c7 (show (5 : Int32).toInt = 5 by decide)
                      have qc8 := lv_neT c8 (show (6 : Int32).toInt = 6 by decide)
                      have qc9 := lv_neT c9 (show (7 : Int32).toInt = 7 by decide)
                      have qc10 := lv_neT c10 (show (8 : Int32).toInt = 8 by decide)
                      have qc11 := lv_neT c11 (show (9 : Int32).toInt = 9 by decide)
                      refine ab_Ex.tsw (c := (x0 : Int32).toInt < 0 ∨ 9 < (x0 : Int32).toInt) (S := (136, [(0, .ref 0), (1, .int x0)], [], ab_dD h)) (fun n => rfl) (by omega) ?_
                      refine ab_Ex.blk (k := 1) (pc' := 137) (lv' := [(0, .ref 0), (1, .int x0)]) (st' := [.int ((-1))]) (sh' := ab_SH) (D' := ab_dD h) (fun n => rfl) ?_
                      obtain rfl := Option.some.inj hf
                      exact ab_Ex.ret (fun n => rfl) rfl
def fX12_within (x0 : Int64) (x1 : Int64) (x2 : Int64) (h : abJ) : Option Int32 := if (lg_cmp x0 x1) < 0 then some 0 else if 0 < (lg_cmp x0 x2) then some 0 else some 1
set_option maxRecDepth 20000 in
theorem sX12_within (d : Nat) (X : abX) (x0 : Int64) (x1 : Int64) (x2 : Int64) (h : abJ) (z : Int32) (hf : fX12_within x0 x1 x2 h = some z) : ab_Ex X (d + 0) 175 0 [(0, .long x0), (2, .long x1), (4, .long x2)] [] ab_SH (ab_dD h) (fun r => r = (some (.int z), ab_SH, ab_dD h)) := by
  unfold fX12_within at hf
  refine ab_Ex.blk (k := 3) (pc' := 3) (lv' := [(0, .long x0), (2, .long x1), (4, .long x2)]) (st' := [.int ((lg_cmp x0 x1))]) (sh' := ab_SH) (D' := ab_dD h) (fun n => rfl) ?_
  refine ab_Ex.ifc (c := (lg_cmp x0 x1) < 0) (SA := (17, [(0, .long x0), (2, .long x1), (4, .long x2)], [], ab_dD h)) (SB := (6, [(0, .long x0), (2, .long x1), (4, .long x2)], [], ab_dD h)) (fun n => rfl) (fun c1 => ?_) (fun c1 => ?_)
  · replace hf := (if_pos c1).symm.trans hf
    refine ab_Ex.blk (k := 1) (pc' := 18) (lv' := []) (st' := [.int 0]) (sh' := ab_SH) (D' := ab_dD h) (fun n => rfl) ?_
    obtain rfl := Option.some.inj hf
    exact ab_Ex.ret (fun n => rfl) rfl
  · replace hf := (if_neg c1).symm.trans hf
    refine ab_Ex.blk (k := 3) (pc' := 10) (lv' := [(0, .long x0), (2, .long x1), (4, .long x2)]) (st' := [.int ((lg_cmp x0 x2))]) (sh' := ab_SH) (D' := ab_dD h) (fun n => rfl) ?_
    refine ab_Ex.ifc (c := 0 < (lg_cmp x0 x2)) (SA := (17, [(0, .long x0), (2, .long x1), (4, .long x2)], [], ab_dD h)) (SB := (13, [(0, .long x0), (2, .long x1), (4, .long x2)], [], ab_dD h)) (fun n => rfl) (fun c2 => ?_) (fun c2 => ?_)
    · replace hf := (if_pos c2).symm.trans hf
      refine ab_Ex.blk (k := 1) (pc' := 18) (lv' := []) (st' := [.int 0]) (sh' := ab_SH) (D' := ab_dD h) (fun n => rfl) ?_
      obtain rfl := Option.some.inj hf
      exact ab_Ex.ret (fun n => rfl) rfl
    · replace hf := (if_neg c2).symm.trans hf
      refine ab_Ex.blk (k := 2) (pc' := 18) (lv' := []) (st' := [.int 1]) (sh' := ab_SH) (D' := ab_dD h) (fun n => rfl) ?_
      obtain rfl := Option.some.inj hf
      exact ab_Ex.ret (fun n => rfl) rfl
def fX12_plain_L2 (x0 : Nat)  : Nat → Int32 → abJ → Option abJ
  | 0, _, _ => none
  | n + 1, y1, h => if 1034 ≤ y1 then ab_ask (1 < 0 ∨ (ab_ln x0) ≤ (1 : Int32).toNatClampNeg) (some (ab_wI h x0 (1 : Int32).toNatClampNeg 1)) else ab_ask (y1 < 0 ∨ (ab_ln x0) ≤ (y1 : Int32).toNatClampNeg) (fX12_plain_L2 x0 n ((y1 + 1)) (ab_wI h x0 (y1 : Int32).toNatClampNeg 0))
def fX12_plain (x0 : Nat) (h : abJ) : Option abJ := fX12_plain_L2 x0 ab_N 0 h
set_option maxRecDepth 20000 in
theorem sX12_plain_L2_65 (d : Nat) (X : abX)   : ∀ (n : Nat), ∀ (y1 : Int32) (h : abJ) (z : abJ), fX12_plain_L2 65 n y1 h = some z → ab_Ex X (d + 0) 177 2 [(0, .ref 65), (1, .int y1)] [] ab_SH (ab_dD h) (fun r => r = (none, ab_SH, ab_dD z)) := by
  intro n
  induction n with
  | zero => intro y1 h z hf; cases hf
  | succ n ih =>
    intro y1 h z hf
    rw [fX12_plain_L2] at hf
    try simp only [Nat.reduceAdd] at hf
    refine ab_Ex.blk (k := 2) (pc' := 6) (lv' := [(0, .ref 65), (1, .int y1)]) (st' := [.int 1034, .int y1]) (sh' := ab_SH) (D' := ab_dD h) (fun n => rfl) ?_
    refine ab_Ex.ifc (c := 1034 ≤ y1) (SA := (19, [(0, .ref 65), (1, .int y1)], [], ab_dD h)) (SB := (9, [(0, .ref 65), (1, .int y1)], [], ab_dD h)) (fun n => rfl) (fun c1 => ?_) (fun c1 => ?_)
    · replace hf := (if_pos c1).symm.trans hf
      refine ab_Ex.blk (k := 3) (pc' := 22) (lv' := [(0, .ref 65), (1, .int y1)]) (st' := [.int 1, .int 1, .ref 65]) (sh' := ab_SH) (D' := ab_dD h) (fun n => rfl) ?_
      refine ab_Ex.blk (k := 1) (pc' := 23) (lv' := [(0, .ref 65), (1, .int y1)]) (st' := []) (sh' := ab_SH) (D' := ab_dD (ab_wI h 65 1 1)) (fun n => rfl) ?_
      obtain rfl := Option.some.inj hf
      exact ab_Ex.ret (fun n => rfl) rfl
    · replace hf := (if_neg c1).symm.trans hf
      refine ab_Ex.blk (k := 3) (pc' := 12) (lv' := [(0, .ref 65), (1, .int y1)]) (st' := [.int 0, .int y1, .ref 65]) (sh' := ab_SH) (D' := ab_dD h) (fun n => rfl) ?_
      obtain ⟨c2, hf⟩ := ab_ask_s hf
      refine ab_Ex.grd (c := y1 < 0 ∨ 3102 ≤ (y1 : Int32).toNatClampNeg) (S := (13, [(0, .ref 65), (1, .int y1)], [], ab_dD (ab_wI h 65 (y1 : Int32).toNatClampNeg 0))) (fun n => rfl) c2 ?_
      refine ab_Ex.blk (k := 2) (pc' := 2) (lv' := [(0, .ref 65), (1, .int ((y1 + 1)))]) (st' := []) (sh' := ab_SH) (D' := ab_dD (ab_wI h 65 (y1 : Int32).toNatClampNeg 0)) (fun n => rfl) ?_
      exact ih ((y1 + 1)) (ab_wI h 65 (y1 : Int32).toNatClampNeg 0) _ hf
set_option maxRecDepth 20000 in
theorem sX12_plain_65 (d : Nat) (X : abX)  (h : abJ) (z : abJ) (hf : fX12_plain 65 h = some z) : ab_Ex X (d + 0) 177 0 [(0, .ref 65)] [] ab_SH (ab_dD h) (fun r => r = (none, ab_SH, ab_dD z)) := by
  unfold fX12_plain at hf
  try simp only [Nat.reduceAdd] at hf
  refine ab_Ex.blk (k := 2) (pc' := 2) (lv' := [(0, .ref 65), (1, .int 0)]) (st' := []) (sh' := ab_SH) (D' := ab_dD h) (fun n => rfl) ?_
  exact sX12_plain_L2_65 d X  ab_N 0 h _ hf
set_option maxRecDepth 20000 in
theorem sX12_plain_L2_68 (d : Nat) (X : abX)   : ∀ (n : Nat), ∀ (y1 : Int32) (h : abJ) (z : abJ), fX12_plain_L2 68 n y1 h = some z → ab_Ex X (d + 0) 177 2 [(0, .ref 68), (1, .int y1)] [] ab_SH (ab_dD h) (fun r => r = (none, ab_SH, ab_dD z)) := by
  intro n
  induction n with
  | zero => intro y1 h z hf; cases hf
  | succ n ih =>
    intro y1 h z hf
    rw [fX12_plain_L2] at hf
    try simp only [Nat.reduceAdd] at hf
    refine ab_Ex.blk (k := 2) (pc' := 6) (lv' := [(0, .ref 68), (1, .int y1)]) (st' := [.int 1034, .int y1]) (sh' := ab_SH) (D' := ab_dD h) (fun n => rfl) ?_
    refine ab_Ex.ifc (c := 1034 ≤ y1) (SA := (19, [(0, .ref 68), (1, .int y1)], [], ab_dD h)) (SB := (9, [(0, .ref 68), (1, .int y1)], [], ab_dD h)) (fun n => rfl) (fun c1 => ?_) (fun c1 => ?_)
    · replace hf := (if_pos c1).symm.trans hf
      refine ab_Ex.blk (k := 3) (pc' := 22) (lv' := [(0, .ref 68), (1, .int y1)]) (st' := [.int 1, .int 1, .ref 68]) (sh' := ab_SH) (D' := ab_dD h) (fun n => rfl) ?_
      refine ab_Ex.blk (k := 1) (pc' := 23) (lv' := [(0, .ref 68), (1, .int y1)]) (st' := []) (sh' := ab_SH) (D' := ab_dD (ab_wI h 68 1 1)) (fun n => rfl) ?_
      obtain rfl := Option.some.inj hf
      exact ab_Ex.ret (fun n => rfl) rfl
    · replace hf := (if_neg c1).symm.trans hf
      refine ab_Ex.blk (k := 3) (pc' := 12) (lv' := [(0, .ref 68), (1, .int y1)]) (st' := [.int 0, .int y1, .ref 68]) (sh' := ab_SH) (D' := ab_dD h) (fun n => rfl) ?_
      obtain ⟨c2, hf⟩ := ab_ask_s hf
      refine ab_Ex.grd (c := y1 < 0 ∨ 1034 ≤ (y1 : Int32).toNatClampNeg) (S := (13, [(0, .ref 68), (1, .int y1)], [], ab_dD (ab_wI h 68 (y1 : Int32).toNatClampNeg 0))) (fun n => rfl) c2 ?_
      refine ab_Ex.blk (k := 2) (pc' := 2) (lv' := [(0, .ref 68), (1, .int ((y1 + 1)))]) (st' := []) (sh' := ab_SH) (D' := ab_dD (ab_wI h 68 (y1 : Int32).toNatClampNeg 0)) (fun n => rfl) ?_
      exact ih ((y1 + 1)) (ab_wI h 68 (y1 : Int32).toNatClampNeg 0) _ hf
set_option maxRecDepth 20000 in
theorem sX12_plain_68 (d : Nat) (X : abX)  (h : abJ) (z : abJ) (hf : fX12_plain 68 h = some z) : ab_Ex X (d + 0) 177 0 [(0, .ref 68)] [] ab_SH (ab_dD h) (fun r => r = (none, ab_SH, ab_dD z)) := by
  unfold fX12_plain at hf
  try simp only [Nat.reduceAdd] at hf
  refine ab_Ex.blk (k := 2) (pc' := 2) (lv' := [(0, .ref 68), (1, .int 0)]) (st' := []) (sh' := ab_SH) (D' := ab_dD h) (fun n => rfl) ?_
  exact sX12_plain_L2_68 d X  ab_N 0 h _ hf
def fX12_feed_J77  (k24 : Int32 → Int32 → Int32 → Int32 → Int32 → Int32 → abJ → Option (Int32 × abJ)) (y1 : Int32) (y2 : Int32) (y3 : Int32) (y4 : Int32) (y5 : Int32) (y6 : Int32) (t0 : Int32) (h : abJ) : Option (Int32 × abJ) := ab_ask ((h.1 64 5) < 0 ∨ 900 ≤ ((h.1 64 5) : Int32).toNatClampNeg) (k24 y1 y2 y3 y4 y5 ((y6 + 1)) (ab_wI (ab_wI h 67 ((h.1 64 5) : Int32).toNatClampNeg (((t0 : Int32) >>> ((24 - (8 * (y6 - y6 / 4 * 4))) &&& 31)) &&& 255)) 64 5 ((((ab_wI h 67 ((h.1 64 5) : Int32).toNatClampNeg (((t0 : Int32) >>> ((24 - (8 * (y6 - y6 / 4 * 4))) &&& 31)) &&& 255))).1 64 5) + 1)))
def fX12_feed_L24   : Nat → Int32 → Int32 → Int32 → Int32 → Int32 → Int32 → abJ → Option (Int32 × abJ)
  | 0, _, _, _, _, _, _, _ => none
  | n + 1, y1, y2, y3, y4, y5, y6, h => if 20 ≤ y6 then some ((h.1 64 5), h) else if 4 ≤ y6 then if 8 ≤ y6 then if 12 ≤ y6 then if 16 ≤ y6 then fX12_feed_J77 (fun y1 y2 y3 y4 y5 y6 h => fX12_feed_L24 n y1 y2 y3 y4 y5 y6 h) y1 y2 y3 y4 y5 y6 y5 h else fX12_feed_J77 (fun y1 y2 y3 y4 y5 y6 h => fX12_feed_L24 n y1 y2 y3 y4 y5 y6 h) y1 y2 y3 y4 y5 y6 y4 h else fX12_feed_J77 (fun y1 y2 y3 y4 y5 y6 h => fX12_feed_L24 n y1 y2 y3 y4 y5 y6 h) y1 y2 y3 y4 y5 y6 y3 h else fX12_feed_J77 (fun y1 y2 y3 y4 y5 y6 h => fX12_feed_L24 n y1 y2 y3 y4 y5 y6 h) y1 y2 y3 y4 y5 y6 y2 h else fX12_feed_J77 (fun y1 y2 y3 y4 y5 y6 h => fX12_feed_L24 n y1 y2 y3 y4 y5 y6 h) y1 y2 y3 y4 y5 y6 y1 h
def fX12_feed (x0 : Int32) (x1 : Int32) (x2 : Int32) (x3 : Int32) (x4 : Int32) (h : abJ) : Option (Int32 × abJ) := if ((((ab_wI h 64 0 0)).1 64 5) + 20) ≤ 900 then fX12_feed_L24 ab_N x0 x1 x2 x3 x4 0 (ab_wI h 64 0 0) else some ((-5), (ab_wI h 64 0 0))
set_option maxRecDepth 20000 in
theorem sX12_feed_J77 (d : Nat) (X : abX) (k24 : Int32 → Int32 → Int32 → Int32 → Int32 → Int32 → abJ → Option (Int32 × abJ)) (hk24 : ∀ (y1 : Int32) (y2 : Int32) (y3 : Int32) (y4 : Int32) (y5 : Int32) (y6 : Int32) (h : abJ) (z : (Int32 × abJ)), k24 y1 y2 y3 y4 y5 y6 h = some z → ab_Ex X (d + 0) 178 24 [(0, .ref 64), (1, .int y1), (2, .int y2), (3, .int y3), (4, .int y4), (5, .int y5), (6, .int y6)] [] ab_SH (ab_dD h) (fun r => r = (some (.int z.1), ab_SH, ab_dD z.2))) : ∀ (y1 : Int32) (y2 : Int32) (y3 : Int32) (y4 : Int32) (y5 : Int32) (y6 : Int32) (t0 : Int32) (h : abJ) (z : (Int32 × abJ)), fX12_feed_J77 k24 y1 y2 y3 y4 y5 y6 t0 h = some z → ab_Ex X (d + 0) 178 77 [(0, .ref 64), (1, .int y1), (2, .int y2), (3, .int y3), (4, .int y4), (5, .int y5), (6, .int y6)] [.int t0] ab_SH (ab_dD h) (fun r => r = (some (.int z.1), ab_SH, ab_dD z.2)) := by
  intro y1 y2 y3 y4 y5 y6 t0 h z hf
  unfold fX12_feed_J77 at hf
  refine ab_Ex.blk (k := 10) (pc' := 96) (lv' := [(7, .int t0), (0, .ref 64), (1, .int y1), (2, .int y2), (3, .int y3), (4, .int y4), (5, .int y5), (6, .int y6)]) (st' := [.int 4, .int y6, .int 8, .int 24, .int t0, .int ((h.1 64 5)), .ref 67]) (sh' := ab_SH) (D' := ab_dD h) (fun n => rfl) ?_
  refine ab_Ex.blk (k := 1) (pc' := 97) (lv' := [(7, .int t0), (0, .ref 64), (1, .int y1), (2, .int y2), (3, .int y3), (4, .int y4), (5, .int y5), (6, .int y6)]) (st' := [.int ((y6 - y6 / 4 * 4)), .int 8, .int 24, .int t0, .int ((h.1 64 5)), .ref 67]) (sh' := ab_SH) (D' := ab_dD h) (fun n => rfl) ?_
  refine ab_Ex.blk (k := 5) (pc' := 104) (lv' := [(7, .int t0), (0, .ref 64), (1, .int y1), (2, .int y2), (3, .int y3), (4, .int y4), (5, .int y5), (6, .int y6)]) (st' := [.int ((((t0 : Int32) >>> ((24 - (8 * (y6 - y6 / 4 * 4))) &&& 31)) &&& 255)), .int ((h.1 64 5)), .ref 67]) (sh' := ab_SH) (D' := ab_dD h) (fun n => rfl) ?_
  obtain ⟨c7, hf⟩ := ab_ask_s hf
  refine ab_Ex.grd (c := (h.1 64 5) < 0 ∨ 900 ≤ ((h.1 64 5) : Int32).toNatClampNeg) (S := (105, [(7, .int t0), (0, .ref 64), (1, .int y1), (2, .int y2), (3, .int y3), (4, .int y4), (5, .int y5), (6, .int y6)], [], ab_dD (ab_wI h 67 ((h.1 64 5) : Int32).toNatClampNeg (((t0 : Int32) >>> ((24 - (8 * (y6 - y6 / 4 * 4))) &&& 31)) &&& 255)))) (fun n => rfl) c7 ?_
  refine ab_Ex.blk (k := 8) (pc' := 24) (lv' := [(0, .ref 64), (1, .int y1), (2, .int y2), (3, .int y3), (4, .int y4), (5, .int y5), (6, .int ((y6 + 1)))]) (st' := []) (sh' := ab_SH) (D' := ab_dD (ab_wI (ab_wI h 67 ((h.1 64 5) : Int32).toNatClampNeg (((t0 : Int32) >>> ((24 - (8 * (y6 - y6 / 4 * 4))) &&& 31)) &&& 255)) 64 5 ((((ab_wI h 67 ((h.1 64 5) : Int32).toNatClampNeg (((t0 : Int32) >>> ((24 - (8 * (y6 - y6 / 4 * 4))) &&& 31)) &&& 255))).1 64 5) + 1))) (fun n => rfl) ?_
  exact hk24 y1 y2 y3 y4 y5 ((y6 + 1)) (ab_wI (ab_wI h 67 ((h.1 64 5) : Int32).toNatClampNeg (((t0 : Int32) >>> ((24 - (8 * (y6 - y6 / 4 * 4))) &&& 31)) &&& 255)) 64 5 ((((ab_wI h 67 ((h.1 64 5) : Int32).toNatClampNeg (((t0 : Int32) >>> ((24 - (8 * (y6 - y6 / 4 * 4))) &&& 31)) &&& 255))).1 64 5) + 1)) _ hf
set_option maxRecDepth 20000 in
theorem sX12_feed_L24 (d : Nat) (X : abX)   : ∀ (n : Nat), ∀ (y1 : Int32) (y2 : Int32) (y3 : Int32) (y4 : Int32) (y5 : Int32) (y6 : Int32) (h : abJ) (z : (Int32 × abJ)), fX12_feed_L24 n y1 y2 y3 y4 y5 y6 h = some z → ab_Ex X (d + 0) 178 24 [(0, .ref 64), (1, .int y1), (2, .int y2), (3, .int y3), (4, .int y4), (5, .int y5), (6, .int y6)] [] ab_SH (ab_dD h) (fun r => r = (some (.int z.1), ab_SH, ab_dD z.2)) := by
  intro n
  induction n with
  | zero => intro y1 y2 y3 y4 y5 y6 h z hf; cases hf
  | succ n ih =>
    intro y1 y2 y3 y4 y5 y6 h z hf
    rw [fX12_feed_L24] at hf
    refine ab_Ex.blk (k := 2) (pc' := 28) (lv' := [(0, .ref 64), (1, .int y1), (2, .int y2), (3, .int y3), (4, .int y4), (5, .int y5), (6, .int y6)]) (st' := [.int 20, .int y6]) (sh' := ab_SH) (D' := ab_dD h) (fun n => rfl) ?_
    refine ab_Ex.ifc (c := 20 ≤ y6) (SA := (121, [(0, .ref 64), (1, .int y1), (2, .int y2), (3, .int y3), (4, .int y4), (5, .int y5), (6, .int y6)], [], ab_dD h)) (SB := (31, [(0, .ref 64), (1, .int y1), (2, .int y2), (3, .int y3), (4, .int y4), (5, .int y5), (6, .int y6)], [], ab_dD h)) (fun n => rfl) (fun c2 => ?_) (fun c2 => ?_)
    · replace hf := (if_pos c2).symm.trans hf
      refine ab_Ex.blk (k := 2) (pc' := 125) (lv' := [(0, .ref 64), (1, .int y1), (2, .int y2), (3, .int y3), (4, .int y4), (5, .int y5), (6, .int y6)]) (st' := [.int ((h.1 64 5))]) (sh' := ab_SH) (D' := ab_dD h) (fun n => rfl) ?_
      obtain rfl := Option.some.inj hf
      exact ab_Ex.ret (fun n => rfl) rfl
    · replace hf := (if_neg c2).symm.trans hf
      refine ab_Ex.blk (k := 2) (pc' := 34) (lv' := [(0, .ref 64), (1, .int y1), (2, .int y2), (3, .int y3), (4, .int y4), (5, .int y5), (6, .int y6)]) (st' := [.int 4, .int y6]) (sh' := ab_SH) (D' := ab_dD h) (fun n => rfl) ?_
      refine ab_Ex.ifc (c := 4 ≤ y6) (SA := (41, [(0, .ref 64), (1, .int y1), (2, .int y2), (3, .int y3), (4, .int y4), (5, .int y5), (6, .int y6)], [], ab_dD h)) (SB := (37, [(0, .ref 64), (1, .int y1), (2, .int y2), (3, .int y3), (4, .int y4), (5, .int y5), (6, .int y6)], [], ab_dD h)) (fun n => rfl) (fun c3 => ?_) (fun c3 => ?_)
      · replace hf := (if_pos c3).symm.trans hf
        refine ab_Ex.blk (k := 2) (pc' := 45) (lv' := [(0, .ref 64), (1, .int y1), (2, .int y2), (3, .int y3), (4, .int y4), (5, .int y5), (6, .int y6)]) (st' := [.int 8, .int y6]) (sh' := ab_SH) (D' := ab_dD h) (fun n => rfl) ?_
        refine ab_Ex.ifc (c := 8 ≤ y6) (SA := (52, [(0, .ref 64), (1, .int y1), (2, .int y2), (3, .int y3), (4, .int y4), (5, .int y5), (6, .int y6)], [], ab_dD h)) (SB := (48, [(0, .ref 64), (1, .int y1), (2, .int y2), (3, .int y3), (4, .int y4), (5, .int y5), (6, .int y6)], [], ab_dD h)) (fun n => rfl) (fun c4 => ?_) (fun c4 => ?_)
        · replace hf := (if_pos c4).symm.trans hf
          refine ab_Ex.blk (k := 2) (pc' := 56) (lv' := [(0, .ref 64), (1, .int y1), (2, .int y2), (3, .int y3), (4, .int y4), (5, .int y5), (6, .int y6)]) (st' := [.int 12, .int y6]) (sh' := ab_SH) (D' := ab_dD h) (fun n => rfl) ?_
          refine ab_Ex.ifc (c := 12 ≤ y6) (SA := (63, [(0, .ref 64), (1, .int y1), (2, .int y2), (3, .int y3), (4, .int y4), (5, .int y5), (6, .int y6)], [], ab_dD h)) (SB := (59, [(0, .ref 64), (1, .int y1), (2, .int y2), (3, .int y3), (4, .int y4), (5, .int y5), (6, .int y6)], [], ab_dD h)) (fun n => rfl) (fun c5 => ?_) (fun c5 => ?_)
          · replace hf := (if_pos c5).symm.trans hf
            refine ab_Ex.blk (k := 2) (pc' := 67) (lv' := [(0, .ref 64), (1, .int y1), (2, .int y2), (3, .int y3), (4, .int y4), (5, .int y5), (6, .int y6)]) (st' := [.int 16, .int y6]) (sh' := ab_SH) (D' := ab_dD h) (fun n => rfl) ?_
            refine ab_Ex.ifc (c := 16 ≤ y6) (SA := (75, [(0, .ref 64), (1, .int y1), (2, .int y2), (3, .int y3), (4, .int y4), (5, .int y5), (6, .int y6)], [], ab_dD h)) (SB := (70, [(0, .ref 64), (1, .int y1), (2, .int y2), (3, .int y3), (4, .int y4), (5, .int y5), (6, .int y6)], [], ab_dD h)) (fun n => rfl) (fun c6 => ?_) (fun c6 => ?_)
            · replace hf := (if_pos c6).symm.trans hf
              refine ab_Ex.blk (k := 1) (pc' := 77) (lv' := [(0, .ref 64), (1, .int y1), (2, .int y2), (3, .int y3), (4, .int y4), (5, .int y5), (6, .int y6)]) (st' := [.int y5]) (sh' := ab_SH) (D' := ab_dD h) (fun n => rfl) ?_
              exact sX12_feed_J77 d X (fun y1 y2 y3 y4 y5 y6 h => fX12_feed_L24 n y1 y2 y3 y4 y5 y6 h) (fun y1 y2 y3 y4 y5 y6 h z hz => ih y1 y2 y3 y4 y5 y6 h z hz) y1 y2 y3 y4 y5 y6 y5 h _ hf
            · replace hf := (if_neg c6).symm.trans hf
              refine ab_Ex.blk (k := 2) (pc' := 77) (lv' := [(0, .ref 64), (1, .int y1), (2, .int y2), (3, .int y3), (4, .int y4), (5, .int y5), (6, .int y6)]) (st' := [.int y4]) (sh' := ab_SH) (D' := ab_dD h) (fun n => rfl) ?_
              exact sX12_feed_J77 d X (fun y1 y2 y3 y4 y5 y6 h => fX12_feed_L24 n y1 y2 y3 y4 y5 y6 h) (fun y1 y2 y3 y4 y5 y6 h z hz => ih y1 y2 y3 y4 y5 y6 h z hz) y1 y2 y3 y4 y5 y6 y4 h _ hf
          · replace hf := (if_neg c5).symm.trans hf
            refine ab_Ex.blk (k := 2) (pc' := 77) (lv' := [(0, .ref 64), (1, .int y1), (2, .int y2), (3, .int y3), (4, .int y4), (5, .int y5), (6, .int y6)]) (st' := [.int y3]) (sh' := ab_SH) (D' := ab_dD h) (fun n => rfl) ?_
            exact sX12_feed_J77 d X (fun y1 y2 y3 y4 y5 y6 h => fX12_feed_L24 n y1 y2 y3 y4 y5 y6 h) (fun y1 y2 y3 y4 y5 y6 h z hz => ih y1 y2 y3 y4 y5 y6 h z hz) y1 y2 y3 y4 y5 y6 y3 h _ hf
        · replace hf := (if_neg c4).symm.trans hf
          refine ab_Ex.blk (k := 2) (pc' := 77) (lv' := [(0, .ref 64), (1, .int y1), (2, .int y2), (3, .int y3), (4, .int y4), (5, .int y5), (6, .int y6)]) (st' := [.int y2]) (sh' := ab_SH) (D' := ab_dD h) (fun n => rfl) ?_
          exact sX12_feed_J77 d X (fun y1 y2 y3 y4 y5 y6 h => fX12_feed_L24 n y1 y2 y3 y4 y5 y6 h) (fun y1 y2 y3 y4 y5 y6 h z hz => ih y1 y2 y3 y4 y5 y6 h z hz) y1 y2 y3 y4 y5 y6 y2 h _ hf
      · replace hf := (if_neg c3).symm.trans hf
        refine ab_Ex.blk (k := 2) (pc' := 77) (lv' := [(0, .ref 64), (1, .int y1), (2, .int y2), (3, .int y3), (4, .int y4), (5, .int y5), (6, .int y6)]) (st' := [.int y1]) (sh' := ab_SH) (D' := ab_dD h) (fun n => rfl) ?_
        exact sX12_feed_J77 d X (fun y1 y2 y3 y4 y5 y6 h => fX12_feed_L24 n y1 y2 y3 y4 y5 y6 h) (fun y1 y2 y3 y4 y5 y6 h z hz => ih y1 y2 y3 y4 y5 y6 h z hz) y1 y2 y3 y4 y5 y6 y1 h _ hf
set_option maxRecDepth 20000 in
theorem sX12_feed (d : Nat) (X : abX) (x0 : Int32) (x1 : Int32) (x2 : Int32) (x3 : Int32) (x4 : Int32) (h : abJ) (z : (Int32 × abJ)) (hf : fX12_feed x0 x1 x2 x3 x4 h = some z) : ab_Ex X (d + 0) 178 0 [(0, .ref 64), (1, .int x0), (2, .int x1), (3, .int x2), (4, .int x3), (5, .int x4)] [] ab_SH (ab_dD h) (fun r => r = (some (.int z.1), ab_SH, ab_dD z.2)) := by
  unfold fX12_feed at hf
  refine ab_Ex.blk (k := 8) (pc' := 15) (lv' := [(0, .ref 64), (1, .int x0), (2, .int x1), (3, .int x2), (4, .int x3), (5, .int x4)]) (st' := [.int 900, .int (((((ab_wI h 64 0 0)).1 64 5) + 20))]) (sh' := ab_SH) (D' := ab_dD (ab_wI h 64 0 0)) (fun n => rfl) ?_
  refine ab_Ex.ifc (c := ((((ab_wI h 64 0 0)).1 64 5) + 20) ≤ 900) (SA := (21, [(0, .ref 64), (1, .int x0), (2, .int x1), (3, .int x2), (4, .int x3), (5, .int x4)], [], ab_dD (ab_wI h 64 0 0))) (SB := (18, [(0, .ref 64), (1, .int x0), (2, .int x1), (3, .int x2), (4, .int x3), (5, .int x4)], [], ab_dD (ab_wI h 64 0 0))) (fun n => rfl) (fun c1 => ?_) (fun c1 => ?_)
  · replace hf := (if_pos c1).symm.trans hf
    refine ab_Ex.blk (k := 2) (pc' := 24) (lv' := [(0, .ref 64), (1, .int x0), (2, .int x1), (3, .int x2), (4, .int x3), (5, .int x4), (6, .int 0)]) (st' := []) (sh' := ab_SH) (D' := ab_dD (ab_wI h 64 0 0)) (fun n => rfl) ?_
    exact sX12_feed_L24 d X  ab_N x0 x1 x2 x3 x4 0 (ab_wI h 64 0 0) _ hf
  · replace hf := (if_neg c1).symm.trans hf
    refine ab_Ex.blk (k := 1) (pc' := 20) (lv' := [(0, .ref 64), (1, .int x0), (2, .int x1), (3, .int x2), (4, .int x3), (5, .int x4)]) (st' := [.int ((-5))]) (sh' := ab_SH) (D' := ab_dD (ab_wI h 64 0 0)) (fun n => rfl) ?_
    obtain rfl := Option.some.inj hf
    exact ab_Ex.ret (fun n => rfl) rfl
def fX12_see (x0 : Int32) (h : abJ) : Option Int32 := if (h.1 64 8) ≤ x0 then some (-1) else ab_ask (x0 < 0 ∨ 900 ≤ (x0 : Int32).toNatClampNeg) (some (h.1 67 (x0 : Int32).toNatClampNeg))
set_option maxRecDepth 20000 in
theorem sX12_see (d : Nat) (X : abX) (x0 : Int32) (h : abJ) (z : Int32) (hf : fX12_see x0 h = some z) : ab_Ex X (d + 0) 179 0 [(0, .ref 64), (1, .int x0)] [] ab_SH (ab_dD h) (fun r => r = (some (.int z), ab_SH, ab_dD h)) := by
  unfold fX12_see at hf
  refine ab_Ex.blk (k := 3) (pc' := 5) (lv' := [(0, .ref 64), (1, .int x0)]) (st' := [.int ((h.1 64 8)), .int x0]) (sh' := ab_SH) (D' := ab_dD h) (fun n => rfl) ?_
  refine ab_Ex.ifc (c := (h.1 64 8) ≤ x0) (SA := (17, [(0, .ref 64), (1, .int x0)], [], ab_dD h)) (SB := (8, [(0, .ref 64), (1, .int x0)], [], ab_dD h)) (fun n => rfl) (fun c1 => ?_) (fun c1 => ?_)
  · replace hf := (if_pos c1).symm.trans hf
    refine ab_Ex.blk (k := 1) (pc' := 18) (lv' := []) (st' := [.int ((-1))]) (sh' := ab_SH) (D' := ab_dD h) (fun n => rfl) ?_
    obtain rfl := Option.some.inj hf
    exact ab_Ex.ret (fun n => rfl) rfl
  · replace hf := (if_neg c1).symm.trans hf
    refine ab_Ex.blk (k := 3) (pc' := 13) (lv' := [(0, .ref 64), (1, .int x0)]) (st' := [.int x0, .ref 67]) (sh' := ab_SH) (D' := ab_dD h) (fun n => rfl) ?_
    obtain ⟨c3, hf⟩ := ab_ask_s hf
    refine ab_Ex.grd (c := x0 < 0 ∨ 900 ≤ (x0 : Int32).toNatClampNeg) (S := (14, [(0, .ref 64), (1, .int x0)], [.int ((h.1 67 (x0 : Int32).toNatClampNeg))], ab_dD h)) (fun n => rfl) c3 ?_
    refine ab_Ex.blk (k := 1) (pc' := 18) (lv' := []) (st' := [.int ((h.1 67 (x0 : Int32).toNatClampNeg))]) (sh' := ab_SH) (D' := ab_dD h) (fun n => rfl) ?_
    obtain rfl := Option.some.inj hf
    exact ab_Ex.ret (fun n => rfl) rfl
def fX12_isSmall (x0 : Int32) (h : abJ) : Option Int32 := if x0 < 97 then some 0 else if 122 < x0 then some 0 else some 1
set_option maxRecDepth 20000 in
theorem sX12_isSmall (d : Nat) (X : abX) (x0 : Int32) (h : abJ) (z : Int32) (hf : fX12_isSmall x0 h = some z) : ab_Ex X (d + 0) 180 0 [(0, .int x0)] [] ab_SH (ab_dD h) (fun r => r = (some (.int z), ab_SH, ab_dD h)) := by
  unfold fX12_isSmall at hf
  refine ab_Ex.blk (k := 2) (pc' := 3) (lv' := [(0, .int x0)]) (st' := [.int 97, .int x0]) (sh' := ab_SH) (D' := ab_dD h) (fun n => rfl) ?_
  refine ab_Ex.ifc (c := x0 < 97) (SA := (16, [(0, .int x0)], [], ab_dD h)) (SB := (6, [(0, .int x0)], [], ab_dD h)) (fun n => rfl) (fun c1 => ?_) (fun c1 => ?_)
  · replace hf := (if_pos c1).symm.trans hf
    refine ab_Ex.blk (k := 1) (pc' := 17) (lv' := []) (st' := [.int 0]) (sh' := ab_SH) (D' := ab_dD h) (fun n => rfl) ?_
    obtain rfl := Option.some.inj hf
    exact ab_Ex.ret (fun n => rfl) rfl
  · replace hf := (if_neg c1).symm.trans hf
    refine ab_Ex.blk (k := 2) (pc' := 9) (lv' := [(0, .int x0)]) (st' := [.int 122, .int x0]) (sh' := ab_SH) (D' := ab_dD h) (fun n => rfl) ?_
    refine ab_Ex.ifc (c := 122 < x0) (SA := (16, [(0, .int x0)], [], ab_dD h)) (SB := (12, [(0, .int x0)], [], ab_dD h)) (fun n => rfl) (fun c2 => ?_) (fun c2 => ?_)
    · replace hf := (if_pos c2).symm.trans hf
      refine ab_Ex.blk (k := 1) (pc' := 17) (lv' := []) (st' := [.int 0]) (sh' := ab_SH) (D' := ab_dD h) (fun n => rfl) ?_
      obtain rfl := Option.some.inj hf
      exact ab_Ex.ret (fun n => rfl) rfl
    · replace hf := (if_neg c2).symm.trans hf
      refine ab_Ex.blk (k := 2) (pc' := 17) (lv' := []) (st' := [.int 1]) (sh' := ab_SH) (D' := ab_dD h) (fun n => rfl) ?_
      obtain rfl := Option.some.inj hf
      exact ab_Ex.ret (fun n => rfl) rfl
def fX12_isDigit (x0 : Int32) (h : abJ) : Option Int32 := if x0 < 48 then some 0 else if 57 < x0 then some 0 else some 1
set_option maxRecDepth 20000 in
theorem sX12_isDigit (d : Nat) (X : abX) (x0 : Int32) (h : abJ) (z : Int32) (hf : fX12_isDigit x0 h = some z) : ab_Ex X (d + 0) 181 0 [(0, .int x0)] [] ab_SH (ab_dD h) (fun r => r = (some (.int z), ab_SH, ab_dD h)) := by
  unfold fX12_isDigit at hf
  refine ab_Ex.blk (k := 2) (pc' := 3) (lv' := [(0, .int x0)]) (st' := [.int 48, .int x0]) (sh' := ab_SH) (D' := ab_dD h) (fun n => rfl) ?_
  refine ab_Ex.ifc (c := x0 < 48) (SA := (16, [(0, .int x0)], [], ab_dD h)) (SB := (6, [(0, .int x0)], [], ab_dD h)) (fun n => rfl) (fun c1 => ?_) (fun c1 => ?_)
  · replace hf := (if_pos c1).symm.trans hf
    refine ab_Ex.blk (k := 1) (pc' := 17) (lv' := []) (st' := [.int 0]) (sh' := ab_SH) (D' := ab_dD h) (fun n => rfl) ?_
    obtain rfl := Option.some.inj hf
    exact ab_Ex.ret (fun n => rfl) rfl
  · replace hf := (if_neg c1).symm.trans hf
    refine ab_Ex.blk (k := 2) (pc' := 9) (lv' := [(0, .int x0)]) (st' := [.int 57, .int x0]) (sh' := ab_SH) (D' := ab_dD h) (fun n => rfl) ?_
    refine ab_Ex.ifc (c := 57 < x0) (SA := (16, [(0, .int x0)], [], ab_dD h)) (SB := (12, [(0, .int x0)], [], ab_dD h)) (fun n => rfl) (fun c2 => ?_) (fun c2 => ?_)
    · replace hf := (if_pos c2).symm.trans hf
      refine ab_Ex.blk (k := 1) (pc' := 17) (lv' := []) (st' := [.int 0]) (sh' := ab_SH) (D' := ab_dD h) (fun n => rfl) ?_
      obtain rfl := Option.some.inj hf
      exact ab_Ex.ret (fun n => rfl) rfl
    · replace hf := (if_neg c2).symm.trans hf
      refine ab_Ex.blk (k := 2) (pc' := 17) (lv' := []) (st' := [.int 1]) (sh' := ab_SH) (D' := ab_dD h) (fun n => rfl) ?_
      obtain rfl := Option.some.inj hf
      exact ab_Ex.ret (fun n => rfl) rfl
def fX12_keyAt_L97  (h : abJ) (k4 : Int32 → Int32 → Option Int32) : Nat → Int32 → Int32 → Option Int32
  | 0, _, _ => none
  | n + 1, y1, y2 => (fJ0_charAt_5068e 1000031 y2 h).bind (fun r8 => if r8 = 32 then k4 ((y1 + 1)) ((y2 + 1)) else fX12_keyAt_L97 h k4 n y1 ((y2 + 1)))
def fX12_keyAt_J69  (h : abJ) (k4 : Int32 → Int32 → Option Int32) (y1 : Int32) (y2 : Int32) (y3 : Int32) : Option Int32 := (fJ0_charAt_5068e 1000031 ((y2 + y3)) h).bind (fun r5 => if r5 = 32 then if ((h.1 64 6) + y3) = (h.1 64 7) then some y1 else fX12_keyAt_L97 h k4 ab_N y1 y2 else fX12_keyAt_L97 h k4 ab_N y1 y2)
def fX12_keyAt_L15  (h : abJ) (k4 : Int32 → Int32 → Option Int32) : Nat → Int32 → Int32 → Int32 → Option Int32
  | 0, _, _, _ => none
  | n + 1, y1, y2, y3 => (fJ0_charAt_5068e 1000031 ((y2 + y3)) h).bind (fun r3 => if r3 = 32 then fX12_keyAt_J69 h k4 y1 y2 y3 else if (h.1 64 7) ≤ ((h.1 64 6) + y3) then fX12_keyAt_J69 h k4 y1 y2 y3 else ab_ask (((h.1 64 6) + y3) < 0 ∨ 900 ≤ (((h.1 64 6) + y3) : Int32).toNatClampNeg) ((fJ0_charAt_5068e 1000031 ((y2 + y3)) h).bind (fun r13 => if (h.1 67 (((h.1 64 6) + y3) : Int32).toNatClampNeg) = r13 then fX12_keyAt_L15 h k4 n y1 y2 ((y3 + 1)) else fX12_keyAt_J69 h k4 y1 y2 y3)))
def fX12_keyAt_L4  (h : abJ)  : Nat → Int32 → Int32 → Option Int32
  | 0, _, _ => none
  | n + 1, y1, y2 => (fJ0_length_8abf5 1000031 h).bind (fun r1 => if r1 ≤ y2 then some 22 else fX12_keyAt_L15 h (fun y1 y2 => fX12_keyAt_L4 h n y1 y2) ab_N y1 y2 0)
def fX12_keyAt  (h : abJ) : Option Int32 := fX12_keyAt_L4 h ab_N 0 1
set_option maxRecDepth 20000 in
theorem sX12_keyAt_L97 (d : Nat) (X : abX) (h : abJ) (k4 : Int32 → Int32 → Option Int32) (hk4 : ∀ (y1 : Int32) (y2 : Int32) (z : Int32), k4 y1 y2 = some z → ab_Ex X (d + 4) 182 4 [(0, .ref 64), (1, .int y1), (2, .int y2)] [] ab_SH (ab_dD h) (fun r => r = (some (.int z), ab_SH, ab_dD h))) : ∀ (n : Nat), ∀ (y1 : Int32) (y2 : Int32) (z : Int32), fX12_keyAt_L97 h k4 n y1 y2 = some z → ab_Ex X (d + 4) 182 97 [(0, .ref 64), (1, .int y1), (2, .int y2)] [] ab_SH (ab_dD h) (fun r => r = (some (.int z), ab_SH, ab_dD h)) := by
  intro n
  induction n with
  | zero => intro y1 y2 z hf; cases hf
  | succ n ih =>
    intro y1 y2 z hf
    rw [fX12_keyAt_L97] at hf
    refine ab_Ex.blk (k := 2) (pc' := 100) (lv' := [(0, .ref 64), (1, .int y1), (2, .int y2)]) (st' := [.int y2, .ref 1000031]) (sh' := ab_SH) (D' := ab_dD h) (fun n => rfl) ?_
    obtain ⟨r8, hr8, hf⟩ := ab_bind_s hf
    refine ab_Ex.call (d := d + 3) (M2 := 305) (as := [.ref 1000031, .int y2]) (rest := []) (fun n => rfl) rfl (Nat.not_lt.mpr (Nat.le_of_ble_eq_true rfl)) (sJ0_charAt_5068e_1000031 (d) X y2 h _ hr8) (fun r hr => ?_)
    subst hr
    show ab_Ex X (d + 4) 182 103 [(0, .ref 64), (1, .int y1), (2, .int y2)] [.int r8] ab_SH (ab_dD h) _
    refine ab_Ex.blk (k := 1) (pc' := 105) (lv' := [(0, .ref 64), (1, .int y1), (2, .int y2)]) (st' := [.int 32, .int r8]) (sh' := ab_SH) (D' := ab_dD h) (fun n => rfl) ?_
    refine ab_Ex.ifc (c := r8 = 32) (SA := (114, [(0, .ref 64), (1, .int y1), (2, .int y2)], [], ab_dD h)) (SB := (108, [(0, .ref 64), (1, .int y1), (2, .int y2)], [], ab_dD h)) (fun n => rfl) (fun c9 => ?_) (fun c9 => ?_)
    · replace hf := (if_pos c9).symm.trans hf
      refine ab_Ex.blk (k := 3) (pc' := 4) (lv' := [(0, .ref 64), (1, .int ((y1 + 1))), (2, .int ((y2 + 1)))]) (st' := []) (sh' := ab_SH) (D' := ab_dD h) (fun n => rfl) ?_
      exact hk4 ((y1 + 1)) ((y2 + 1)) _ hf
    · replace hf := (if_neg c9).symm.trans hf
      refine ab_Ex.blk (k := 2) (pc' := 97) (lv' := [(0, .ref 64), (1, .int y1), (2, .int ((y2 + 1)))]) (st' := []) (sh' := ab_SH) (D' := ab_dD h) (fun n => rfl) ?_
      exact ih y1 ((y2 + 1)) _ hf
set_option maxRecDepth 20000 in
theorem sX12_keyAt_J69 (d : Nat) (X : abX) (h : abJ) (k4 : Int32 → Int32 → Option Int32) (hk4 : ∀ (y1 : Int32) (y2 : Int32) (z : Int32), k4 y1 y2 = some z → ab_Ex X (d + 4) 182 4 [(0, .ref 64), (1, .int y1), (2, .int y2)] [] ab_SH (ab_dD h) (fun r => r = (some (.int z), ab_SH, ab_dD h))) : ∀ (y1 : Int32) (y2 : Int32) (y3 : Int32) (z : Int32), fX12_keyAt_J69 h k4 y1 y2 y3 = some z → ab_Ex X (d + 4) 182 69 [(0, .ref 64), (1, .int y1), (2, .int y2), (3, .int y3)] [] ab_SH (ab_dD h) (fun r => r = (some (.int z), ab_SH, ab_dD h)) := by
  intro y1 y2 y3 z hf
  unfold fX12_keyAt_J69 at hf
  refine ab_Ex.blk (k := 4) (pc' := 74) (lv' := [(0, .ref 64), (1, .int y1), (2, .int y2), (3, .int y3)]) (st' := [.int ((y2 + y3)), .ref 1000031]) (sh' := ab_SH) (D' := ab_dD h) (fun n => rfl) ?_
  obtain ⟨r5, hr5, hf⟩ := ab_bind_s hf
  refine ab_Ex.call (d := d + 3) (M2 := 305) (as := [.ref 1000031, .int ((y2 + y3))]) (rest := []) (fun n => rfl) rfl (Nat.not_lt.mpr (Nat.le_of_ble_eq_true rfl)) (sJ0_charAt_5068e_1000031 (d) X ((y2 + y3)) h _ hr5) (fun r hr => ?_)
  subst hr
  show ab_Ex X (d + 4) 182 77 [(0, .ref 64), (1, .int y1), (2, .int y2), (3, .int y3)] [.int r5] ab_SH (ab_dD h) _
  refine ab_Ex.blk (k := 1) (pc' := 79) (lv' := [(0, .ref 64), (1, .int y1), (2, .int y2), (3, .int y3)]) (st' := [.int 32, .int r5]) (sh' := ab_SH) (D' := ab_dD h) (fun n => rfl) ?_
  refine ab_Ex.ifc (c := r5 = 32) (SA := (82, [(0, .ref 64), (1, .int y1), (2, .int y2), (3, .int y3)], [], ab_dD h)) (SB := (97, [(0, .ref 64), (1, .int y1), (2, .int y2), (3, .int y3)], [], ab_dD h)) (fun n => rfl) (fun c6 => ?_) (fun c6 => ?_)
  · replace hf := (if_pos c6).symm.trans hf
    refine ab_Ex.blk (k := 6) (pc' := 92) (lv' := [(0, .ref 64), (1, .int y1), (2, .int y2), (3, .int y3)]) (st' := [.int ((h.1 64 7)), .int (((h.1 64 6) + y3))]) (sh' := ab_SH) (D' := ab_dD h) (fun n => rfl) ?_
    refine ab_Ex.ifc (c := ((h.1 64 6) + y3) = (h.1 64 7)) (SA := (95, [(0, .ref 64), (1, .int y1), (2, .int y2), (3, .int y3)], [], ab_dD h)) (SB := (97, [(0, .ref 64), (1, .int y1), (2, .int y2), (3, .int y3)], [], ab_dD h)) (fun n => rfl) (fun c7 => ?_) (fun c7 => ?_)
    · replace hf := (if_pos c7).symm.trans hf
      refine ab_Ex.blk (k := 1) (pc' := 96) (lv' := [(0, .ref 64), (1, .int y1), (2, .int y2), (3, .int y3)]) (st' := [.int y1]) (sh' := ab_SH) (D' := ab_dD h) (fun n => rfl) ?_
      obtain rfl := Option.some.inj hf
      exact ab_Ex.ret (fun n => rfl) rfl
    · replace hf := (if_neg c7).symm.trans hf
      exact sX12_keyAt_L97 d X h k4 hk4 ab_N y1 y2 _ hf
  · replace hf := (if_neg c6).symm.trans hf
    exact sX12_keyAt_L97 d X h k4 hk4 ab_N y1 y2 _ hf
set_option maxRecDepth 20000 in
theorem sX12_keyAt_L15 (d : Nat) (X : abX) (h : abJ) (k4 : Int32 → Int32 → Option Int32) (hk4 : ∀ (y1 : Int32) (y2 : Int32) (z : Int32), k4 y1 y2 = some z → ab_Ex X (d + 4) 182 4 [(0, .ref 64), (1, .int y1), (2, .int y2)] [] ab_SH (ab_dD h) (fun r => r = (some (.int z), ab_SH, ab_dD h))) : ∀ (n : Nat), ∀ (y1 : Int32) (y2 : Int32) (y3 : Int32) (z : Int32), fX12_keyAt_L15 h k4 n y1 y2 y3 = some z → ab_Ex X (d + 4) 182 15 [(0, .ref 64), (1, .int y1), (2, .int y2), (3, .int y3)] [] ab_SH (ab_dD h) (fun r => r = (some (.int z), ab_SH, ab_dD h)) := by
  intro n
  induction n with
  | zero => intro y1 y2 y3 z hf; cases hf
  | succ n ih =>
    intro y1 y2 y3 z hf
    rw [fX12_keyAt_L15] at hf
    refine ab_Ex.blk (k := 4) (pc' := 20) (lv' := [(0, .ref 64), (1, .int y1), (2, .int y2), (3, .int y3)]) (st' := [.int ((y2 + y3)), .ref 1000031]) (sh' := ab_SH) (D' := ab_dD h) (fun n => rfl) ?_
    obtain ⟨r3, hr3, hf⟩ := ab_bind_s hf
    refine ab_Ex.call (d := d + 3) (M2 := 305) (as := [.ref 1000031, .int ((y2 + y3))]) (rest := []) (fun n => rfl) rfl (Nat.not_lt.mpr (Nat.le_of_ble_eq_true rfl)) (sJ0_charAt_5068e_1000031 (d) X ((y2 + y3)) h _ hr3) (fun r hr => ?_)
    subst hr
    show ab_Ex X (d + 4) 182 23 [(0, .ref 64), (1, .int y1), (2, .int y2), (3, .int y3)] [.int r3] ab_SH (ab_dD h) _
    refine ab_Ex.blk (k := 1) (pc' := 25) (lv' := [(0, .ref 64), (1, .int y1), (2, .int y2), (3, .int y3)]) (st' := [.int 32, .int r3]) (sh' := ab_SH) (D' := ab_dD h) (fun n => rfl) ?_
    refine ab_Ex.ifc (c := r3 = 32) (SA := (69, [(0, .ref 64), (1, .int y1), (2, .int y2), (3, .int y3)], [], ab_dD h)) (SB := (28, [(0, .ref 64), (1, .int y1), (2, .int y2), (3, .int y3)], [], ab_dD h)) (fun n => rfl) (fun c4 => ?_) (fun c4 => ?_)
    · replace hf := (if_pos c4).symm.trans hf
      exact sX12_keyAt_J69 d X h k4 hk4 y1 y2 y3 _ hf
    · replace hf := (if_neg c4).symm.trans hf
      refine ab_Ex.blk (k := 6) (pc' := 38) (lv' := [(0, .ref 64), (1, .int y1), (2, .int y2), (3, .int y3)]) (st' := [.int ((h.1 64 7)), .int (((h.1 64 6) + y3))]) (sh' := ab_SH) (D' := ab_dD h) (fun n => rfl) ?_
      refine ab_Ex.ifc (c := (h.1 64 7) ≤ ((h.1 64 6) + y3)) (SA := (69, [(0, .ref 64), (1, .int y1), (2, .int y2), (3, .int y3)], [], ab_dD h)) (SB := (41, [(0, .ref 64), (1, .int y1), (2, .int y2), (3, .int y3)], [], ab_dD h)) (fun n => rfl) (fun c10 => ?_) (fun c10 => ?_)
      · replace hf := (if_pos c10).symm.trans hf
        exact sX12_keyAt_J69 d X h k4 hk4 y1 y2 y3 _ hf
      · replace hf := (if_neg c10).symm.trans hf
        refine ab_Ex.blk (k := 6) (pc' := 51) (lv' := [(0, .ref 64), (1, .int y1), (2, .int y2), (3, .int y3)]) (st' := [.int (((h.1 64 6) + y3)), .ref 67]) (sh' := ab_SH) (D' := ab_dD h) (fun n => rfl) ?_
        obtain ⟨c12, hf⟩ := ab_ask_s hf
        refine ab_Ex.grd (c := ((h.1 64 6) + y3) < 0 ∨ 900 ≤ (((h.1 64 6) + y3) : Int32).toNatClampNeg) (S := (52, [(0, .ref 64), (1, .int y1), (2, .int y2), (3, .int y3)], [.int ((h.1 67 (((h.1 64 6) + y3) : Int32).toNatClampNeg))], ab_dD h)) (fun n => rfl) c12 ?_
        refine ab_Ex.blk (k := 4) (pc' := 57) (lv' := [(0, .ref 64), (1, .int y1), (2, .int y2), (3, .int y3)]) (st' := [.int ((y2 + y3)), .ref 1000031, .int ((h.1 67 (((h.1 64 6) + y3) : Int32).toNatClampNeg))]) (sh' := ab_SH) (D' := ab_dD h) (fun n => rfl) ?_
        obtain ⟨r13, hr13, hf⟩ := ab_bind_s hf
        refine ab_Ex.call (d := d + 3) (M2 := 305) (as := [.ref 1000031, .int ((y2 + y3))]) (rest := [.int ((h.1 67 (((h.1 64 6) + y3) : Int32).toNatClampNeg))]) (fun n => rfl) rfl (Nat.not_lt.mpr (Nat.le_of_ble_eq_true rfl)) (sJ0_charAt_5068e_1000031 (d) X ((y2 + y3)) h _ hr13) (fun r hr => ?_)
        subst hr
        show ab_Ex X (d + 4) 182 60 [(0, .ref 64), (1, .int y1), (2, .int y2), (3, .int y3)] [.int r13, .int ((h.1 67 (((h.1 64 6) + y3) : Int32).toNatClampNeg))] ab_SH (ab_dD h) _
        refine ab_Ex.ifc (c := (h.1 67 (((h.1 64 6) + y3) : Int32).toNatClampNeg) = r13) (SA := (63, [(0, .ref 64), (1, .int y1), (2, .int y2), (3, .int y3)], [], ab_dD h)) (SB := (69, [(0, .ref 64), (1, .int y1), (2, .int y2), (3, .int y3)], [], ab_dD h)) (fun n => rfl) (fun c14 => ?_) (fun c14 => ?_)
        · replace hf := (if_pos c14).symm.trans hf
          refine ab_Ex.blk (k := 2) (pc' := 15) (lv' := [(0, .ref 64), (1, .int y1), (2, .int y2), (3, .int ((y3 + 1)))]) (st' := []) (sh' := ab_SH) (D' := ab_dD h) (fun n => rfl) ?_
          exact ih y1 y2 ((y3 + 1)) _ hf
        · replace hf := (if_neg c14).symm.trans hf
          exact sX12_keyAt_J69 d X h k4 hk4 y1 y2 y3 _ hf
set_option maxRecDepth 20000 in
theorem sX12_keyAt_L4 (d : Nat) (X : abX) (h : abJ)   : ∀ (n : Nat), ∀ (y1 : Int32) (y2 : Int32) (z : Int32), fX12_keyAt_L4 h n y1 y2 = some z → ab_Ex X (d + 4) 182 4 [(0, .ref 64), (1, .int y1), (2, .int y2)] [] ab_SH (ab_dD h) (fun r => r = (some (.int z), ab_SH, ab_dD h)) := by
  intro n
  induction n with
  | zero => intro y1 y2 z hf; cases hf
  | succ n ih =>
    intro y1 y2 z hf
    rw [fX12_keyAt_L4] at hf
    refine ab_Ex.blk (k := 2) (pc' := 7) (lv' := [(0, .ref 64), (1, .int y1), (2, .int y2)]) (st' := [.ref 1000031, .int y2]) (sh' := ab_SH) (D' := ab_dD h) (fun n => rfl) ?_
    obtain ⟨r1, hr1, hf⟩ := ab_bind_s hf
    refine ab_Ex.call (d := d + 3) (M2 := 304) (as := [.ref 1000031]) (rest := [.int y2]) (fun n => rfl) rfl (Nat.not_lt.mpr (Nat.le_of_ble_eq_true rfl)) (sJ0_length_8abf5_1000031 (d + 2) X  h _ hr1) (fun r hr => ?_)
    subst hr
    show ab_Ex X (d + 4) 182 10 [(0, .ref 64), (1, .int y1), (2, .int y2)] [.int r1, .int y2] ab_SH (ab_dD h) _
    refine ab_Ex.ifc (c := r1 ≤ y2) (SA := (123, [(0, .ref 64), (1, .int y1), (2, .int y2)], [], ab_dD h)) (SB := (13, [(0, .ref 64), (1, .int y1), (2, .int y2)], [], ab_dD h)) (fun n => rfl) (fun c2 => ?_) (fun c2 => ?_)
    · replace hf := (if_pos c2).symm.trans hf
      refine ab_Ex.blk (k := 1) (pc' := 125) (lv' := [(0, .ref 64), (1, .int y1), (2, .int y2)]) (st' := [.int 22]) (sh' := ab_SH) (D' := ab_dD h) (fun n => rfl) ?_
      obtain rfl := Option.some.inj hf
      exact ab_Ex.ret (fun n => rfl) rfl
    · replace hf := (if_neg c2).symm.trans hf
      refine ab_Ex.blk (k := 2) (pc' := 15) (lv' := [(0, .ref 64), (1, .int y1), (2, .int y2), (3, .int 0)]) (st' := []) (sh' := ab_SH) (D' := ab_dD h) (fun n => rfl) ?_
      exact sX12_keyAt_L15 d X h (fun y1 y2 => fX12_keyAt_L4 h n y1 y2) (fun y1 y2 z hz => ih y1 y2 z hz) ab_N y1 y2 0 _ hf
set_option maxRecDepth 20000 in
theorem sX12_keyAt (d : Nat) (X : abX)  (h : abJ) (z : Int32) (hf : fX12_keyAt  h = some z) : ab_Ex X (d + 4) 182 0 [(0, .ref 64)] [] ab_SH (ab_dD h) (fun r => r = (some (.int z), ab_SH, ab_dD h)) := by
  unfold fX12_keyAt at hf
  refine ab_Ex.blk (k := 4) (pc' := 4) (lv' := [(0, .ref 64), (1, .int 0), (2, .int 1)]) (st' := []) (sh' := ab_SH) (D' := ab_dD h) (fun n => rfl) ?_
  exact sX12_keyAt_L4 d X h ab_N 0 1 _ hf
def fX12_next_J34  (k8 : abJ → Option abJ) (h : abJ) : Option abJ := k8 (ab_wI h 64 6 ((h.1 64 6) + 1))
def fX12_next_J288  (k254 : Int32 → abJ → Option abJ) (y1 : Int32) (h : abJ) : Option abJ := k254 ((y1 + 1)) h
def fX12_next_L254   : Nat → Int32 → abJ → Option abJ
  | 0, _, _ => none
  | n + 1, y1, h => (fJ0_length_8abf5 1000000 h).bind (fun r12 => if r12 ≤ y1 then some h else (fX12_see ((h.1 64 6)) h).bind (fun r14 => (fJ0_charAt_5068e 1000000 y1 h).bind (fun r15 => if r14 = r15 then fX12_next_J288 (fun y1 h => fX12_next_L254 n y1 h) y1 (ab_wI h 64 9 (30 + y1)) else fX12_next_J288 (fun y1 h => fX12_next_L254 n y1 h) y1 h)))
def fX12_next_J196  (k146 : abJ → Option abJ) (h : abJ) : Option abJ := k146 (ab_wI h 64 7 ((h.1 64 7) + 1))
def fX12_next_L146   : Nat → abJ → Option abJ
  | 0, _ => none
  | n + 1, h => (fX12_see ((h.1 64 7)) h).bind (fun r17 => (fX12_isDigit r17 h).bind (fun r18 => if r18 = 0 then if ((h.1 64 7) - (h.1 64 6)) ≤ 3 then some (ab_wI h 64 9 23) else some (ab_wI h 64 9 25) else if 3 ≤ ((h.1 64 7) - (h.1 64 6)) then fX12_next_J196 (fun h => fX12_next_L146 n h) h else (fX12_see ((h.1 64 7)) h).bind (fun r22 => fX12_next_J196 (fun h => fX12_next_L146 n h) (ab_wI h 64 10 (((10 * (h.1 64 10)) + r22) - 48)))))
def fX12_next_L89   : Nat → abJ → Option abJ
  | 0, _ => none
  | n + 1, h => (fX12_see ((h.1 64 7)) h).bind (fun r23 => (fX12_isSmall r23 h).bind (fun r24 => if r24 = 0 then (fX12_keyAt h).bind (fun r26 => some (ab_wI h 64 9 r26)) else fX12_next_L89 n (ab_wI h 64 7 ((h.1 64 7) + 1))))
def fX12_next_L8   : Nat → abJ → Option abJ
  | 0, _ => none
  | n + 1, h => (fX12_see ((h.1 64 6)) h).bind (fun r1 => if r1 = 10 then fX12_next_J34 (fun h => fX12_next_L8 n h) h else (fX12_see ((h.1 64 6)) h).bind (fun r3 => if r3 = 32 then fX12_next_J34 (fun h => fX12_next_L8 n h) h else if (((ab_wI h 64 7 (h.1 64 6))).1 64 6) < (((ab_wI h 64 7 (h.1 64 6))).1 64 8) then (fX12_see ((((ab_wI h 64 7 (h.1 64 6))).1 64 6)) (ab_wI h 64 7 (h.1 64 6))).bind (fun r6 => (fX12_isSmall r6 (ab_wI h 64 7 (h.1 64 6))).bind (fun r7 => if r7 = 0 then (fX12_see ((((ab_wI h 64 7 (h.1 64 6))).1 64 6)) (ab_wI h 64 7 (h.1 64 6))).bind (fun r9 => (fX12_isDigit r9 (ab_wI h 64 7 (h.1 64 6))).bind (fun r10 => if r10 = 0 then fX12_next_L254 ab_N 0 (ab_wI (ab_wI (ab_wI h 64 7 (h.1 64 6)) 64 7 ((((ab_wI h 64 7 (h.1 64 6))).1 64 7) + 1)) 64 9 25) else fX12_next_L146 ab_N (ab_wI (ab_wI h 64 7 (h.1 64 6)) 64 10 0))) else fX12_next_L89 ab_N (ab_wI h 64 7 (h.1 64 6)))) else some (ab_wI (ab_wI h 64 7 (h.1 64 6)) 64 9 24)))
def fX12_next  (h : abJ) : Option abJ := fX12_next_L8 ab_N (ab_wI h 64 6 (h.1 64 7))
set_option maxRecDepth 20000 in
theorem sX12_next_J34 (d : Nat) (X : abX) (k8 : abJ → Option abJ) (hk8 : ∀ (h : abJ) (z : abJ), k8 h = some z → ab_Ex X (d + 5) 183 8 [(0, .ref 64)] [] ab_SH (ab_dD h) (fun r => r = (none, ab_SH, ab_dD z))) : ∀ (h : abJ) (z : abJ), fX12_next_J34 k8 h = some z → ab_Ex X (d + 5) 183 34 [(0, .ref 64)] [] ab_SH (ab_dD h) (fun r => r = (none, ab_SH, ab_dD z)) := by
  intro h z hf
  unfold fX12_next_J34 at hf
  refine ab_Ex.blk (k := 7) (pc' := 8) (lv' := [(0, .ref 64)]) (st' := []) (sh' := ab_SH) (D' := ab_dD (ab_wI h 64 6 ((h.1 64 6) + 1))) (fun n => rfl) ?_
  exact hk8 (ab_wI h 64 6 ((h.1 64 6) + 1)) _ hf
set_option maxRecDepth 20000 in
theorem sX12_next_J288 (d : Nat) (X : abX) (k254 : Int32 → abJ → Option abJ) (hk254 : ∀ (y1 : Int32) (h : abJ) (z : abJ), k254 y1 h = some z → ab_Ex X (d + 5) 183 254 [(0, .ref 64), (1, .int y1)] [] ab_SH (ab_dD h) (fun r => r = (none, ab_SH, ab_dD z))) : ∀ (y1 : Int32) (h : abJ) (z : abJ), fX12_next_J288 k254 y1 h = some z → ab_Ex X (d + 5) 183 288 [(0, .ref 64), (1, .int y1)] [] ab_SH (ab_dD h) (fun r => r = (none, ab_SH, ab_dD z)) := by
  intro y1 h z hf
  unfold fX12_next_J288 at hf
  refine ab_Ex.blk (k := 2) (pc' := 254) (lv' := [(0, .ref 64), (1, .int ((y1 + 1)))]) (st' := []) (sh' := ab_SH) (D' := ab_dD h) (fun n => rfl) ?_
  exact hk254 ((y1 + 1)) h _ hf
set_option maxRecDepth 20000 in
theorem sX12_next_L254 (d : Nat) (X : abX)   : ∀ (n : Nat), ∀ (y1 : Int32) (h : abJ) (z : abJ), fX12_next_L254 n y1 h = some z → ab_Ex X (d + 5) 183 254 [(0, .ref 64), (1, .int y1)] [] ab_SH (ab_dD h) (fun r => r = (none, ab_SH, ab_dD z)) := by
  intro n
  induction n with
  | zero => intro y1 h z hf; cases hf
  | succ n ih =>
    intro y1 h z hf
    rw [fX12_next_L254] at hf
    refine ab_Ex.blk (k := 2) (pc' := 257) (lv' := [(0, .ref 64), (1, .int y1)]) (st' := [.ref 1000000, .int y1]) (sh' := ab_SH) (D' := ab_dD h) (fun n => rfl) ?_
    obtain ⟨r12, hr12, hf⟩ := ab_bind_s hf
    refine ab_Ex.call (d := d + 4) (M2 := 304) (as := [.ref 1000000]) (rest := [.int y1]) (fun n => rfl) rfl (Nat.not_lt.mpr (Nat.le_of_ble_eq_true rfl)) (sJ0_length_8abf5_1000000 (d + 3) X  h _ hr12) (fun r hr => ?_)
    subst hr
    show ab_Ex X (d + 5) 183 260 [(0, .ref 64), (1, .int y1)] [.int r12, .int y1] ab_SH (ab_dD h) _
    refine ab_Ex.ifc (c := r12 ≤ y1) (SA := (294, [(0, .ref 64), (1, .int y1)], [], ab_dD h)) (SB := (263, [(0, .ref 64), (1, .int y1)], [], ab_dD h)) (fun n => rfl) (fun c13 => ?_) (fun c13 => ?_)
    · replace hf := (if_pos c13).symm.trans hf
      obtain rfl := Option.some.inj hf
      exact ab_Ex.ret (fun n => rfl) rfl
    · replace hf := (if_neg c13).symm.trans hf
      refine ab_Ex.blk (k := 3) (pc' := 268) (lv' := [(0, .ref 64), (1, .int y1)]) (st' := [.int ((h.1 64 6)), .ref 64]) (sh' := ab_SH) (D' := ab_dD h) (fun n => rfl) ?_
      obtain ⟨r14, hr14, hf⟩ := ab_bind_s hf
      refine ab_Ex.call (d := d + 4) (M2 := 179) (as := [.ref 64, .int ((h.1 64 6))]) (rest := []) (fun n => rfl) rfl (Nat.not_lt.mpr (Nat.le_of_ble_eq_true rfl)) (sX12_see (d + 4) X ((h.1 64 6)) h _ hr14) (fun r hr => ?_)
      subst hr
      show ab_Ex X (d + 5) 183 271 [(0, .ref 64), (1, .int y1)] [.int r14] ab_SH (ab_dD h) _
      refine ab_Ex.blk (k := 2) (pc' := 274) (lv' := [(0, .ref 64), (1, .int y1)]) (st' := [.int y1, .ref 1000000, .int r14]) (sh' := ab_SH) (D' := ab_dD h) (fun n => rfl) ?_
      obtain ⟨r15, hr15, hf⟩ := ab_bind_s hf
      refine ab_Ex.call (d := d + 4) (M2 := 305) (as := [.ref 1000000, .int y1]) (rest := [.int r14]) (fun n => rfl) rfl (Nat.not_lt.mpr (Nat.le_of_ble_eq_true rfl)) (sJ0_charAt_5068e_1000000 (d + 1) X y1 h _ hr15) (fun r hr => ?_)
      subst hr
      show ab_Ex X (d + 5) 183 277 [(0, .ref 64), (1, .int y1)] [.int r15, .int r14] ab_SH (ab_dD h) _
      refine ab_Ex.ifc (c := r14 = r15) (SA := (280, [(0, .ref 64), (1, .int y1)], [], ab_dD h)) (SB := (288, [(0, .ref 64), (1, .int y1)], [], ab_dD h)) (fun n => rfl) (fun c16 => ?_) (fun c16 => ?_)
      · replace hf := (if_pos c16).symm.trans hf
        refine ab_Ex.blk (k := 5) (pc' := 288) (lv' := [(0, .ref 64), (1, .int y1)]) (st' := []) (sh' := ab_SH) (D' := ab_dD (ab_wI h 64 9 (30 + y1))) (fun n => rfl) ?_
        exact sX12_next_J288 d X (fun y1 h => fX12_next_L254 n y1 h) (fun y1 h z hz => ih y1 h z hz) y1 (ab_wI h 64 9 (30 + y1)) _ hf
      · replace hf := (if_neg c16).symm.trans hf
        exact sX12_next_J288 d X (fun y1 h => fX12_next_L254 n y1 h) (fun y1 h z hz => ih y1 h z hz) y1 h _ hf
set_option maxRecDepth 20000 in
theorem sX12_next_J196 (d : Nat) (X : abX) (k146 : abJ → Option abJ) (hk146 : ∀ (h : abJ) (z : abJ), k146 h = some z → ab_Ex X (d + 5) 183 146 [(0, .ref 64)] [] ab_SH (ab_dD h) (fun r => r = (none, ab_SH, ab_dD z))) : ∀ (h : abJ) (z : abJ), fX12_next_J196 k146 h = some z → ab_Ex X (d + 5) 183 196 [(0, .ref 64)] [] ab_SH (ab_dD h) (fun r => r = (none, ab_SH, ab_dD z)) := by
  intro h z hf
  unfold fX12_next_J196 at hf
  refine ab_Ex.blk (k := 7) (pc' := 146) (lv' := [(0, .ref 64)]) (st' := []) (sh' := ab_SH) (D' := ab_dD (ab_wI h 64 7 ((h.1 64 7) + 1))) (fun n => rfl) ?_
  exact hk146 (ab_wI h 64 7 ((h.1 64 7) + 1)) _ hf
set_option maxRecDepth 20000 in
theorem sX12_next_L146 (d : Nat) (X : abX)   : ∀ (n : Nat), ∀ (h : abJ) (z : abJ), fX12_next_L146 n h = some z → ab_Ex X (d + 5) 183 146 [(0, .ref 64)] [] ab_SH (ab_dD h) (fun r => r = (none, ab_SH, ab_dD z)) := by
  intro n
  induction n with
  | zero => intro h z hf; cases hf
  | succ n ih =>
    intro h z hf
    rw [fX12_next_L146] at hf
    refine ab_Ex.blk (k := 3) (pc' := 151) (lv' := [(0, .ref 64)]) (st' := [.int ((h.1 64 7)), .ref 64]) (sh' := ab_SH) (D' := ab_dD h) (fun n => rfl) ?_
    obtain ⟨r17, hr17, hf⟩ := ab_bind_s hf
    refine ab_Ex.call (d := d + 4) (M2 := 179) (as := [.ref 64, .int ((h.1 64 7))]) (rest := []) (fun n => rfl) rfl (Nat.not_lt.mpr (Nat.le_of_ble_eq_true rfl)) (sX12_see (d + 4) X ((h.1 64 7)) h _ hr17) (fun r hr => ?_)
    subst hr
    show ab_Ex X (d + 5) 183 154 [(0, .ref 64)] [.int r17] ab_SH (ab_dD h) _
    obtain ⟨r18, hr18, hf⟩ := ab_bind_s hf
    refine ab_Ex.call (d := d + 4) (M2 := 181) (as := [.int r17]) (rest := []) (fun n => rfl) rfl (Nat.not_lt.mpr (Nat.le_of_ble_eq_true rfl)) (sX12_isDigit (d + 4) X r17 h _ hr18) (fun r hr => ?_)
    subst hr
    show ab_Ex X (d + 5) 183 157 [(0, .ref 64)] [.int r18] ab_SH (ab_dD h) _
    refine ab_Ex.ifc (c := r18 = 0) (SA := (209, [(0, .ref 64)], [], ab_dD h)) (SB := (160, [(0, .ref 64)], [], ab_dD h)) (fun n => rfl) (fun c19 => ?_) (fun c19 => ?_)
    · replace hf := (if_pos c19).symm.trans hf
      refine ab_Ex.blk (k := 7) (pc' := 220) (lv' := [(0, .ref 64)]) (st' := [.int 3, .int (((h.1 64 7) - (h.1 64 6))), .ref 64]) (sh' := ab_SH) (D' := ab_dD h) (fun n => rfl) ?_
      refine ab_Ex.ifc (c := ((h.1 64 7) - (h.1 64 6)) ≤ 3) (SA := (228, [(0, .ref 64)], [.ref 64], ab_dD h)) (SB := (223, [(0, .ref 64)], [.ref 64], ab_dD h)) (fun n => rfl) (fun c20 => ?_) (fun c20 => ?_)
      · replace hf := (if_pos c20).symm.trans hf
        refine ab_Ex.blk (k := 3) (pc' := 294) (lv' := []) (st' := []) (sh' := ab_SH) (D' := ab_dD (ab_wI h 64 9 23)) (fun n => rfl) ?_
        obtain rfl := Option.some.inj hf
        exact ab_Ex.ret (fun n => rfl) rfl
      · replace hf := (if_neg c20).symm.trans hf
        refine ab_Ex.blk (k := 4) (pc' := 294) (lv' := []) (st' := []) (sh' := ab_SH) (D' := ab_dD (ab_wI h 64 9 25)) (fun n => rfl) ?_
        obtain rfl := Option.some.inj hf
        exact ab_Ex.ret (fun n => rfl) rfl
    · replace hf := (if_neg c19).symm.trans hf
      refine ab_Ex.blk (k := 6) (pc' := 170) (lv' := [(0, .ref 64)]) (st' := [.int 3, .int (((h.1 64 7) - (h.1 64 6)))]) (sh' := ab_SH) (D' := ab_dD h) (fun n => rfl) ?_
      refine ab_Ex.ifc (c := 3 ≤ ((h.1 64 7) - (h.1 64 6))) (SA := (196, [(0, .ref 64)], [], ab_dD h)) (SB := (173, [(0, .ref 64)], [], ab_dD h)) (fun n => rfl) (fun c21 => ?_) (fun c21 => ?_)
      · replace hf := (if_pos c21).symm.trans hf
        exact sX12_next_J196 d X (fun h => fX12_next_L146 n h) (fun h z hz => ih h z hz) h _ hf
      · replace hf := (if_neg c21).symm.trans hf
        refine ab_Ex.blk (k := 8) (pc' := 186) (lv' := [(0, .ref 64)]) (st' := [.int ((h.1 64 7)), .ref 64, .int ((10 * (h.1 64 10))), .ref 64]) (sh' := ab_SH) (D' := ab_dD h) (fun n => rfl) ?_
        obtain ⟨r22, hr22, hf⟩ := ab_bind_s hf
        refine ab_Ex.call (d := d + 4) (M2 := 179) (as := [.ref 64, .int ((h.1 64 7))]) (rest := [.int ((10 * (h.1 64 10))), .ref 64]) (fun n => rfl) rfl (Nat.not_lt.mpr (Nat.le_of_ble_eq_true rfl)) (sX12_see (d + 4) X ((h.1 64 7)) h _ hr22) (fun r hr => ?_)
        subst hr
        show ab_Ex X (d + 5) 183 189 [(0, .ref 64)] [.int r22, .int ((10 * (h.1 64 10))), .ref 64] ab_SH (ab_dD h) _
        refine ab_Ex.blk (k := 4) (pc' := 196) (lv' := [(0, .ref 64)]) (st' := []) (sh' := ab_SH) (D' := ab_dD (ab_wI h 64 10 (((10 * (h.1 64 10)) + r22) - 48))) (fun n => rfl) ?_
        exact sX12_next_J196 d X (fun h => fX12_next_L146 n h) (fun h z hz => ih h z hz) (ab_wI h 64 10 (((10 * (h.1 64 10)) + r22) - 48)) _ hf
set_option maxRecDepth 20000 in
theorem sX12_next_L89 (d : Nat) (X : abX)   : ∀ (n : Nat), ∀ (h : abJ) (z : abJ), fX12_next_L89 n h = some z → ab_Ex X (d + 5) 183 89 [(0, .ref 64)] [] ab_SH (ab_dD h) (fun r => r = (none, ab_SH, ab_dD z)) := by
  intro n
  induction n with
  | zero => intro h z hf; cases hf
  | succ n ih =>
    intro h z hf
    rw [fX12_next_L89] at hf
    refine ab_Ex.blk (k := 3) (pc' := 94) (lv' := [(0, .ref 64)]) (st' := [.int ((h.1 64 7)), .ref 64]) (sh' := ab_SH) (D' := ab_dD h) (fun n => rfl) ?_
    obtain ⟨r23, hr23, hf⟩ := ab_bind_s hf
    refine ab_Ex.call (d := d + 4) (M2 := 179) (as := [.ref 64, .int ((h.1 64 7))]) (rest := []) (fun n => rfl) rfl (Nat.not_lt.mpr (Nat.le_of_ble_eq_true rfl)) (sX12_see (d + 4) X ((h.1 64 7)) h _ hr23) (fun r hr => ?_)
    subst hr
    show ab_Ex X (d + 5) 183 97 [(0, .ref 64)] [.int r23] ab_SH (ab_dD h) _
    obtain ⟨r24, hr24, hf⟩ := ab_bind_s hf
    refine ab_Ex.call (d := d + 4) (M2 := 180) (as := [.int r23]) (rest := []) (fun n => rfl) rfl (Nat.not_lt.mpr (Nat.le_of_ble_eq_true rfl)) (sX12_isSmall (d + 4) X r23 h _ hr24) (fun r hr => ?_)
    subst hr
    show ab_Ex X (d + 5) 183 100 [(0, .ref 64)] [.int r24] ab_SH (ab_dD h) _
    refine ab_Ex.ifc (c := r24 = 0) (SA := (116, [(0, .ref 64)], [], ab_dD h)) (SB := (103, [(0, .ref 64)], [], ab_dD h)) (fun n => rfl) (fun c25 => ?_) (fun c25 => ?_)
    · replace hf := (if_pos c25).symm.trans hf
      refine ab_Ex.blk (k := 2) (pc' := 118) (lv' := [(0, .ref 64)]) (st' := [.ref 64, .ref 64]) (sh' := ab_SH) (D' := ab_dD h) (fun n => rfl) ?_
      obtain ⟨r26, hr26, hf⟩ := ab_bind_s hf
      refine ab_Ex.call (d := d + 4) (M2 := 182) (as := [.ref 64]) (rest := [.ref 64]) (fun n => rfl) rfl (Nat.not_lt.mpr (Nat.le_of_ble_eq_true rfl)) (sX12_keyAt (d) X  h _ hr26) (fun r hr => ?_)
      subst hr
      show ab_Ex X (d + 5) 183 121 [(0, .ref 64)] [.int r26, .ref 64] ab_SH (ab_dD h) _
      refine ab_Ex.blk (k := 2) (pc' := 294) (lv' := []) (st' := []) (sh' := ab_SH) (D' := ab_dD (ab_wI h 64 9 r26)) (fun n => rfl) ?_
      obtain rfl := Option.some.inj hf
      exact ab_Ex.ret (fun n => rfl) rfl
    · replace hf := (if_neg c25).symm.trans hf
      refine ab_Ex.blk (k := 7) (pc' := 89) (lv' := [(0, .ref 64)]) (st' := []) (sh' := ab_SH) (D' := ab_dD (ab_wI h 64 7 ((h.1 64 7) + 1))) (fun n => rfl) ?_
      exact ih (ab_wI h 64 7 ((h.1 64 7) + 1)) _ hf
set_option maxRecDepth 20000 in
theorem sX12_next_L8 (d : Nat) (X : abX)   : ∀ (n : Nat), ∀ (h : abJ) (z : abJ), fX12_next_L8 n h = some z → ab_Ex X (d + 5) 183 8 [(0, .ref 64)] [] ab_SH (ab_dD h) (fun r => r = (none, ab_SH, ab_dD z)) := by
  intro n
  induction n with
  | zero => intro h z hf; cases hf
  | succ n ih =>
    intro h z hf
    rw [fX12_next_L8] at hf
    refine ab_Ex.blk (k := 3) (pc' := 13) (lv' := [(0, .ref 64)]) (st' := [.int ((h.1 64 6)), .ref 64]) (sh' := ab_SH) (D' := ab_dD h) (fun n => rfl) ?_
    obtain ⟨r1, hr1, hf⟩ := ab_bind_s hf
    refine ab_Ex.call (d := d + 4) (M2 := 179) (as := [.ref 64, .int ((h.1 64 6))]) (rest := []) (fun n => rfl) rfl (Nat.not_lt.mpr (Nat.le_of_ble_eq_true rfl)) (sX12_see (d + 4) X ((h.1 64 6)) h _ hr1) (fun r hr => ?_)
    subst hr
    show ab_Ex X (d + 5) 183 16 [(0, .ref 64)] [.int r1] ab_SH (ab_dD h) _
    refine ab_Ex.blk (k := 1) (pc' := 18) (lv' := [(0, .ref 64)]) (st' := [.int 10, .int r1]) (sh' := ab_SH) (D' := ab_dD h) (fun n => rfl) ?_
    refine ab_Ex.ifc (c := r1 = 10) (SA := (34, [(0, .ref 64)], [], ab_dD h)) (SB := (21, [(0, .ref 64)], [], ab_dD h)) (fun n => rfl) (fun c2 => ?_) (fun c2 => ?_)
    · replace hf := (if_pos c2).symm.trans hf
      exact sX12_next_J34 d X (fun h => fX12_next_L8 n h) (fun h z hz => ih h z hz) h _ hf
    · replace hf := (if_neg c2).symm.trans hf
      refine ab_Ex.blk (k := 3) (pc' := 26) (lv' := [(0, .ref 64)]) (st' := [.int ((h.1 64 6)), .ref 64]) (sh' := ab_SH) (D' := ab_dD h) (fun n => rfl) ?_
      obtain ⟨r3, hr3, hf⟩ := ab_bind_s hf
      refine ab_Ex.call (d := d + 4) (M2 := 179) (as := [.ref 64, .int ((h.1 64 6))]) (rest := []) (fun n => rfl) rfl (Nat.not_lt.mpr (Nat.le_of_ble_eq_true rfl)) (sX12_see (d + 4) X ((h.1 64 6)) h _ hr3) (fun r hr => ?_)
      subst hr
      show ab_Ex X (d + 5) 183 29 [(0, .ref 64)] [.int r3] ab_SH (ab_dD h) _
      refine ab_Ex.blk (k := 1) (pc' := 31) (lv' := [(0, .ref 64)]) (st' := [.int 32, .int r3]) (sh' := ab_SH) (D' := ab_dD h) (fun n => rfl) ?_
      refine ab_Ex.ifc (c := r3 = 32) (SA := (34, [(0, .ref 64)], [], ab_dD h)) (SB := (47, [(0, .ref 64)], [], ab_dD h)) (fun n => rfl) (fun c4 => ?_) (fun c4 => ?_)
      · replace hf := (if_pos c4).symm.trans hf
        exact sX12_next_J34 d X (fun h => fX12_next_L8 n h) (fun h z hz => ih h z hz) h _ hf
      · replace hf := (if_neg c4).symm.trans hf
        refine ab_Ex.blk (k := 8) (pc' := 63) (lv' := [(0, .ref 64)]) (st' := [.int ((((ab_wI h 64 7 (h.1 64 6))).1 64 8)), .int ((((ab_wI h 64 7 (h.1 64 6))).1 64 6))]) (sh' := ab_SH) (D' := ab_dD (ab_wI h 64 7 (h.1 64 6))) (fun n => rfl) ?_
        refine ab_Ex.ifc (c := (((ab_wI h 64 7 (h.1 64 6))).1 64 6) < (((ab_wI h 64 7 (h.1 64 6))).1 64 8)) (SA := (75, [(0, .ref 64)], [], ab_dD (ab_wI h 64 7 (h.1 64 6)))) (SB := (66, [(0, .ref 64)], [], ab_dD (ab_wI h 64 7 (h.1 64 6)))) (fun n => rfl) (fun c5 => ?_) (fun c5 => ?_)
        · replace hf := (if_pos c5).symm.trans hf
          refine ab_Ex.blk (k := 3) (pc' := 80) (lv' := [(0, .ref 64)]) (st' := [.int ((((ab_wI h 64 7 (h.1 64 6))).1 64 6)), .ref 64]) (sh' := ab_SH) (D' := ab_dD (ab_wI h 64 7 (h.1 64 6))) (fun n => rfl) ?_
          obtain ⟨r6, hr6, hf⟩ := ab_bind_s hf
          refine ab_Ex.call (d := d + 4) (M2 := 179) (as := [.ref 64, .int ((((ab_wI h 64 7 (h.1 64 6))).1 64 6))]) (rest := []) (fun n => rfl) rfl (Nat.not_lt.mpr (Nat.le_of_ble_eq_true rfl)) (sX12_see (d + 4) X ((((ab_wI h 64 7 (h.1 64 6))).1 64 6)) (ab_wI h 64 7 (h.1 64 6)) _ hr6) (fun r hr => ?_)
          subst hr
          show ab_Ex X (d + 5) 183 83 [(0, .ref 64)] [.int r6] ab_SH (ab_dD (ab_wI h 64 7 (h.1 64 6))) _
          obtain ⟨r7, hr7, hf⟩ := ab_bind_s hf
          refine ab_Ex.call (d := d + 4) (M2 := 180) (as := [.int r6]) (rest := []) (fun n => rfl) rfl (Nat.not_lt.mpr (Nat.le_of_ble_eq_true rfl)) (sX12_isSmall (d + 4) X r6 (ab_wI h 64 7 (h.1 64 6)) _ hr7) (fun r hr => ?_)
          subst hr
          show ab_Ex X (d + 5) 183 86 [(0, .ref 64)] [.int r7] ab_SH (ab_dD (ab_wI h 64 7 (h.1 64 6))) _
          refine ab_Ex.ifc (c := r7 = 0) (SA := (127, [(0, .ref 64)], [], ab_dD (ab_wI h 64 7 (h.1 64 6)))) (SB := (89, [(0, .ref 64)], [], ab_dD (ab_wI h 64 7 (h.1 64 6)))) (fun n => rfl) (fun c8 => ?_) (fun c8 => ?_)
          · replace hf := (if_pos c8).symm.trans hf
            refine ab_Ex.blk (k := 3) (pc' := 132) (lv' := [(0, .ref 64)]) (st' := [.int ((((ab_wI h 64 7 (h.1 64 6))).1 64 6)), .ref 64]) (sh' := ab_SH) (D' := ab_dD (ab_wI h 64 7 (h.1 64 6))) (fun n => rfl) ?_
            obtain ⟨r9, hr9, hf⟩ := ab_bind_s hf
            refine ab_Ex.call (d := d + 4) (M2 := 179) (as := [.ref 64, .int ((((ab_wI h 64 7 (h.1 64 6))).1 64 6))]) (rest := []) (fun n => rfl) rfl (Nat.not_lt.mpr (Nat.le_of_ble_eq_true rfl)) (sX12_see (d + 4) X ((((ab_wI h 64 7 (h.1 64 6))).1 64 6)) (ab_wI h 64 7 (h.1 64 6)) _ hr9) (fun r hr => ?_)
            subst hr
            show ab_Ex X (d + 5) 183 135 [(0, .ref 64)] [.int r9] ab_SH (ab_dD (ab_wI h 64 7 (h.1 64 6))) _
            obtain ⟨r10, hr10, hf⟩ := ab_bind_s hf
            refine ab_Ex.call (d := d + 4) (M2 := 181) (as := [.int r9]) (rest := []) (fun n => rfl) rfl (Nat.not_lt.mpr (Nat.le_of_ble_eq_true rfl)) (sX12_isDigit (d + 4) X r9 (ab_wI h 64 7 (h.1 64 6)) _ hr10) (fun r hr => ?_)
            subst hr
            show ab_Ex X (d + 5) 183 138 [(0, .ref 64)] [.int r10] ab_SH (ab_dD (ab_wI h 64 7 (h.1 64 6))) _
            refine ab_Ex.ifc (c := r10 = 0) (SA := (236, [(0, .ref 64)], [], ab_dD (ab_wI h 64 7 (h.1 64 6)))) (SB := (141, [(0, .ref 64)], [], ab_dD (ab_wI h 64 7 (h.1 64 6)))) (fun n => rfl) (fun c11 => ?_) (fun c11 => ?_)
            · replace hf := (if_pos c11).symm.trans hf
              refine ab_Ex.blk (k := 11) (pc' := 254) (lv' := [(0, .ref 64), (1, .int 0)]) (st' := []) (sh' := ab_SH) (D' := ab_dD (ab_wI (ab_wI (ab_wI h 64 7 (h.1 64 6)) 64 7 ((((ab_wI h 64 7 (h.1 64 6))).1 64 7) + 1)) 64 9 25)) (fun n => rfl) ?_
              exact sX12_next_L254 d X  ab_N 0 (ab_wI (ab_wI (ab_wI h 64 7 (h.1 64 6)) 64 7 ((((ab_wI h 64 7 (h.1 64 6))).1 64 7) + 1)) 64 9 25) _ hf
            · replace hf := (if_neg c11).symm.trans hf
              refine ab_Ex.blk (k := 3) (pc' := 146) (lv' := [(0, .ref 64)]) (st' := []) (sh' := ab_SH) (D' := ab_dD (ab_wI (ab_wI h 64 7 (h.1 64 6)) 64 10 0)) (fun n => rfl) ?_
              exact sX12_next_L146 d X  ab_N (ab_wI (ab_wI h 64 7 (h.1 64 6)) 64 10 0) _ hf
          · replace hf := (if_neg c8).symm.trans hf
            exact sX12_next_L89 d X  ab_N (ab_wI h 64 7 (h.1 64 6)) _ hf
        · replace hf := (if_neg c5).symm.trans hf
          refine ab_Ex.blk (k := 4) (pc' := 294) (lv' := []) (st' := []) (sh' := ab_SH) (D' := ab_dD (ab_wI (ab_wI h 64 7 (h.1 64 6)) 64 9 24)) (fun n => rfl) ?_
          obtain rfl := Option.some.inj hf
          exact ab_Ex.ret (fun n => rfl) rfl
set_option maxRecDepth 20000 in
theorem sX12_next (d : Nat) (X : abX)  (h : abJ) (z : abJ) (hf : fX12_next  h = some z) : ab_Ex X (d + 5) 183 0 [(0, .ref 64)] [] ab_SH (ab_dD h) (fun r => r = (none, ab_SH, ab_dD z)) := by
  unfold fX12_next at hf
  refine ab_Ex.blk (k := 4) (pc' := 8) (lv' := [(0, .ref 64)]) (st' := []) (sh' := ab_SH) (D' := ab_dD (ab_wI h 64 6 (h.1 64 7))) (fun n => rfl) ?_
  exact sX12_next_L8 d X  ab_N (ab_wI h 64 6 (h.1 64 7)) _ hf
def fX12_fails (x0 : Int32) (h : abJ) : Option abJ := if (h.1 64 11) = 0 then if (h.1 64 9) = 25 then some (ab_wI (ab_wI h 64 11 1) 64 12 (((ab_wI h 64 11 1)).1 64 6)) else some (ab_wI (ab_wI h 64 11 x0) 64 12 (((ab_wI h 64 11 x0)).1 64 6)) else some h
set_option maxRecDepth 20000 in
theorem sX12_fails (d : Nat) (X : abX) (x0 : Int32) (h : abJ) (z : abJ) (hf : fX12_fails x0 h = some z) : ab_Ex X (d + 0) 184 0 [(0, .ref 64), (1, .int x0)] [] ab_SH (ab_dD h) (fun r => r = (none, ab_SH, ab_dD z)) := by
  unfold fX12_fails at hf
  refine ab_Ex.blk (k := 2) (pc' := 4) (lv' := [(0, .ref 64), (1, .int x0)]) (st' := [.int ((h.1 64 11))]) (sh' := ab_SH) (D' := ab_dD h) (fun n => rfl) ?_
  refine ab_Ex.ifc (c := (h.1 64 11) = 0) (SA := (8, [(0, .ref 64), (1, .int x0)], [], ab_dD h)) (SB := (7, [(0, .ref 64), (1, .int x0)], [], ab_dD h)) (fun n => rfl) (fun c1 => ?_) (fun c1 => ?_)
  · replace hf := (if_pos c1).symm.trans hf
    refine ab_Ex.blk (k := 4) (pc' := 15) (lv' := [(0, .ref 64), (1, .int x0)]) (st' := [.int 25, .int ((h.1 64 9)), .ref 64]) (sh' := ab_SH) (D' := ab_dD h) (fun n => rfl) ?_
    refine ab_Ex.ifc (c := (h.1 64 9) = 25) (SA := (18, [(0, .ref 64), (1, .int x0)], [.ref 64], ab_dD h)) (SB := (22, [(0, .ref 64), (1, .int x0)], [.ref 64], ab_dD h)) (fun n => rfl) (fun c2 => ?_) (fun c2 => ?_)
    · replace hf := (if_pos c2).symm.trans hf
      refine ab_Ex.blk (k := 7) (pc' := 34) (lv' := [(0, .ref 64)]) (st' := []) (sh' := ab_SH) (D' := ab_dD (ab_wI (ab_wI h 64 11 1) 64 12 (((ab_wI h 64 11 1)).1 64 6))) (fun n => rfl) ?_
      obtain rfl := Option.some.inj hf
      exact ab_Ex.ret (fun n => rfl) rfl
    · replace hf := (if_neg c2).symm.trans hf
      refine ab_Ex.blk (k := 6) (pc' := 34) (lv' := [(0, .ref 64)]) (st' := []) (sh' := ab_SH) (D' := ab_dD (ab_wI (ab_wI h 64 11 x0) 64 12 (((ab_wI h 64 11 x0)).1 64 6))) (fun n => rfl) ?_
      obtain rfl := Option.some.inj hf
      exact ab_Ex.ret (fun n => rfl) rfl
  · replace hf := (if_neg c1).symm.trans hf
    obtain rfl := Option.some.inj hf
    exact ab_Ex.ret (fun n => rfl) rfl
def fX12_is (x0 : Int32) (h : abJ) : Option Int32 := if (h.1 64 11) = 0 then if (h.1 64 9) = x0 then some 1 else some 0 else some 0
set_option maxRecDepth 20000 in
theorem sX12_is (d : Nat) (X : abX) (x0 : Int32) (h : abJ) (z : Int32) (hf : fX12_is x0 h = some z) : ab_Ex X (d + 0) 185 0 [(0, .ref 64), (1, .int x0)] [] ab_SH (ab_dD h) (fun r => r = (some (.int z), ab_SH, ab_dD h)) := by
  unfold fX12_is at hf
  refine ab_Ex.blk (k := 2) (pc' := 4) (lv' := [(0, .ref 64), (1, .int x0)]) (st' := [.int ((h.1 64 11))]) (sh' := ab_SH) (D' := ab_dD h) (fun n => rfl) ?_
  refine ab_Ex.ifc (c := (h.1 64 11) = 0) (SA := (7, [(0, .ref 64), (1, .int x0)], [], ab_dD h)) (SB := (19, [(0, .ref 64), (1, .int x0)], [], ab_dD h)) (fun n => rfl) (fun c1 => ?_) (fun c1 => ?_)
  · replace hf := (if_pos c1).symm.trans hf
    refine ab_Ex.blk (k := 3) (pc' := 12) (lv' := [(0, .ref 64), (1, .int x0)]) (st' := [.int x0, .int ((h.1 64 9))]) (sh' := ab_SH) (D' := ab_dD h) (fun n => rfl) ?_
    refine ab_Ex.ifc (c := (h.1 64 9) = x0) (SA := (15, [(0, .ref 64), (1, .int x0)], [], ab_dD h)) (SB := (19, [(0, .ref 64), (1, .int x0)], [], ab_dD h)) (fun n => rfl) (fun c2 => ?_) (fun c2 => ?_)
    · replace hf := (if_pos c2).symm.trans hf
      refine ab_Ex.blk (k := 2) (pc' := 20) (lv' := []) (st' := [.int 1]) (sh' := ab_SH) (D' := ab_dD h) (fun n => rfl) ?_
      obtain rfl := Option.some.inj hf
      exact ab_Ex.ret (fun n => rfl) rfl
    · replace hf := (if_neg c2).symm.trans hf
      refine ab_Ex.blk (k := 1) (pc' := 20) (lv' := []) (st' := [.int 0]) (sh' := ab_SH) (D' := ab_dD h) (fun n => rfl) ?_
      obtain rfl := Option.some.inj hf
      exact ab_Ex.ret (fun n => rfl) rfl
  · replace hf := (if_neg c1).symm.trans hf
    refine ab_Ex.blk (k := 1) (pc' := 20) (lv' := []) (st' := [.int 0]) (sh' := ab_SH) (D' := ab_dD h) (fun n => rfl) ?_
    obtain rfl := Option.some.inj hf
    exact ab_Ex.ret (fun n => rfl) rfl
def fX12_eats (x0 : Int32) (h : abJ) : Option (Int32 × abJ) := (fX12_is x0 h).bind (fun r1 => if r1 = 0 then some (0, h) else (fX12_next h).bind (fun r3 => some (1, r3)))
set_option maxRecDepth 20000 in
theorem sX12_eats (d : Nat) (X : abX) (x0 : Int32) (h : abJ) (z : (Int32 × abJ)) (hf : fX12_eats x0 h = some z) : ab_Ex X (d + 6) 186 0 [(0, .ref 64), (1, .int x0)] [] ab_SH (ab_dD h) (fun r => r = (some (.int z.1), ab_SH, ab_dD z.2)) := by
  unfold fX12_eats at hf
  refine ab_Ex.blk (k := 2) (pc' := 2) (lv' := [(0, .ref 64), (1, .int x0)]) (st' := [.int x0, .ref 64]) (sh' := ab_SH) (D' := ab_dD h) (fun n => rfl) ?_
  obtain ⟨r1, hr1, hf⟩ := ab_bind_s hf
  refine ab_Ex.call (d := d + 5) (M2 := 185) (as := [.ref 64, .int x0]) (rest := []) (fun n => rfl) rfl (Nat.not_lt.mpr (Nat.le_of_ble_eq_true rfl)) (sX12_is (d + 5) X x0 h _ hr1) (fun r hr => ?_)
  subst hr
  show ab_Ex X (d + 6) 186 5 [(0, .ref 64), (1, .int x0)] [.int r1] ab_SH (ab_dD h) _
  refine ab_Ex.ifc (c := r1 = 0) (SA := (8, [(0, .ref 64), (1, .int x0)], [], ab_dD h)) (SB := (10, [(0, .ref 64), (1, .int x0)], [], ab_dD h)) (fun n => rfl) (fun c2 => ?_) (fun c2 => ?_)
  · replace hf := (if_pos c2).symm.trans hf
    refine ab_Ex.blk (k := 1) (pc' := 9) (lv' := [(0, .ref 64), (1, .int x0)]) (st' := [.int 0]) (sh' := ab_SH) (D' := ab_dD h) (fun n => rfl) ?_
    obtain rfl := Option.some.inj hf
    exact ab_Ex.ret (fun n => rfl) rfl
  · replace hf := (if_neg c2).symm.trans hf
    refine ab_Ex.blk (k := 1) (pc' := 11) (lv' := [(0, .ref 64), (1, .int x0)]) (st' := [.ref 64]) (sh' := ab_SH) (D' := ab_dD h) (fun n => rfl) ?_
    obtain ⟨r3, hr3, hf⟩ := ab_bind_s hf
    refine ab_Ex.call (d := d + 5) (M2 := 183) (as := [.ref 64]) (rest := []) (fun n => rfl) rfl (Nat.not_lt.mpr (Nat.le_of_ble_eq_true rfl)) (sX12_next (d) X  h _ hr3) (fun r hr => ?_)
    subst hr
    show ab_Ex X (d + 6) 186 14 [(0, .ref 64), (1, .int x0)] [] ab_SH (ab_dD r3) _
    refine ab_Ex.blk (k := 1) (pc' := 15) (lv' := [(0, .ref 64), (1, .int x0)]) (st' := [.int 1]) (sh' := ab_SH) (D' := ab_dD r3) (fun n => rfl) ?_
    obtain rfl := Option.some.inj hf
    exact ab_Ex.ret (fun n => rfl) rfl
def fX12_takes (x0 : Int32) (x1 : Int32) (h : abJ) : Option (Int32 × abJ) := (fX12_is 23 h).bind (fun r1 => if r1 = 0 then (fX12_fails 2 h).bind (fun r3 => if ((r3).1 64 11) = 0 then (fX12_next r3).bind (fun r5 => some (((r3).1 64 10), r5)) else some (((r3).1 64 10), r3)) else (fX12_within (((h.1 64 10) : Int32).toInt64) ((x0 : Int32).toInt64) ((x1 : Int32).toInt64) h).bind (fun r6 => if r6 = 0 then (fX12_fails 3 h).bind (fun r8 => if ((r8).1 64 11) = 0 then (fX12_next r8).bind (fun r10 => some (((r8).1 64 10), r10)) else some (((r8).1 64 10), r8)) else if (h.1 64 11) = 0 then (fX12_next h).bind (fun r12 => some ((h.1 64 10), r12)) else some ((h.1 64 10), h)))
set_option maxRecDepth 20000 in
theorem sX12_takes (d : Nat) (X : abX) (x0 : Int32) (x1 : Int32) (h : abJ) (z : (Int32 × abJ)) (hf : fX12_takes x0 x1 h = some z) : ab_Ex X (d + 6) 187 0 [(0, .ref 64), (1, .int x0), (2, .int x1)] [] ab_SH (ab_dD h) (fun r => r = (some (.int z.1), ab_SH, ab_dD z.2)) := by
  unfold fX12_takes at hf
  refine ab_Ex.blk (k := 2) (pc' := 3) (lv' := [(0, .ref 64), (1, .int x0), (2, .int x1)]) (st' := [.int 23, .ref 64]) (sh' := ab_SH) (D' := ab_dD h) (fun n => rfl) ?_
  obtain ⟨r1, hr1, hf⟩ := ab_bind_s hf
  refine ab_Ex.call (d := d + 5) (M2 := 185) (as := [.ref 64, .int 23]) (rest := []) (fun n => rfl) rfl (Nat.not_lt.mpr (Nat.le_of_ble_eq_true rfl)) (sX12_is (d + 5) X 23 h _ hr1) (fun r hr => ?_)
  subst hr
  show ab_Ex X (d + 6) 187 6 [(0, .ref 64), (1, .int x0), (2, .int x1)] [.int r1] ab_SH (ab_dD h) _
  refine ab_Ex.ifc (c := r1 = 0) (SA := (9, [(0, .ref 64), (1, .int x0), (2, .int x1)], [], ab_dD h)) (SB := (17, [(0, .ref 64), (1, .int x0), (2, .int x1)], [], ab_dD h)) (fun n => rfl) (fun c2 => ?_) (fun c2 => ?_)
  · replace hf := (if_pos c2).symm.trans hf
    refine ab_Ex.blk (k := 2) (pc' := 11) (lv' := [(0, .ref 64), (1, .int x0), (2, .int x1)]) (st' := [.int 2, .ref 64]) (sh' := ab_SH) (D' := ab_dD h) (fun n => rfl) ?_
    obtain ⟨r3, hr3, hf⟩ := ab_bind_s hf
    refine ab_Ex.call (d := d + 5) (M2 := 184) (as := [.ref 64, .int 2]) (rest := []) (fun n => rfl) rfl (Nat.not_lt.mpr (Nat.le_of_ble_eq_true rfl)) (sX12_fails (d + 5) X 2 h _ hr3) (fun r hr => ?_)
    subst hr
    show ab_Ex X (d + 6) 187 14 [(0, .ref 64), (1, .int x0), (2, .int x1)] [] ab_SH (ab_dD r3) _
    refine ab_Ex.blk (k := 6) (pc' := 46) (lv' := [(3, .int (((r3).1 64 10))), (0, .ref 64)]) (st' := [.int (((r3).1 64 11))]) (sh' := ab_SH) (D' := ab_dD r3) (fun n => rfl) ?_
    refine ab_Ex.ifc (c := ((r3).1 64 11) = 0) (SA := (49, [(3, .int (((r3).1 64 10))), (0, .ref 64)], [], ab_dD r3)) (SB := (53, [(3, .int (((r3).1 64 10))), (0, .ref 64)], [], ab_dD r3)) (fun n => rfl) (fun c4 => ?_) (fun c4 => ?_)
    · replace hf := (if_pos c4).symm.trans hf
      refine ab_Ex.blk (k := 1) (pc' := 50) (lv' := [(3, .int (((r3).1 64 10))), (0, .ref 64)]) (st' := [.ref 64]) (sh' := ab_SH) (D' := ab_dD r3) (fun n => rfl) ?_
      obtain ⟨r5, hr5, hf⟩ := ab_bind_s hf
      refine ab_Ex.call (d := d + 5) (M2 := 183) (as := [.ref 64]) (rest := []) (fun n => rfl) rfl (Nat.not_lt.mpr (Nat.le_of_ble_eq_true rfl)) (sX12_next (d) X  r3 _ hr5) (fun r hr => ?_)
      subst hr
      show ab_Ex X (d + 6) 187 53 [(3, .int (((r3).1 64 10)))] [] ab_SH (ab_dD r5) _
      refine ab_Ex.blk (k := 1) (pc' := 54) (lv' := [(3, .int (((r3).1 64 10)))]) (st' := [.int (((r3).1 64 10))]) (sh' := ab_SH) (D' := ab_dD r5) (fun n => rfl) ?_
      obtain rfl := Option.some.inj hf
      exact ab_Ex.ret (fun n => rfl) rfl
    · replace hf := (if_neg c4).symm.trans hf
      refine ab_Ex.blk (k := 1) (pc' := 54) (lv' := [(3, .int (((r3).1 64 10)))]) (st' := [.int (((r3).1 64 10))]) (sh' := ab_SH) (D' := ab_dD r3) (fun n => rfl) ?_
      obtain rfl := Option.some.inj hf
      exact ab_Ex.ret (fun n => rfl) rfl
  · replace hf := (if_neg c2).symm.trans hf
    refine ab_Ex.blk (k := 7) (pc' := 26) (lv' := [(0, .ref 64), (1, .int x0), (2, .int x1)]) (st' := [.long ((x1 : Int32).toInt64), .long ((x0 : Int32).toInt64), .long (((h.1 64 10) : Int32).toInt64)]) (sh' := ab_SH) (D' := ab_dD h) (fun n => rfl) ?_
    obtain ⟨r6, hr6, hf⟩ := ab_bind_s hf
    refine ab_Ex.call (d := d + 5) (M2 := 175) (as := [.long (((h.1 64 10) : Int32).toInt64), .long ((x0 : Int32).toInt64), .long ((x1 : Int32).toInt64)]) (rest := []) (fun n => rfl) rfl (Nat.not_lt.mpr (Nat.le_of_ble_eq_true rfl)) (sX12_within (d + 5) X (((h.1 64 10) : Int32).toInt64) ((x0 : Int32).toInt64) ((x1 : Int32).toInt64) h _ hr6) (fun r hr => ?_)
    subst hr
    show ab_Ex X (d + 6) 187 29 [(0, .ref 64), (1, .int x0), (2, .int x1)] [.int r6] ab_SH (ab_dD h) _
    refine ab_Ex.ifc (c := r6 = 0) (SA := (32, [(0, .ref 64), (1, .int x0), (2, .int x1)], [], ab_dD h)) (SB := (37, [(0, .ref 64), (1, .int x0), (2, .int x1)], [], ab_dD h)) (fun n => rfl) (fun c7 => ?_) (fun c7 => ?_)
    · replace hf := (if_pos c7).symm.trans hf
      refine ab_Ex.blk (k := 2) (pc' := 34) (lv' := [(0, .ref 64), (1, .int x0), (2, .int x1)]) (st' := [.int 3, .ref 64]) (sh' := ab_SH) (D' := ab_dD h) (fun n => rfl) ?_
      obtain ⟨r8, hr8, hf⟩ := ab_bind_s hf
      refine ab_Ex.call (d := d + 5) (M2 := 184) (as := [.ref 64, .int 3]) (rest := []) (fun n => rfl) rfl (Nat.not_lt.mpr (Nat.le_of_ble_eq_true rfl)) (sX12_fails (d + 5) X 3 h _ hr8) (fun r hr => ?_)
      subst hr
      show ab_Ex X (d + 6) 187 37 [(0, .ref 64)] [] ab_SH (ab_dD r8) _
      refine ab_Ex.blk (k := 5) (pc' := 46) (lv' := [(3, .int (((r8).1 64 10))), (0, .ref 64)]) (st' := [.int (((r8).1 64 11))]) (sh' := ab_SH) (D' := ab_dD r8) (fun n => rfl) ?_
      refine ab_Ex.ifc (c := ((r8).1 64 11) = 0) (SA := (49, [(3, .int (((r8).1 64 10))), (0, .ref 64)], [], ab_dD r8)) (SB := (53, [(3, .int (((r8).1 64 10))), (0, .ref 64)], [], ab_dD r8)) (fun n => rfl) (fun c9 => ?_) (fun c9 => ?_)
      · replace hf := (if_pos c9).symm.trans hf
        refine ab_Ex.blk (k := 1) (pc' := 50) (lv' := [(3, .int (((r8).1 64 10))), (0, .ref 64)]) (st' := [.ref 64]) (sh' := ab_SH) (D' := ab_dD r8) (fun n => rfl) ?_
        obtain ⟨r10, hr10, hf⟩ := ab_bind_s hf
        refine ab_Ex.call (d := d + 5) (M2 := 183) (as := [.ref 64]) (rest := []) (fun n => rfl) rfl (Nat.not_lt.mpr (Nat.le_of_ble_eq_true rfl)) (sX12_next (d) X  r8 _ hr10) (fun r hr => ?_)
        subst hr
        show ab_Ex X (d + 6) 187 53 [(3, .int (((r8).1 64 10)))] [] ab_SH (ab_dD r10) _
        refine ab_Ex.blk (k := 1) (pc' := 54) (lv' := [(3, .int (((r8).1 64 10)))]) (st' := [.int (((r8).1 64 10))]) (sh' := ab_SH) (D' := ab_dD r10) (fun n => rfl) ?_
        obtain rfl := Option.some.inj hf
        exact ab_Ex.ret (fun n => rfl) rfl
      · replace hf := (if_neg c9).symm.trans hf
        refine ab_Ex.blk (k := 1) (pc' := 54) (lv' := [(3, .int (((r8).1 64 10)))]) (st' := [.int (((r8).1 64 10))]) (sh' := ab_SH) (D' := ab_dD r8) (fun n => rfl) ?_
        obtain rfl := Option.some.inj hf
        exact ab_Ex.ret (fun n => rfl) rfl
    · replace hf := (if_neg c7).symm.trans hf
      refine ab_Ex.blk (k := 5) (pc' := 46) (lv' := [(3, .int ((h.1 64 10))), (0, .ref 64)]) (st' := [.int ((h.1 64 11))]) (sh' := ab_SH) (D' := ab_dD h) (fun n => rfl) ?_
      refine ab_Ex.ifc (c := (h.1 64 11) = 0) (SA := (49, [(3, .int ((h.1 64 10))), (0, .ref 64)], [], ab_dD h)) (SB := (53, [(3, .int ((h.1 64 10))), (0, .ref 64)], [], ab_dD h)) (fun n => rfl) (fun c11 => ?_) (fun c11 => ?_)
      · replace hf := (if_pos c11).symm.trans hf
        refine ab_Ex.blk (k := 1) (pc' := 50) (lv' := [(3, .int ((h.1 64 10))), (0, .ref 64)]) (st' := [.ref 64]) (sh' := ab_SH) (D' := ab_dD h) (fun n => rfl) ?_
        obtain ⟨r12, hr12, hf⟩ := ab_bind_s hf
        refine ab_Ex.call (d := d + 5) (M2 := 183) (as := [.ref 64]) (rest := []) (fun n => rfl) rfl (Nat.not_lt.mpr (Nat.le_of_ble_eq_true rfl)) (sX12_next (d) X  h _ hr12) (fun r hr => ?_)
        subst hr
        show ab_Ex X (d + 6) 187 53 [(3, .int ((h.1 64 10)))] [] ab_SH (ab_dD r12) _
        refine ab_Ex.blk (k := 1) (pc' := 54) (lv' := [(3, .int ((h.1 64 10)))]) (st' := [.int ((h.1 64 10))]) (sh' := ab_SH) (D' := ab_dD r12) (fun n => rfl) ?_
        obtain rfl := Option.some.inj hf
        exact ab_Ex.ret (fun n => rfl) rfl
      · replace hf := (if_neg c11).symm.trans hf
        refine ab_Ex.blk (k := 1) (pc' := 54) (lv' := [(3, .int ((h.1 64 10)))]) (st' := [.int ((h.1 64 10))]) (sh' := ab_SH) (D' := ab_dD h) (fun n => rfl) ?_
        obtain rfl := Option.some.inj hf
        exact ab_Ex.ret (fun n => rfl) rfl
def fX12_isIn (x0 : Int64) (x1 : Int32) (h : abJ) : Option Int32 := if (lg_cmp (((x0 : Int64) >>> ((x1 : Int32).toInt64 &&& 63)) &&& 1) 1) = 0 then some 1 else some 0
set_option maxRecDepth 20000 in
theorem sX12_isIn (d : Nat) (X : abX) (x0 : Int64) (x1 : Int32) (h : abJ) (z : Int32) (hf : fX12_isIn x0 x1 h = some z) : ab_Ex X (d + 0) 188 0 [(0, .long x0), (2, .int x1)] [] ab_SH (ab_dD h) (fun r => r = (some (.int z), ab_SH, ab_dD h)) := by
  unfold fX12_isIn at hf
  refine ab_Ex.blk (k := 7) (pc' := 7) (lv' := [(0, .long x0), (2, .int x1)]) (st' := [.int ((lg_cmp (((x0 : Int64) >>> ((x1 : Int32).toInt64 &&& 63)) &&& 1) 1))]) (sh' := ab_SH) (D' := ab_dD h) (fun n => rfl) ?_
  refine ab_Ex.ifc (c := (lg_cmp (((x0 : Int64) >>> ((x1 : Int32).toInt64 &&& 63)) &&& 1) 1) = 0) (SA := (10, [(0, .long x0), (2, .int x1)], [], ab_dD h)) (SB := (14, [(0, .long x0), (2, .int x1)], [], ab_dD h)) (fun n => rfl) (fun c1 => ?_) (fun c1 => ?_)
  · replace hf := (if_pos c1).symm.trans hf
    refine ab_Ex.blk (k := 2) (pc' := 15) (lv' := []) (st' := [.int 1]) (sh' := ab_SH) (D' := ab_dD h) (fun n => rfl) ?_
    obtain rfl := Option.some.inj hf
    exact ab_Ex.ret (fun n => rfl) rfl
  · replace hf := (if_neg c1).symm.trans hf
    refine ab_Ex.blk (k := 1) (pc' := 15) (lv' := []) (st' := [.int 0]) (sh' := ab_SH) (D' := ab_dD h) (fun n => rfl) ?_
    obtain rfl := Option.some.inj hf
    exact ab_Ex.ret (fun n => rfl) rfl
def fX12_wordOf (x0 : Int32) (h : abJ) : Option Int32 := if x0 = 3 then some 1 else if x0 = 6 then some 3 else if x0 = 13 then some 0 else if x0 = 14 then some 2 else some (-1)
set_option maxRecDepth 20000 in
theorem sX12_wordOf (d : Nat) (X : abX) (x0 : Int32) (h : abJ) (z : Int32) (hf : fX12_wordOf x0 h = some z) : ab_Ex X (d + 0) 189 0 [(0, .ref 64), (1, .int x0)] [] ab_SH (ab_dD h) (fun r => r = (some (.int z), ab_SH, ab_dD h)) := by
  unfold fX12_wordOf at hf
  refine ab_Ex.blk (k := 1) (pc' := 1) (lv' := [(0, .ref 64), (1, .int x0)]) (st' := [.int x0]) (sh' := ab_SH) (D' := ab_dD h) (fun n => rfl) ?_
  by_cases c1 : x0 = 3
  · replace hf := (if_pos c1).symm.trans hf
    refine ab_Ex.blk (k := 1) (pc' := 46) (lv' := [(0, .ref 64), (1, .int x0)]) (st' := []) (sh' := ab_SH) (D' := ab_dD h) (fun n => by rw [c1]; rfl) ?_
    refine ab_Ex.blk (k := 1) (pc' := 47) (lv' := [(0, .ref 64), (1, .int x0)]) (st' := [.int 1]) (sh' := ab_SH) (D' := ab_dD h) (fun n => rfl) ?_
    obtain rfl := Option.some.inj hf
    exact ab_Ex.ret (fun n => rfl) rfl
  · replace hf := (if_neg c1).symm.trans hf
    by_cases c2 : x0 = 6
    · replace hf := (if_pos c2).symm.trans hf
      refine ab_Ex.blk (k := 1) (pc' := 50) (lv' := [(0, .ref 64), (1, .int x0)]) (st' := []) (sh' := ab_SH) (D' := ab_dD h) (fun n => by rw [c2]; rfl) ?_
      refine ab_Ex.blk (k := 1) (pc' := 51) (lv' := [(0, .ref 64), (1, .int x0)]) (st' := [.int 3]) (sh' := ab_SH) (D' := ab_dD h) (fun n => rfl) ?_
      obtain rfl := Option.some.inj hf
      exact ab_Ex.ret (fun n => rfl) rfl
    · replace hf := (if_neg c2).symm.trans hf
      by_cases c3 : x0 = 13
      · replace hf := (if_pos c3).symm.trans hf
        refine ab_Ex.blk (k := 1) (pc' := 44) (lv' := [(0, .ref 64), (1, .int x0)]) (st' := []) (sh' := ab_SH) (D' := ab_dD h) (fun n => by rw [c3]; rfl) ?_
        refine ab_Ex.blk (k := 1) (pc' := 45) (lv' := [(0, .ref 64), (1, .int x0)]) (st' := [.int 0]) (sh' := ab_SH) (D' := ab_dD h) (fun n => rfl) ?_
        obtain rfl := Option.some.inj hf
        exact ab_Ex.ret (fun n => rfl) rfl
      · replace hf := (if_neg c3).symm.trans hf
        by_cases c4 : x0 = 14
        · replace hf := (if_pos c4).symm.trans hf
          refine ab_Ex.blk (k := 1) (pc' := 48) (lv' := [(0, .ref 64), (1, .int x0)]) (st' := []) (sh' := ab_SH) (D' := ab_dD h) (fun n => by rw [c4]; rfl) ?_
          refine ab_Ex.blk (k := 1) (pc' := 49) (lv' := [(0, .ref 64), (1, .int x0)]) (st' := [.int 2]) (sh' := ab_SH) (D' := ab_dD h) (fun n => rfl) ?_
          obtain rfl := Option.some.inj hf
          exact ab_Ex.ret (fun n => rfl) rfl
        · replace hf := (if_neg c4).symm.trans hf
          have qc1 := lv_neT c1 (show (3 : Int32).toInt = 3 by decide)
          have qc2 := lv_neT c2 (show (6 : Int32).toInt = 6 by decide)
          have qc3 := lv_neT c3 (show (13 : Int32).toInt = 13 by decide)
          have qc4 := lv_neT c4 (show (14 : Int32).toInt = 14 by decide)
          refine ab_Ex.lsw (S := (52, [(0, .ref 64), (1, .int x0)], [], ab_dD h)) (x := x0) (off := 51) (fun n => rfl) (by rw [lv_osw c1 (by decide), lv_osw c2 (by decide), lv_osw c3 (by decide), lv_osw c4 (by decide)]; rfl) rfl ?_
          refine ab_Ex.blk (k := 1) (pc' := 53) (lv' := [(0, .ref 64), (1, .int x0)]) (st' := [.int ((-1))]) (sh' := ab_SH) (D' := ab_dD h) (fun n => rfl) ?_
          obtain rfl := Option.some.inj hf
          exact ab_Ex.ret (fun n => rfl) rfl
def fX12_codes (x0 : Int32) (h : abJ) : Option abJ := if (h.1 64 11) = 0 then ab_ask ((134 + (h.1 68 133)) < 0 ∨ 1034 ≤ ((134 + (h.1 68 133)) : Int32).toNatClampNeg) (some (ab_wI (ab_wI h 68 ((134 + (h.1 68 133)) : Int32).toNatClampNeg x0) 68 133 (((ab_wI h 68 ((134 + (h.1 68 133)) : Int32).toNatClampNeg x0).1 68 133) + 1))) else some h
set_option maxRecDepth 20000 in
theorem sX12_codes (d : Nat) (X : abX) (x0 : Int32) (h : abJ) (z : abJ) (hf : fX12_codes x0 h = some z) : ab_Ex X (d + 0) 190 0 [(0, .ref 64), (1, .int x0)] [] ab_SH (ab_dD h) (fun r => r = (none, ab_SH, ab_dD z)) := by
  unfold fX12_codes at hf
  refine ab_Ex.blk (k := 2) (pc' := 4) (lv' := [(0, .ref 64), (1, .int x0)]) (st' := [.int ((h.1 64 11))]) (sh' := ab_SH) (D' := ab_dD h) (fun n => rfl) ?_
  refine ab_Ex.ifc (c := (h.1 64 11) = 0) (SA := (8, [(0, .ref 64), (1, .int x0)], [], ab_dD h)) (SB := (7, [(0, .ref 64), (1, .int x0)], [], ab_dD h)) (fun n => rfl) (fun c1 => ?_) (fun c1 => ?_)
  · replace hf := (if_pos c1).symm.trans hf
    refine ab_Ex.blk (k := 6) (pc' := 22) (lv' := [(0, .ref 64), (1, .int x0)]) (st' := [.int 133, .ref 68, .int 134, .ref 68]) (sh' := ab_SH) (D' := ab_dD h) (fun n => rfl) ?_
    refine ab_Ex.blk (k := 1) (pc' := 23) (lv' := [(0, .ref 64), (1, .int x0)]) (st' := [.int ((h.1 68 133)), .int 134, .ref 68]) (sh' := ab_SH) (D' := ab_dD h) (fun n => rfl) ?_
    refine ab_Ex.blk (k := 2) (pc' := 25) (lv' := [(0, .ref 64), (1, .int x0)]) (st' := [.int x0, .int ((134 + (h.1 68 133))), .ref 68]) (sh' := ab_SH) (D' := ab_dD h) (fun n => rfl) ?_
    obtain ⟨c2, hf⟩ := ab_ask_s hf
    refine ab_Ex.grd (c := (134 + (h.1 68 133)) < 0 ∨ 1034 ≤ ((134 + (h.1 68 133)) : Int32).toNatClampNeg) (S := (26, [(0, .ref 64), (1, .int x0)], [], ab_dD (ab_wI h 68 ((134 + (h.1 68 133)) : Int32).toNatClampNeg x0))) (fun n => rfl) c2 ?_
    refine ab_Ex.blk (k := 4) (pc' := 34) (lv' := [(0, .ref 64), (1, .int x0)]) (st' := [.int 133, .ref 68, .int 133, .ref 68]) (sh' := ab_SH) (D' := ab_dD (ab_wI h 68 ((134 + (h.1 68 133)) : Int32).toNatClampNeg x0)) (fun n => rfl) ?_
    refine ab_Ex.blk (k := 1) (pc' := 35) (lv' := [(0, .ref 64), (1, .int x0)]) (st' := [.int (((ab_wI h 68 ((134 + (h.1 68 133)) : Int32).toNatClampNeg x0).1 68 133)), .int 133, .ref 68]) (sh' := ab_SH) (D' := ab_dD (ab_wI h 68 ((134 + (h.1 68 133)) : Int32).toNatClampNeg x0)) (fun n => rfl) ?_
    refine ab_Ex.blk (k := 2) (pc' := 37) (lv' := [(0, .ref 64), (1, .int x0)]) (st' := [.int ((((ab_wI h 68 ((134 + (h.1 68 133)) : Int32).toNatClampNeg x0).1 68 133) + 1)), .int 133, .ref 68]) (sh' := ab_SH) (D' := ab_dD (ab_wI h 68 ((134 + (h.1 68 133)) : Int32).toNatClampNeg x0)) (fun n => rfl) ?_
    refine ab_Ex.blk (k := 1) (pc' := 38) (lv' := [(0, .ref 64), (1, .int x0)]) (st' := []) (sh' := ab_SH) (D' := ab_dD (ab_wI (ab_wI h 68 ((134 + (h.1 68 133)) : Int32).toNatClampNeg x0) 68 133 (((ab_wI h 68 ((134 + (h.1 68 133)) : Int32).toNatClampNeg x0).1 68 133) + 1))) (fun n => rfl) ?_
    obtain rfl := Option.some.inj hf
    exact ab_Ex.ret (fun n => rfl) rfl
  · replace hf := (if_neg c1).symm.trans hf
    obtain rfl := Option.some.inj hf
    exact ab_Ex.ret (fun n => rfl) rfl
def fX12_goesIn (x0 : Int32) (h : abJ) : Option (Int32 × abJ) := if x0 = 6 then (fX12_fails 4 h).bind (fun r2 => if ((r2).1 64 11) = 0 then (fX12_next r2).bind (fun r4 => if ((r4).1 64 11) = 0 then some (1, r4) else some (0, r4)) else if ((r2).1 64 11) = 0 then some (1, r2) else some (0, r2)) else if (h.1 64 11) = 0 then (fX12_next h).bind (fun r8 => if ((r8).1 64 11) = 0 then some (1, r8) else some (0, r8)) else if (h.1 64 11) = 0 then some (1, h) else some (0, h)
set_option maxRecDepth 20000 in
theorem sX12_goesIn (d : Nat) (X : abX) (x0 : Int32) (h : abJ) (z : (Int32 × abJ)) (hf : fX12_goesIn x0 h = some z) : ab_Ex X (d + 6) 191 0 [(0, .ref 64), (1, .int x0)] [] ab_SH (ab_dD h) (fun r => r = (some (.int z.1), ab_SH, ab_dD z.2)) := by
  unfold fX12_goesIn at hf
  refine ab_Ex.blk (k := 2) (pc' := 3) (lv' := [(0, .ref 64), (1, .int x0)]) (st' := [.int 6, .int x0]) (sh' := ab_SH) (D' := ab_dD h) (fun n => rfl) ?_
  refine ab_Ex.ifc (c := x0 = 6) (SA := (6, [(0, .ref 64), (1, .int x0)], [], ab_dD h)) (SB := (11, [(0, .ref 64), (1, .int x0)], [], ab_dD h)) (fun n => rfl) (fun c1 => ?_) (fun c1 => ?_)
  · replace hf := (if_pos c1).symm.trans hf
    refine ab_Ex.blk (k := 2) (pc' := 8) (lv' := [(0, .ref 64), (1, .int x0)]) (st' := [.int 4, .ref 64]) (sh' := ab_SH) (D' := ab_dD h) (fun n => rfl) ?_
    obtain ⟨r2, hr2, hf⟩ := ab_bind_s hf
    refine ab_Ex.call (d := d + 5) (M2 := 184) (as := [.ref 64, .int 4]) (rest := []) (fun n => rfl) rfl (Nat.not_lt.mpr (Nat.le_of_ble_eq_true rfl)) (sX12_fails (d + 5) X 4 h _ hr2) (fun r hr => ?_)
    subst hr
    show ab_Ex X (d + 6) 191 11 [(0, .ref 64)] [] ab_SH (ab_dD r2) _
    refine ab_Ex.blk (k := 2) (pc' := 15) (lv' := [(0, .ref 64)]) (st' := [.int (((r2).1 64 11))]) (sh' := ab_SH) (D' := ab_dD r2) (fun n => rfl) ?_
    refine ab_Ex.ifc (c := ((r2).1 64 11) = 0) (SA := (18, [(0, .ref 64)], [], ab_dD r2)) (SB := (22, [(0, .ref 64)], [], ab_dD r2)) (fun n => rfl) (fun c3 => ?_) (fun c3 => ?_)
    · replace hf := (if_pos c3).symm.trans hf
      refine ab_Ex.blk (k := 1) (pc' := 19) (lv' := [(0, .ref 64)]) (st' := [.ref 64]) (sh' := ab_SH) (D' := ab_dD r2) (fun n => rfl) ?_
      obtain ⟨r4, hr4, hf⟩ := ab_bind_s hf
      refine ab_Ex.call (d := d + 5) (M2 := 183) (as := [.ref 64]) (rest := []) (fun n => rfl) rfl (Nat.not_lt.mpr (Nat.le_of_ble_eq_true rfl)) (sX12_next (d) X  r2 _ hr4) (fun r hr => ?_)
      subst hr
      show ab_Ex X (d + 6) 191 22 [(0, .ref 64)] [] ab_SH (ab_dD r4) _
      refine ab_Ex.blk (k := 2) (pc' := 26) (lv' := [(0, .ref 64)]) (st' := [.int (((r4).1 64 11))]) (sh' := ab_SH) (D' := ab_dD r4) (fun n => rfl) ?_
      refine ab_Ex.ifc (c := ((r4).1 64 11) = 0) (SA := (29, [(0, .ref 64)], [], ab_dD r4)) (SB := (33, [(0, .ref 64)], [], ab_dD r4)) (fun n => rfl) (fun c5 => ?_) (fun c5 => ?_)
      · replace hf := (if_pos c5).symm.trans hf
        refine ab_Ex.blk (k := 2) (pc' := 34) (lv' := []) (st' := [.int 1]) (sh' := ab_SH) (D' := ab_dD r4) (fun n => rfl) ?_
        obtain rfl := Option.some.inj hf
        exact ab_Ex.ret (fun n => rfl) rfl
      · replace hf := (if_neg c5).symm.trans hf
        refine ab_Ex.blk (k := 1) (pc' := 34) (lv' := []) (st' := [.int 0]) (sh' := ab_SH) (D' := ab_dD r4) (fun n => rfl) ?_
        obtain rfl := Option.some.inj hf
        exact ab_Ex.ret (fun n => rfl) rfl
    · replace hf := (if_neg c3).symm.trans hf
      refine ab_Ex.blk (k := 2) (pc' := 26) (lv' := [(0, .ref 64)]) (st' := [.int (((r2).1 64 11))]) (sh' := ab_SH) (D' := ab_dD r2) (fun n => rfl) ?_
      refine ab_Ex.ifc (c := ((r2).1 64 11) = 0) (SA := (29, [(0, .ref 64)], [], ab_dD r2)) (SB := (33, [(0, .ref 64)], [], ab_dD r2)) (fun n => rfl) (fun c6 => ?_) (fun c6 => ?_)
      · replace hf := (if_pos c6).symm.trans hf
        refine ab_Ex.blk (k := 2) (pc' := 34) (lv' := []) (st' := [.int 1]) (sh' := ab_SH) (D' := ab_dD r2) (fun n => rfl) ?_
        obtain rfl := Option.some.inj hf
        exact ab_Ex.ret (fun n => rfl) rfl
      · replace hf := (if_neg c6).symm.trans hf
        refine ab_Ex.blk (k := 1) (pc' := 34) (lv' := []) (st' := [.int 0]) (sh' := ab_SH) (D' := ab_dD r2) (fun n => rfl) ?_
        obtain rfl := Option.some.inj hf
        exact ab_Ex.ret (fun n => rfl) rfl
  · replace hf := (if_neg c1).symm.trans hf
    refine ab_Ex.blk (k := 2) (pc' := 15) (lv' := [(0, .ref 64)]) (st' := [.int ((h.1 64 11))]) (sh' := ab_SH) (D' := ab_dD h) (fun n => rfl) ?_
    refine ab_Ex.ifc (c := (h.1 64 11) = 0) (SA := (18, [(0, .ref 64)], [], ab_dD h)) (SB := (22, [(0, .ref 64)], [], ab_dD h)) (fun n => rfl) (fun c7 => ?_) (fun c7 => ?_)
    · replace hf := (if_pos c7).symm.trans hf
      refine ab_Ex.blk (k := 1) (pc' := 19) (lv' := [(0, .ref 64)]) (st' := [.ref 64]) (sh' := ab_SH) (D' := ab_dD h) (fun n => rfl) ?_
      obtain ⟨r8, hr8, hf⟩ := ab_bind_s hf
      refine ab_Ex.call (d := d + 5) (M2 := 183) (as := [.ref 64]) (rest := []) (fun n => rfl) rfl (Nat.not_lt.mpr (Nat.le_of_ble_eq_true rfl)) (sX12_next (d) X  h _ hr8) (fun r hr => ?_)
      subst hr
      show ab_Ex X (d + 6) 191 22 [(0, .ref 64)] [] ab_SH (ab_dD r8) _
      refine ab_Ex.blk (k := 2) (pc' := 26) (lv' := [(0, .ref 64)]) (st' := [.int (((r8).1 64 11))]) (sh' := ab_SH) (D' := ab_dD r8) (fun n => rfl) ?_
      refine ab_Ex.ifc (c := ((r8).1 64 11) = 0) (SA := (29, [(0, .ref 64)], [], ab_dD r8)) (SB := (33, [(0, .ref 64)], [], ab_dD r8)) (fun n => rfl) (fun c9 => ?_) (fun c9 => ?_)
      · replace hf := (if_pos c9).symm.trans hf
        refine ab_Ex.blk (k := 2) (pc' := 34) (lv' := []) (st' := [.int 1]) (sh' := ab_SH) (D' := ab_dD r8) (fun n => rfl) ?_
        obtain rfl := Option.some.inj hf
        exact ab_Ex.ret (fun n => rfl) rfl
      · replace hf := (if_neg c9).symm.trans hf
        refine ab_Ex.blk (k := 1) (pc' := 34) (lv' := []) (st' := [.int 0]) (sh' := ab_SH) (D' := ab_dD r8) (fun n => rfl) ?_
        obtain rfl := Option.some.inj hf
        exact ab_Ex.ret (fun n => rfl) rfl
    · replace hf := (if_neg c7).symm.trans hf
      refine ab_Ex.blk (k := 2) (pc' := 26) (lv' := [(0, .ref 64)]) (st' := [.int ((h.1 64 11))]) (sh' := ab_SH) (D' := ab_dD h) (fun n => rfl) ?_
      refine ab_Ex.ifc (c := (h.1 64 11) = 0) (SA := (29, [(0, .ref 64)], [], ab_dD h)) (SB := (33, [(0, .ref 64)], [], ab_dD h)) (fun n => rfl) (fun c10 => ?_) (fun c10 => ?_)
      · replace hf := (if_pos c10).symm.trans hf
        refine ab_Ex.blk (k := 2) (pc' := 34) (lv' := []) (st' := [.int 1]) (sh' := ab_SH) (D' := ab_dD h) (fun n => rfl) ?_
        obtain rfl := Option.some.inj hf
        exact ab_Ex.ret (fun n => rfl) rfl
      · replace hf := (if_neg c10).symm.trans hf
        refine ab_Ex.blk (k := 1) (pc' := 34) (lv' := []) (st' := [.int 0]) (sh' := ab_SH) (D' := ab_dD h) (fun n => rfl) ?_
        obtain rfl := Option.some.inj hf
        exact ab_Ex.ret (fun n => rfl) rfl
def fX12_readSum_J41 (R : Nat → Int32 → abJ → Option abJ) (k5 : Int32 → abJ → Option abJ) (y1 : Int32) (t0 : Int32) (h : abJ) : Option abJ := (fX12_next h).bind (fun r7 => (R 1 y1 r7).bind (fun r8 => (fX12_codes t0 r8).bind (fun r9 => k5 y1 r9)))
def fX12_readSum_J23 (R : Nat → Int32 → abJ → Option abJ) (k5 : Int32 → abJ → Option abJ) (y1 : Int32) (h : abJ) : Option abJ := if (h.1 64 9) = 32 then fX12_readSum_J41 R k5 y1 3000 h else fX12_readSum_J41 R k5 y1 3001 h
def fX12_readSum_L5 (R : Nat → Int32 → abJ → Option abJ)  : Nat → Int32 → abJ → Option abJ
  | 0, _, _ => none
  | n + 1, y1, h => (fX12_is 32 h).bind (fun r2 => if r2 = 0 then (fX12_is 33 h).bind (fun r4 => if r4 = 0 then some h else fX12_readSum_J23 R (fun y1 h => fX12_readSum_L5 R n y1 h) y1 h) else fX12_readSum_J23 R (fun y1 h => fX12_readSum_L5 R n y1 h) y1 h)
def bX12_readSum (R : Nat → Int32 → abJ → Option abJ) (x0 : Int32) (h : abJ) : Option abJ := (R 1 x0 h).bind (fun r1 => fX12_readSum_L5 R ab_N x0 r1)
set_option maxRecDepth 20000 in
theorem sX12_readSum_J41 (d : Nat) (X : abX) (R : Nat → Int32 → abJ → Option abJ) (IH : ∀ (sel : Nat) (a0 : Int32) (h : abJ) (z : abJ), R sel a0 h = some z → ab_Ex X (d + 7) (([195, 194, 192, 198, 197, 196, 193] : List Nat).getD sel 0) 0 [(0, .ref 64), (1, .int a0)] [] ab_SH (ab_dD h) (fun r => r = (none, ab_SH, ab_dD z))) (k5 : Int32 → abJ → Option abJ) (hk5 : ∀ (y1 : Int32) (h : abJ) (z : abJ), k5 y1 h = some z → ab_Ex X (d + 8) 195 5 [(0, .ref 64), (1, .int y1)] [] ab_SH (ab_dD h) (fun r => r = (none, ab_SH, ab_dD z))) : ∀ (y1 : Int32) (t0 : Int32) (h : abJ) (z : abJ), fX12_readSum_J41 R k5 y1 t0 h = some z → ab_Ex X (d + 8) 195 41 [(0, .ref 64), (1, .int y1)] [.int t0] ab_SH (ab_dD h) (fun r => r = (none, ab_SH, ab_dD z)) := by
  intro y1 t0 h z hf
  unfold fX12_readSum_J41 at hf
  refine ab_Ex.blk (k := 2) (pc' := 43) (lv' := [(2, .int t0), (0, .ref 64), (1, .int y1)]) (st' := [.ref 64]) (sh' := ab_SH) (D' := ab_dD h) (fun n => rfl) ?_
  obtain ⟨r7, hr7, hf⟩ := ab_bind_s hf
  refine ab_Ex.call (d := d + 7) (M2 := 183) (as := [.ref 64]) (rest := []) (fun n => rfl) rfl (Nat.not_lt.mpr (Nat.le_of_ble_eq_true rfl)) (sX12_next (d + 2) X  h _ hr7) (fun r hr => ?_)
  subst hr
  show ab_Ex X (d + 8) 195 46 [(2, .int t0), (0, .ref 64), (1, .int y1)] [] ab_SH (ab_dD r7) _
  refine ab_Ex.blk (k := 2) (pc' := 48) (lv' := [(2, .int t0), (0, .ref 64), (1, .int y1)]) (st' := [.int y1, .ref 64]) (sh' := ab_SH) (D' := ab_dD r7) (fun n => rfl) ?_
  obtain ⟨r8, hr8, hf⟩ := ab_bind_s hf
  refine ab_Ex.call (d := d + 7) (M2 := 194) (as := [.ref 64, .int y1]) (rest := []) (fun n => rfl) rfl (Nat.not_lt.mpr (Nat.le_of_ble_eq_true rfl)) (IH 1 y1 r7 _ hr8) (fun r hr => ?_)
  subst hr
  show ab_Ex X (d + 8) 195 51 [(2, .int t0), (0, .ref 64), (1, .int y1)] [] ab_SH (ab_dD r8) _
  refine ab_Ex.blk (k := 2) (pc' := 53) (lv' := [(2, .int t0), (0, .ref 64), (1, .int y1)]) (st' := [.int t0, .ref 64]) (sh' := ab_SH) (D' := ab_dD r8) (fun n => rfl) ?_
  obtain ⟨r9, hr9, hf⟩ := ab_bind_s hf
  refine ab_Ex.call (d := d + 7) (M2 := 190) (as := [.ref 64, .int t0]) (rest := []) (fun n => rfl) rfl (Nat.not_lt.mpr (Nat.le_of_ble_eq_true rfl)) (sX12_codes (d + 7) X t0 r8 _ hr9) (fun r hr => ?_)
  subst hr
  show ab_Ex X (d + 8) 195 56 [(2, .int t0), (0, .ref 64), (1, .int y1)] [] ab_SH (ab_dD r9) _
  refine ab_Ex.blk (k := 1) (pc' := 5) (lv' := [(0, .ref 64), (1, .int y1)]) (st' := []) (sh' := ab_SH) (D' := ab_dD r9) (fun n => rfl) ?_
  exact hk5 y1 r9 _ hf
set_option maxRecDepth 20000 in
theorem sX12_readSum_J23 (d : Nat) (X : abX) (R : Nat → Int32 → abJ → Option abJ) (IH : ∀ (sel : Nat) (a0 : Int32) (h : abJ) (z : abJ), R sel a0 h = some z → ab_Ex X (d + 7) (([195, 194, 192, 198, 197, 196, 193] : List Nat).getD sel 0) 0 [(0, .ref 64), (1, .int a0)] [] ab_SH (ab_dD h) (fun r => r = (none, ab_SH, ab_dD z))) (k5 : Int32 → abJ → Option abJ) (hk5 : ∀ (y1 : Int32) (h : abJ) (z : abJ), k5 y1 h = some z → ab_Ex X (d + 8) 195 5 [(0, .ref 64), (1, .int y1)] [] ab_SH (ab_dD h) (fun r => r = (none, ab_SH, ab_dD z))) : ∀ (y1 : Int32) (h : abJ) (z : abJ), fX12_readSum_J23 R k5 y1 h = some z → ab_Ex X (d + 8) 195 23 [(0, .ref 64), (1, .int y1)] [] ab_SH (ab_dD h) (fun r => r = (none, ab_SH, ab_dD z)) := by
  intro y1 h z hf
  unfold fX12_readSum_J23 at hf
  refine ab_Ex.blk (k := 3) (pc' := 29) (lv' := [(0, .ref 64), (1, .int y1)]) (st' := [.int 32, .int ((h.1 64 9))]) (sh' := ab_SH) (D' := ab_dD h) (fun n => rfl) ?_
  refine ab_Ex.ifc (c := (h.1 64 9) = 32) (SA := (32, [(0, .ref 64), (1, .int y1)], [], ab_dD h)) (SB := (38, [(0, .ref 64), (1, .int y1)], [], ab_dD h)) (fun n => rfl) (fun c6 => ?_) (fun c6 => ?_)
  · replace hf := (if_pos c6).symm.trans hf
    refine ab_Ex.blk (k := 2) (pc' := 41) (lv' := [(0, .ref 64), (1, .int y1)]) (st' := [.int 3000]) (sh' := ab_SH) (D' := ab_dD h) (fun n => rfl) ?_
    exact sX12_readSum_J41 d X R IH k5 hk5 y1 3000 h _ hf
  · replace hf := (if_neg c6).symm.trans hf
    refine ab_Ex.blk (k := 1) (pc' := 41) (lv' := [(0, .ref 64), (1, .int y1)]) (st' := [.int 3001]) (sh' := ab_SH) (D' := ab_dD h) (fun n => rfl) ?_
    exact sX12_readSum_J41 d X R IH k5 hk5 y1 3001 h _ hf
set_option maxRecDepth 20000 in
theorem sX12_readSum_L5 (d : Nat) (X : abX) (R : Nat → Int32 → abJ → Option abJ) (IH : ∀ (sel : Nat) (a0 : Int32) (h : abJ) (z : abJ), R sel a0 h = some z → ab_Ex X (d + 7) (([195, 194, 192, 198, 197, 196, 193] : List Nat).getD sel 0) 0 [(0, .ref 64), (1, .int a0)] [] ab_SH (ab_dD h) (fun r => r = (none, ab_SH, ab_dD z)))   : ∀ (n : Nat), ∀ (y1 : Int32) (h : abJ) (z : abJ), fX12_readSum_L5 R n y1 h = some z → ab_Ex X (d + 8) 195 5 [(0, .ref 64), (1, .int y1)] [] ab_SH (ab_dD h) (fun r => r = (none, ab_SH, ab_dD z)) := by
  intro n
  induction n with
  | zero => intro y1 h z hf; cases hf
  | succ n ih =>
    intro y1 h z hf
    rw [fX12_readSum_L5] at hf
    refine ab_Ex.blk (k := 2) (pc' := 8) (lv' := [(0, .ref 64), (1, .int y1)]) (st' := [.int 32, .ref 64]) (sh' := ab_SH) (D' := ab_dD h) (fun n => rfl) ?_
    obtain ⟨r2, hr2, hf⟩ := ab_bind_s hf
    refine ab_Ex.call (d := d + 7) (M2 := 185) (as := [.ref 64, .int 32]) (rest := []) (fun n => rfl) rfl (Nat.not_lt.mpr (Nat.le_of_ble_eq_true rfl)) (sX12_is (d + 7) X 32 h _ hr2) (fun r hr => ?_)
    subst hr
    show ab_Ex X (d + 8) 195 11 [(0, .ref 64), (1, .int y1)] [.int r2] ab_SH (ab_dD h) _
    refine ab_Ex.ifc (c := r2 = 0) (SA := (14, [(0, .ref 64), (1, .int y1)], [], ab_dD h)) (SB := (23, [(0, .ref 64), (1, .int y1)], [], ab_dD h)) (fun n => rfl) (fun c3 => ?_) (fun c3 => ?_)
    · replace hf := (if_pos c3).symm.trans hf
      refine ab_Ex.blk (k := 2) (pc' := 17) (lv' := [(0, .ref 64), (1, .int y1)]) (st' := [.int 33, .ref 64]) (sh' := ab_SH) (D' := ab_dD h) (fun n => rfl) ?_
      obtain ⟨r4, hr4, hf⟩ := ab_bind_s hf
      refine ab_Ex.call (d := d + 7) (M2 := 185) (as := [.ref 64, .int 33]) (rest := []) (fun n => rfl) rfl (Nat.not_lt.mpr (Nat.le_of_ble_eq_true rfl)) (sX12_is (d + 7) X 33 h _ hr4) (fun r hr => ?_)
      subst hr
      show ab_Ex X (d + 8) 195 20 [(0, .ref 64), (1, .int y1)] [.int r4] ab_SH (ab_dD h) _
      refine ab_Ex.ifc (c := r4 = 0) (SA := (59, [(0, .ref 64), (1, .int y1)], [], ab_dD h)) (SB := (23, [(0, .ref 64), (1, .int y1)], [], ab_dD h)) (fun n => rfl) (fun c5 => ?_) (fun c5 => ?_)
      · replace hf := (if_pos c5).symm.trans hf
        obtain rfl := Option.some.inj hf
        exact ab_Ex.ret (fun n => rfl) rfl
      · replace hf := (if_neg c5).symm.trans hf
        exact sX12_readSum_J23 d X R IH (fun y1 h => fX12_readSum_L5 R n y1 h) (fun y1 h z hz => ih y1 h z hz) y1 h _ hf
    · replace hf := (if_neg c3).symm.trans hf
      exact sX12_readSum_J23 d X R IH (fun y1 h => fX12_readSum_L5 R n y1 h) (fun y1 h z hz => ih y1 h z hz) y1 h _ hf
set_option maxRecDepth 20000 in
theorem sX12_readSum_b (d : Nat) (X : abX) (R : Nat → Int32 → abJ → Option abJ) (IH : ∀ (sel : Nat) (a0 : Int32) (h : abJ) (z : abJ), R sel a0 h = some z → ab_Ex X (d + 7) (([195, 194, 192, 198, 197, 196, 193] : List Nat).getD sel 0) 0 [(0, .ref 64), (1, .int a0)] [] ab_SH (ab_dD h) (fun r => r = (none, ab_SH, ab_dD z))) (x0 : Int32) (h : abJ) (z : abJ) (hf : bX12_readSum R x0 h = some z) : ab_Ex X (d + 8) 195 0 [(0, .ref 64), (1, .int x0)] [] ab_SH (ab_dD h) (fun r => r = (none, ab_SH, ab_dD z)) := by
  unfold bX12_readSum at hf
  refine ab_Ex.blk (k := 2) (pc' := 2) (lv' := [(0, .ref 64), (1, .int x0)]) (st' := [.int x0, .ref 64]) (sh' := ab_SH) (D' := ab_dD h) (fun n => rfl) ?_
  obtain ⟨r1, hr1, hf⟩ := ab_bind_s hf
  refine ab_Ex.call (d := d + 7) (M2 := 194) (as := [.ref 64, .int x0]) (rest := []) (fun n => rfl) rfl (Nat.not_lt.mpr (Nat.le_of_ble_eq_true rfl)) (IH 1 x0 h _ hr1) (fun r hr => ?_)
  subst hr
  show ab_Ex X (d + 8) 195 5 [(0, .ref 64), (1, .int x0)] [] ab_SH (ab_dD r1) _
  exact sX12_readSum_L5 d X R IH  ab_N x0 r1 _ hf
def fX12_readTerm_L5 (R : Nat → Int32 → abJ → Option abJ)  : Nat → Int32 → abJ → Option abJ
  | 0, _, _ => none
  | n + 1, y1, h => (fX12_eats 34 h).bind (fun r2 => if r2.1 = 0 then some r2.2 else (R 2 y1 r2.2).bind (fun r4 => (fX12_codes 3002 r4).bind (fun r5 => fX12_readTerm_L5 R n y1 r5)))
def bX12_readTerm (R : Nat → Int32 → abJ → Option abJ) (x0 : Int32) (h : abJ) : Option abJ := (R 2 x0 h).bind (fun r1 => fX12_readTerm_L5 R ab_N x0 r1)
set_option maxRecDepth 20000 in
theorem sX12_readTerm_L5 (d : Nat) (X : abX) (R : Nat → Int32 → abJ → Option abJ) (IH : ∀ (sel : Nat) (a0 : Int32) (h : abJ) (z : abJ), R sel a0 h = some z → ab_Ex X (d + 7) (([195, 194, 192, 198, 197, 196, 193] : List Nat).getD sel 0) 0 [(0, .ref 64), (1, .int a0)] [] ab_SH (ab_dD h) (fun r => r = (none, ab_SH, ab_dD z)))   : ∀ (n : Nat), ∀ (y1 : Int32) (h : abJ) (z : abJ), fX12_readTerm_L5 R n y1 h = some z → ab_Ex X (d + 8) 194 5 [(0, .ref 64), (1, .int y1)] [] ab_SH (ab_dD h) (fun r => r = (none, ab_SH, ab_dD z)) := by
  intro n
  induction n with
  | zero => intro y1 h z hf; cases hf
  | succ n ih =>
    intro y1 h z hf
    rw [fX12_readTerm_L5] at hf
    refine ab_Ex.blk (k := 2) (pc' := 8) (lv' := [(0, .ref 64), (1, .int y1)]) (st' := [.int 34, .ref 64]) (sh' := ab_SH) (D' := ab_dD h) (fun n => rfl) ?_
    obtain ⟨r2, hr2, hf⟩ := ab_bind_s hf
    refine ab_Ex.call (d := d + 7) (M2 := 186) (as := [.ref 64, .int 34]) (rest := []) (fun n => rfl) rfl (Nat.not_lt.mpr (Nat.le_of_ble_eq_true rfl)) (sX12_eats (d + 1) X 34 h _ hr2) (fun r hr => ?_)
    subst hr
    show ab_Ex X (d + 8) 194 11 [(0, .ref 64), (1, .int y1)] [.int r2.1] ab_SH (ab_dD r2.2) _
    refine ab_Ex.ifc (c := r2.1 = 0) (SA := (29, [(0, .ref 64), (1, .int y1)], [], ab_dD r2.2)) (SB := (14, [(0, .ref 64), (1, .int y1)], [], ab_dD r2.2)) (fun n => rfl) (fun c3 => ?_) (fun c3 => ?_)
    · replace hf := (if_pos c3).symm.trans hf
      obtain rfl := Option.some.inj hf
      exact ab_Ex.ret (fun n => rfl) rfl
    · replace hf := (if_neg c3).symm.trans hf
      refine ab_Ex.blk (k := 2) (pc' := 16) (lv' := [(0, .ref 64), (1, .int y1)]) (st' := [.int y1, .ref 64]) (sh' := ab_SH) (D' := ab_dD r2.2) (fun n => rfl) ?_
      obtain ⟨r4, hr4, hf⟩ := ab_bind_s hf
      refine ab_Ex.call (d := d + 7) (M2 := 192) (as := [.ref 64, .int y1]) (rest := []) (fun n => rfl) rfl (Nat.not_lt.mpr (Nat.le_of_ble_eq_true rfl)) (IH 2 y1 r2.2 _ hr4) (fun r hr => ?_)
      subst hr
      show ab_Ex X (d + 8) 194 19 [(0, .ref 64), (1, .int y1)] [] ab_SH (ab_dD r4) _
      refine ab_Ex.blk (k := 2) (pc' := 23) (lv' := [(0, .ref 64), (1, .int y1)]) (st' := [.int 3002, .ref 64]) (sh' := ab_SH) (D' := ab_dD r4) (fun n => rfl) ?_
      obtain ⟨r5, hr5, hf⟩ := ab_bind_s hf
      refine ab_Ex.call (d := d + 7) (M2 := 190) (as := [.ref 64, .int 3002]) (rest := []) (fun n => rfl) rfl (Nat.not_lt.mpr (Nat.le_of_ble_eq_true rfl)) (sX12_codes (d + 7) X 3002 r4 _ hr5) (fun r hr => ?_)
      subst hr
      show ab_Ex X (d + 8) 194 26 [(0, .ref 64), (1, .int y1)] [] ab_SH (ab_dD r5) _
      refine ab_Ex.blk (k := 1) (pc' := 5) (lv' := [(0, .ref 64), (1, .int y1)]) (st' := []) (sh' := ab_SH) (D' := ab_dD r5) (fun n => rfl) ?_
      exact ih y1 r5 _ hf
set_option maxRecDepth 20000 in
theorem sX12_readTerm_b (d : Nat) (X : abX) (R : Nat → Int32 → abJ → Option abJ) (IH : ∀ (sel : Nat) (a0 : Int32) (h : abJ) (z : abJ), R sel a0 h = some z → ab_Ex X (d + 7) (([195, 194, 192, 198, 197, 196, 193] : List Nat).getD sel 0) 0 [(0, .ref 64), (1, .int a0)] [] ab_SH (ab_dD h) (fun r => r = (none, ab_SH, ab_dD z))) (x0 : Int32) (h : abJ) (z : abJ) (hf : bX12_readTerm R x0 h = some z) : ab_Ex X (d + 8) 194 0 [(0, .ref 64), (1, .int x0)] [] ab_SH (ab_dD h) (fun r => r = (none, ab_SH, ab_dD z)) := by
  unfold bX12_readTerm at hf
  refine ab_Ex.blk (k := 2) (pc' := 2) (lv' := [(0, .ref 64), (1, .int x0)]) (st' := [.int x0, .ref 64]) (sh' := ab_SH) (D' := ab_dD h) (fun n => rfl) ?_
  obtain ⟨r1, hr1, hf⟩ := ab_bind_s hf
  refine ab_Ex.call (d := d + 7) (M2 := 192) (as := [.ref 64, .int x0]) (rest := []) (fun n => rfl) rfl (Nat.not_lt.mpr (Nat.le_of_ble_eq_true rfl)) (IH 2 x0 h _ hr1) (fun r hr => ?_)
  subst hr
  show ab_Ex X (d + 8) 194 5 [(0, .ref 64), (1, .int x0)] [] ab_SH (ab_dD r1) _
  exact sX12_readTerm_L5 d X R IH  ab_N x0 r1 _ hf
def fX12_readAtom_J66 (R : Nat → Int32 → abJ → Option abJ)  (y1 : Int32) (h : abJ) : Option abJ := (fX12_is 35 h).bind (fun r6 => if r6 = 0 then (fX12_is 9 h).bind (fun r8 => if r8 = 0 then (fX12_fails 2 h).bind (fun r10 => some r10) else (R 6 y1 h).bind (fun r11 => some r11)) else (fX12_goesIn y1 h).bind (fun r12 => if r12.1 = 0 then some r12.2 else (R 0 ((y1 + 1)) r12.2).bind (fun r14 => (fX12_eats 36 r14).bind (fun r15 => if r15.1 = 0 then (fX12_fails 2 r15.2).bind (fun r17 => some r17) else some r15.2))))
def bX12_readAtom (R : Nat → Int32 → abJ → Option abJ) (x0 : Int32) (h : abJ) : Option abJ := (fX12_is 23 h).bind (fun r1 => if r1 = 0 then if (h.1 64 11) = 0 then (fX12_wordOf ((h.1 64 9)) h).bind (fun r4 => if r4 = (-1) then fX12_readAtom_J66 R x0 h else (fX12_wordOf ((h.1 64 9)) h).bind (fun r18 => (fX12_codes ((1000 + r18)) h).bind (fun r19 => (fX12_next r19).bind (fun r20 => some r20)))) else fX12_readAtom_J66 R x0 h else (fX12_codes ((h.1 64 10)) h).bind (fun r21 => (fX12_next r21).bind (fun r22 => some r22)))
set_option maxRecDepth 20000 in
theorem sX12_readAtom_J66 (d : Nat) (X : abX) (R : Nat → Int32 → abJ → Option abJ) (IH : ∀ (sel : Nat) (a0 : Int32) (h : abJ) (z : abJ), R sel a0 h = some z → ab_Ex X (d + 7) (([195, 194, 192, 198, 197, 196, 193] : List Nat).getD sel 0) 0 [(0, .ref 64), (1, .int a0)] [] ab_SH (ab_dD h) (fun r => r = (none, ab_SH, ab_dD z)))   : ∀ (y1 : Int32) (h : abJ) (z : abJ), fX12_readAtom_J66 R y1 h = some z → ab_Ex X (d + 8) 192 66 [(0, .ref 64), (1, .int y1)] [] ab_SH (ab_dD h) (fun r => r = (none, ab_SH, ab_dD z)) := by
  intro y1 h z hf
  unfold fX12_readAtom_J66 at hf
  refine ab_Ex.blk (k := 2) (pc' := 69) (lv' := [(0, .ref 64), (1, .int y1)]) (st' := [.int 35, .ref 64]) (sh' := ab_SH) (D' := ab_dD h) (fun n => rfl) ?_
  obtain ⟨r6, hr6, hf⟩ := ab_bind_s hf
  refine ab_Ex.call (d := d + 7) (M2 := 185) (as := [.ref 64, .int 35]) (rest := []) (fun n => rfl) rfl (Nat.not_lt.mpr (Nat.le_of_ble_eq_true rfl)) (sX12_is (d + 7) X 35 h _ hr6) (fun r hr => ?_)
  subst hr
  show ab_Ex X (d + 8) 192 72 [(0, .ref 64), (1, .int y1)] [.int r6] ab_SH (ab_dD h) _
  refine ab_Ex.ifc (c := r6 = 0) (SA := (108, [(0, .ref 64), (1, .int y1)], [], ab_dD h)) (SB := (75, [(0, .ref 64), (1, .int y1)], [], ab_dD h)) (fun n => rfl) (fun c7 => ?_) (fun c7 => ?_)
  · replace hf := (if_pos c7).symm.trans hf
    refine ab_Ex.blk (k := 2) (pc' := 111) (lv' := [(0, .ref 64), (1, .int y1)]) (st' := [.int 9, .ref 64]) (sh' := ab_SH) (D' := ab_dD h) (fun n => rfl) ?_
    obtain ⟨r8, hr8, hf⟩ := ab_bind_s hf
    refine ab_Ex.call (d := d + 7) (M2 := 185) (as := [.ref 64, .int 9]) (rest := []) (fun n => rfl) rfl (Nat.not_lt.mpr (Nat.le_of_ble_eq_true rfl)) (sX12_is (d + 7) X 9 h _ hr8) (fun r hr => ?_)
    subst hr
    show ab_Ex X (d + 8) 192 114 [(0, .ref 64), (1, .int y1)] [.int r8] ab_SH (ab_dD h) _
    refine ab_Ex.ifc (c := r8 = 0) (SA := (125, [(0, .ref 64), (1, .int y1)], [], ab_dD h)) (SB := (117, [(0, .ref 64), (1, .int y1)], [], ab_dD h)) (fun n => rfl) (fun c9 => ?_) (fun c9 => ?_)
    · replace hf := (if_pos c9).symm.trans hf
      refine ab_Ex.blk (k := 2) (pc' := 127) (lv' := [(0, .ref 64), (1, .int y1)]) (st' := [.int 2, .ref 64]) (sh' := ab_SH) (D' := ab_dD h) (fun n => rfl) ?_
      obtain ⟨r10, hr10, hf⟩ := ab_bind_s hf
      refine ab_Ex.call (d := d + 7) (M2 := 184) (as := [.ref 64, .int 2]) (rest := []) (fun n => rfl) rfl (Nat.not_lt.mpr (Nat.le_of_ble_eq_true rfl)) (sX12_fails (d + 7) X 2 h _ hr10) (fun r hr => ?_)
      subst hr
      show ab_Ex X (d + 8) 192 130 [] [] ab_SH (ab_dD r10) _
      obtain rfl := Option.some.inj hf
      exact ab_Ex.ret (fun n => rfl) rfl
    · replace hf := (if_neg c9).symm.trans hf
      refine ab_Ex.blk (k := 2) (pc' := 119) (lv' := [(0, .ref 64), (1, .int y1)]) (st' := [.int y1, .ref 64]) (sh' := ab_SH) (D' := ab_dD h) (fun n => rfl) ?_
      obtain ⟨r11, hr11, hf⟩ := ab_bind_s hf
      refine ab_Ex.call (d := d + 7) (M2 := 193) (as := [.ref 64, .int y1]) (rest := []) (fun n => rfl) rfl (Nat.not_lt.mpr (Nat.le_of_ble_eq_true rfl)) (IH 6 y1 h _ hr11) (fun r hr => ?_)
      subst hr
      show ab_Ex X (d + 8) 192 122 [(0, .ref 64), (1, .int y1)] [] ab_SH (ab_dD r11) _
      refine ab_Ex.blk (k := 1) (pc' := 130) (lv' := []) (st' := []) (sh' := ab_SH) (D' := ab_dD r11) (fun n => rfl) ?_
      obtain rfl := Option.some.inj hf
      exact ab_Ex.ret (fun n => rfl) rfl
  · replace hf := (if_neg c7).symm.trans hf
    refine ab_Ex.blk (k := 2) (pc' := 77) (lv' := [(0, .ref 64), (1, .int y1)]) (st' := [.int y1, .ref 64]) (sh' := ab_SH) (D' := ab_dD h) (fun n => rfl) ?_
    obtain ⟨r12, hr12, hf⟩ := ab_bind_s hf
    refine ab_Ex.call (d := d + 7) (M2 := 191) (as := [.ref 64, .int y1]) (rest := []) (fun n => rfl) rfl (Nat.not_lt.mpr (Nat.le_of_ble_eq_true rfl)) (sX12_goesIn (d + 1) X y1 h _ hr12) (fun r hr => ?_)
    subst hr
    show ab_Ex X (d + 8) 192 80 [(0, .ref 64), (1, .int y1)] [.int r12.1] ab_SH (ab_dD r12.2) _
    refine ab_Ex.ifc (c := r12.1 = 0) (SA := (83, [(0, .ref 64), (1, .int y1)], [], ab_dD r12.2)) (SB := (84, [(0, .ref 64), (1, .int y1)], [], ab_dD r12.2)) (fun n => rfl) (fun c13 => ?_) (fun c13 => ?_)
    · replace hf := (if_pos c13).symm.trans hf
      obtain rfl := Option.some.inj hf
      exact ab_Ex.ret (fun n => rfl) rfl
    · replace hf := (if_neg c13).symm.trans hf
      refine ab_Ex.blk (k := 4) (pc' := 88) (lv' := [(0, .ref 64), (1, .int y1)]) (st' := [.int ((y1 + 1)), .ref 64]) (sh' := ab_SH) (D' := ab_dD r12.2) (fun n => rfl) ?_
      obtain ⟨r14, hr14, hf⟩ := ab_bind_s hf
      refine ab_Ex.call (d := d + 7) (M2 := 195) (as := [.ref 64, .int ((y1 + 1))]) (rest := []) (fun n => rfl) rfl (Nat.not_lt.mpr (Nat.le_of_ble_eq_true rfl)) (IH 0 ((y1 + 1)) r12.2 _ hr14) (fun r hr => ?_)
      subst hr
      show ab_Ex X (d + 8) 192 91 [(0, .ref 64), (1, .int y1)] [] ab_SH (ab_dD r14) _
      refine ab_Ex.blk (k := 2) (pc' := 94) (lv' := [(0, .ref 64), (1, .int y1)]) (st' := [.int 36, .ref 64]) (sh' := ab_SH) (D' := ab_dD r14) (fun n => rfl) ?_
      obtain ⟨r15, hr15, hf⟩ := ab_bind_s hf
      refine ab_Ex.call (d := d + 7) (M2 := 186) (as := [.ref 64, .int 36]) (rest := []) (fun n => rfl) rfl (Nat.not_lt.mpr (Nat.le_of_ble_eq_true rfl)) (sX12_eats (d + 1) X 36 r14 _ hr15) (fun r hr => ?_)
      subst hr
      show ab_Ex X (d + 8) 192 97 [(0, .ref 64), (1, .int y1)] [.int r15.1] ab_SH (ab_dD r15.2) _
      refine ab_Ex.ifc (c := r15.1 = 0) (SA := (100, [(0, .ref 64), (1, .int y1)], [], ab_dD r15.2)) (SB := (130, [(0, .ref 64), (1, .int y1)], [], ab_dD r15.2)) (fun n => rfl) (fun c16 => ?_) (fun c16 => ?_)
      · replace hf := (if_pos c16).symm.trans hf
        refine ab_Ex.blk (k := 2) (pc' := 102) (lv' := [(0, .ref 64), (1, .int y1)]) (st' := [.int 2, .ref 64]) (sh' := ab_SH) (D' := ab_dD r15.2) (fun n => rfl) ?_
        obtain ⟨r17, hr17, hf⟩ := ab_bind_s hf
        refine ab_Ex.call (d := d + 7) (M2 := 184) (as := [.ref 64, .int 2]) (rest := []) (fun n => rfl) rfl (Nat.not_lt.mpr (Nat.le_of_ble_eq_true rfl)) (sX12_fails (d + 7) X 2 r15.2 _ hr17) (fun r hr => ?_)
        subst hr
        show ab_Ex X (d + 8) 192 105 [(0, .ref 64), (1, .int y1)] [] ab_SH (ab_dD r17) _
        refine ab_Ex.blk (k := 1) (pc' := 130) (lv' := []) (st' := []) (sh' := ab_SH) (D' := ab_dD r17) (fun n => rfl) ?_
        obtain rfl := Option.some.inj hf
        exact ab_Ex.ret (fun n => rfl) rfl
      · replace hf := (if_neg c16).symm.trans hf
        obtain rfl := Option.some.inj hf
        exact ab_Ex.ret (fun n => rfl) rfl
set_option maxRecDepth 20000 in
theorem sX12_readAtom_b (d : Nat) (X : abX) (R : Nat → Int32 → abJ → Option abJ) (IH : ∀ (sel : Nat) (a0 : Int32) (h : abJ) (z : abJ), R sel a0 h = some z → ab_Ex X (d + 7) (([195, 194, 192, 198, 197, 196, 193] : List Nat).getD sel 0) 0 [(0, .ref 64), (1, .int a0)] [] ab_SH (ab_dD h) (fun r => r = (none, ab_SH, ab_dD z))) (x0 : Int32) (h : abJ) (z : abJ) (hf : bX12_readAtom R x0 h = some z) : ab_Ex X (d + 8) 192 0 [(0, .ref 64), (1, .int x0)] [] ab_SH (ab_dD h) (fun r => r = (none, ab_SH, ab_dD z)) := by
  unfold bX12_readAtom at hf
  refine ab_Ex.blk (k := 2) (pc' := 3) (lv' := [(0, .ref 64), (1, .int x0)]) (st' := [.int 23, .ref 64]) (sh' := ab_SH) (D' := ab_dD h) (fun n => rfl) ?_
  obtain ⟨r1, hr1, hf⟩ := ab_bind_s hf
  refine ab_Ex.call (d := d + 7) (M2 := 185) (as := [.ref 64, .int 23]) (rest := []) (fun n => rfl) rfl (Nat.not_lt.mpr (Nat.le_of_ble_eq_true rfl)) (sX12_is (d + 7) X 23 h _ hr1) (fun r hr => ?_)
  subst hr
  show ab_Ex X (d + 8) 192 6 [(0, .ref 64), (1, .int x0)] [.int r1] ab_SH (ab_dD h) _
  refine ab_Ex.ifc (c := r1 = 0) (SA := (24, [(0, .ref 64), (1, .int x0)], [], ab_dD h)) (SB := (9, [(0, .ref 64), (1, .int x0)], [], ab_dD h)) (fun n => rfl) (fun c2 => ?_) (fun c2 => ?_)
  · replace hf := (if_pos c2).symm.trans hf
    refine ab_Ex.blk (k := 2) (pc' := 28) (lv' := [(0, .ref 64), (1, .int x0)]) (st' := [.int ((h.1 64 11))]) (sh' := ab_SH) (D' := ab_dD h) (fun n => rfl) ?_
    refine ab_Ex.ifc (c := (h.1 64 11) = 0) (SA := (31, [(0, .ref 64), (1, .int x0)], [], ab_dD h)) (SB := (66, [(0, .ref 64), (1, .int x0)], [], ab_dD h)) (fun n => rfl) (fun c3 => ?_) (fun c3 => ?_)
    · replace hf := (if_pos c3).symm.trans hf
      refine ab_Ex.blk (k := 3) (pc' := 36) (lv' := [(0, .ref 64), (1, .int x0)]) (st' := [.int ((h.1 64 9)), .ref 64]) (sh' := ab_SH) (D' := ab_dD h) (fun n => rfl) ?_
      obtain ⟨r4, hr4, hf⟩ := ab_bind_s hf
      refine ab_Ex.call (d := d + 7) (M2 := 189) (as := [.ref 64, .int ((h.1 64 9))]) (rest := []) (fun n => rfl) rfl (Nat.not_lt.mpr (Nat.le_of_ble_eq_true rfl)) (sX12_wordOf (d + 7) X ((h.1 64 9)) h _ hr4) (fun r hr => ?_)
      subst hr
      show ab_Ex X (d + 8) 192 39 [(0, .ref 64), (1, .int x0)] [.int r4] ab_SH (ab_dD h) _
      refine ab_Ex.blk (k := 1) (pc' := 40) (lv' := [(0, .ref 64), (1, .int x0)]) (st' := [.int ((-1)), .int r4]) (sh' := ab_SH) (D' := ab_dD h) (fun n => rfl) ?_
      refine ab_Ex.ifc (c := r4 = (-1)) (SA := (66, [(0, .ref 64), (1, .int x0)], [], ab_dD h)) (SB := (43, [(0, .ref 64), (1, .int x0)], [], ab_dD h)) (fun n => rfl) (fun c5 => ?_) (fun c5 => ?_)
      · replace hf := (if_pos c5).symm.trans hf
        exact sX12_readAtom_J66 d X R IH  x0 h _ hf
      · replace hf := (if_neg c5).symm.trans hf
        refine ab_Ex.blk (k := 5) (pc' := 52) (lv' := [(0, .ref 64), (1, .int x0)]) (st' := [.int ((h.1 64 9)), .ref 64, .int 1000, .ref 64]) (sh' := ab_SH) (D' := ab_dD h) (fun n => rfl) ?_
        obtain ⟨r18, hr18, hf⟩ := ab_bind_s hf
        refine ab_Ex.call (d := d + 7) (M2 := 189) (as := [.ref 64, .int ((h.1 64 9))]) (rest := [.int 1000, .ref 64]) (fun n => rfl) rfl (Nat.not_lt.mpr (Nat.le_of_ble_eq_true rfl)) (sX12_wordOf (d + 7) X ((h.1 64 9)) h _ hr18) (fun r hr => ?_)
        subst hr
        show ab_Ex X (d + 8) 192 55 [(0, .ref 64), (1, .int x0)] [.int r18, .int 1000, .ref 64] ab_SH (ab_dD h) _
        refine ab_Ex.blk (k := 1) (pc' := 56) (lv' := [(0, .ref 64), (1, .int x0)]) (st' := [.int ((1000 + r18)), .ref 64]) (sh' := ab_SH) (D' := ab_dD h) (fun n => rfl) ?_
        obtain ⟨r19, hr19, hf⟩ := ab_bind_s hf
        refine ab_Ex.call (d := d + 7) (M2 := 190) (as := [.ref 64, .int ((1000 + r18))]) (rest := []) (fun n => rfl) rfl (Nat.not_lt.mpr (Nat.le_of_ble_eq_true rfl)) (sX12_codes (d + 7) X ((1000 + r18)) h _ hr19) (fun r hr => ?_)
        subst hr
        show ab_Ex X (d + 8) 192 59 [(0, .ref 64), (1, .int x0)] [] ab_SH (ab_dD r19) _
        refine ab_Ex.blk (k := 1) (pc' := 60) (lv' := [(0, .ref 64), (1, .int x0)]) (st' := [.ref 64]) (sh' := ab_SH) (D' := ab_dD r19) (fun n => rfl) ?_
        obtain ⟨r20, hr20, hf⟩ := ab_bind_s hf
        refine ab_Ex.call (d := d + 7) (M2 := 183) (as := [.ref 64]) (rest := []) (fun n => rfl) rfl (Nat.not_lt.mpr (Nat.le_of_ble_eq_true rfl)) (sX12_next (d + 2) X  r19 _ hr20) (fun r hr => ?_)
        subst hr
        show ab_Ex X (d + 8) 192 63 [(0, .ref 64), (1, .int x0)] [] ab_SH (ab_dD r20) _
        refine ab_Ex.blk (k := 1) (pc' := 130) (lv' := []) (st' := []) (sh' := ab_SH) (D' := ab_dD r20) (fun n => rfl) ?_
        obtain rfl := Option.some.inj hf
        exact ab_Ex.ret (fun n => rfl) rfl
    · replace hf := (if_neg c3).symm.trans hf
      exact sX12_readAtom_J66 d X R IH  x0 h _ hf
  · replace hf := (if_neg c2).symm.trans hf
    refine ab_Ex.blk (k := 3) (pc' := 14) (lv' := [(0, .ref 64), (1, .int x0)]) (st' := [.int ((h.1 64 10)), .ref 64]) (sh' := ab_SH) (D' := ab_dD h) (fun n => rfl) ?_
    obtain ⟨r21, hr21, hf⟩ := ab_bind_s hf
    refine ab_Ex.call (d := d + 7) (M2 := 190) (as := [.ref 64, .int ((h.1 64 10))]) (rest := []) (fun n => rfl) rfl (Nat.not_lt.mpr (Nat.le_of_ble_eq_true rfl)) (sX12_codes (d + 7) X ((h.1 64 10)) h _ hr21) (fun r hr => ?_)
    subst hr
    show ab_Ex X (d + 8) 192 17 [(0, .ref 64), (1, .int x0)] [] ab_SH (ab_dD r21) _
    refine ab_Ex.blk (k := 1) (pc' := 18) (lv' := [(0, .ref 64), (1, .int x0)]) (st' := [.ref 64]) (sh' := ab_SH) (D' := ab_dD r21) (fun n => rfl) ?_
    obtain ⟨r22, hr22, hf⟩ := ab_bind_s hf
    refine ab_Ex.call (d := d + 7) (M2 := 183) (as := [.ref 64]) (rest := []) (fun n => rfl) rfl (Nat.not_lt.mpr (Nat.le_of_ble_eq_true rfl)) (sX12_next (d + 2) X  r21 _ hr22) (fun r hr => ?_)
    subst hr
    show ab_Ex X (d + 8) 192 21 [(0, .ref 64), (1, .int x0)] [] ab_SH (ab_dD r22) _
    refine ab_Ex.blk (k := 1) (pc' := 130) (lv' := []) (st' := []) (sh' := ab_SH) (D' := ab_dD r22) (fun n => rfl) ?_
    obtain rfl := Option.some.inj hf
    exact ab_Ex.ret (fun n => rfl) rfl
def fX12_readTruth_L5 (R : Nat → Int32 → abJ → Option abJ)  : Nat → Int32 → abJ → Option abJ
  | 0, _, _ => none
  | n + 1, y1, h => (fX12_eats 16 h).bind (fun r2 => if r2.1 = 0 then some r2.2 else (R 4 y1 r2.2).bind (fun r4 => (fX12_codes 3008 r4).bind (fun r5 => fX12_readTruth_L5 R n y1 r5)))
def bX12_readTruth (R : Nat → Int32 → abJ → Option abJ) (x0 : Int32) (h : abJ) : Option abJ := (R 4 x0 h).bind (fun r1 => fX12_readTruth_L5 R ab_N x0 r1)
set_option maxRecDepth 20000 in
theorem sX12_readTruth_L5 (d : Nat) (X : abX) (R : Nat → Int32 → abJ → Option abJ) (IH : ∀ (sel : Nat) (a0 : Int32) (h : abJ) (z : abJ), R sel a0 h = some z → ab_Ex X (d + 7) (([195, 194, 192, 198, 197, 196, 193] : List Nat).getD sel 0) 0 [(0, .ref 64), (1, .int a0)] [] ab_SH (ab_dD h) (fun r => r = (none, ab_SH, ab_dD z)))   : ∀ (n : Nat), ∀ (y1 : Int32) (h : abJ) (z : abJ), fX12_readTruth_L5 R n y1 h = some z → ab_Ex X (d + 8) 198 5 [(0, .ref 64), (1, .int y1)] [] ab_SH (ab_dD h) (fun r => r = (none, ab_SH, ab_dD z)) := by
  intro n
  induction n with
  | zero => intro y1 h z hf; cases hf
  | succ n ih =>
    intro y1 h z hf
    rw [fX12_readTruth_L5] at hf
    refine ab_Ex.blk (k := 2) (pc' := 8) (lv' := [(0, .ref 64), (1, .int y1)]) (st' := [.int 16, .ref 64]) (sh' := ab_SH) (D' := ab_dD h) (fun n => rfl) ?_
    obtain ⟨r2, hr2, hf⟩ := ab_bind_s hf
    refine ab_Ex.call (d := d + 7) (M2 := 186) (as := [.ref 64, .int 16]) (rest := []) (fun n => rfl) rfl (Nat.not_lt.mpr (Nat.le_of_ble_eq_true rfl)) (sX12_eats (d + 1) X 16 h _ hr2) (fun r hr => ?_)
    subst hr
    show ab_Ex X (d + 8) 198 11 [(0, .ref 64), (1, .int y1)] [.int r2.1] ab_SH (ab_dD r2.2) _
    refine ab_Ex.ifc (c := r2.1 = 0) (SA := (29, [(0, .ref 64), (1, .int y1)], [], ab_dD r2.2)) (SB := (14, [(0, .ref 64), (1, .int y1)], [], ab_dD r2.2)) (fun n => rfl) (fun c3 => ?_) (fun c3 => ?_)
    · replace hf := (if_pos c3).symm.trans hf
      obtain rfl := Option.some.inj hf
      exact ab_Ex.ret (fun n => rfl) rfl
    · replace hf := (if_neg c3).symm.trans hf
      refine ab_Ex.blk (k := 2) (pc' := 16) (lv' := [(0, .ref 64), (1, .int y1)]) (st' := [.int y1, .ref 64]) (sh' := ab_SH) (D' := ab_dD r2.2) (fun n => rfl) ?_
      obtain ⟨r4, hr4, hf⟩ := ab_bind_s hf
      refine ab_Ex.call (d := d + 7) (M2 := 197) (as := [.ref 64, .int y1]) (rest := []) (fun n => rfl) rfl (Nat.not_lt.mpr (Nat.le_of_ble_eq_true rfl)) (IH 4 y1 r2.2 _ hr4) (fun r hr => ?_)
      subst hr
      show ab_Ex X (d + 8) 198 19 [(0, .ref 64), (1, .int y1)] [] ab_SH (ab_dD r4) _
      refine ab_Ex.blk (k := 2) (pc' := 23) (lv' := [(0, .ref 64), (1, .int y1)]) (st' := [.int 3008, .ref 64]) (sh' := ab_SH) (D' := ab_dD r4) (fun n => rfl) ?_
      obtain ⟨r5, hr5, hf⟩ := ab_bind_s hf
      refine ab_Ex.call (d := d + 7) (M2 := 190) (as := [.ref 64, .int 3008]) (rest := []) (fun n => rfl) rfl (Nat.not_lt.mpr (Nat.le_of_ble_eq_true rfl)) (sX12_codes (d + 7) X 3008 r4 _ hr5) (fun r hr => ?_)
      subst hr
      show ab_Ex X (d + 8) 198 26 [(0, .ref 64), (1, .int y1)] [] ab_SH (ab_dD r5) _
      refine ab_Ex.blk (k := 1) (pc' := 5) (lv' := [(0, .ref 64), (1, .int y1)]) (st' := []) (sh' := ab_SH) (D' := ab_dD r5) (fun n => rfl) ?_
      exact ih y1 r5 _ hf
set_option maxRecDepth 20000 in
theorem sX12_readTruth_b (d : Nat) (X : abX) (R : Nat → Int32 → abJ → Option abJ) (IH : ∀ (sel : Nat) (a0 : Int32) (h : abJ) (z : abJ), R sel a0 h = some z → ab_Ex X (d + 7) (([195, 194, 192, 198, 197, 196, 193] : List Nat).getD sel 0) 0 [(0, .ref 64), (1, .int a0)] [] ab_SH (ab_dD h) (fun r => r = (none, ab_SH, ab_dD z))) (x0 : Int32) (h : abJ) (z : abJ) (hf : bX12_readTruth R x0 h = some z) : ab_Ex X (d + 8) 198 0 [(0, .ref 64), (1, .int x0)] [] ab_SH (ab_dD h) (fun r => r = (none, ab_SH, ab_dD z)) := by
  unfold bX12_readTruth at hf
  refine ab_Ex.blk (k := 2) (pc' := 2) (lv' := [(0, .ref 64), (1, .int x0)]) (st' := [.int x0, .ref 64]) (sh' := ab_SH) (D' := ab_dD h) (fun n => rfl) ?_
  obtain ⟨r1, hr1, hf⟩ := ab_bind_s hf
  refine ab_Ex.call (d := d + 7) (M2 := 197) (as := [.ref 64, .int x0]) (rest := []) (fun n => rfl) rfl (Nat.not_lt.mpr (Nat.le_of_ble_eq_true rfl)) (IH 4 x0 h _ hr1) (fun r hr => ?_)
  subst hr
  show ab_Ex X (d + 8) 198 5 [(0, .ref 64), (1, .int x0)] [] ab_SH (ab_dD r1) _
  exact sX12_readTruth_L5 d X R IH  ab_N x0 r1 _ hf
def fX12_readBoth_L5 (R : Nat → Int32 → abJ → Option abJ)  : Nat → Int32 → abJ → Option abJ
  | 0, _, _ => none
  | n + 1, y1, h => (fX12_eats 15 h).bind (fun r2 => if r2.1 = 0 then some r2.2 else (R 5 y1 r2.2).bind (fun r4 => (fX12_codes 3007 r4).bind (fun r5 => fX12_readBoth_L5 R n y1 r5)))
def bX12_readBoth (R : Nat → Int32 → abJ → Option abJ) (x0 : Int32) (h : abJ) : Option abJ := (R 5 x0 h).bind (fun r1 => fX12_readBoth_L5 R ab_N x0 r1)
set_option maxRecDepth 20000 in
theorem sX12_readBoth_L5 (d : Nat) (X : abX) (R : Nat → Int32 → abJ → Option abJ) (IH : ∀ (sel : Nat) (a0 : Int32) (h : abJ) (z : abJ), R sel a0 h = some z → ab_Ex X (d + 7) (([195, 194, 192, 198, 197, 196, 193] : List Nat).getD sel 0) 0 [(0, .ref 64), (1, .int a0)] [] ab_SH (ab_dD h) (fun r => r = (none, ab_SH, ab_dD z)))   : ∀ (n : Nat), ∀ (y1 : Int32) (h : abJ) (z : abJ), fX12_readBoth_L5 R n y1 h = some z → ab_Ex X (d + 8) 197 5 [(0, .ref 64), (1, .int y1)] [] ab_SH (ab_dD h) (fun r => r = (none, ab_SH, ab_dD z)) := by
  intro n
  induction n with
  | zero => intro y1 h z hf; cases hf
  | succ n ih =>
    intro y1 h z hf
    rw [fX12_readBoth_L5] at hf
    refine ab_Ex.blk (k := 2) (pc' := 8) (lv' := [(0, .ref 64), (1, .int y1)]) (st' := [.int 15, .ref 64]) (sh' := ab_SH) (D' := ab_dD h) (fun n => rfl) ?_
    obtain ⟨r2, hr2, hf⟩ := ab_bind_s hf
    refine ab_Ex.call (d := d + 7) (M2 := 186) (as := [.ref 64, .int 15]) (rest := []) (fun n => rfl) rfl (Nat.not_lt.mpr (Nat.le_of_ble_eq_true rfl)) (sX12_eats (d + 1) X 15 h _ hr2) (fun r hr => ?_)
    subst hr
    show ab_Ex X (d + 8) 197 11 [(0, .ref 64), (1, .int y1)] [.int r2.1] ab_SH (ab_dD r2.2) _
    refine ab_Ex.ifc (c := r2.1 = 0) (SA := (29, [(0, .ref 64), (1, .int y1)], [], ab_dD r2.2)) (SB := (14, [(0, .ref 64), (1, .int y1)], [], ab_dD r2.2)) (fun n => rfl) (fun c3 => ?_) (fun c3 => ?_)
    · replace hf := (if_pos c3).symm.trans hf
      obtain rfl := Option.some.inj hf
      exact ab_Ex.ret (fun n => rfl) rfl
    · replace hf := (if_neg c3).symm.trans hf
      refine ab_Ex.blk (k := 2) (pc' := 16) (lv' := [(0, .ref 64), (1, .int y1)]) (st' := [.int y1, .ref 64]) (sh' := ab_SH) (D' := ab_dD r2.2) (fun n => rfl) ?_
      obtain ⟨r4, hr4, hf⟩ := ab_bind_s hf
      refine ab_Ex.call (d := d + 7) (M2 := 196) (as := [.ref 64, .int y1]) (rest := []) (fun n => rfl) rfl (Nat.not_lt.mpr (Nat.le_of_ble_eq_true rfl)) (IH 5 y1 r2.2 _ hr4) (fun r hr => ?_)
      subst hr
      show ab_Ex X (d + 8) 197 19 [(0, .ref 64), (1, .int y1)] [] ab_SH (ab_dD r4) _
      refine ab_Ex.blk (k := 2) (pc' := 23) (lv' := [(0, .ref 64), (1, .int y1)]) (st' := [.int 3007, .ref 64]) (sh' := ab_SH) (D' := ab_dD r4) (fun n => rfl) ?_
      obtain ⟨r5, hr5, hf⟩ := ab_bind_s hf
      refine ab_Ex.call (d := d + 7) (M2 := 190) (as := [.ref 64, .int 3007]) (rest := []) (fun n => rfl) rfl (Nat.not_lt.mpr (Nat.le_of_ble_eq_true rfl)) (sX12_codes (d + 7) X 3007 r4 _ hr5) (fun r hr => ?_)
      subst hr
      show ab_Ex X (d + 8) 197 26 [(0, .ref 64), (1, .int y1)] [] ab_SH (ab_dD r5) _
      refine ab_Ex.blk (k := 1) (pc' := 5) (lv' := [(0, .ref 64), (1, .int y1)]) (st' := []) (sh' := ab_SH) (D' := ab_dD r5) (fun n => rfl) ?_
      exact ih y1 r5 _ hf
set_option maxRecDepth 20000 in
theorem sX12_readBoth_b (d : Nat) (X : abX) (R : Nat → Int32 → abJ → Option abJ) (IH : ∀ (sel : Nat) (a0 : Int32) (h : abJ) (z : abJ), R sel a0 h = some z → ab_Ex X (d + 7) (([195, 194, 192, 198, 197, 196, 193] : List Nat).getD sel 0) 0 [(0, .ref 64), (1, .int a0)] [] ab_SH (ab_dD h) (fun r => r = (none, ab_SH, ab_dD z))) (x0 : Int32) (h : abJ) (z : abJ) (hf : bX12_readBoth R x0 h = some z) : ab_Ex X (d + 8) 197 0 [(0, .ref 64), (1, .int x0)] [] ab_SH (ab_dD h) (fun r => r = (none, ab_SH, ab_dD z)) := by
  unfold bX12_readBoth at hf
  refine ab_Ex.blk (k := 2) (pc' := 2) (lv' := [(0, .ref 64), (1, .int x0)]) (st' := [.int x0, .ref 64]) (sh' := ab_SH) (D' := ab_dD h) (fun n => rfl) ?_
  obtain ⟨r1, hr1, hf⟩ := ab_bind_s hf
  refine ab_Ex.call (d := d + 7) (M2 := 196) (as := [.ref 64, .int x0]) (rest := []) (fun n => rfl) rfl (Nat.not_lt.mpr (Nat.le_of_ble_eq_true rfl)) (IH 5 x0 h _ hr1) (fun r hr => ?_)
  subst hr
  show ab_Ex X (d + 8) 197 5 [(0, .ref 64), (1, .int x0)] [] ab_SH (ab_dD r1) _
  exact sX12_readBoth_L5 d X R IH  ab_N x0 r1 _ hf
def fX12_readUnit_J111 (R : Nat → Int32 → abJ → Option abJ)  (y1 : Int32) (t0 : Int32) (h : abJ) : Option abJ := (fX12_is 39 h).bind (fun r10 => if r10 = 0 then (fX12_is 40 h).bind (fun r12 => if r12 = 0 then (fX12_is 41 h).bind (fun r14 => if r14 = 0 then (fX12_fails 2 h).bind (fun r16 => (R 0 y1 r16).bind (fun r17 => (fX12_codes t0 r17).bind (fun r18 => some r18))) else (fX12_next h).bind (fun r19 => (R 0 y1 r19).bind (fun r20 => (fX12_codes t0 r20).bind (fun r21 => some r21)))) else (fX12_next h).bind (fun r22 => (R 0 y1 r22).bind (fun r23 => (fX12_codes t0 r23).bind (fun r24 => some r24)))) else (fX12_next h).bind (fun r25 => (R 0 y1 r25).bind (fun r26 => (fX12_codes t0 r26).bind (fun r27 => some r27))))
def bX12_readUnit (R : Nat → Int32 → abJ → Option abJ) (x0 : Int32) (h : abJ) : Option abJ := (fX12_is 17 h).bind (fun r1 => if r1 = 0 then (fX12_is 37 h).bind (fun r3 => if r3 = 0 then (R 0 x0 h).bind (fun r5 => (fX12_is 39 r5).bind (fun r6 => if r6 = 0 then (fX12_is 40 r5).bind (fun r8 => if r8 = 0 then fX12_readUnit_J111 R x0 3005 r5 else fX12_readUnit_J111 R x0 3004 r5) else fX12_readUnit_J111 R x0 3003 r5)) else (fX12_goesIn x0 h).bind (fun r28 => if r28.1 = 0 then some r28.2 else (R 3 ((x0 + 1)) r28.2).bind (fun r30 => (fX12_eats 38 r30).bind (fun r31 => if r31.1 = 0 then (fX12_fails 2 r31.2).bind (fun r33 => some r33) else some r31.2)))) else (fX12_goesIn x0 h).bind (fun r34 => if r34.1 = 0 then some r34.2 else (R 5 ((x0 + 1)) r34.2).bind (fun r36 => (fX12_codes 3006 r36).bind (fun r37 => some r37))))
set_option maxRecDepth 20000 in
theorem sX12_readUnit_J111 (d : Nat) (X : abX) (R : Nat → Int32 → abJ → Option abJ) (IH : ∀ (sel : Nat) (a0 : Int32) (h : abJ) (z : abJ), R sel a0 h = some z → ab_Ex X (d + 7) (([195, 194, 192, 198, 197, 196, 193] : List Nat).getD sel 0) 0 [(0, .ref 64), (1, .int a0)] [] ab_SH (ab_dD h) (fun r => r = (none, ab_SH, ab_dD z)))   : ∀ (y1 : Int32) (t0 : Int32) (h : abJ) (z : abJ), fX12_readUnit_J111 R y1 t0 h = some z → ab_Ex X (d + 8) 196 111 [(0, .ref 64), (1, .int y1)] [.int t0] ab_SH (ab_dD h) (fun r => r = (none, ab_SH, ab_dD z)) := by
  intro y1 t0 h z hf
  unfold fX12_readUnit_J111 at hf
  refine ab_Ex.blk (k := 3) (pc' := 115) (lv' := [(2, .int t0), (0, .ref 64), (1, .int y1)]) (st' := [.int 39, .ref 64]) (sh' := ab_SH) (D' := ab_dD h) (fun n => rfl) ?_
  obtain ⟨r10, hr10, hf⟩ := ab_bind_s hf
  refine ab_Ex.call (d := d + 7) (M2 := 185) (as := [.ref 64, .int 39]) (rest := []) (fun n => rfl) rfl (Nat.not_lt.mpr (Nat.le_of_ble_eq_true rfl)) (sX12_is (d + 7) X 39 h _ hr10) (fun r hr => ?_)
  subst hr
  show ab_Ex X (d + 8) 196 118 [(2, .int t0), (0, .ref 64), (1, .int y1)] [.int r10] ab_SH (ab_dD h) _
  refine ab_Ex.ifc (c := r10 = 0) (SA := (121, [(2, .int t0), (0, .ref 64), (1, .int y1)], [], ab_dD h)) (SB := (139, [(2, .int t0), (0, .ref 64), (1, .int y1)], [], ab_dD h)) (fun n => rfl) (fun c11 => ?_) (fun c11 => ?_)
  · replace hf := (if_pos c11).symm.trans hf
    refine ab_Ex.blk (k := 2) (pc' := 124) (lv' := [(2, .int t0), (0, .ref 64), (1, .int y1)]) (st' := [.int 40, .ref 64]) (sh' := ab_SH) (D' := ab_dD h) (fun n => rfl) ?_
    obtain ⟨r12, hr12, hf⟩ := ab_bind_s hf
    refine ab_Ex.call (d := d + 7) (M2 := 185) (as := [.ref 64, .int 40]) (rest := []) (fun n => rfl) rfl (Nat.not_lt.mpr (Nat.le_of_ble_eq_true rfl)) (sX12_is (d + 7) X 40 h _ hr12) (fun r hr => ?_)
    subst hr
    show ab_Ex X (d + 8) 196 127 [(2, .int t0), (0, .ref 64), (1, .int y1)] [.int r12] ab_SH (ab_dD h) _
    refine ab_Ex.ifc (c := r12 = 0) (SA := (130, [(2, .int t0), (0, .ref 64), (1, .int y1)], [], ab_dD h)) (SB := (139, [(2, .int t0), (0, .ref 64), (1, .int y1)], [], ab_dD h)) (fun n => rfl) (fun c13 => ?_) (fun c13 => ?_)
    · replace hf := (if_pos c13).symm.trans hf
      refine ab_Ex.blk (k := 2) (pc' := 133) (lv' := [(2, .int t0), (0, .ref 64), (1, .int y1)]) (st' := [.int 41, .ref 64]) (sh' := ab_SH) (D' := ab_dD h) (fun n => rfl) ?_
      obtain ⟨r14, hr14, hf⟩ := ab_bind_s hf
      refine ab_Ex.call (d := d + 7) (M2 := 185) (as := [.ref 64, .int 41]) (rest := []) (fun n => rfl) rfl (Nat.not_lt.mpr (Nat.le_of_ble_eq_true rfl)) (sX12_is (d + 7) X 41 h _ hr14) (fun r hr => ?_)
      subst hr
      show ab_Ex X (d + 8) 196 136 [(2, .int t0), (0, .ref 64), (1, .int y1)] [.int r14] ab_SH (ab_dD h) _
      refine ab_Ex.ifc (c := r14 = 0) (SA := (146, [(2, .int t0), (0, .ref 64), (1, .int y1)], [], ab_dD h)) (SB := (139, [(2, .int t0), (0, .ref 64), (1, .int y1)], [], ab_dD h)) (fun n => rfl) (fun c15 => ?_) (fun c15 => ?_)
      · replace hf := (if_pos c15).symm.trans hf
        refine ab_Ex.blk (k := 2) (pc' := 148) (lv' := [(2, .int t0), (0, .ref 64), (1, .int y1)]) (st' := [.int 2, .ref 64]) (sh' := ab_SH) (D' := ab_dD h) (fun n => rfl) ?_
        obtain ⟨r16, hr16, hf⟩ := ab_bind_s hf
        refine ab_Ex.call (d := d + 7) (M2 := 184) (as := [.ref 64, .int 2]) (rest := []) (fun n => rfl) rfl (Nat.not_lt.mpr (Nat.le_of_ble_eq_true rfl)) (sX12_fails (d + 7) X 2 h _ hr16) (fun r hr => ?_)
        subst hr
        show ab_Ex X (d + 8) 196 151 [(0, .ref 64), (1, .int y1), (2, .int t0)] [] ab_SH (ab_dD r16) _
        refine ab_Ex.blk (k := 2) (pc' := 153) (lv' := [(0, .ref 64), (1, .int y1), (2, .int t0)]) (st' := [.int y1, .ref 64]) (sh' := ab_SH) (D' := ab_dD r16) (fun n => rfl) ?_
        obtain ⟨r17, hr17, hf⟩ := ab_bind_s hf
        refine ab_Ex.call (d := d + 7) (M2 := 195) (as := [.ref 64, .int y1]) (rest := []) (fun n => rfl) rfl (Nat.not_lt.mpr (Nat.le_of_ble_eq_true rfl)) (IH 0 y1 r16 _ hr17) (fun r hr => ?_)
        subst hr
        show ab_Ex X (d + 8) 196 156 [(0, .ref 64), (1, .int y1), (2, .int t0)] [] ab_SH (ab_dD r17) _
        refine ab_Ex.blk (k := 2) (pc' := 158) (lv' := [(0, .ref 64), (1, .int y1), (2, .int t0)]) (st' := [.int t0, .ref 64]) (sh' := ab_SH) (D' := ab_dD r17) (fun n => rfl) ?_
        obtain ⟨r18, hr18, hf⟩ := ab_bind_s hf
        refine ab_Ex.call (d := d + 7) (M2 := 190) (as := [.ref 64, .int t0]) (rest := []) (fun n => rfl) rfl (Nat.not_lt.mpr (Nat.le_of_ble_eq_true rfl)) (sX12_codes (d + 7) X t0 r17 _ hr18) (fun r hr => ?_)
        subst hr
        show ab_Ex X (d + 8) 196 161 [(0, .ref 64), (1, .int y1), (2, .int t0)] [] ab_SH (ab_dD r18) _
        obtain rfl := Option.some.inj hf
        exact ab_Ex.ret (fun n => rfl) rfl
      · replace hf := (if_neg c15).symm.trans hf
        refine ab_Ex.blk (k := 1) (pc' := 140) (lv' := [(0, .ref 64), (1, .int y1), (2, .int t0)]) (st' := [.ref 64]) (sh' := ab_SH) (D' := ab_dD h) (fun n => rfl) ?_
        obtain ⟨r19, hr19, hf⟩ := ab_bind_s hf
        refine ab_Ex.call (d := d + 7) (M2 := 183) (as := [.ref 64]) (rest := []) (fun n => rfl) rfl (Nat.not_lt.mpr (Nat.le_of_ble_eq_true rfl)) (sX12_next (d + 2) X  h _ hr19) (fun r hr => ?_)
        subst hr
        show ab_Ex X (d + 8) 196 143 [(0, .ref 64), (1, .int y1), (2, .int t0)] [] ab_SH (ab_dD r19) _
        refine ab_Ex.blk (k := 3) (pc' := 153) (lv' := [(0, .ref 64), (1, .int y1), (2, .int t0)]) (st' := [.int y1, .ref 64]) (sh' := ab_SH) (D' := ab_dD r19) (fun n => rfl) ?_
        obtain ⟨r20, hr20, hf⟩ := ab_bind_s hf
        refine ab_Ex.call (d := d + 7) (M2 := 195) (as := [.ref 64, .int y1]) (rest := []) (fun n => rfl) rfl (Nat.not_lt.mpr (Nat.le_of_ble_eq_true rfl)) (IH 0 y1 r19 _ hr20) (fun r hr => ?_)
        subst hr
        show ab_Ex X (d + 8) 196 156 [(0, .ref 64), (1, .int y1), (2, .int t0)] [] ab_SH (ab_dD r20) _
        refine ab_Ex.blk (k := 2) (pc' := 158) (lv' := [(0, .ref 64), (1, .int y1), (2, .int t0)]) (st' := [.int t0, .ref 64]) (sh' := ab_SH) (D' := ab_dD r20) (fun n => rfl) ?_
        obtain ⟨r21, hr21, hf⟩ := ab_bind_s hf
        refine ab_Ex.call (d := d + 7) (M2 := 190) (as := [.ref 64, .int t0]) (rest := []) (fun n => rfl) rfl (Nat.not_lt.mpr (Nat.le_of_ble_eq_true rfl)) (sX12_codes (d + 7) X t0 r20 _ hr21) (fun r hr => ?_)
        subst hr
        show ab_Ex X (d + 8) 196 161 [(0, .ref 64), (1, .int y1), (2, .int t0)] [] ab_SH (ab_dD r21) _
        obtain rfl := Option.some.inj hf
        exact ab_Ex.ret (fun n => rfl) rfl
    · replace hf := (if_neg c13).symm.trans hf
      refine ab_Ex.blk (k := 1) (pc' := 140) (lv' := [(0, .ref 64), (1, .int y1), (2, .int t0)]) (st' := [.ref 64]) (sh' := ab_SH) (D' := ab_dD h) (fun n => rfl) ?_
      obtain ⟨r22, hr22, hf⟩ := ab_bind_s hf
      refine ab_Ex.call (d := d + 7) (M2 := 183) (as := [.ref 64]) (rest := []) (fun n => rfl) rfl (Nat.not_lt.mpr (Nat.le_of_ble_eq_true rfl)) (sX12_next (d + 2) X  h _ hr22) (fun r hr => ?_)
      subst hr
      show ab_Ex X (d + 8) 196 143 [(0, .ref 64), (1, .int y1), (2, .int t0)] [] ab_SH (ab_dD r22) _
      refine ab_Ex.blk (k := 3) (pc' := 153) (lv' := [(0, .ref 64), (1, .int y1), (2, .int t0)]) (st' := [.int y1, .ref 64]) (sh' := ab_SH) (D' := ab_dD r22) (fun n => rfl) ?_
      obtain ⟨r23, hr23, hf⟩ := ab_bind_s hf
      refine ab_Ex.call (d := d + 7) (M2 := 195) (as := [.ref 64, .int y1]) (rest := []) (fun n => rfl) rfl (Nat.not_lt.mpr (Nat.le_of_ble_eq_true rfl)) (IH 0 y1 r22 _ hr23) (fun r hr => ?_)
      subst hr
      show ab_Ex X (d + 8) 196 156 [(0, .ref 64), (1, .int y1), (2, .int t0)] [] ab_SH (ab_dD r23) _
      refine ab_Ex.blk (k := 2) (pc' := 158) (lv' := [(0, .ref 64), (1, .int y1), (2, .int t0)]) (st' := [.int t0, .ref 64]) (sh' := ab_SH) (D' := ab_dD r23) (fun n => rfl) ?_
      obtain ⟨r24, hr24, hf⟩ := ab_bind_s hf
      refine ab_Ex.call (d := d + 7) (M2 := 190) (as := [.ref 64, .int t0]) (rest := []) (fun n => rfl) rfl (Nat.not_lt.mpr (Nat.le_of_ble_eq_true rfl)) (sX12_codes (d + 7) X t0 r23 _ hr24) (fun r hr => ?_)
      subst hr
      show ab_Ex X (d + 8) 196 161 [(0, .ref 64), (1, .int y1), (2, .int t0)] [] ab_SH (ab_dD r24) _
      obtain rfl := Option.some.inj hf
      exact ab_Ex.ret (fun n => rfl) rfl
  · replace hf := (if_neg c11).symm.trans hf
    refine ab_Ex.blk (k := 1) (pc' := 140) (lv' := [(0, .ref 64), (1, .int y1), (2, .int t0)]) (st' := [.ref 64]) (sh' := ab_SH) (D' := ab_dD h) (fun n => rfl) ?_
    obtain ⟨r25, hr25, hf⟩ := ab_bind_s hf
    refine ab_Ex.call (d := d + 7) (M2 := 183) (as := [.ref 64]) (rest := []) (fun n => rfl) rfl (Nat.not_lt.mpr (Nat.le_of_ble_eq_true rfl)) (sX12_next (d + 2) X  h _ hr25) (fun r hr => ?_)
    subst hr
    show ab_Ex X (d + 8) 196 143 [(0, .ref 64), (1, .int y1), (2, .int t0)] [] ab_SH (ab_dD r25) _
    refine ab_Ex.blk (k := 3) (pc' := 153) (lv' := [(0, .ref 64), (1, .int y1), (2, .int t0)]) (st' := [.int y1, .ref 64]) (sh' := ab_SH) (D' := ab_dD r25) (fun n => rfl) ?_
    obtain ⟨r26, hr26, hf⟩ := ab_bind_s hf
    refine ab_Ex.call (d := d + 7) (M2 := 195) (as := [.ref 64, .int y1]) (rest := []) (fun n => rfl) rfl (Nat.not_lt.mpr (Nat.le_of_ble_eq_true rfl)) (IH 0 y1 r25 _ hr26) (fun r hr => ?_)
    subst hr
    show ab_Ex X (d + 8) 196 156 [(0, .ref 64), (1, .int y1), (2, .int t0)] [] ab_SH (ab_dD r26) _
    refine ab_Ex.blk (k := 2) (pc' := 158) (lv' := [(0, .ref 64), (1, .int y1), (2, .int t0)]) (st' := [.int t0, .ref 64]) (sh' := ab_SH) (D' := ab_dD r26) (fun n => rfl) ?_
    obtain ⟨r27, hr27, hf⟩ := ab_bind_s hf
    refine ab_Ex.call (d := d + 7) (M2 := 190) (as := [.ref 64, .int t0]) (rest := []) (fun n => rfl) rfl (Nat.not_lt.mpr (Nat.le_of_ble_eq_true rfl)) (sX12_codes (d + 7) X t0 r26 _ hr27) (fun r hr => ?_)
    subst hr
    show ab_Ex X (d + 8) 196 161 [(0, .ref 64), (1, .int y1), (2, .int t0)] [] ab_SH (ab_dD r27) _
    obtain rfl := Option.some.inj hf
    exact ab_Ex.ret (fun n => rfl) rfl
set_option maxRecDepth 20000 in
theorem sX12_readUnit_b (d : Nat) (X : abX) (R : Nat → Int32 → abJ → Option abJ) (IH : ∀ (sel : Nat) (a0 : Int32) (h : abJ) (z : abJ), R sel a0 h = some z → ab_Ex X (d + 7) (([195, 194, 192, 198, 197, 196, 193] : List Nat).getD sel 0) 0 [(0, .ref 64), (1, .int a0)] [] ab_SH (ab_dD h) (fun r => r = (none, ab_SH, ab_dD z))) (x0 : Int32) (h : abJ) (z : abJ) (hf : bX12_readUnit R x0 h = some z) : ab_Ex X (d + 8) 196 0 [(0, .ref 64), (1, .int x0)] [] ab_SH (ab_dD h) (fun r => r = (none, ab_SH, ab_dD z)) := by
  unfold bX12_readUnit at hf
  refine ab_Ex.blk (k := 2) (pc' := 3) (lv' := [(0, .ref 64), (1, .int x0)]) (st' := [.int 17, .ref 64]) (sh' := ab_SH) (D' := ab_dD h) (fun n => rfl) ?_
  obtain ⟨r1, hr1, hf⟩ := ab_bind_s hf
  refine ab_Ex.call (d := d + 7) (M2 := 185) (as := [.ref 64, .int 17]) (rest := []) (fun n => rfl) rfl (Nat.not_lt.mpr (Nat.le_of_ble_eq_true rfl)) (sX12_is (d + 7) X 17 h _ hr1) (fun r hr => ?_)
  subst hr
  show ab_Ex X (d + 8) 196 6 [(0, .ref 64), (1, .int x0)] [.int r1] ab_SH (ab_dD h) _
  refine ab_Ex.ifc (c := r1 = 0) (SA := (33, [(0, .ref 64), (1, .int x0)], [], ab_dD h)) (SB := (9, [(0, .ref 64), (1, .int x0)], [], ab_dD h)) (fun n => rfl) (fun c2 => ?_) (fun c2 => ?_)
  · replace hf := (if_pos c2).symm.trans hf
    refine ab_Ex.blk (k := 2) (pc' := 36) (lv' := [(0, .ref 64), (1, .int x0)]) (st' := [.int 37, .ref 64]) (sh' := ab_SH) (D' := ab_dD h) (fun n => rfl) ?_
    obtain ⟨r3, hr3, hf⟩ := ab_bind_s hf
    refine ab_Ex.call (d := d + 7) (M2 := 185) (as := [.ref 64, .int 37]) (rest := []) (fun n => rfl) rfl (Nat.not_lt.mpr (Nat.le_of_ble_eq_true rfl)) (sX12_is (d + 7) X 37 h _ hr3) (fun r hr => ?_)
    subst hr
    show ab_Ex X (d + 8) 196 39 [(0, .ref 64), (1, .int x0)] [.int r3] ab_SH (ab_dD h) _
    refine ab_Ex.ifc (c := r3 = 0) (SA := (73, [(0, .ref 64), (1, .int x0)], [], ab_dD h)) (SB := (42, [(0, .ref 64), (1, .int x0)], [], ab_dD h)) (fun n => rfl) (fun c4 => ?_) (fun c4 => ?_)
    · replace hf := (if_pos c4).symm.trans hf
      refine ab_Ex.blk (k := 2) (pc' := 75) (lv' := [(0, .ref 64), (1, .int x0)]) (st' := [.int x0, .ref 64]) (sh' := ab_SH) (D' := ab_dD h) (fun n => rfl) ?_
      obtain ⟨r5, hr5, hf⟩ := ab_bind_s hf
      refine ab_Ex.call (d := d + 7) (M2 := 195) (as := [.ref 64, .int x0]) (rest := []) (fun n => rfl) rfl (Nat.not_lt.mpr (Nat.le_of_ble_eq_true rfl)) (IH 0 x0 h _ hr5) (fun r hr => ?_)
      subst hr
      show ab_Ex X (d + 8) 196 78 [(0, .ref 64), (1, .int x0)] [] ab_SH (ab_dD r5) _
      refine ab_Ex.blk (k := 2) (pc' := 81) (lv' := [(0, .ref 64), (1, .int x0)]) (st' := [.int 39, .ref 64]) (sh' := ab_SH) (D' := ab_dD r5) (fun n => rfl) ?_
      obtain ⟨r6, hr6, hf⟩ := ab_bind_s hf
      refine ab_Ex.call (d := d + 7) (M2 := 185) (as := [.ref 64, .int 39]) (rest := []) (fun n => rfl) rfl (Nat.not_lt.mpr (Nat.le_of_ble_eq_true rfl)) (sX12_is (d + 7) X 39 r5 _ hr6) (fun r hr => ?_)
      subst hr
      show ab_Ex X (d + 8) 196 84 [(0, .ref 64), (1, .int x0)] [.int r6] ab_SH (ab_dD r5) _
      refine ab_Ex.ifc (c := r6 = 0) (SA := (93, [(0, .ref 64), (1, .int x0)], [], ab_dD r5)) (SB := (87, [(0, .ref 64), (1, .int x0)], [], ab_dD r5)) (fun n => rfl) (fun c7 => ?_) (fun c7 => ?_)
      · replace hf := (if_pos c7).symm.trans hf
        refine ab_Ex.blk (k := 2) (pc' := 96) (lv' := [(0, .ref 64), (1, .int x0)]) (st' := [.int 40, .ref 64]) (sh' := ab_SH) (D' := ab_dD r5) (fun n => rfl) ?_
        obtain ⟨r8, hr8, hf⟩ := ab_bind_s hf
        refine ab_Ex.call (d := d + 7) (M2 := 185) (as := [.ref 64, .int 40]) (rest := []) (fun n => rfl) rfl (Nat.not_lt.mpr (Nat.le_of_ble_eq_true rfl)) (sX12_is (d + 7) X 40 r5 _ hr8) (fun r hr => ?_)
        subst hr
        show ab_Ex X (d + 8) 196 99 [(0, .ref 64), (1, .int x0)] [.int r8] ab_SH (ab_dD r5) _
        refine ab_Ex.ifc (c := r8 = 0) (SA := (108, [(0, .ref 64), (1, .int x0)], [], ab_dD r5)) (SB := (102, [(0, .ref 64), (1, .int x0)], [], ab_dD r5)) (fun n => rfl) (fun c9 => ?_) (fun c9 => ?_)
        · replace hf := (if_pos c9).symm.trans hf
          refine ab_Ex.blk (k := 1) (pc' := 111) (lv' := [(0, .ref 64), (1, .int x0)]) (st' := [.int 3005]) (sh' := ab_SH) (D' := ab_dD r5) (fun n => rfl) ?_
          exact sX12_readUnit_J111 d X R IH  x0 3005 r5 _ hf
        · replace hf := (if_neg c9).symm.trans hf
          refine ab_Ex.blk (k := 2) (pc' := 111) (lv' := [(0, .ref 64), (1, .int x0)]) (st' := [.int 3004]) (sh' := ab_SH) (D' := ab_dD r5) (fun n => rfl) ?_
          exact sX12_readUnit_J111 d X R IH  x0 3004 r5 _ hf
      · replace hf := (if_neg c7).symm.trans hf
        refine ab_Ex.blk (k := 2) (pc' := 111) (lv' := [(0, .ref 64), (1, .int x0)]) (st' := [.int 3003]) (sh' := ab_SH) (D' := ab_dD r5) (fun n => rfl) ?_
        exact sX12_readUnit_J111 d X R IH  x0 3003 r5 _ hf
    · replace hf := (if_neg c4).symm.trans hf
      refine ab_Ex.blk (k := 2) (pc' := 44) (lv' := [(0, .ref 64), (1, .int x0)]) (st' := [.int x0, .ref 64]) (sh' := ab_SH) (D' := ab_dD h) (fun n => rfl) ?_
      obtain ⟨r28, hr28, hf⟩ := ab_bind_s hf
      refine ab_Ex.call (d := d + 7) (M2 := 191) (as := [.ref 64, .int x0]) (rest := []) (fun n => rfl) rfl (Nat.not_lt.mpr (Nat.le_of_ble_eq_true rfl)) (sX12_goesIn (d + 1) X x0 h _ hr28) (fun r hr => ?_)
      subst hr
      show ab_Ex X (d + 8) 196 47 [(0, .ref 64), (1, .int x0)] [.int r28.1] ab_SH (ab_dD r28.2) _
      refine ab_Ex.ifc (c := r28.1 = 0) (SA := (50, [(0, .ref 64), (1, .int x0)], [], ab_dD r28.2)) (SB := (51, [(0, .ref 64), (1, .int x0)], [], ab_dD r28.2)) (fun n => rfl) (fun c29 => ?_) (fun c29 => ?_)
      · replace hf := (if_pos c29).symm.trans hf
        obtain rfl := Option.some.inj hf
        exact ab_Ex.ret (fun n => rfl) rfl
      · replace hf := (if_neg c29).symm.trans hf
        refine ab_Ex.blk (k := 4) (pc' := 55) (lv' := [(0, .ref 64), (1, .int x0)]) (st' := [.int ((x0 + 1)), .ref 64]) (sh' := ab_SH) (D' := ab_dD r28.2) (fun n => rfl) ?_
        obtain ⟨r30, hr30, hf⟩ := ab_bind_s hf
        refine ab_Ex.call (d := d + 7) (M2 := 198) (as := [.ref 64, .int ((x0 + 1))]) (rest := []) (fun n => rfl) rfl (Nat.not_lt.mpr (Nat.le_of_ble_eq_true rfl)) (IH 3 ((x0 + 1)) r28.2 _ hr30) (fun r hr => ?_)
        subst hr
        show ab_Ex X (d + 8) 196 58 [(0, .ref 64), (1, .int x0)] [] ab_SH (ab_dD r30) _
        refine ab_Ex.blk (k := 2) (pc' := 61) (lv' := [(0, .ref 64), (1, .int x0)]) (st' := [.int 38, .ref 64]) (sh' := ab_SH) (D' := ab_dD r30) (fun n => rfl) ?_
        obtain ⟨r31, hr31, hf⟩ := ab_bind_s hf
        refine ab_Ex.call (d := d + 7) (M2 := 186) (as := [.ref 64, .int 38]) (rest := []) (fun n => rfl) rfl (Nat.not_lt.mpr (Nat.le_of_ble_eq_true rfl)) (sX12_eats (d + 1) X 38 r30 _ hr31) (fun r hr => ?_)
        subst hr
        show ab_Ex X (d + 8) 196 64 [(0, .ref 64), (1, .int x0)] [.int r31.1] ab_SH (ab_dD r31.2) _
        refine ab_Ex.ifc (c := r31.1 = 0) (SA := (67, [(0, .ref 64), (1, .int x0)], [], ab_dD r31.2)) (SB := (72, [(0, .ref 64), (1, .int x0)], [], ab_dD r31.2)) (fun n => rfl) (fun c32 => ?_) (fun c32 => ?_)
        · replace hf := (if_pos c32).symm.trans hf
          refine ab_Ex.blk (k := 2) (pc' := 69) (lv' := [(0, .ref 64), (1, .int x0)]) (st' := [.int 2, .ref 64]) (sh' := ab_SH) (D' := ab_dD r31.2) (fun n => rfl) ?_
          obtain ⟨r33, hr33, hf⟩ := ab_bind_s hf
          refine ab_Ex.call (d := d + 7) (M2 := 184) (as := [.ref 64, .int 2]) (rest := []) (fun n => rfl) rfl (Nat.not_lt.mpr (Nat.le_of_ble_eq_true rfl)) (sX12_fails (d + 7) X 2 r31.2 _ hr33) (fun r hr => ?_)
          subst hr
          show ab_Ex X (d + 8) 196 72 [] [] ab_SH (ab_dD r33) _
          obtain rfl := Option.some.inj hf
          exact ab_Ex.ret (fun n => rfl) rfl
        · replace hf := (if_neg c32).symm.trans hf
          obtain rfl := Option.some.inj hf
          exact ab_Ex.ret (fun n => rfl) rfl
  · replace hf := (if_neg c2).symm.trans hf
    refine ab_Ex.blk (k := 2) (pc' := 11) (lv' := [(0, .ref 64), (1, .int x0)]) (st' := [.int x0, .ref 64]) (sh' := ab_SH) (D' := ab_dD h) (fun n => rfl) ?_
    obtain ⟨r34, hr34, hf⟩ := ab_bind_s hf
    refine ab_Ex.call (d := d + 7) (M2 := 191) (as := [.ref 64, .int x0]) (rest := []) (fun n => rfl) rfl (Nat.not_lt.mpr (Nat.le_of_ble_eq_true rfl)) (sX12_goesIn (d + 1) X x0 h _ hr34) (fun r hr => ?_)
    subst hr
    show ab_Ex X (d + 8) 196 14 [(0, .ref 64), (1, .int x0)] [.int r34.1] ab_SH (ab_dD r34.2) _
    refine ab_Ex.ifc (c := r34.1 = 0) (SA := (17, [(0, .ref 64), (1, .int x0)], [], ab_dD r34.2)) (SB := (18, [(0, .ref 64), (1, .int x0)], [], ab_dD r34.2)) (fun n => rfl) (fun c35 => ?_) (fun c35 => ?_)
    · replace hf := (if_pos c35).symm.trans hf
      obtain rfl := Option.some.inj hf
      exact ab_Ex.ret (fun n => rfl) rfl
    · replace hf := (if_neg c35).symm.trans hf
      refine ab_Ex.blk (k := 4) (pc' := 22) (lv' := [(0, .ref 64), (1, .int x0)]) (st' := [.int ((x0 + 1)), .ref 64]) (sh' := ab_SH) (D' := ab_dD r34.2) (fun n => rfl) ?_
      obtain ⟨r36, hr36, hf⟩ := ab_bind_s hf
      refine ab_Ex.call (d := d + 7) (M2 := 196) (as := [.ref 64, .int ((x0 + 1))]) (rest := []) (fun n => rfl) rfl (Nat.not_lt.mpr (Nat.le_of_ble_eq_true rfl)) (IH 5 ((x0 + 1)) r34.2 _ hr36) (fun r hr => ?_)
      subst hr
      show ab_Ex X (d + 8) 196 25 [(0, .ref 64), (1, .int x0)] [] ab_SH (ab_dD r36) _
      refine ab_Ex.blk (k := 2) (pc' := 29) (lv' := [(0, .ref 64), (1, .int x0)]) (st' := [.int 3006, .ref 64]) (sh' := ab_SH) (D' := ab_dD r36) (fun n => rfl) ?_
      obtain ⟨r37, hr37, hf⟩ := ab_bind_s hf
      refine ab_Ex.call (d := d + 7) (M2 := 190) (as := [.ref 64, .int 3006]) (rest := []) (fun n => rfl) rfl (Nat.not_lt.mpr (Nat.le_of_ble_eq_true rfl)) (sX12_codes (d + 7) X 3006 r36 _ hr37) (fun r hr => ?_)
      subst hr
      show ab_Ex X (d + 8) 196 32 [(0, .ref 64), (1, .int x0)] [] ab_SH (ab_dD r37) _
      obtain rfl := Option.some.inj hf
      exact ab_Ex.ret (fun n => rfl) rfl
def fX12_readIf_J51 (R : Nat → Int32 → abJ → Option abJ)  (y1 : Int32) (h : abJ) : Option abJ := (R 0 ((y1 + 1)) h).bind (fun r11 => (fX12_eats 12 r11).bind (fun r12 => if r12.1 = 0 then (fX12_fails 2 r12.2).bind (fun r14 => (fX12_codes 3009 r14).bind (fun r15 => some r15)) else (fX12_codes 3009 r12.2).bind (fun r16 => some r16)))
def fX12_readIf_J30 (R : Nat → Int32 → abJ → Option abJ)  (y1 : Int32) (h : abJ) : Option abJ := (R 0 ((y1 + 1)) h).bind (fun r7 => (fX12_eats 11 r7).bind (fun r8 => if r8.1 = 0 then (fX12_fails 2 r8.2).bind (fun r10 => fX12_readIf_J51 R y1 r10) else fX12_readIf_J51 R y1 r8.2))
def bX12_readIf (R : Nat → Int32 → abJ → Option abJ) (x0 : Int32) (h : abJ) : Option abJ := (fX12_goesIn x0 h).bind (fun r1 => if r1.1 = 0 then some r1.2 else (R 3 ((x0 + 1)) r1.2).bind (fun r3 => (fX12_eats 10 r3).bind (fun r4 => if r4.1 = 0 then (fX12_fails 2 r4.2).bind (fun r6 => fX12_readIf_J30 R x0 r6) else fX12_readIf_J30 R x0 r4.2)))
set_option maxRecDepth 20000 in
theorem sX12_readIf_J51 (d : Nat) (X : abX) (R : Nat → Int32 → abJ → Option abJ) (IH : ∀ (sel : Nat) (a0 : Int32) (h : abJ) (z : abJ), R sel a0 h = some z → ab_Ex X (d + 7) (([195, 194, 192, 198, 197, 196, 193] : List Nat).getD sel 0) 0 [(0, .ref 64), (1, .int a0)] [] ab_SH (ab_dD h) (fun r => r = (none, ab_SH, ab_dD z)))   : ∀ (y1 : Int32) (h : abJ) (z : abJ), fX12_readIf_J51 R y1 h = some z → ab_Ex X (d + 8) 193 51 [(0, .ref 64), (1, .int y1)] [] ab_SH (ab_dD h) (fun r => r = (none, ab_SH, ab_dD z)) := by
  intro y1 h z hf
  unfold fX12_readIf_J51 at hf
  refine ab_Ex.blk (k := 4) (pc' := 55) (lv' := [(0, .ref 64), (1, .int y1)]) (st' := [.int ((y1 + 1)), .ref 64]) (sh' := ab_SH) (D' := ab_dD h) (fun n => rfl) ?_
  obtain ⟨r11, hr11, hf⟩ := ab_bind_s hf
  refine ab_Ex.call (d := d + 7) (M2 := 195) (as := [.ref 64, .int ((y1 + 1))]) (rest := []) (fun n => rfl) rfl (Nat.not_lt.mpr (Nat.le_of_ble_eq_true rfl)) (IH 0 ((y1 + 1)) h _ hr11) (fun r hr => ?_)
  subst hr
  show ab_Ex X (d + 8) 193 58 [(0, .ref 64), (1, .int y1)] [] ab_SH (ab_dD r11) _
  refine ab_Ex.blk (k := 2) (pc' := 61) (lv' := [(0, .ref 64), (1, .int y1)]) (st' := [.int 12, .ref 64]) (sh' := ab_SH) (D' := ab_dD r11) (fun n => rfl) ?_
  obtain ⟨r12, hr12, hf⟩ := ab_bind_s hf
  refine ab_Ex.call (d := d + 7) (M2 := 186) (as := [.ref 64, .int 12]) (rest := []) (fun n => rfl) rfl (Nat.not_lt.mpr (Nat.le_of_ble_eq_true rfl)) (sX12_eats (d + 1) X 12 r11 _ hr12) (fun r hr => ?_)
  subst hr
  show ab_Ex X (d + 8) 193 64 [(0, .ref 64), (1, .int y1)] [.int r12.1] ab_SH (ab_dD r12.2) _
  refine ab_Ex.ifc (c := r12.1 = 0) (SA := (67, [(0, .ref 64), (1, .int y1)], [], ab_dD r12.2)) (SB := (72, [(0, .ref 64), (1, .int y1)], [], ab_dD r12.2)) (fun n => rfl) (fun c13 => ?_) (fun c13 => ?_)
  · replace hf := (if_pos c13).symm.trans hf
    refine ab_Ex.blk (k := 2) (pc' := 69) (lv' := [(0, .ref 64), (1, .int y1)]) (st' := [.int 2, .ref 64]) (sh' := ab_SH) (D' := ab_dD r12.2) (fun n => rfl) ?_
    obtain ⟨r14, hr14, hf⟩ := ab_bind_s hf
    refine ab_Ex.call (d := d + 7) (M2 := 184) (as := [.ref 64, .int 2]) (rest := []) (fun n => rfl) rfl (Nat.not_lt.mpr (Nat.le_of_ble_eq_true rfl)) (sX12_fails (d + 7) X 2 r12.2 _ hr14) (fun r hr => ?_)
    subst hr
    show ab_Ex X (d + 8) 193 72 [(0, .ref 64)] [] ab_SH (ab_dD r14) _
    refine ab_Ex.blk (k := 2) (pc' := 76) (lv' := [(0, .ref 64)]) (st' := [.int 3009, .ref 64]) (sh' := ab_SH) (D' := ab_dD r14) (fun n => rfl) ?_
    obtain ⟨r15, hr15, hf⟩ := ab_bind_s hf
    refine ab_Ex.call (d := d + 7) (M2 := 190) (as := [.ref 64, .int 3009]) (rest := []) (fun n => rfl) rfl (Nat.not_lt.mpr (Nat.le_of_ble_eq_true rfl)) (sX12_codes (d + 7) X 3009 r14 _ hr15) (fun r hr => ?_)
    subst hr
    show ab_Ex X (d + 8) 193 79 [(0, .ref 64)] [] ab_SH (ab_dD r15) _
    obtain rfl := Option.some.inj hf
    exact ab_Ex.ret (fun n => rfl) rfl
  · replace hf := (if_neg c13).symm.trans hf
    refine ab_Ex.blk (k := 2) (pc' := 76) (lv' := [(0, .ref 64)]) (st' := [.int 3009, .ref 64]) (sh' := ab_SH) (D' := ab_dD r12.2) (fun n => rfl) ?_
    obtain ⟨r16, hr16, hf⟩ := ab_bind_s hf
    refine ab_Ex.call (d := d + 7) (M2 := 190) (as := [.ref 64, .int 3009]) (rest := []) (fun n => rfl) rfl (Nat.not_lt.mpr (Nat.le_of_ble_eq_true rfl)) (sX12_codes (d + 7) X 3009 r12.2 _ hr16) (fun r hr => ?_)
    subst hr
    show ab_Ex X (d + 8) 193 79 [(0, .ref 64)] [] ab_SH (ab_dD r16) _
    obtain rfl := Option.some.inj hf
    exact ab_Ex.ret (fun n => rfl) rfl
set_option maxRecDepth 20000 in
theorem sX12_readIf_J30 (d : Nat) (X : abX) (R : Nat → Int32 → abJ → Option abJ) (IH : ∀ (sel : Nat) (a0 : Int32) (h : abJ) (z : abJ), R sel a0 h = some z → ab_Ex X (d + 7) (([195, 194, 192, 198, 197, 196, 193] : List Nat).getD sel 0) 0 [(0, .ref 64), (1, .int a0)] [] ab_SH (ab_dD h) (fun r => r = (none, ab_SH, ab_dD z)))   : ∀ (y1 : Int32) (h : abJ) (z : abJ), fX12_readIf_J30 R y1 h = some z → ab_Ex X (d + 8) 193 30 [(0, .ref 64), (1, .int y1)] [] ab_SH (ab_dD h) (fun r => r = (none, ab_SH, ab_dD z)) := by
  intro y1 h z hf
  unfold fX12_readIf_J30 at hf
  refine ab_Ex.blk (k := 4) (pc' := 34) (lv' := [(0, .ref 64), (1, .int y1)]) (st' := [.int ((y1 + 1)), .ref 64]) (sh' := ab_SH) (D' := ab_dD h) (fun n => rfl) ?_
  obtain ⟨r7, hr7, hf⟩ := ab_bind_s hf
  refine ab_Ex.call (d := d + 7) (M2 := 195) (as := [.ref 64, .int ((y1 + 1))]) (rest := []) (fun n => rfl) rfl (Nat.not_lt.mpr (Nat.le_of_ble_eq_true rfl)) (IH 0 ((y1 + 1)) h _ hr7) (fun r hr => ?_)
  subst hr
  show ab_Ex X (d + 8) 193 37 [(0, .ref 64), (1, .int y1)] [] ab_SH (ab_dD r7) _
  refine ab_Ex.blk (k := 2) (pc' := 40) (lv' := [(0, .ref 64), (1, .int y1)]) (st' := [.int 11, .ref 64]) (sh' := ab_SH) (D' := ab_dD r7) (fun n => rfl) ?_
  obtain ⟨r8, hr8, hf⟩ := ab_bind_s hf
  refine ab_Ex.call (d := d + 7) (M2 := 186) (as := [.ref 64, .int 11]) (rest := []) (fun n => rfl) rfl (Nat.not_lt.mpr (Nat.le_of_ble_eq_true rfl)) (sX12_eats (d + 1) X 11 r7 _ hr8) (fun r hr => ?_)
  subst hr
  show ab_Ex X (d + 8) 193 43 [(0, .ref 64), (1, .int y1)] [.int r8.1] ab_SH (ab_dD r8.2) _
  refine ab_Ex.ifc (c := r8.1 = 0) (SA := (46, [(0, .ref 64), (1, .int y1)], [], ab_dD r8.2)) (SB := (51, [(0, .ref 64), (1, .int y1)], [], ab_dD r8.2)) (fun n => rfl) (fun c9 => ?_) (fun c9 => ?_)
  · replace hf := (if_pos c9).symm.trans hf
    refine ab_Ex.blk (k := 2) (pc' := 48) (lv' := [(0, .ref 64), (1, .int y1)]) (st' := [.int 2, .ref 64]) (sh' := ab_SH) (D' := ab_dD r8.2) (fun n => rfl) ?_
    obtain ⟨r10, hr10, hf⟩ := ab_bind_s hf
    refine ab_Ex.call (d := d + 7) (M2 := 184) (as := [.ref 64, .int 2]) (rest := []) (fun n => rfl) rfl (Nat.not_lt.mpr (Nat.le_of_ble_eq_true rfl)) (sX12_fails (d + 7) X 2 r8.2 _ hr10) (fun r hr => ?_)
    subst hr
    show ab_Ex X (d + 8) 193 51 [(0, .ref 64), (1, .int y1)] [] ab_SH (ab_dD r10) _
    exact sX12_readIf_J51 d X R IH  y1 r10 _ hf
  · replace hf := (if_neg c9).symm.trans hf
    exact sX12_readIf_J51 d X R IH  y1 r8.2 _ hf
set_option maxRecDepth 20000 in
theorem sX12_readIf_b (d : Nat) (X : abX) (R : Nat → Int32 → abJ → Option abJ) (IH : ∀ (sel : Nat) (a0 : Int32) (h : abJ) (z : abJ), R sel a0 h = some z → ab_Ex X (d + 7) (([195, 194, 192, 198, 197, 196, 193] : List Nat).getD sel 0) 0 [(0, .ref 64), (1, .int a0)] [] ab_SH (ab_dD h) (fun r => r = (none, ab_SH, ab_dD z))) (x0 : Int32) (h : abJ) (z : abJ) (hf : bX12_readIf R x0 h = some z) : ab_Ex X (d + 8) 193 0 [(0, .ref 64), (1, .int x0)] [] ab_SH (ab_dD h) (fun r => r = (none, ab_SH, ab_dD z)) := by
  unfold bX12_readIf at hf
  refine ab_Ex.blk (k := 2) (pc' := 2) (lv' := [(0, .ref 64), (1, .int x0)]) (st' := [.int x0, .ref 64]) (sh' := ab_SH) (D' := ab_dD h) (fun n => rfl) ?_
  obtain ⟨r1, hr1, hf⟩ := ab_bind_s hf
  refine ab_Ex.call (d := d + 7) (M2 := 191) (as := [.ref 64, .int x0]) (rest := []) (fun n => rfl) rfl (Nat.not_lt.mpr (Nat.le_of_ble_eq_true rfl)) (sX12_goesIn (d + 1) X x0 h _ hr1) (fun r hr => ?_)
  subst hr
  show ab_Ex X (d + 8) 193 5 [(0, .ref 64), (1, .int x0)] [.int r1.1] ab_SH (ab_dD r1.2) _
  refine ab_Ex.ifc (c := r1.1 = 0) (SA := (8, [(0, .ref 64), (1, .int x0)], [], ab_dD r1.2)) (SB := (9, [(0, .ref 64), (1, .int x0)], [], ab_dD r1.2)) (fun n => rfl) (fun c2 => ?_) (fun c2 => ?_)
  · replace hf := (if_pos c2).symm.trans hf
    obtain rfl := Option.some.inj hf
    exact ab_Ex.ret (fun n => rfl) rfl
  · replace hf := (if_neg c2).symm.trans hf
    refine ab_Ex.blk (k := 4) (pc' := 13) (lv' := [(0, .ref 64), (1, .int x0)]) (st' := [.int ((x0 + 1)), .ref 64]) (sh' := ab_SH) (D' := ab_dD r1.2) (fun n => rfl) ?_
    obtain ⟨r3, hr3, hf⟩ := ab_bind_s hf
    refine ab_Ex.call (d := d + 7) (M2 := 198) (as := [.ref 64, .int ((x0 + 1))]) (rest := []) (fun n => rfl) rfl (Nat.not_lt.mpr (Nat.le_of_ble_eq_true rfl)) (IH 3 ((x0 + 1)) r1.2 _ hr3) (fun r hr => ?_)
    subst hr
    show ab_Ex X (d + 8) 193 16 [(0, .ref 64), (1, .int x0)] [] ab_SH (ab_dD r3) _
    refine ab_Ex.blk (k := 2) (pc' := 19) (lv' := [(0, .ref 64), (1, .int x0)]) (st' := [.int 10, .ref 64]) (sh' := ab_SH) (D' := ab_dD r3) (fun n => rfl) ?_
    obtain ⟨r4, hr4, hf⟩ := ab_bind_s hf
    refine ab_Ex.call (d := d + 7) (M2 := 186) (as := [.ref 64, .int 10]) (rest := []) (fun n => rfl) rfl (Nat.not_lt.mpr (Nat.le_of_ble_eq_true rfl)) (sX12_eats (d + 1) X 10 r3 _ hr4) (fun r hr => ?_)
    subst hr
    show ab_Ex X (d + 8) 193 22 [(0, .ref 64), (1, .int x0)] [.int r4.1] ab_SH (ab_dD r4.2) _
    refine ab_Ex.ifc (c := r4.1 = 0) (SA := (25, [(0, .ref 64), (1, .int x0)], [], ab_dD r4.2)) (SB := (30, [(0, .ref 64), (1, .int x0)], [], ab_dD r4.2)) (fun n => rfl) (fun c5 => ?_) (fun c5 => ?_)
    · replace hf := (if_pos c5).symm.trans hf
      refine ab_Ex.blk (k := 2) (pc' := 27) (lv' := [(0, .ref 64), (1, .int x0)]) (st' := [.int 2, .ref 64]) (sh' := ab_SH) (D' := ab_dD r4.2) (fun n => rfl) ?_
      obtain ⟨r6, hr6, hf⟩ := ab_bind_s hf
      refine ab_Ex.call (d := d + 7) (M2 := 184) (as := [.ref 64, .int 2]) (rest := []) (fun n => rfl) rfl (Nat.not_lt.mpr (Nat.le_of_ble_eq_true rfl)) (sX12_fails (d + 7) X 2 r4.2 _ hr6) (fun r hr => ?_)
      subst hr
      show ab_Ex X (d + 8) 193 30 [(0, .ref 64), (1, .int x0)] [] ab_SH (ab_dD r6) _
      exact sX12_readIf_J30 d X R IH  x0 r6 _ hf
    · replace hf := (if_neg c5).symm.trans hf
      exact sX12_readIf_J30 d X R IH  x0 r4.2 _ hf
def fPX12 : Nat → Nat → Int32 → abJ → Option abJ
  | 0, _, _, _ => none
  | n + 1, sel, a0, h => match sel with
    | 0 => bX12_readSum (fPX12 n) a0 h
    | 1 => bX12_readTerm (fPX12 n) a0 h
    | 2 => bX12_readAtom (fPX12 n) a0 h
    | 3 => bX12_readTruth (fPX12 n) a0 h
    | 4 => bX12_readBoth (fPX12 n) a0 h
    | 5 => bX12_readUnit (fPX12 n) a0 h
    | 6 => bX12_readIf (fPX12 n) a0 h
    | _ => none
set_option maxRecDepth 20000 in
theorem sPX12 (d : Nat) (X : abX) : ∀ (n sel : Nat) (a0 : Int32) (h : abJ) (z : abJ), fPX12 n sel a0 h = some z → ab_Ex X (d + n + 7) (([195, 194, 192, 198, 197, 196, 193] : List Nat).getD sel 0) 0 [(0, .ref 64), (1, .int a0)] [] ab_SH (ab_dD h) (fun r => r = (none, ab_SH, ab_dD z)) := by
  intro n
  induction n with
  | zero => intro sel a0 h z hf; cases hf
  | succ n ih =>
    intro sel a0 h z hf
    match sel, hf with
    | 0, hf => exact sX12_readSum_b (d + n) X (fPX12 n) ih a0 h z hf
    | 1, hf => exact sX12_readTerm_b (d + n) X (fPX12 n) ih a0 h z hf
    | 2, hf => exact sX12_readAtom_b (d + n) X (fPX12 n) ih a0 h z hf
    | 3, hf => exact sX12_readTruth_b (d + n) X (fPX12 n) ih a0 h z hf
    | 4, hf => exact sX12_readBoth_b (d + n) X (fPX12 n) ih a0 h z hf
    | 5, hf => exact sX12_readUnit_b (d + n) X (fPX12 n) ih a0 h z hf
    | 6, hf => exact sX12_readIf_b (d + n) X (fPX12 n) ih a0 h z hf
    | s + 7, hf => cases hf
def fX12_readSum (a0 : Int32) (h : abJ) : Option abJ := fPX12 100 0 a0 h
set_option maxRecDepth 20000 in
theorem sX12_readSum (d : Nat) (X : abX) (a0 : Int32) (h : abJ) (z : abJ) (hf : fX12_readSum a0 h = some z) : ab_Ex X (d + 107) 195 0 [(0, .ref 64), (1, .int a0)] [] ab_SH (ab_dD h) (fun r => r = (none, ab_SH, ab_dD z)) := sPX12 d X 100 0 a0 h z hf
def fX12_readTerm (a0 : Int32) (h : abJ) : Option abJ := fPX12 100 1 a0 h
set_option maxRecDepth 20000 in
theorem sX12_readTerm (d : Nat) (X : abX) (a0 : Int32) (h : abJ) (z : abJ) (hf : fX12_readTerm a0 h = some z) : ab_Ex X (d + 107) 194 0 [(0, .ref 64), (1, .int a0)] [] ab_SH (ab_dD h) (fun r => r = (none, ab_SH, ab_dD z)) := sPX12 d X 100 1 a0 h z hf
def fX12_readAtom (a0 : Int32) (h : abJ) : Option abJ := fPX12 100 2 a0 h
set_option maxRecDepth 20000 in
theorem sX12_readAtom (d : Nat) (X : abX) (a0 : Int32) (h : abJ) (z : abJ) (hf : fX12_readAtom a0 h = some z) : ab_Ex X (d + 107) 192 0 [(0, .ref 64), (1, .int a0)] [] ab_SH (ab_dD h) (fun r => r = (none, ab_SH, ab_dD z)) := sPX12 d X 100 2 a0 h z hf
def fX12_readTruth (a0 : Int32) (h : abJ) : Option abJ := fPX12 100 3 a0 h
set_option maxRecDepth 20000 in
theorem sX12_readTruth (d : Nat) (X : abX) (a0 : Int32) (h : abJ) (z : abJ) (hf : fX12_readTruth a0 h = some z) : ab_Ex X (d + 107) 198 0 [(0, .ref 64), (1, .int a0)] [] ab_SH (ab_dD h) (fun r => r = (none, ab_SH, ab_dD z)) := sPX12 d X 100 3 a0 h z hf
def fX12_readBoth (a0 : Int32) (h : abJ) : Option abJ := fPX12 100 4 a0 h
set_option maxRecDepth 20000 in
theorem sX12_readBoth (d : Nat) (X : abX) (a0 : Int32) (h : abJ) (z : abJ) (hf : fX12_readBoth a0 h = some z) : ab_Ex X (d + 107) 197 0 [(0, .ref 64), (1, .int a0)] [] ab_SH (ab_dD h) (fun r => r = (none, ab_SH, ab_dD z)) := sPX12 d X 100 4 a0 h z hf
def fX12_readUnit (a0 : Int32) (h : abJ) : Option abJ := fPX12 100 5 a0 h
set_option maxRecDepth 20000 in
theorem sX12_readUnit (d : Nat) (X : abX) (a0 : Int32) (h : abJ) (z : abJ) (hf : fX12_readUnit a0 h = some z) : ab_Ex X (d + 107) 196 0 [(0, .ref 64), (1, .int a0)] [] ab_SH (ab_dD h) (fun r => r = (none, ab_SH, ab_dD z)) := sPX12 d X 100 5 a0 h z hf
def fX12_readIf (a0 : Int32) (h : abJ) : Option abJ := fPX12 100 6 a0 h
set_option maxRecDepth 20000 in
theorem sX12_readIf (d : Nat) (X : abX) (a0 : Int32) (h : abJ) (z : abJ) (hf : fX12_readIf a0 h = some z) : ab_Ex X (d + 107) 193 0 [(0, .ref 64), (1, .int a0)] [] ab_SH (ab_dD h) (fun r => r = (none, ab_SH, ab_dD z)) := sPX12 d X 100 6 a0 h z hf
