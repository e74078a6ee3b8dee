def fX12_hands_J68  (k38 : Int32 → Int32 → Int32 → abJ → Option (Int32 × abJ)) (y2 : Int32) (y4 : Int32) (t0 : Int32) (h : abJ) : Option (Int32 × abJ) := k38 y2 t0 ((y4 + 6)) h
def fX12_hands_L38   : Nat → Int32 → Int32 → Int32 → abJ → Option (Int32 × abJ)
  | 0, _, _, _, _ => none
  | n + 1, y2, y3, y4, h => if 4374 ≤ y4 then if y3 = 268435456 then some ((-1), h) else if y2 = 0 then some ((y3 / 10000), h) else some ((y3 - y3 / 10000 * 10000), h) else ab_ask (y4 < 0 ∨ 4374 ≤ (y4 : Int32).toNatClampNeg) (if y3 ≤ (h.1 74 (y4 : Int32).toNatClampNeg) then fX12_hands_J68 (fun y2 y3 y4 h => fX12_hands_L38 n y2 y3 y4 h) y2 y4 y3 h else ab_ask (y4 < 0 ∨ 4374 ≤ (y4 : Int32).toNatClampNeg) (fX12_hands_J68 (fun y2 y3 y4 h => fX12_hands_L38 n y2 y3 y4 h) y2 y4 ((h.1 74 (y4 : Int32).toNatClampNeg)) h))
def fX12_hands (x0 : Int32) (x1 : Int32) (h : abJ) : Option (Int32 × abJ) := (fX12_isPost ((x0 : Int32).toInt64) (ab_wI h 64 0 0)).bind (fun r1 => if r1 = 0 then some ((-2), (ab_wI h 64 0 0)) else (fX12_within ((x1 : Int32).toInt64) 0 1 (ab_wI h 64 0 0)).bind (fun r3 => if r3 = 0 then some ((-2), (ab_wI h 64 0 0)) else (fX12_laysCost (ab_wI h 64 0 0)).bind (fun r5 => fX12_hands_L38 ab_N x1 268435456 x0 r5)))
set_option maxRecDepth 20000 in
theorem sX12_hands_J68 (d : Nat) (X : abX) (k38 : Int32 → Int32 → Int32 → abJ → Option (Int32 × abJ)) (hk38 : ∀ (y2 : Int32) (y3 : Int32) (y4 : Int32) (h : abJ) (z : (Int32 × abJ)), k38 y2 y3 y4 h = some z → ab_Ex X (d + 5) 259 38 [(0, .ref 64), (2, .int y2), (3, .int y3), (4, .int y4)] [] ab_SH (ab_dD h) (fun r => r = (some (.int z.1), ab_SH, ab_dD z.2))) : ∀ (y2 : Int32) (y4 : Int32) (t0 : Int32) (h : abJ) (z : (Int32 × abJ)), fX12_hands_J68 k38 y2 y4 t0 h = some z → ab_Ex X (d + 5) 259 68 [(0, .ref 64), (2, .int y2), (4, .int y4)] [.int t0] ab_SH (ab_dD h) (fun r => r = (some (.int z.1), ab_SH, ab_dD z.2)) := by
  intro y2 y4 t0 h z hf
  unfold fX12_hands_J68 at hf
  refine ab_Ex.blk (k := 3) (pc' := 38) (lv' := [(0, .ref 64), (2, .int y2), (3, .int t0), (4, .int ((y4 + 6)))]) (st' := []) (sh' := ab_SH) (D' := ab_dD h) (fun n => rfl) ?_
  exact hk38 y2 t0 ((y4 + 6)) h _ hf
set_option maxRecDepth 20000 in
theorem sX12_hands_L38 (d : Nat) (X : abX)   : ∀ (n : Nat), ∀ (y2 : Int32) (y3 : Int32) (y4 : Int32) (h : abJ) (z : (Int32 × abJ)), fX12_hands_L38 n y2 y3 y4 h = some z → ab_Ex X (d + 5) 259 38 [(0, .ref 64), (2, .int y2), (3, .int y3), (4, .int y4)] [] ab_SH (ab_dD h) (fun r => r = (some (.int z.1), ab_SH, ab_dD z.2)) := by
  intro n
  induction n with
  | zero => intro y2 y3 y4 h z hf; cases hf
  | succ n ih =>
    intro y2 y3 y4 h z hf
    rw [fX12_hands_L38] at hf
    refine ab_Ex.blk (k := 2) (pc' := 43) (lv' := [(0, .ref 64), (2, .int y2), (3, .int y3), (4, .int y4)]) (st' := [.int 4374, .int y4]) (sh' := ab_SH) (D' := ab_dD h) (fun n => rfl) ?_
    refine ab_Ex.ifc (c := 4374 ≤ y4) (SA := (75, [(0, .ref 64), (2, .int y2), (3, .int y3), (4, .int y4)], [], ab_dD h)) (SB := (46, [(0, .ref 64), (2, .int y2), (3, .int y3), (4, .int y4)], [], ab_dD h)) (fun n => rfl) (fun c6 => ?_) (fun c6 => ?_)
    · replace hf := (if_pos c6).symm.trans hf
      refine ab_Ex.blk (k := 2) (pc' := 79) (lv' := [(0, .ref 64), (2, .int y2), (3, .int y3), (4, .int y4)]) (st' := [.int 268435456, .int y3]) (sh' := ab_SH) (D' := ab_dD h) (fun n => rfl) ?_
      refine ab_Ex.ifc (c := y3 = 268435456) (SA := (82, [(0, .ref 64), (2, .int y2), (3, .int y3), (4, .int y4)], [], ab_dD h)) (SB := (86, [(0, .ref 64), (2, .int y2), (3, .int y3), (4, .int y4)], [], ab_dD h)) (fun n => rfl) (fun c7 => ?_) (fun c7 => ?_)
      · replace hf := (if_pos c7).symm.trans hf
        refine ab_Ex.blk (k := 2) (pc' := 103) (lv' := []) (st' := [.int ((-1))]) (sh' := ab_SH) (D' := ab_dD h) (fun n => rfl) ?_
        obtain rfl := Option.some.inj hf
        exact ab_Ex.ret (fun n => rfl) rfl
      · replace hf := (if_neg c7).symm.trans hf
        refine ab_Ex.blk (k := 1) (pc' := 87) (lv' := [(0, .ref 64), (2, .int y2), (3, .int y3), (4, .int y4)]) (st' := [.int y2]) (sh' := ab_SH) (D' := ab_dD h) (fun n => rfl) ?_
        refine ab_Ex.ifc (c := y2 = 0) (SA := (90, [(0, .ref 64), (2, .int y2), (3, .int y3), (4, .int y4)], [], ab_dD h)) (SB := (98, [(0, .ref 64), (2, .int y2), (3, .int y3), (4, .int y4)], [], ab_dD h)) (fun n => rfl) (fun c8 => ?_) (fun c8 => ?_)
        · replace hf := (if_pos c8).symm.trans hf
          refine ab_Ex.blk (k := 2) (pc' := 94) (lv' := [(0, .ref 64), (2, .int y2), (3, .int y3), (4, .int y4)]) (st' := [.int 10000, .int y3]) (sh' := ab_SH) (D' := ab_dD h) (fun n => rfl) ?_
          refine ab_Ex.blk (k := 1) (pc' := 95) (lv' := [(0, .ref 64), (2, .int y2), (3, .int y3), (4, .int y4)]) (st' := [.int ((y3 / 10000))]) (sh' := ab_SH) (D' := ab_dD h) (fun n => rfl) ?_
          refine ab_Ex.blk (k := 1) (pc' := 103) (lv' := []) (st' := [.int ((y3 / 10000))]) (sh' := ab_SH) (D' := ab_dD h) (fun n => rfl) ?_
          obtain rfl := Option.some.inj hf
          exact ab_Ex.ret (fun n => rfl) rfl
        · replace hf := (if_neg c8).symm.trans hf
          refine ab_Ex.blk (k := 2) (pc' := 102) (lv' := [(0, .ref 64), (2, .int y2), (3, .int y3), (4, .int y4)]) (st' := [.int 10000, .int y3]) (sh' := ab_SH) (D' := ab_dD h) (fun n => rfl) ?_
          refine ab_Ex.blk (k := 1) (pc' := 103) (lv' := []) (st' := [.int ((y3 - y3 / 10000 * 10000))]) (sh' := ab_SH) (D' := ab_dD h) (fun n => rfl) ?_
          obtain rfl := Option.some.inj hf
          exact ab_Ex.ret (fun n => rfl) rfl
    · replace hf := (if_neg c6).symm.trans hf
      refine ab_Ex.blk (k := 3) (pc' := 52) (lv' := [(0, .ref 64), (2, .int y2), (3, .int y3), (4, .int y4)]) (st' := [.int y4, .ref 74]) (sh' := ab_SH) (D' := ab_dD h) (fun n => rfl) ?_
      obtain ⟨c10, hf⟩ := ab_ask_s hf
      refine ab_Ex.grd (c := y4 < 0 ∨ 4374 ≤ (y4 : Int32).toNatClampNeg) (S := (53, [(0, .ref 64), (2, .int y2), (3, .int y3), (4, .int y4)], [.int ((h.1 74 (y4 : Int32).toNatClampNeg))], ab_dD h)) (fun n => rfl) c10 ?_
      refine ab_Ex.blk (k := 1) (pc' := 54) (lv' := [(0, .ref 64), (2, .int y2), (3, .int y3), (4, .int y4)]) (st' := [.int y3, .int ((h.1 74 (y4 : Int32).toNatClampNeg))]) (sh' := ab_SH) (D' := ab_dD h) (fun n => rfl) ?_
      refine ab_Ex.ifc (c := y3 ≤ (h.1 74 (y4 : Int32).toNatClampNeg)) (SA := (67, [(0, .ref 64), (2, .int y2), (3, .int y3), (4, .int y4)], [], ab_dD h)) (SB := (57, [(0, .ref 64), (2, .int y2), (3, .int y3), (4, .int y4)], [], ab_dD h)) (fun n => rfl) (fun c11 => ?_) (fun c11 => ?_)
      · replace hf := (if_pos c11).symm.trans hf
        refine ab_Ex.blk (k := 1) (pc' := 68) (lv' := [(0, .ref 64), (2, .int y2), (4, .int y4)]) (st' := [.int y3]) (sh' := ab_SH) (D' := ab_dD h) (fun n => rfl) ?_
        exact sX12_hands_J68 d X (fun y2 y3 y4 h => fX12_hands_L38 n y2 y3 y4 h) (fun y2 y3 y4 h z hz => ih y2 y3 y4 h z hz) y2 y4 y3 h _ hf
      · replace hf := (if_neg c11).symm.trans hf
        refine ab_Ex.blk (k := 3) (pc' := 63) (lv' := [(0, .ref 64), (2, .int y2), (3, .int y3), (4, .int y4)]) (st' := [.int y4, .ref 74]) (sh' := ab_SH) (D' := ab_dD h) (fun n => rfl) ?_
        obtain ⟨c13, hf⟩ := ab_ask_s hf
        refine ab_Ex.grd (c := y4 < 0 ∨ 4374 ≤ (y4 : Int32).toNatClampNeg) (S := (64, [(0, .ref 64), (2, .int y2), (3, .int y3), (4, .int y4)], [.int ((h.1 74 (y4 : Int32).toNatClampNeg))], ab_dD h)) (fun n => rfl) c13 ?_
        refine ab_Ex.blk (k := 1) (pc' := 68) (lv' := [(0, .ref 64), (2, .int y2), (4, .int y4)]) (st' := [.int ((h.1 74 (y4 : Int32).toNatClampNeg))]) (sh' := ab_SH) (D' := ab_dD h) (fun n => rfl) ?_
        exact sX12_hands_J68 d X (fun y2 y3 y4 h => fX12_hands_L38 n y2 y3 y4 h) (fun y2 y3 y4 h z hz => ih y2 y3 y4 h z hz) y2 y4 ((h.1 74 (y4 : Int32).toNatClampNeg)) h _ hf
set_option maxRecDepth 20000 in
theorem sX12_hands (d : Nat) (X : abX) (x0 : Int32) (x1 : Int32) (h : abJ) (z : (Int32 × abJ)) (hf : fX12_hands x0 x1 h = some z) : ab_Ex X (d + 5) 259 0 [(0, .ref 64), (1, .int x0), (2, .int x1)] [] ab_SH (ab_dD h) (fun r => r = (some (.int z.1), ab_SH, ab_dD z.2)) := by
  unfold fX12_hands at hf
  refine ab_Ex.blk (k := 6) (pc' := 8) (lv' := [(0, .ref 64), (1, .int x0), (2, .int x1)]) (st' := [.long ((x0 : Int32).toInt64), .ref 64]) (sh' := ab_SH) (D' := ab_dD (ab_wI h 64 0 0)) (fun n => rfl) ?_
  obtain ⟨r1, hr1, hf⟩ := ab_bind_s hf
  refine ab_Ex.call (d := d + 4) (M2 := 209) (as := [.ref 64, .long ((x0 : Int32).toInt64)]) (rest := []) (fun n => rfl) rfl (Nat.not_lt.mpr (Nat.le_of_ble_eq_true rfl)) (sX12_isPost (d + 3) X ((x0 : Int32).toInt64) (ab_wI h 64 0 0) _ hr1) (fun r hr => ?_)
  subst hr
  show ab_Ex X (d + 5) 259 11 [(0, .ref 64), (1, .int x0), (2, .int x1)] [.int r1] ab_SH (ab_dD (ab_wI h 64 0 0)) _
  refine ab_Ex.ifc (c := r1 = 0) (SA := (24, [(0, .ref 64), (1, .int x0), (2, .int x1)], [], ab_dD (ab_wI h 64 0 0))) (SB := (14, [(0, .ref 64), (1, .int x0), (2, .int x1)], [], ab_dD (ab_wI h 64 0 0))) (fun n => rfl) (fun c2 => ?_) (fun c2 => ?_)
  · replace hf := (if_pos c2).symm.trans hf
    refine ab_Ex.blk (k := 1) (pc' := 26) (lv' := []) (st' := [.int ((-2))]) (sh' := ab_SH) (D' := ab_dD (ab_wI h 64 0 0)) (fun n => rfl) ?_
    obtain rfl := Option.some.inj hf
    exact ab_Ex.ret (fun n => rfl) rfl
  · replace hf := (if_neg c2).symm.trans hf
    refine ab_Ex.blk (k := 4) (pc' := 18) (lv' := [(0, .ref 64), (1, .int x0), (2, .int x1)]) (st' := [.long 1, .long 0, .long ((x1 : Int32).toInt64)]) (sh' := ab_SH) (D' := ab_dD (ab_wI h 64 0 0)) (fun n => rfl) ?_
    obtain ⟨r3, hr3, hf⟩ := ab_bind_s hf
    refine ab_Ex.call (d := d + 4) (M2 := 175) (as := [.long ((x1 : Int32).toInt64), .long 0, .long 1]) (rest := []) (fun n => rfl) rfl (Nat.not_lt.mpr (Nat.le_of_ble_eq_true rfl)) (sX12_within (d + 4) X ((x1 : Int32).toInt64) 0 1 (ab_wI h 64 0 0) _ hr3) (fun r hr => ?_)
    subst hr
    show ab_Ex X (d + 5) 259 21 [(0, .ref 64), (1, .int x0), (2, .int x1)] [.int r3] ab_SH (ab_dD (ab_wI h 64 0 0)) _
    refine ab_Ex.ifc (c := r3 = 0) (SA := (24, [(0, .ref 64), (1, .int x0), (2, .int x1)], [], ab_dD (ab_wI h 64 0 0))) (SB := (27, [(0, .ref 64), (1, .int x0), (2, .int x1)], [], ab_dD (ab_wI h 64 0 0))) (fun n => rfl) (fun c4 => ?_) (fun c4 => ?_)
    · replace hf := (if_pos c4).symm.trans hf
      refine ab_Ex.blk (k := 1) (pc' := 26) (lv' := []) (st' := [.int ((-2))]) (sh' := ab_SH) (D' := ab_dD (ab_wI h 64 0 0)) (fun n => rfl) ?_
      obtain rfl := Option.some.inj hf
      exact ab_Ex.ret (fun n => rfl) rfl
    · replace hf := (if_neg c4).symm.trans hf
      refine ab_Ex.blk (k := 1) (pc' := 28) (lv' := [(0, .ref 64), (1, .int x0), (2, .int x1)]) (st' := [.ref 64]) (sh' := ab_SH) (D' := ab_dD (ab_wI h 64 0 0)) (fun n => rfl) ?_
      obtain ⟨r5, hr5, hf⟩ := ab_bind_s hf
      refine ab_Ex.call (d := d + 4) (M2 := 258) (as := [.ref 64]) (rest := []) (fun n => rfl) rfl (Nat.not_lt.mpr (Nat.le_of_ble_eq_true rfl)) (sX12_laysCost (d) X  (ab_wI h 64 0 0) _ hr5) (fun r hr => ?_)
      subst hr
      show ab_Ex X (d + 5) 259 31 [(0, .ref 64), (1, .int x0), (2, .int x1)] [] ab_SH (ab_dD r5) _
      refine ab_Ex.blk (k := 4) (pc' := 38) (lv' := [(0, .ref 64), (2, .int x1), (3, .int 268435456), (4, .int x0)]) (st' := []) (sh' := ab_SH) (D' := ab_dD r5) (fun n => rfl) ?_
      exact sX12_hands_L38 d X  ab_N x1 268435456 x0 r5 _ hf
def fX12_laysFilling_J62  (k17 : Int32 → Int32 → Int32 → abJ → Option abJ) (y1 : Int32) (y2 : Int32) (y4 : Int32) (h : abJ) : Option abJ := if y4 = (h.1 64 22) then some h else ab_ask (y4 < 0 ∨ 4375 ≤ (y4 : Int32).toNatClampNeg) (ab_ask (y4 < 0 ∨ 4375 ≤ (y4 : Int32).toNatClampNeg) (ab_ask ((h.1 64 26) < 0 ∨ 6 ≤ ((h.1 64 26) : Int32).toNatClampNeg) (ab_ask (y4 < 0 ∨ 4375 ≤ (y4 : Int32).toNatClampNeg) (k17 y1 ((y2 ||| ((1 : Int32) <<< (((h.1 72 (y4 : Int32).toNatClampNeg) - (h.1 72 (y4 : Int32).toNatClampNeg) / 6 * 6) &&& 31)))) ((((ab_wI (ab_wI (ab_wI h 75 ((h.1 64 26) : Int32).toNatClampNeg ((h.1 72 (y4 : Int32).toNatClampNeg) - (h.1 72 (y4 : Int32).toNatClampNeg) / 6 * 6)) 64 26 ((((ab_wI h 75 ((h.1 64 26) : Int32).toNatClampNeg ((h.1 72 (y4 : Int32).toNatClampNeg) - (h.1 72 (y4 : Int32).toNatClampNeg) / 6 * 6))).1 64 26) + 1)) 64 27 ((((ab_wI (ab_wI h 75 ((h.1 64 26) : Int32).toNatClampNeg ((h.1 72 (y4 : Int32).toNatClampNeg) - (h.1 72 (y4 : Int32).toNatClampNeg) / 6 * 6)) 64 26 ((((ab_wI h 75 ((h.1 64 26) : Int32).toNatClampNeg ((h.1 72 (y4 : Int32).toNatClampNeg) - (h.1 72 (y4 : Int32).toNatClampNeg) / 6 * 6))).1 64 26) + 1))).1 64 27) + y4)).1 72 (y4 : Int32).toNatClampNeg) / 6)) (ab_wI (ab_wI (ab_wI h 75 ((h.1 64 26) : Int32).toNatClampNeg ((h.1 72 (y4 : Int32).toNatClampNeg) - (h.1 72 (y4 : Int32).toNatClampNeg) / 6 * 6)) 64 26 ((((ab_wI h 75 ((h.1 64 26) : Int32).toNatClampNeg ((h.1 72 (y4 : Int32).toNatClampNeg) - (h.1 72 (y4 : Int32).toNatClampNeg) / 6 * 6))).1 64 26) + 1)) 64 27 ((((ab_wI (ab_wI h 75 ((h.1 64 26) : Int32).toNatClampNeg ((h.1 72 (y4 : Int32).toNatClampNeg) - (h.1 72 (y4 : Int32).toNatClampNeg) / 6 * 6)) 64 26 ((((ab_wI h 75 ((h.1 64 26) : Int32).toNatClampNeg ((h.1 72 (y4 : Int32).toNatClampNeg) - (h.1 72 (y4 : Int32).toNatClampNeg) / 6 * 6))).1 64 26) + 1))).1 64 27) + y4))))))
def fX12_laysFilling_L29  (k17 : Int32 → Int32 → Int32 → abJ → Option abJ) : Nat → Int32 → Int32 → Int32 → abJ → Option abJ
  | 0, _, _, _, _ => none
  | n + 1, y1, y2, y4, h => if (h.1 64 22) ≤ y4 then fX12_laysFilling_J62 k17 y1 y2 y4 h else ab_ask (y4 < 0 ∨ 4375 ≤ (y4 : Int32).toNatClampNeg) ((fX12_isIn ((y2 : Int32).toInt64) (((h.1 72 (y4 : Int32).toNatClampNeg) - (h.1 72 (y4 : Int32).toNatClampNeg) / 6 * 6)) h).bind (fun r15 => if r15 = 0 then fX12_laysFilling_J62 k17 y1 y2 y4 h else fX12_laysFilling_L29 k17 n y1 y2 ((y4 + 1)) h))
def fX12_laysFilling_L17   : Nat → Int32 → Int32 → Int32 → abJ → Option abJ
  | 0, _, _, _, _ => none
  | n + 1, y1, y2, y3, h => (fX12_standOf y1 y3 h).bind (fun r2 => (fX12_laysLine r2 h).bind (fun r3 => fX12_laysFilling_L29 (fun y1 y2 y3 h => fX12_laysFilling_L17 n y1 y2 y3 h) ab_N y1 y2 0 r3))
def fX12_laysFilling (x0 : Int32) (h : abJ) : Option abJ := (fX12_armsNow h).bind (fun r1 => fX12_laysFilling_L17 ab_N x0 0 r1 (ab_wI (ab_wI h 64 26 0) 64 27 0))
set_option maxRecDepth 20000 in
theorem sX12_laysFilling_J62 (d : Nat) (X : abX) (k17 : Int32 → Int32 → Int32 → abJ → Option abJ) (hk17 : ∀ (y1 : Int32) (y2 : Int32) (y3 : Int32) (h : abJ) (z : abJ), k17 y1 y2 y3 h = some z → ab_Ex X (d + 5) 260 17 [(0, .ref 64), (1, .int y1), (2, .int y2), (3, .int y3)] [] ab_SH (ab_dD h) (fun r => r = (none, ab_SH, ab_dD z))) : ∀ (y1 : Int32) (y2 : Int32) (y4 : Int32) (h : abJ) (z : abJ), fX12_laysFilling_J62 k17 y1 y2 y4 h = some z → ab_Ex X (d + 5) 260 62 [(0, .ref 64), (1, .int y1), (2, .int y2), (4, .int y4)] [] ab_SH (ab_dD h) (fun r => r = (none, ab_SH, ab_dD z)) := by
  intro y1 y2 y4 h z hf
  unfold fX12_laysFilling_J62 at hf
  refine ab_Ex.blk (k := 3) (pc' := 68) (lv' := [(0, .ref 64), (1, .int y1), (2, .int y2), (4, .int y4)]) (st' := [.int ((h.1 64 22)), .int y4]) (sh' := ab_SH) (D' := ab_dD h) (fun n => rfl) ?_
  refine ab_Ex.ifc (c := y4 = (h.1 64 22)) (SA := (71, [(0, .ref 64), (1, .int y1), (2, .int y2), (4, .int y4)], [], ab_dD h)) (SB := (72, [(0, .ref 64), (1, .int y1), (2, .int y2), (4, .int y4)], [], ab_dD h)) (fun n => rfl) (fun c5 => ?_) (fun c5 => ?_)
  · replace hf := (if_pos c5).symm.trans hf
    obtain rfl := Option.some.inj hf
    exact ab_Ex.ret (fun n => rfl) rfl
  · replace hf := (if_neg c5).symm.trans hf
    refine ab_Ex.blk (k := 5) (pc' := 80) (lv' := [(0, .ref 64), (1, .int y1), (2, .int y2), (4, .int y4)]) (st' := [.int y4, .ref 72, .int 1, .int y2]) (sh' := ab_SH) (D' := ab_dD h) (fun n => rfl) ?_
    obtain ⟨c7, hf⟩ := ab_ask_s hf
    refine ab_Ex.grd (c := y4 < 0 ∨ 4375 ≤ (y4 : Int32).toNatClampNeg) (S := (81, [(0, .ref 64), (1, .int y1), (2, .int y2), (4, .int y4)], [.int ((h.1 72 (y4 : Int32).toNatClampNeg)), .int 1, .int y2], ab_dD h)) (fun n => rfl) c7 ?_
    refine ab_Ex.blk (k := 1) (pc' := 83) (lv' := [(0, .ref 64), (1, .int y1), (2, .int y2), (4, .int y4)]) (st' := [.int 6, .int ((h.1 72 (y4 : Int32).toNatClampNeg)), .int 1, .int y2]) (sh' := ab_SH) (D' := ab_dD h) (fun n => rfl) ?_
    refine ab_Ex.blk (k := 1) (pc' := 84) (lv' := [(0, .ref 64), (1, .int y1), (2, .int y2), (4, .int y4)]) (st' := [.int (((h.1 72 (y4 : Int32).toNatClampNeg) - (h.1 72 (y4 : Int32).toNatClampNeg) / 6 * 6)), .int 1, .int y2]) (sh' := ab_SH) (D' := ab_dD h) (fun n => rfl) ?_
    refine ab_Ex.blk (k := 10) (pc' := 101) (lv' := [(2, .int ((y2 ||| ((1 : Int32) <<< (((h.1 72 (y4 : Int32).toNatClampNeg) - (h.1 72 (y4 : Int32).toNatClampNeg) / 6 * 6) &&& 31))))), (0, .ref 64), (1, .int y1), (4, .int y4)]) (st' := [.int y4, .ref 72, .int ((h.1 64 26)), .ref 75]) (sh' := ab_SH) (D' := ab_dD h) (fun n => rfl) ?_
    obtain ⟨c9, hf⟩ := ab_ask_s hf
    refine ab_Ex.grd (c := y4 < 0 ∨ 4375 ≤ (y4 : Int32).toNatClampNeg) (S := (102, [(2, .int ((y2 ||| ((1 : Int32) <<< (((h.1 72 (y4 : Int32).toNatClampNeg) - (h.1 72 (y4 : Int32).toNatClampNeg) / 6 * 6) &&& 31))))), (0, .ref 64), (1, .int y1), (4, .int y4)], [.int ((h.1 72 (y4 : Int32).toNatClampNeg)), .int ((h.1 64 26)), .ref 75], ab_dD h)) (fun n => rfl) c9 ?_
    refine ab_Ex.blk (k := 1) (pc' := 104) (lv' := [(2, .int ((y2 ||| ((1 : Int32) <<< (((h.1 72 (y4 : Int32).toNatClampNeg) - (h.1 72 (y4 : Int32).toNatClampNeg) / 6 * 6) &&& 31))))), (0, .ref 64), (1, .int y1), (4, .int y4)]) (st' := [.int 6, .int ((h.1 72 (y4 : Int32).toNatClampNeg)), .int ((h.1 64 26)), .ref 75]) (sh' := ab_SH) (D' := ab_dD h) (fun n => rfl) ?_
    refine ab_Ex.blk (k := 1) (pc' := 105) (lv' := [(2, .int ((y2 ||| ((1 : Int32) <<< (((h.1 72 (y4 : Int32).toNatClampNeg) - (h.1 72 (y4 : Int32).toNatClampNeg) / 6 * 6) &&& 31))))), (0, .ref 64), (1, .int y1), (4, .int y4)]) (st' := [.int (((h.1 72 (y4 : Int32).toNatClampNeg) - (h.1 72 (y4 : Int32).toNatClampNeg) / 6 * 6)), .int ((h.1 64 26)), .ref 75]) (sh' := ab_SH) (D' := ab_dD h) (fun n => rfl) ?_
    obtain ⟨c10, hf⟩ := ab_ask_s hf
    refine ab_Ex.grd (c := (h.1 64 26) < 0 ∨ 6 ≤ ((h.1 64 26) : Int32).toNatClampNeg) (S := (106, [(2, .int ((y2 ||| ((1 : Int32) <<< (((h.1 72 (y4 : Int32).toNatClampNeg) - (h.1 72 (y4 : Int32).toNatClampNeg) / 6 * 6) &&& 31))))), (0, .ref 64), (1, .int y1), (4, .int y4)], [], ab_dD (ab_wI h 75 ((h.1 64 26) : Int32).toNatClampNeg ((h.1 72 (y4 : Int32).toNatClampNeg) - (h.1 72 (y4 : Int32).toNatClampNeg) / 6 * 6)))) (fun n => rfl) c10 ?_
    refine ab_Ex.blk (k := 15) (pc' := 133) (lv' := [(2, .int ((y2 ||| ((1 : Int32) <<< (((h.1 72 (y4 : Int32).toNatClampNeg) - (h.1 72 (y4 : Int32).toNatClampNeg) / 6 * 6) &&& 31))))), (0, .ref 64), (1, .int y1), (4, .int y4)]) (st' := [.int y4, .ref 72]) (sh' := ab_SH) (D' := ab_dD (ab_wI (ab_wI (ab_wI h 75 ((h.1 64 26) : Int32).toNatClampNeg ((h.1 72 (y4 : Int32).toNatClampNeg) - (h.1 72 (y4 : Int32).toNatClampNeg) / 6 * 6)) 64 26 ((((ab_wI h 75 ((h.1 64 26) : Int32).toNatClampNeg ((h.1 72 (y4 : Int32).toNatClampNeg) - (h.1 72 (y4 : Int32).toNatClampNeg) / 6 * 6))).1 64 26) + 1)) 64 27 ((((ab_wI (ab_wI h 75 ((h.1 64 26) : Int32).toNatClampNeg ((h.1 72 (y4 : Int32).toNatClampNeg) - (h.1 72 (y4 : Int32).toNatClampNeg) / 6 * 6)) 64 26 ((((ab_wI h 75 ((h.1 64 26) : Int32).toNatClampNeg ((h.1 72 (y4 : Int32).toNatClampNeg) - (h.1 72 (y4 : Int32).toNatClampNeg) / 6 * 6))).1 64 26) + 1))).1 64 27) + y4))) (fun n => rfl) ?_
    obtain ⟨c12, hf⟩ := ab_ask_s hf
    refine ab_Ex.grd (c := y4 < 0 ∨ 4375 ≤ (y4 : Int32).toNatClampNeg) (S := (134, [(2, .int ((y2 ||| ((1 : Int32) <<< (((h.1 72 (y4 : Int32).toNatClampNeg) - (h.1 72 (y4 : Int32).toNatClampNeg) / 6 * 6) &&& 31))))), (0, .ref 64), (1, .int y1), (4, .int y4)], [.int (((ab_wI (ab_wI (ab_wI h 75 ((h.1 64 26) : Int32).toNatClampNeg ((h.1 72 (y4 : Int32).toNatClampNeg) - (h.1 72 (y4 : Int32).toNatClampNeg) / 6 * 6)) 64 26 ((((ab_wI h 75 ((h.1 64 26) : Int32).toNatClampNeg ((h.1 72 (y4 : Int32).toNatClampNeg) - (h.1 72 (y4 : Int32).toNatClampNeg) / 6 * 6))).1 64 26) + 1)) 64 27 ((((ab_wI (ab_wI h 75 ((h.1 64 26) : Int32).toNatClampNeg ((h.1 72 (y4 : Int32).toNatClampNeg) - (h.1 72 (y4 : Int32).toNatClampNeg) / 6 * 6)) 64 26 ((((ab_wI h 75 ((h.1 64 26) : Int32).toNatClampNeg ((h.1 72 (y4 : Int32).toNatClampNeg) - (h.1 72 (y4 : Int32).toNatClampNeg) / 6 * 6))).1 64 26) + 1))).1 64 27) + y4)).1 72 (y4 : Int32).toNatClampNeg))], ab_dD (ab_wI (ab_wI (ab_wI h 75 ((h.1 64 26) : Int32).toNatClampNeg ((h.1 72 (y4 : Int32).toNatClampNeg) - (h.1 72 (y4 : Int32).toNatClampNeg) / 6 * 6)) 64 26 ((((ab_wI h 75 ((h.1 64 26) : Int32).toNatClampNeg ((h.1 72 (y4 : Int32).toNatClampNeg) - (h.1 72 (y4 : Int32).toNatClampNeg) / 6 * 6))).1 64 26) + 1)) 64 27 ((((ab_wI (ab_wI h 75 ((h.1 64 26) : Int32).toNatClampNeg ((h.1 72 (y4 : Int32).toNatClampNeg) - (h.1 72 (y4 : Int32).toNatClampNeg) / 6 * 6)) 64 26 ((((ab_wI h 75 ((h.1 64 26) : Int32).toNatClampNeg ((h.1 72 (y4 : Int32).toNatClampNeg) - (h.1 72 (y4 : Int32).toNatClampNeg) / 6 * 6))).1 64 26) + 1))).1 64 27) + y4)))) (fun n => rfl) c12 ?_
    refine ab_Ex.blk (k := 1) (pc' := 136) (lv' := [(2, .int ((y2 ||| ((1 : Int32) <<< (((h.1 72 (y4 : Int32).toNatClampNeg) - (h.1 72 (y4 : Int32).toNatClampNeg) / 6 * 6) &&& 31))))), (0, .ref 64), (1, .int y1), (4, .int y4)]) (st' := [.int 6, .int (((ab_wI (ab_wI (ab_wI h 75 ((h.1 64 26) : Int32).toNatClampNeg ((h.1 72 (y4 : Int32).toNatClampNeg) - (h.1 72 (y4 : Int32).toNatClampNeg) / 6 * 6)) 64 26 ((((ab_wI h 75 ((h.1 64 26) : Int32).toNatClampNeg ((h.1 72 (y4 : Int32).toNatClampNeg) - (h.1 72 (y4 : Int32).toNatClampNeg) / 6 * 6))).1 64 26) + 1)) 64 27 ((((ab_wI (ab_wI h 75 ((h.1 64 26) : Int32).toNatClampNeg ((h.1 72 (y4 : Int32).toNatClampNeg) - (h.1 72 (y4 : Int32).toNatClampNeg) / 6 * 6)) 64 26 ((((ab_wI h 75 ((h.1 64 26) : Int32).toNatClampNeg ((h.1 72 (y4 : Int32).toNatClampNeg) - (h.1 72 (y4 : Int32).toNatClampNeg) / 6 * 6))).1 64 26) + 1))).1 64 27) + y4)).1 72 (y4 : Int32).toNatClampNeg))]) (sh' := ab_SH) (D' := ab_dD (ab_wI (ab_wI (ab_wI h 75 ((h.1 64 26) : Int32).toNatClampNeg ((h.1 72 (y4 : Int32).toNatClampNeg) - (h.1 72 (y4 : Int32).toNatClampNeg) / 6 * 6)) 64 26 ((((ab_wI h 75 ((h.1 64 26) : Int32).toNatClampNeg ((h.1 72 (y4 : Int32).toNatClampNeg) - (h.1 72 (y4 : Int32).toNatClampNeg) / 6 * 6))).1 64 26) + 1)) 64 27 ((((ab_wI (ab_wI h 75 ((h.1 64 26) : Int32).toNatClampNeg ((h.1 72 (y4 : Int32).toNatClampNeg) - (h.1 72 (y4 : Int32).toNatClampNeg) / 6 * 6)) 64 26 ((((ab_wI h 75 ((h.1 64 26) : Int32).toNatClampNeg ((h.1 72 (y4 : Int32).toNatClampNeg) - (h.1 72 (y4 : Int32).toNatClampNeg) / 6 * 6))).1 64 26) + 1))).1 64 27) + y4))) (fun n => rfl) ?_
    refine ab_Ex.blk (k := 1) (pc' := 137) (lv' := [(2, .int ((y2 ||| ((1 : Int32) <<< (((h.1 72 (y4 : Int32).toNatClampNeg) - (h.1 72 (y4 : Int32).toNatClampNeg) / 6 * 6) &&& 31))))), (0, .ref 64), (1, .int y1), (4, .int y4)]) (st' := [.int ((((ab_wI (ab_wI (ab_wI h 75 ((h.1 64 26) : Int32).toNatClampNeg ((h.1 72 (y4 : Int32).toNatClampNeg) - (h.1 72 (y4 : Int32).toNatClampNeg) / 6 * 6)) 64 26 ((((ab_wI h 75 ((h.1 64 26) : Int32).toNatClampNeg ((h.1 72 (y4 : Int32).toNatClampNeg) - (h.1 72 (y4 : Int32).toNatClampNeg) / 6 * 6))).1 64 26) + 1)) 64 27 ((((ab_wI (ab_wI h 75 ((h.1 64 26) : Int32).toNatClampNeg ((h.1 72 (y4 : Int32).toNatClampNeg) - (h.1 72 (y4 : Int32).toNatClampNeg) / 6 * 6)) 64 26 ((((ab_wI h 75 ((h.1 64 26) : Int32).toNatClampNeg ((h.1 72 (y4 : Int32).toNatClampNeg) - (h.1 72 (y4 : Int32).toNatClampNeg) / 6 * 6))).1 64 26) + 1))).1 64 27) + y4)).1 72 (y4 : Int32).toNatClampNeg) / 6))]) (sh' := ab_SH) (D' := ab_dD (ab_wI (ab_wI (ab_wI h 75 ((h.1 64 26) : Int32).toNatClampNeg ((h.1 72 (y4 : Int32).toNatClampNeg) - (h.1 72 (y4 : Int32).toNatClampNeg) / 6 * 6)) 64 26 ((((ab_wI h 75 ((h.1 64 26) : Int32).toNatClampNeg ((h.1 72 (y4 : Int32).toNatClampNeg) - (h.1 72 (y4 : Int32).toNatClampNeg) / 6 * 6))).1 64 26) + 1)) 64 27 ((((ab_wI (ab_wI h 75 ((h.1 64 26) : Int32).toNatClampNeg ((h.1 72 (y4 : Int32).toNatClampNeg) - (h.1 72 (y4 : Int32).toNatClampNeg) / 6 * 6)) 64 26 ((((ab_wI h 75 ((h.1 64 26) : Int32).toNatClampNeg ((h.1 72 (y4 : Int32).toNatClampNeg) - (h.1 72 (y4 : Int32).toNatClampNeg) / 6 * 6))).1 64 26) + 1))).1 64 27) + y4))) (fun n => rfl) ?_
    refine ab_Ex.blk (k := 2) (pc' := 17) (lv' := [(0, .ref 64), (1, .int y1), (2, .int ((y2 ||| ((1 : Int32) <<< (((h.1 72 (y4 : Int32).toNatClampNeg) - (h.1 72 (y4 : Int32).toNatClampNeg) / 6 * 6) &&& 31))))), (3, .int ((((ab_wI (ab_wI (ab_wI h 75 ((h.1 64 26) : Int32).toNatClampNeg ((h.1 72 (y4 : Int32).toNatClampNeg) - (h.1 72 (y4 : Int32).toNatClampNeg) / 6 * 6)) 64 26 ((((ab_wI h 75 ((h.1 64 26) : Int32).toNatClampNeg ((h.1 72 (y4 : Int32).toNatClampNeg) - (h.1 72 (y4 : Int32).toNatClampNeg) / 6 * 6))).1 64 26) + 1)) 64 27 ((((ab_wI (ab_wI h 75 ((h.1 64 26) : Int32).toNatClampNeg ((h.1 72 (y4 : Int32).toNatClampNeg) - (h.1 72 (y4 : Int32).toNatClampNeg) / 6 * 6)) 64 26 ((((ab_wI h 75 ((h.1 64 26) : Int32).toNatClampNeg ((h.1 72 (y4 : Int32).toNatClampNeg) - (h.1 72 (y4 : Int32).toNatClampNeg) / 6 * 6))).1 64 26) + 1))).1 64 27) + y4)).1 72 (y4 : Int32).toNatClampNeg) / 6)))]) (st' := []) (sh' := ab_SH) (D' := ab_dD (ab_wI (ab_wI (ab_wI h 75 ((h.1 64 26) : Int32).toNatClampNeg ((h.1 72 (y4 : Int32).toNatClampNeg) - (h.1 72 (y4 : Int32).toNatClampNeg) / 6 * 6)) 64 26 ((((ab_wI h 75 ((h.1 64 26) : Int32).toNatClampNeg ((h.1 72 (y4 : Int32).toNatClampNeg) - (h.1 72 (y4 : Int32).toNatClampNeg) / 6 * 6))).1 64 26) + 1)) 64 27 ((((ab_wI (ab_wI h 75 ((h.1 64 26) : Int32).toNatClampNeg ((h.1 72 (y4 : Int32).toNatClampNeg) - (h.1 72 (y4 : Int32).toNatClampNeg) / 6 * 6)) 64 26 ((((ab_wI h 75 ((h.1 64 26) : Int32).toNatClampNeg ((h.1 72 (y4 : Int32).toNatClampNeg) - (h.1 72 (y4 : Int32).toNatClampNeg) / 6 * 6))).1 64 26) + 1))).1 64 27) + y4))) (fun n => rfl) ?_
    exact hk17 y1 ((y2 ||| ((1 : Int32) <<< (((h.1 72 (y4 : Int32).toNatClampNeg) - (h.1 72 (y4 : Int32).toNatClampNeg) / 6 * 6) &&& 31)))) ((((ab_wI (ab_wI (ab_wI h 75 ((h.1 64 26) : Int32).toNatClampNeg ((h.1 72 (y4 : Int32).toNatClampNeg) - (h.1 72 (y4 : Int32).toNatClampNeg) / 6 * 6)) 64 26 ((((ab_wI h 75 ((h.1 64 26) : Int32).toNatClampNeg ((h.1 72 (y4 : Int32).toNatClampNeg) - (h.1 72 (y4 : Int32).toNatClampNeg) / 6 * 6))).1 64 26) + 1)) 64 27 ((((ab_wI (ab_wI h 75 ((h.1 64 26) : Int32).toNatClampNeg ((h.1 72 (y4 : Int32).toNatClampNeg) - (h.1 72 (y4 : Int32).toNatClampNeg) / 6 * 6)) 64 26 ((((ab_wI h 75 ((h.1 64 26) : Int32).toNatClampNeg ((h.1 72 (y4 : Int32).toNatClampNeg) - (h.1 72 (y4 : Int32).toNatClampNeg) / 6 * 6))).1 64 26) + 1))).1 64 27) + y4)).1 72 (y4 : Int32).toNatClampNeg) / 6)) (ab_wI (ab_wI (ab_wI h 75 ((h.1 64 26) : Int32).toNatClampNeg ((h.1 72 (y4 : Int32).toNatClampNeg) - (h.1 72 (y4 : Int32).toNatClampNeg) / 6 * 6)) 64 26 ((((ab_wI h 75 ((h.1 64 26) : Int32).toNatClampNeg ((h.1 72 (y4 : Int32).toNatClampNeg) - (h.1 72 (y4 : Int32).toNatClampNeg) / 6 * 6))).1 64 26) + 1)) 64 27 ((((ab_wI (ab_wI h 75 ((h.1 64 26) : Int32).toNatClampNeg ((h.1 72 (y4 : Int32).toNatClampNeg) - (h.1 72 (y4 : Int32).toNatClampNeg) / 6 * 6)) 64 26 ((((ab_wI h 75 ((h.1 64 26) : Int32).toNatClampNeg ((h.1 72 (y4 : Int32).toNatClampNeg) - (h.1 72 (y4 : Int32).toNatClampNeg) / 6 * 6))).1 64 26) + 1))).1 64 27) + y4)) _ hf
set_option maxRecDepth 20000 in
theorem sX12_laysFilling_L29 (d : Nat) (X : abX) (k17 : Int32 → Int32 → Int32 → abJ → Option abJ) (hk17 : ∀ (y1 : Int32) (y2 : Int32) (y3 : Int32) (h : abJ) (z : abJ), k17 y1 y2 y3 h = some z → ab_Ex X (d + 5) 260 17 [(0, .ref 64), (1, .int y1), (2, .int y2), (3, .int y3)] [] ab_SH (ab_dD h) (fun r => r = (none, ab_SH, ab_dD z))) : ∀ (n : Nat), ∀ (y1 : Int32) (y2 : Int32) (y4 : Int32) (h : abJ) (z : abJ), fX12_laysFilling_L29 k17 n y1 y2 y4 h = some z → ab_Ex X (d + 5) 260 29 [(0, .ref 64), (1, .int y1), (2, .int y2), (4, .int y4)] [] ab_SH (ab_dD h) (fun r => r = (none, ab_SH, ab_dD z)) := by
  intro n
  induction n with
  | zero => intro y1 y2 y4 h z hf; cases hf
  | succ n ih =>
    intro y1 y2 y4 h z hf
    rw [fX12_laysFilling_L29] at hf
    refine ab_Ex.blk (k := 3) (pc' := 35) (lv' := [(0, .ref 64), (1, .int y1), (2, .int y2), (4, .int y4)]) (st' := [.int ((h.1 64 22)), .int y4]) (sh' := ab_SH) (D' := ab_dD h) (fun n => rfl) ?_
    refine ab_Ex.ifc (c := (h.1 64 22) ≤ y4) (SA := (62, [(0, .ref 64), (1, .int y1), (2, .int y2), (4, .int y4)], [], ab_dD h)) (SB := (38, [(0, .ref 64), (1, .int y1), (2, .int y2), (4, .int y4)], [], ab_dD h)) (fun n => rfl) (fun c4 => ?_) (fun c4 => ?_)
    · replace hf := (if_pos c4).symm.trans hf
      exact sX12_laysFilling_J62 d X k17 hk17 y1 y2 y4 h _ hf
    · replace hf := (if_neg c4).symm.trans hf
      refine ab_Ex.blk (k := 5) (pc' := 46) (lv' := [(0, .ref 64), (1, .int y1), (2, .int y2), (4, .int y4)]) (st' := [.int y4, .ref 72, .long ((y2 : Int32).toInt64)]) (sh' := ab_SH) (D' := ab_dD h) (fun n => rfl) ?_
      obtain ⟨c14, hf⟩ := ab_ask_s hf
      refine ab_Ex.grd (c := y4 < 0 ∨ 4375 ≤ (y4 : Int32).toNatClampNeg) (S := (47, [(0, .ref 64), (1, .int y1), (2, .int y2), (4, .int y4)], [.int ((h.1 72 (y4 : Int32).toNatClampNeg)), .long ((y2 : Int32).toInt64)], ab_dD h)) (fun n => rfl) c14 ?_
      refine ab_Ex.blk (k := 1) (pc' := 49) (lv' := [(0, .ref 64), (1, .int y1), (2, .int y2), (4, .int y4)]) (st' := [.int 6, .int ((h.1 72 (y4 : Int32).toNatClampNeg)), .long ((y2 : Int32).toInt64)]) (sh' := ab_SH) (D' := ab_dD h) (fun n => rfl) ?_
      refine ab_Ex.blk (k := 1) (pc' := 50) (lv' := [(0, .ref 64), (1, .int y1), (2, .int y2), (4, .int y4)]) (st' := [.int (((h.1 72 (y4 : Int32).toNatClampNeg) - (h.1 72 (y4 : Int32).toNatClampNeg) / 6 * 6)), .long ((y2 : Int32).toInt64)]) (sh' := ab_SH) (D' := ab_dD h) (fun n => rfl) ?_
      obtain ⟨r15, hr15, hf⟩ := ab_bind_s hf
      refine ab_Ex.call (d := d + 4) (M2 := 188) (as := [.long ((y2 : Int32).toInt64), .int (((h.1 72 (y4 : Int32).toNatClampNeg) - (h.1 72 (y4 : Int32).toNatClampNeg) / 6 * 6))]) (rest := []) (fun n => rfl) rfl (Nat.not_lt.mpr (Nat.le_of_ble_eq_true rfl)) (sX12_isIn (d + 4) X ((y2 : Int32).toInt64) (((h.1 72 (y4 : Int32).toNatClampNeg) - (h.1 72 (y4 : Int32).toNatClampNeg) / 6 * 6)) h _ hr15) (fun r hr => ?_)
      subst hr
      show ab_Ex X (d + 5) 260 53 [(0, .ref 64), (1, .int y1), (2, .int y2), (4, .int y4)] [.int r15] ab_SH (ab_dD h) _
      refine ab_Ex.ifc (c := r15 = 0) (SA := (62, [(0, .ref 64), (1, .int y1), (2, .int y2), (4, .int y4)], [], ab_dD h)) (SB := (56, [(0, .ref 64), (1, .int y1), (2, .int y2), (4, .int y4)], [], ab_dD h)) (fun n => rfl) (fun c16 => ?_) (fun c16 => ?_)
      · replace hf := (if_pos c16).symm.trans hf
        exact sX12_laysFilling_J62 d X k17 hk17 y1 y2 y4 h _ hf
      · replace hf := (if_neg c16).symm.trans hf
        refine ab_Ex.blk (k := 2) (pc' := 29) (lv' := [(0, .ref 64), (1, .int y1), (2, .int y2), (4, .int ((y4 + 1)))]) (st' := []) (sh' := ab_SH) (D' := ab_dD h) (fun n => rfl) ?_
        exact ih y1 y2 ((y4 + 1)) h _ hf
set_option maxRecDepth 20000 in
theorem sX12_laysFilling_L17 (d : Nat) (X : abX)   : ∀ (n : Nat), ∀ (y1 : Int32) (y2 : Int32) (y3 : Int32) (h : abJ) (z : abJ), fX12_laysFilling_L17 n y1 y2 y3 h = some z → ab_Ex X (d + 5) 260 17 [(0, .ref 64), (1, .int y1), (2, .int y2), (3, .int y3)] [] ab_SH (ab_dD h) (fun r => r = (none, ab_SH, ab_dD z)) := by
  intro n
  induction n with
  | zero => intro y1 y2 y3 h z hf; cases hf
  | succ n ih =>
    intro y1 y2 y3 h z hf
    rw [fX12_laysFilling_L17] at hf
    refine ab_Ex.blk (k := 3) (pc' := 20) (lv' := [(0, .ref 64), (1, .int y1), (2, .int y2), (3, .int y3)]) (st' := [.int y3, .int y1, .ref 64]) (sh' := ab_SH) (D' := ab_dD h) (fun n => rfl) ?_
    obtain ⟨r2, hr2, hf⟩ := ab_bind_s hf
    refine ab_Ex.call (d := d + 4) (M2 := 215) (as := [.int y1, .int y3]) (rest := [.ref 64]) (fun n => rfl) rfl (Nat.not_lt.mpr (Nat.le_of_ble_eq_true rfl)) (sX12_standOf (d + 4) X y1 y3 h _ hr2) (fun r hr => ?_)
    subst hr
    show ab_Ex X (d + 5) 260 23 [(0, .ref 64), (1, .int y1), (2, .int y2), (3, .int y3)] [.int r2, .ref 64] ab_SH (ab_dD h) _
    obtain ⟨r3, hr3, hf⟩ := ab_bind_s hf
    refine ab_Ex.call (d := d + 4) (M2 := 247) (as := [.ref 64, .int r2]) (rest := []) (fun n => rfl) rfl (Nat.not_lt.mpr (Nat.le_of_ble_eq_true rfl)) (sX12_laysLine (d) X r2 h _ hr3) (fun r hr => ?_)
    subst hr
    show ab_Ex X (d + 5) 260 26 [(0, .ref 64), (1, .int y1), (2, .int y2), (3, .int y3)] [] ab_SH (ab_dD r3) _
    refine ab_Ex.blk (k := 2) (pc' := 29) (lv' := [(0, .ref 64), (1, .int y1), (2, .int y2), (4, .int 0)]) (st' := []) (sh' := ab_SH) (D' := ab_dD r3) (fun n => rfl) ?_
    exact sX12_laysFilling_L29 d X (fun y1 y2 y3 h => fX12_laysFilling_L17 n y1 y2 y3 h) (fun y1 y2 y3 h z hz => ih y1 y2 y3 h z hz) ab_N y1 y2 0 r3 _ hf
set_option maxRecDepth 20000 in
theorem sX12_laysFilling (d : Nat) (X : abX) (x0 : Int32) (h : abJ) (z : abJ) (hf : fX12_laysFilling x0 h = some z) : ab_Ex X (d + 5) 260 0 [(0, .ref 64), (1, .int x0)] [] ab_SH (ab_dD h) (fun r => r = (none, ab_SH, ab_dD z)) := by
  unfold fX12_laysFilling at hf
  refine ab_Ex.blk (k := 3) (pc' := 3) (lv' := [(2, .int 0), (0, .ref 64), (1, .int x0)]) (st' := [.ref 64]) (sh' := ab_SH) (D' := ab_dD h) (fun n => rfl) ?_
  obtain ⟨r1, hr1, hf⟩ := ab_bind_s hf
  refine ab_Ex.call (d := d + 4) (M2 := 214) (as := [.ref 64]) (rest := []) (fun n => rfl) rfl (Nat.not_lt.mpr (Nat.le_of_ble_eq_true rfl)) (sX12_armsNow (d + 3) X  h _ hr1) (fun r hr => ?_)
  subst hr
  show ab_Ex X (d + 5) 260 6 [(2, .int 0), (0, .ref 64), (1, .int x0)] [.int r1] ab_SH (ab_dD h) _
  refine ab_Ex.blk (k := 7) (pc' := 17) (lv' := [(0, .ref 64), (1, .int x0), (2, .int 0), (3, .int r1)]) (st' := []) (sh' := ab_SH) (D' := ab_dD (ab_wI (ab_wI h 64 26 0) 64 27 0)) (fun n => rfl) ?_
  exact sX12_laysFilling_L17 d X  ab_N x0 0 r1 (ab_wI (ab_wI h 64 26 0) 64 27 0) _ hf
def fX12_fills (x0 : Int32) (x1 : Int32) (h : abJ) : Option (Int32 × abJ) := (fX12_isPost ((x0 : Int32).toInt64) (ab_wI h 64 0 0)).bind (fun r1 => if r1 = 0 then some ((-2), (ab_wI h 64 0 0)) else if 0 ≤ x1 then (fX12_laysFilling x0 (ab_wI h 64 0 0)).bind (fun r4 => if ((r4).1 64 26) ≤ x1 then some ((-1), r4) else ab_ask (x1 < 0 ∨ 6 ≤ (x1 : Int32).toNatClampNeg) (some ((r4.1 75 (x1 : Int32).toNatClampNeg), r4))) else some ((-3), (ab_wI h 64 0 0)))
set_option maxRecDepth 20000 in
theorem sX12_fills (d : Nat) (X : abX) (x0 : Int32) (x1 : Int32) (h : abJ) (z : (Int32 × abJ)) (hf : fX12_fills x0 x1 h = some z) : ab_Ex X (d + 6) 261 0 [(0, .ref 64), (1, .int x0), (2, .int x1)] [] ab_SH (ab_dD h) (fun r => r = (some (.int z.1), ab_SH, ab_dD z.2)) := by
  unfold fX12_fills at hf
  refine ab_Ex.blk (k := 6) (pc' := 8) (lv' := [(0, .ref 64), (1, .int x0), (2, .int x1)]) (st' := [.long ((x0 : Int32).toInt64), .ref 64]) (sh' := ab_SH) (D' := ab_dD (ab_wI h 64 0 0)) (fun n => rfl) ?_
  obtain ⟨r1, hr1, hf⟩ := ab_bind_s hf
  refine ab_Ex.call (d := d + 5) (M2 := 209) (as := [.ref 64, .long ((x0 : Int32).toInt64)]) (rest := []) (fun n => rfl) rfl (Nat.not_lt.mpr (Nat.le_of_ble_eq_true rfl)) (sX12_isPost (d + 4) X ((x0 : Int32).toInt64) (ab_wI h 64 0 0) _ hr1) (fun r hr => ?_)
  subst hr
  show ab_Ex X (d + 6) 261 11 [(0, .ref 64), (1, .int x0), (2, .int x1)] [.int r1] ab_SH (ab_dD (ab_wI h 64 0 0)) _
  refine ab_Ex.ifc (c := r1 = 0) (SA := (14, [(0, .ref 64), (1, .int x0), (2, .int x1)], [], ab_dD (ab_wI h 64 0 0))) (SB := (17, [(0, .ref 64), (1, .int x0), (2, .int x1)], [], ab_dD (ab_wI h 64 0 0))) (fun n => rfl) (fun c2 => ?_) (fun c2 => ?_)
  · replace hf := (if_pos c2).symm.trans hf
    refine ab_Ex.blk (k := 1) (pc' := 16) (lv' := [(0, .ref 64), (1, .int x0), (2, .int x1)]) (st' := [.int ((-2))]) (sh' := ab_SH) (D' := ab_dD (ab_wI h 64 0 0)) (fun n => rfl) ?_
    obtain rfl := Option.some.inj hf
    exact ab_Ex.ret (fun n => rfl) rfl
  · replace hf := (if_neg c2).symm.trans hf
    refine ab_Ex.blk (k := 1) (pc' := 18) (lv' := [(0, .ref 64), (1, .int x0), (2, .int x1)]) (st' := [.int x1]) (sh' := ab_SH) (D' := ab_dD (ab_wI h 64 0 0)) (fun n => rfl) ?_
    refine ab_Ex.ifc (c := 0 ≤ x1) (SA := (24, [(0, .ref 64), (1, .int x0), (2, .int x1)], [], ab_dD (ab_wI h 64 0 0))) (SB := (21, [(0, .ref 64), (1, .int x0), (2, .int x1)], [], ab_dD (ab_wI h 64 0 0))) (fun n => rfl) (fun c3 => ?_) (fun c3 => ?_)
    · replace hf := (if_pos c3).symm.trans hf
      refine ab_Ex.blk (k := 2) (pc' := 26) (lv' := [(0, .ref 64), (1, .int x0), (2, .int x1)]) (st' := [.int x0, .ref 64]) (sh' := ab_SH) (D' := ab_dD (ab_wI h 64 0 0)) (fun n => rfl) ?_
      obtain ⟨r4, hr4, hf⟩ := ab_bind_s hf
      refine ab_Ex.call (d := d + 5) (M2 := 260) (as := [.ref 64, .int x0]) (rest := []) (fun n => rfl) rfl (Nat.not_lt.mpr (Nat.le_of_ble_eq_true rfl)) (sX12_laysFilling (d) X x0 (ab_wI h 64 0 0) _ hr4) (fun r hr => ?_)
      subst hr
      show ab_Ex X (d + 6) 261 29 [(0, .ref 64), (1, .int x0), (2, .int x1)] [] ab_SH (ab_dD r4) _
      refine ab_Ex.blk (k := 3) (pc' := 34) (lv' := [(0, .ref 64), (1, .int x0), (2, .int x1)]) (st' := [.int (((r4).1 64 26)), .int x1]) (sh' := ab_SH) (D' := ab_dD r4) (fun n => rfl) ?_
      refine ab_Ex.ifc (c := ((r4).1 64 26) ≤ x1) (SA := (46, [(0, .ref 64), (1, .int x0), (2, .int x1)], [], ab_dD r4)) (SB := (37, [(0, .ref 64), (1, .int x0), (2, .int x1)], [], ab_dD r4)) (fun n => rfl) (fun c5 => ?_) (fun c5 => ?_)
      · replace hf := (if_pos c5).symm.trans hf
        refine ab_Ex.blk (k := 1) (pc' := 47) (lv' := []) (st' := [.int ((-1))]) (sh' := ab_SH) (D' := ab_dD r4) (fun n => rfl) ?_
        obtain rfl := Option.some.inj hf
        exact ab_Ex.ret (fun n => rfl) rfl
      · replace hf := (if_neg c5).symm.trans hf
        refine ab_Ex.blk (k := 3) (pc' := 42) (lv' := [(0, .ref 64), (1, .int x0), (2, .int x1)]) (st' := [.int x1, .ref 75]) (sh' := ab_SH) (D' := ab_dD r4) (fun n => rfl) ?_
        obtain ⟨c7, hf⟩ := ab_ask_s hf
        refine ab_Ex.grd (c := x1 < 0 ∨ 6 ≤ (x1 : Int32).toNatClampNeg) (S := (43, [(0, .ref 64), (1, .int x0), (2, .int x1)], [.int ((r4.1 75 (x1 : Int32).toNatClampNeg))], ab_dD r4)) (fun n => rfl) c7 ?_
        refine ab_Ex.blk (k := 1) (pc' := 47) (lv' := []) (st' := [.int ((r4.1 75 (x1 : Int32).toNatClampNeg))]) (sh' := ab_SH) (D' := ab_dD r4) (fun n => rfl) ?_
        obtain rfl := Option.some.inj hf
        exact ab_Ex.ret (fun n => rfl) rfl
    · replace hf := (if_neg c3).symm.trans hf
      refine ab_Ex.blk (k := 1) (pc' := 23) (lv' := [(0, .ref 64), (1, .int x0), (2, .int x1)]) (st' := [.int ((-3))]) (sh' := ab_SH) (D' := ab_dD (ab_wI h 64 0 0)) (fun n => rfl) ?_
      obtain rfl := Option.some.inj hf
      exact ab_Ex.ret (fun n => rfl) rfl
def fX12_filling (x0 : Int32) (h : abJ) : Option (Int32 × abJ) := (fX12_isPost ((x0 : Int32).toInt64) (ab_wI h 64 0 0)).bind (fun r1 => if r1 = 0 then some ((-2), (ab_wI h 64 0 0)) else (fX12_laysFilling x0 (ab_wI h 64 0 0)).bind (fun r3 => some (((r3).1 64 27), r3)))
set_option maxRecDepth 20000 in
theorem sX12_filling (d : Nat) (X : abX) (x0 : Int32) (h : abJ) (z : (Int32 × abJ)) (hf : fX12_filling x0 h = some z) : ab_Ex X (d + 6) 262 0 [(0, .ref 64), (1, .int x0)] [] ab_SH (ab_dD h) (fun r => r = (some (.int z.1), ab_SH, ab_dD z.2)) := by
  unfold fX12_filling at hf
  refine ab_Ex.blk (k := 6) (pc' := 8) (lv' := [(0, .ref 64), (1, .int x0)]) (st' := [.long ((x0 : Int32).toInt64), .ref 64]) (sh' := ab_SH) (D' := ab_dD (ab_wI h 64 0 0)) (fun n => rfl) ?_
  obtain ⟨r1, hr1, hf⟩ := ab_bind_s hf
  refine ab_Ex.call (d := d + 5) (M2 := 209) (as := [.ref 64, .long ((x0 : Int32).toInt64)]) (rest := []) (fun n => rfl) rfl (Nat.not_lt.mpr (Nat.le_of_ble_eq_true rfl)) (sX12_isPost (d + 4) X ((x0 : Int32).toInt64) (ab_wI h 64 0 0) _ hr1) (fun r hr => ?_)
  subst hr
  show ab_Ex X (d + 6) 262 11 [(0, .ref 64), (1, .int x0)] [.int r1] ab_SH (ab_dD (ab_wI h 64 0 0)) _
  refine ab_Ex.ifc (c := r1 = 0) (SA := (14, [(0, .ref 64), (1, .int x0)], [], ab_dD (ab_wI h 64 0 0))) (SB := (17, [(0, .ref 64), (1, .int x0)], [], ab_dD (ab_wI h 64 0 0))) (fun n => rfl) (fun c2 => ?_) (fun c2 => ?_)
  · replace hf := (if_pos c2).symm.trans hf
    refine ab_Ex.blk (k := 1) (pc' := 16) (lv' := [(0, .ref 64), (1, .int x0)]) (st' := [.int ((-2))]) (sh' := ab_SH) (D' := ab_dD (ab_wI h 64 0 0)) (fun n => rfl) ?_
    obtain rfl := Option.some.inj hf
    exact ab_Ex.ret (fun n => rfl) rfl
  · replace hf := (if_neg c2).symm.trans hf
    refine ab_Ex.blk (k := 2) (pc' := 19) (lv' := [(0, .ref 64), (1, .int x0)]) (st' := [.int x0, .ref 64]) (sh' := ab_SH) (D' := ab_dD (ab_wI h 64 0 0)) (fun n => rfl) ?_
    obtain ⟨r3, hr3, hf⟩ := ab_bind_s hf
    refine ab_Ex.call (d := d + 5) (M2 := 260) (as := [.ref 64, .int x0]) (rest := []) (fun n => rfl) rfl (Nat.not_lt.mpr (Nat.le_of_ble_eq_true rfl)) (sX12_laysFilling (d) X x0 (ab_wI h 64 0 0) _ hr3) (fun r hr => ?_)
    subst hr
    show ab_Ex X (d + 6) 262 22 [(0, .ref 64), (1, .int x0)] [] ab_SH (ab_dD r3) _
    refine ab_Ex.blk (k := 2) (pc' := 26) (lv' := [(0, .ref 64), (1, .int x0)]) (st' := [.int (((r3).1 64 27))]) (sh' := ab_SH) (D' := ab_dD r3) (fun n => rfl) ?_
    obtain rfl := Option.some.inj hf
    exact ab_Ex.ret (fun n => rfl) rfl
def fX12_noFeet_L34  (h : abJ)  : Nat → Int32 → Int32 → Option Int32
  | 0, _, _ => none
  | n + 1, y1, y3 => ab_ask (y1 < 0 ∨ 4 ≤ (y1 : Int32).toNatClampNeg) (if (h.1 86 (y1 : Int32).toNatClampNeg) ≤ y3 then some 0 else ab_ask (((40 * y1) + y3) < 0 ∨ 160 ≤ (((40 * y1) + y3) : Int32).toNatClampNeg) ((fX12_isPost ((h.2 87 (((40 * y1) + y3) : Int32).toNatClampNeg)) h).bind (fun r12 => if r12 = 0 then some (-3) else fX12_noFeet_L34 h n y1 ((y3 + 1)))))
def fX12_noFeet (x0 : Int32) (h : abJ) : Option Int32 := (fX12_noTray x0 h).bind (fun r1 => if r1 = 0 then ab_ask (x0 < 0 ∨ 4 ≤ (x0 : Int32).toNatClampNeg) ((fX12_within (((h.1 86 (x0 : Int32).toNatClampNeg) : Int32).toInt64) 1 8 h).bind (fun r5 => if r5 = 0 then some (-4) else fX12_noFeet_L34 h ab_N x0 0)) else some r1)
set_option maxRecDepth 20000 in
theorem sX12_noFeet_L34 (d : Nat) (X : abX) (h : abJ)   : ∀ (n : Nat), ∀ (y1 : Int32) (y3 : Int32) (z : Int32), fX12_noFeet_L34 h n y1 y3 = some z → ab_Ex X (d + 2) 263 34 [(0, .ref 64), (1, .int y1), (3, .int y3)] [] ab_SH (ab_dD h) (fun r => r = (some (.int z), ab_SH, ab_dD h)) := by
  intro n
  induction n with
  | zero => intro y1 y3 z hf; cases hf
  | succ n ih =>
    intro y1 y3 z hf
    rw [fX12_noFeet_L34] at hf
    refine ab_Ex.blk (k := 4) (pc' := 40) (lv' := [(0, .ref 64), (1, .int y1), (3, .int y3)]) (st' := [.int y1, .ref 86, .int y3]) (sh' := ab_SH) (D' := ab_dD h) (fun n => rfl) ?_
    obtain ⟨c8, hf⟩ := ab_ask_s hf
    refine ab_Ex.grd (c := y1 < 0 ∨ 4 ≤ (y1 : Int32).toNatClampNeg) (S := (41, [(0, .ref 64), (1, .int y1), (3, .int y3)], [.int ((h.1 86 (y1 : Int32).toNatClampNeg)), .int y3], ab_dD h)) (fun n => rfl) c8 ?_
    refine ab_Ex.ifc (c := (h.1 86 (y1 : Int32).toNatClampNeg) ≤ y3) (SA := (71, [(0, .ref 64), (1, .int y1), (3, .int y3)], [], ab_dD h)) (SB := (44, [(0, .ref 64), (1, .int y1), (3, .int y3)], [], ab_dD h)) (fun n => rfl) (fun c9 => ?_) (fun c9 => ?_)
    · replace hf := (if_pos c9).symm.trans hf
      refine ab_Ex.blk (k := 1) (pc' := 72) (lv' := [(0, .ref 64), (1, .int y1), (3, .int y3)]) (st' := [.int 0]) (sh' := ab_SH) (D' := ab_dD h) (fun n => rfl) ?_
      obtain rfl := Option.some.inj hf
      exact ab_Ex.ret (fun n => rfl) rfl
    · replace hf := (if_neg c9).symm.trans hf
      refine ab_Ex.blk (k := 8) (pc' := 55) (lv' := [(0, .ref 64), (1, .int y1), (3, .int y3)]) (st' := [.int (((40 * y1) + y3)), .ref 87, .ref 64]) (sh' := ab_SH) (D' := ab_dD h) (fun n => rfl) ?_
      obtain ⟨c11, hf⟩ := ab_ask_s hf
      refine ab_Ex.grd (c := ((40 * y1) + y3) < 0 ∨ 160 ≤ (((40 * y1) + y3) : Int32).toNatClampNeg) (S := (56, [(0, .ref 64), (1, .int y1), (3, .int y3)], [.long ((h.2 87 (((40 * y1) + y3) : Int32).toNatClampNeg)), .ref 64], ab_dD h)) (fun n => rfl) c11 ?_
      obtain ⟨r12, hr12, hf⟩ := ab_bind_s hf
      refine ab_Ex.call (d := d + 1) (M2 := 209) (as := [.ref 64, .long ((h.2 87 (((40 * y1) + y3) : Int32).toNatClampNeg))]) (rest := []) (fun n => rfl) rfl (Nat.not_lt.mpr (Nat.le_of_ble_eq_true rfl)) (sX12_isPost (d) X ((h.2 87 (((40 * y1) + y3) : Int32).toNatClampNeg)) h _ hr12) (fun r hr => ?_)
      subst hr
      show ab_Ex X (d + 2) 263 59 [(0, .ref 64), (1, .int y1), (3, .int y3)] [.int r12] ab_SH (ab_dD h) _
      refine ab_Ex.ifc (c := r12 = 0) (SA := (62, [(0, .ref 64), (1, .int y1), (3, .int y3)], [], ab_dD h)) (SB := (65, [(0, .ref 64), (1, .int y1), (3, .int y3)], [], ab_dD h)) (fun n => rfl) (fun c13 => ?_) (fun c13 => ?_)
      · replace hf := (if_pos c13).symm.trans hf
        refine ab_Ex.blk (k := 1) (pc' := 64) (lv' := [(0, .ref 64), (1, .int y1), (3, .int y3)]) (st' := [.int ((-3))]) (sh' := ab_SH) (D' := ab_dD h) (fun n => rfl) ?_
        obtain rfl := Option.some.inj hf
        exact ab_Ex.ret (fun n => rfl) rfl
      · replace hf := (if_neg c13).symm.trans hf
        refine ab_Ex.blk (k := 2) (pc' := 34) (lv' := [(0, .ref 64), (1, .int y1), (3, .int ((y3 + 1)))]) (st' := []) (sh' := ab_SH) (D' := ab_dD h) (fun n => rfl) ?_
        exact ih y1 ((y3 + 1)) _ hf
set_option maxRecDepth 20000 in
theorem sX12_noFeet (d : Nat) (X : abX) (x0 : Int32) (h : abJ) (z : Int32) (hf : fX12_noFeet x0 h = some z) : ab_Ex X (d + 2) 263 0 [(0, .ref 64), (1, .int x0)] [] ab_SH (ab_dD h) (fun r => r = (some (.int z), ab_SH, ab_dD h)) := by
  unfold fX12_noFeet at hf
  refine ab_Ex.blk (k := 2) (pc' := 2) (lv' := [(0, .ref 64), (1, .int x0)]) (st' := [.int x0, .ref 64]) (sh' := ab_SH) (D' := ab_dD h) (fun n => rfl) ?_
  obtain ⟨r1, hr1, hf⟩ := ab_bind_s hf
  refine ab_Ex.call (d := d + 1) (M2 := 241) (as := [.ref 64, .int x0]) (rest := []) (fun n => rfl) rfl (Nat.not_lt.mpr (Nat.le_of_ble_eq_true rfl)) (sX12_noTray (d) X x0 h _ hr1) (fun r hr => ?_)
  subst hr
  show ab_Ex X (d + 2) 263 5 [(0, .ref 64), (1, .int x0)] [.int r1] ab_SH (ab_dD h) _
  refine ab_Ex.blk (k := 2) (pc' := 7) (lv' := [(2, .int r1), (0, .ref 64), (1, .int x0)]) (st' := [.int r1]) (sh' := ab_SH) (D' := ab_dD h) (fun n => rfl) ?_
  refine ab_Ex.ifc (c := r1 = 0) (SA := (12, [(2, .int r1), (0, .ref 64), (1, .int x0)], [], ab_dD h)) (SB := (10, [(2, .int r1), (0, .ref 64), (1, .int x0)], [], ab_dD h)) (fun n => rfl) (fun c2 => ?_) (fun c2 => ?_)
  · replace hf := (if_pos c2).symm.trans hf
    refine ab_Ex.blk (k := 3) (pc' := 17) (lv' := [(2, .int r1), (0, .ref 64), (1, .int x0)]) (st' := [.int x0, .ref 86]) (sh' := ab_SH) (D' := ab_dD h) (fun n => rfl) ?_
    obtain ⟨c4, hf⟩ := ab_ask_s hf
    refine ab_Ex.grd (c := x0 < 0 ∨ 4 ≤ (x0 : Int32).toNatClampNeg) (S := (18, [(2, .int r1), (0, .ref 64), (1, .int x0)], [.int ((h.1 86 (x0 : Int32).toNatClampNeg))], ab_dD h)) (fun n => rfl) c4 ?_
    refine ab_Ex.blk (k := 3) (pc' := 23) (lv' := [(2, .int r1), (0, .ref 64), (1, .int x0)]) (st' := [.long 8, .long 1, .long (((h.1 86 (x0 : Int32).toNatClampNeg) : Int32).toInt64)]) (sh' := ab_SH) (D' := ab_dD h) (fun n => rfl) ?_
    obtain ⟨r5, hr5, hf⟩ := ab_bind_s hf
    refine ab_Ex.call (d := d + 1) (M2 := 175) (as := [.long (((h.1 86 (x0 : Int32).toNatClampNeg) : Int32).toInt64), .long 1, .long 8]) (rest := []) (fun n => rfl) rfl (Nat.not_lt.mpr (Nat.le_of_ble_eq_true rfl)) (sX12_within (d + 1) X (((h.1 86 (x0 : Int32).toNatClampNeg) : Int32).toInt64) 1 8 h _ hr5) (fun r hr => ?_)
    subst hr
    show ab_Ex X (d + 2) 263 26 [(2, .int r1), (0, .ref 64), (1, .int x0)] [.int r5] ab_SH (ab_dD h) _
    refine ab_Ex.ifc (c := r5 = 0) (SA := (29, [(2, .int r1), (0, .ref 64), (1, .int x0)], [], ab_dD h)) (SB := (32, [(2, .int r1), (0, .ref 64), (1, .int x0)], [], ab_dD h)) (fun n => rfl) (fun c6 => ?_) (fun c6 => ?_)
    · replace hf := (if_pos c6).symm.trans hf
      refine ab_Ex.blk (k := 1) (pc' := 31) (lv' := [(2, .int r1), (0, .ref 64), (1, .int x0)]) (st' := [.int ((-4))]) (sh' := ab_SH) (D' := ab_dD h) (fun n => rfl) ?_
      obtain rfl := Option.some.inj hf
      exact ab_Ex.ret (fun n => rfl) rfl
    · replace hf := (if_neg c6).symm.trans hf
      refine ab_Ex.blk (k := 2) (pc' := 34) (lv' := [(0, .ref 64), (1, .int x0), (3, .int 0)]) (st' := []) (sh' := ab_SH) (D' := ab_dD h) (fun n => rfl) ?_
      exact sX12_noFeet_L34 d X h ab_N x0 0 _ hf
  · replace hf := (if_neg c2).symm.trans hf
    refine ab_Ex.blk (k := 1) (pc' := 11) (lv' := [(2, .int r1), (0, .ref 64), (1, .int x0)]) (st' := [.int r1]) (sh' := ab_SH) (D' := ab_dD h) (fun n => rfl) ?_
    obtain rfl := Option.some.inj hf
    exact ab_Ex.ret (fun n => rfl) rfl
def fX12_areFeet_L16   : Nat → Int32 → Int32 → Int32 → Int32 → abJ → Option (Int32 × abJ)
  | 0, _, _, _, _, _ => none
  | n + 1, y1, y3, y4, y5, h => ab_ask (y1 < 0 ∨ 4 ≤ (y1 : Int32).toNatClampNeg) (if (h.1 86 (y1 : Int32).toNatClampNeg) ≤ y5 then some (1, h) else (fX12_isRest ((y4 - y4 / 6 * 6)) h).bind (fun r5 => if r5 = 0 then (fX12_stepTo y4 y3 h).bind (fun r7 => ab_ask (((40 * y1) + y5) < 0 ∨ 160 ≤ (((40 * y1) + y5) : Int32).toNatClampNeg) (if (lg_cmp ((r7.1 - r7.1 / 6 * 6) : Int32).toInt64 (r7.2.2 87 (((40 * y1) + y5) : Int32).toNatClampNeg)) = 0 then fX12_areFeet_L16 n y1 y3 r7.1 ((y5 + 1)) r7.2 else some (0, r7.2))) else some (0, h)))
def fX12_areFeet (x0 : Int32) (x1 : Int32) (x2 : Int32) (h : abJ) : Option (Int32 × abJ) := (fX12_standOf ((h.1 65 33)) x1 h).bind (fun r1 => fX12_areFeet_L16 ab_N x0 x2 r1 0 h)
set_option maxRecDepth 20000 in
theorem sX12_areFeet_L16 (d : Nat) (X : abX)   : ∀ (n : Nat), ∀ (y1 : Int32) (y3 : Int32) (y4 : Int32) (y5 : Int32) (h : abJ) (z : (Int32 × abJ)), fX12_areFeet_L16 n y1 y3 y4 y5 h = some z → ab_Ex X (d + 4) 264 16 [(0, .ref 64), (1, .int y1), (3, .int y3), (4, .int y4), (5, .int y5)] [] ab_SH (ab_dD h) (fun r => r = (some (.int z.1), ab_SH, ab_dD z.2)) := by
  intro n
  induction n with
  | zero => intro y1 y3 y4 y5 h z hf; cases hf
  | succ n ih =>
    intro y1 y3 y4 y5 h z hf
    rw [fX12_areFeet_L16] at hf
    refine ab_Ex.blk (k := 4) (pc' := 23) (lv' := [(0, .ref 64), (1, .int y1), (3, .int y3), (4, .int y4), (5, .int y5)]) (st' := [.int y1, .ref 86, .int y5]) (sh' := ab_SH) (D' := ab_dD h) (fun n => rfl) ?_
    obtain ⟨c3, hf⟩ := ab_ask_s hf
    refine ab_Ex.grd (c := y1 < 0 ∨ 4 ≤ (y1 : Int32).toNatClampNeg) (S := (24, [(0, .ref 64), (1, .int y1), (3, .int y3), (4, .int y4), (5, .int y5)], [.int ((h.1 86 (y1 : Int32).toNatClampNeg)), .int y5], ab_dD h)) (fun n => rfl) c3 ?_
    refine ab_Ex.ifc (c := (h.1 86 (y1 : Int32).toNatClampNeg) ≤ y5) (SA := (80, [(0, .ref 64), (1, .int y1), (3, .int y3), (4, .int y4), (5, .int y5)], [], ab_dD h)) (SB := (27, [(0, .ref 64), (1, .int y1), (3, .int y3), (4, .int y4), (5, .int y5)], [], ab_dD h)) (fun n => rfl) (fun c4 => ?_) (fun c4 => ?_)
    · replace hf := (if_pos c4).symm.trans hf
      refine ab_Ex.blk (k := 1) (pc' := 81) (lv' := [(0, .ref 64), (1, .int y1), (3, .int y3), (4, .int y4), (5, .int y5)]) (st' := [.int 1]) (sh' := ab_SH) (D' := ab_dD h) (fun n => rfl) ?_
      obtain rfl := Option.some.inj hf
      exact ab_Ex.ret (fun n => rfl) rfl
    · replace hf := (if_neg c4).symm.trans hf
      refine ab_Ex.blk (k := 3) (pc' := 32) (lv' := [(0, .ref 64), (1, .int y1), (3, .int y3), (4, .int y4), (5, .int y5)]) (st' := [.int 6, .int y4, .ref 64]) (sh' := ab_SH) (D' := ab_dD h) (fun n => rfl) ?_
      refine ab_Ex.blk (k := 1) (pc' := 33) (lv' := [(0, .ref 64), (1, .int y1), (3, .int y3), (4, .int y4), (5, .int y5)]) (st' := [.int ((y4 - y4 / 6 * 6)), .ref 64]) (sh' := ab_SH) (D' := ab_dD h) (fun n => rfl) ?_
      obtain ⟨r5, hr5, hf⟩ := ab_bind_s hf
      refine ab_Ex.call (d := d + 3) (M2 := 223) (as := [.ref 64, .int ((y4 - y4 / 6 * 6))]) (rest := []) (fun n => rfl) rfl (Nat.not_lt.mpr (Nat.le_of_ble_eq_true rfl)) (sX12_isRest (d + 2) X ((y4 - y4 / 6 * 6)) h _ hr5) (fun r hr => ?_)
      subst hr
      show ab_Ex X (d + 4) 264 36 [(0, .ref 64), (1, .int y1), (3, .int y3), (4, .int y4), (5, .int y5)] [.int r5] ab_SH (ab_dD h) _
      refine ab_Ex.ifc (c := r5 = 0) (SA := (41, [(0, .ref 64), (1, .int y1), (3, .int y3), (4, .int y4), (5, .int y5)], [], ab_dD h)) (SB := (39, [(0, .ref 64), (1, .int y1), (3, .int y3), (4, .int y4), (5, .int y5)], [], ab_dD h)) (fun n => rfl) (fun c6 => ?_) (fun c6 => ?_)
      · replace hf := (if_pos c6).symm.trans hf
        refine ab_Ex.blk (k := 3) (pc' := 45) (lv' := [(0, .ref 64), (1, .int y1), (3, .int y3), (4, .int y4), (5, .int y5)]) (st' := [.int y3, .int y4, .ref 64]) (sh' := ab_SH) (D' := ab_dD h) (fun n => rfl) ?_
        obtain ⟨r7, hr7, hf⟩ := ab_bind_s hf
        refine ab_Ex.call (d := d + 3) (M2 := 224) (as := [.ref 64, .int y4, .int y3]) (rest := []) (fun n => rfl) rfl (Nat.not_lt.mpr (Nat.le_of_ble_eq_true rfl)) (sX12_stepTo (d) X y4 y3 h _ hr7) (fun r hr => ?_)
        subst hr
        show ab_Ex X (d + 4) 264 48 [(0, .ref 64), (1, .int y1), (3, .int y3), (4, .int y4), (5, .int y5)] [.int r7.1] ab_SH (ab_dD r7.2) _
        refine ab_Ex.blk (k := 3) (pc' := 54) (lv' := [(4, .int r7.1), (0, .ref 64), (1, .int y1), (3, .int y3), (5, .int y5)]) (st' := [.int 6, .int r7.1]) (sh' := ab_SH) (D' := ab_dD r7.2) (fun n => rfl) ?_
        refine ab_Ex.blk (k := 1) (pc' := 55) (lv' := [(4, .int r7.1), (0, .ref 64), (1, .int y1), (3, .int y3), (5, .int y5)]) (st' := [.int ((r7.1 - r7.1 / 6 * 6))]) (sh' := ab_SH) (D' := ab_dD r7.2) (fun n => rfl) ?_
        refine ab_Ex.blk (k := 8) (pc' := 67) (lv' := [(4, .int r7.1), (0, .ref 64), (1, .int y1), (3, .int y3), (5, .int y5)]) (st' := [.int (((40 * y1) + y5)), .ref 87, .long (((r7.1 - r7.1 / 6 * 6) : Int32).toInt64)]) (sh' := ab_SH) (D' := ab_dD r7.2) (fun n => rfl) ?_
        obtain ⟨c9, hf⟩ := ab_ask_s hf
        refine ab_Ex.grd (c := ((40 * y1) + y5) < 0 ∨ 160 ≤ (((40 * y1) + y5) : Int32).toNatClampNeg) (S := (68, [(4, .int r7.1), (0, .ref 64), (1, .int y1), (3, .int y3), (5, .int y5)], [.long ((r7.2.2 87 (((40 * y1) + y5) : Int32).toNatClampNeg)), .long (((r7.1 - r7.1 / 6 * 6) : Int32).toInt64)], ab_dD r7.2)) (fun n => rfl) c9 ?_
        refine ab_Ex.blk (k := 1) (pc' := 69) (lv' := [(4, .int r7.1), (0, .ref 64), (1, .int y1), (3, .int y3), (5, .int y5)]) (st' := [.int ((lg_cmp ((r7.1 - r7.1 / 6 * 6) : Int32).toInt64 (r7.2.2 87 (((40 * y1) + y5) : Int32).toNatClampNeg)))]) (sh' := ab_SH) (D' := ab_dD r7.2) (fun n => rfl) ?_
        refine ab_Ex.ifc (c := (lg_cmp ((r7.1 - r7.1 / 6 * 6) : Int32).toInt64 (r7.2.2 87 (((40 * y1) + y5) : Int32).toNatClampNeg)) = 0) (SA := (74, [(4, .int r7.1), (0, .ref 64), (1, .int y1), (3, .int y3), (5, .int y5)], [], ab_dD r7.2)) (SB := (72, [(4, .int r7.1), (0, .ref 64), (1, .int y1), (3, .int y3), (5, .int y5)], [], ab_dD r7.2)) (fun n => rfl) (fun c10 => ?_) (fun c10 => ?_)
        · replace hf := (if_pos c10).symm.trans hf
          refine ab_Ex.blk (k := 2) (pc' := 16) (lv' := [(0, .ref 64), (1, .int y1), (3, .int y3), (4, .int r7.1), (5, .int ((y5 + 1)))]) (st' := []) (sh' := ab_SH) (D' := ab_dD r7.2) (fun n => rfl) ?_
          exact ih y1 y3 r7.1 ((y5 + 1)) r7.2 _ hf
        · replace hf := (if_neg c10).symm.trans hf
          refine ab_Ex.blk (k := 1) (pc' := 73) (lv' := [(4, .int r7.1), (0, .ref 64), (1, .int y1), (3, .int y3), (5, .int y5)]) (st' := [.int 0]) (sh' := ab_SH) (D' := ab_dD r7.2) (fun n => rfl) ?_
          obtain rfl := Option.some.inj hf
          exact ab_Ex.ret (fun n => rfl) rfl
      · replace hf := (if_neg c6).symm.trans hf
        refine ab_Ex.blk (k := 1) (pc' := 40) (lv' := [(0, .ref 64), (1, .int y1), (3, .int y3), (4, .int y4), (5, .int y5)]) (st' := [.int 0]) (sh' := ab_SH) (D' := ab_dD h) (fun n => rfl) ?_
        obtain rfl := Option.some.inj hf
        exact ab_Ex.ret (fun n => rfl) rfl
set_option maxRecDepth 20000 in
theorem sX12_areFeet (d : Nat) (X : abX) (x0 : Int32) (x1 : Int32) (x2 : Int32) (h : abJ) (z : (Int32 × abJ)) (hf : fX12_areFeet x0 x1 x2 h = some z) : ab_Ex X (d + 4) 264 0 [(0, .ref 64), (1, .int x0), (2, .int x1), (3, .int x2)] [] ab_SH (ab_dD h) (fun r => r = (some (.int z.1), ab_SH, ab_dD z.2)) := by
  unfold fX12_areFeet at hf
  refine ab_Ex.blk (k := 3) (pc' := 6) (lv' := [(0, .ref 64), (1, .int x0), (2, .int x1), (3, .int x2)]) (st' := [.int 33, .ref 65]) (sh' := ab_SH) (D' := ab_dD h) (fun n => rfl) ?_
  refine ab_Ex.blk (k := 1) (pc' := 7) (lv' := [(0, .ref 64), (1, .int x0), (2, .int x1), (3, .int x2)]) (st' := [.int ((h.1 65 33))]) (sh' := ab_SH) (D' := ab_dD h) (fun n => rfl) ?_
  refine ab_Ex.blk (k := 1) (pc' := 8) (lv' := [(0, .ref 64), (1, .int x0), (2, .int x1), (3, .int x2)]) (st' := [.int x1, .int ((h.1 65 33))]) (sh' := ab_SH) (D' := ab_dD h) (fun n => rfl) ?_
  obtain ⟨r1, hr1, hf⟩ := ab_bind_s hf
  refine ab_Ex.call (d := d + 3) (M2 := 215) (as := [.int ((h.1 65 33)), .int x1]) (rest := []) (fun n => rfl) rfl (Nat.not_lt.mpr (Nat.le_of_ble_eq_true rfl)) (sX12_standOf (d + 3) X ((h.1 65 33)) x1 h _ hr1) (fun r hr => ?_)
  subst hr
  show ab_Ex X (d + 4) 264 11 [(0, .ref 64), (1, .int x0), (2, .int x1), (3, .int x2)] [.int r1] ab_SH (ab_dD h) _
  refine ab_Ex.blk (k := 3) (pc' := 16) (lv' := [(0, .ref 64), (1, .int x0), (3, .int x2), (4, .int r1), (5, .int 0)]) (st' := []) (sh' := ab_SH) (D' := ab_dD h) (fun n => rfl) ?_
  exact sX12_areFeet_L16 d X  ab_N x0 x2 r1 0 h _ hf
def fX12_laysFeet_J102  (k25 : Int32 → Int32 → Int32 → abJ → Option (Int32 × abJ)) (y1 : Int32) (y2 : Int32) (y3 : Int32) (h : abJ) : Option (Int32 × abJ) := k25 y1 y2 ((y3 + 1)) h
def fX12_laysFeet_L65  (k25 : Int32 → Int32 → Int32 → abJ → Option (Int32 × abJ)) : Nat → Int32 → Int32 → Int32 → Int32 → abJ → Option (Int32 × abJ)
  | 0, _, _, _, _, _ => none
  | n + 1, y1, y2, y3, y4, h => if (h.1 65 1) ≤ y4 then fX12_laysFeet_J102 k25 y1 y2 y3 h else (fX12_armIn y3 y4 h).bind (fun r8 => ab_ask (((3 * y4) + r8) < 0 ∨ 18 ≤ (((3 * y4) + r8) : Int32).toNatClampNeg) (ab_ask (((3 * y4) + r8) < 0 ∨ 18 ≤ (((3 * y4) + r8) : Int32).toNatClampNeg) (fX12_laysFeet_L65 k25 n y1 y2 y3 ((y4 + 1)) (ab_wI h 76 (((3 * y4) + r8) : Int32).toNatClampNeg ((h.1 76 (((3 * y4) + r8) : Int32).toNatClampNeg) + 1)))))
def fX12_laysFeet_L25   : Nat → Int32 → Int32 → Int32 → abJ → Option (Int32 × abJ)
  | 0, _, _, _, _ => none
  | n + 1, y1, y2, y3, h => if 729 ≤ y3 then some (y2, h) else (fX12_areArms y3 h).bind (fun r3 => if r3 = 0 then fX12_laysFeet_J102 (fun y1 y2 y3 h => fX12_laysFeet_L25 n y1 y2 y3 h) y1 y2 y3 h else (fX12_areFeet y1 y3 ((h.1 65 40)) h).bind (fun r5 => if r5.1 = 0 then fX12_laysFeet_J102 (fun y1 y2 y3 h => fX12_laysFeet_L25 n y1 y2 y3 h) y1 y2 y3 r5.2 else fX12_laysFeet_L65 (fun y1 y2 y3 h => fX12_laysFeet_L25 n y1 y2 y3 h) ab_N y1 ((y2 + 1)) y3 0 r5.2))
def fX12_laysFeet_L4   : Nat → Int32 → Int32 → Int32 → abJ → Option (Int32 × abJ)
  | 0, _, _, _, _ => none
  | n + 1, y1, y2, y3, h => if 18 ≤ y3 then fX12_laysFeet_L25 ab_N y1 y2 0 h else ab_ask (y3 < 0 ∨ 18 ≤ (y3 : Int32).toNatClampNeg) (fX12_laysFeet_L4 n y1 y2 ((y3 + 1)) (ab_wI h 76 (y3 : Int32).toNatClampNeg 0))
def fX12_laysFeet (x0 : Int32) (h : abJ) : Option (Int32 × abJ) := fX12_laysFeet_L4 ab_N x0 0 0 h
set_option maxRecDepth 20000 in
theorem sX12_laysFeet_J102 (d : Nat) (X : abX) (k25 : Int32 → Int32 → Int32 → abJ → Option (Int32 × abJ)) (hk25 : ∀ (y1 : Int32) (y2 : Int32) (y3 : Int32) (h : abJ) (z : (Int32 × abJ)), k25 y1 y2 y3 h = some z → ab_Ex X (d + 5) 265 25 [(0, .ref 64), (1, .int y1), (2, .int y2), (3, .int y3)] [] ab_SH (ab_dD h) (fun r => r = (some (.int z.1), ab_SH, ab_dD z.2))) : ∀ (y1 : Int32) (y2 : Int32) (y3 : Int32) (h : abJ) (z : (Int32 × abJ)), fX12_laysFeet_J102 k25 y1 y2 y3 h = some z → ab_Ex X (d + 5) 265 102 [(0, .ref 64), (1, .int y1), (2, .int y2), (3, .int y3)] [] ab_SH (ab_dD h) (fun r => r = (some (.int z.1), ab_SH, ab_dD z.2)) := by
  intro y1 y2 y3 h z hf
  unfold fX12_laysFeet_J102 at hf
  refine ab_Ex.blk (k := 2) (pc' := 25) (lv' := [(0, .ref 64), (1, .int y1), (2, .int y2), (3, .int ((y3 + 1)))]) (st' := []) (sh' := ab_SH) (D' := ab_dD h) (fun n => rfl) ?_
  exact hk25 y1 y2 ((y3 + 1)) h _ hf
set_option maxRecDepth 20000 in
theorem sX12_laysFeet_L65 (d : Nat) (X : abX) (k25 : Int32 → Int32 → Int32 → abJ → Option (Int32 × abJ)) (hk25 : ∀ (y1 : Int32) (y2 : Int32) (y3 : Int32) (h : abJ) (z : (Int32 × abJ)), k25 y1 y2 y3 h = some z → ab_Ex X (d + 5) 265 25 [(0, .ref 64), (1, .int y1), (2, .int y2), (3, .int y3)] [] ab_SH (ab_dD h) (fun r => r = (some (.int z.1), ab_SH, ab_dD z.2))) : ∀ (n : Nat), ∀ (y1 : Int32) (y2 : Int32) (y3 : Int32) (y4 : Int32) (h : abJ) (z : (Int32 × abJ)), fX12_laysFeet_L65 k25 n y1 y2 y3 y4 h = some z → ab_Ex X (d + 5) 265 65 [(0, .ref 64), (1, .int y1), (2, .int y2), (3, .int y3), (4, .int y4)] [] ab_SH (ab_dD h) (fun r => r = (some (.int z.1), ab_SH, ab_dD z.2)) := by
  intro n
  induction n with
  | zero => intro y1 y2 y3 y4 h z hf; cases hf
  | succ n ih =>
    intro y1 y2 y3 y4 h z hf
    rw [fX12_laysFeet_L65] at hf
    refine ab_Ex.blk (k := 4) (pc' := 72) (lv' := [(0, .ref 64), (1, .int y1), (2, .int y2), (3, .int y3), (4, .int y4)]) (st' := [.int 1, .ref 65, .int y4]) (sh' := ab_SH) (D' := ab_dD h) (fun n => rfl) ?_
    refine ab_Ex.blk (k := 1) (pc' := 73) (lv' := [(0, .ref 64), (1, .int y1), (2, .int y2), (3, .int y3), (4, .int y4)]) (st' := [.int ((h.1 65 1)), .int y4]) (sh' := ab_SH) (D' := ab_dD h) (fun n => rfl) ?_
    refine ab_Ex.ifc (c := (h.1 65 1) ≤ y4) (SA := (102, [(0, .ref 64), (1, .int y1), (2, .int y2), (3, .int y3), (4, .int y4)], [], ab_dD h)) (SB := (76, [(0, .ref 64), (1, .int y1), (2, .int y2), (3, .int y3), (4, .int y4)], [], ab_dD h)) (fun n => rfl) (fun c7 => ?_) (fun c7 => ?_)
    · replace hf := (if_pos c7).symm.trans hf
      exact sX12_laysFeet_J102 d X k25 hk25 y1 y2 y3 h _ hf
    · replace hf := (if_neg c7).symm.trans hf
      refine ab_Ex.blk (k := 7) (pc' := 87) (lv' := [(0, .ref 64), (1, .int y1), (2, .int y2), (3, .int y3), (4, .int y4)]) (st' := [.int y4, .int y3, .int ((3 * y4)), .ref 76]) (sh' := ab_SH) (D' := ab_dD h) (fun n => rfl) ?_
      obtain ⟨r8, hr8, hf⟩ := ab_bind_s hf
      refine ab_Ex.call (d := d + 4) (M2 := 212) (as := [.int y3, .int y4]) (rest := [.int ((3 * y4)), .ref 76]) (fun n => rfl) rfl (Nat.not_lt.mpr (Nat.le_of_ble_eq_true rfl)) (sX12_armIn (d + 3) X y3 y4 h _ hr8) (fun r hr => ?_)
      subst hr
      show ab_Ex X (d + 5) 265 90 [(0, .ref 64), (1, .int y1), (2, .int y2), (3, .int y3), (4, .int y4)] [.int r8, .int ((3 * y4)), .ref 76] ab_SH (ab_dD h) _
      refine ab_Ex.blk (k := 2) (pc' := 92) (lv' := [(0, .ref 64), (1, .int y1), (2, .int y2), (3, .int y3), (4, .int y4)]) (st' := [.int (((3 * y4) + r8)), .ref 76, .int (((3 * y4) + r8)), .ref 76]) (sh' := ab_SH) (D' := ab_dD h) (fun n => rfl) ?_
      obtain ⟨c10, hf⟩ := ab_ask_s hf
      refine ab_Ex.grd (c := ((3 * y4) + r8) < 0 ∨ 18 ≤ (((3 * y4) + r8) : Int32).toNatClampNeg) (S := (93, [(0, .ref 64), (1, .int y1), (2, .int y2), (3, .int y3), (4, .int y4)], [.int ((h.1 76 (((3 * y4) + r8) : Int32).toNatClampNeg)), .int (((3 * y4) + r8)), .ref 76], ab_dD h)) (fun n => rfl) c10 ?_
      refine ab_Ex.blk (k := 2) (pc' := 95) (lv' := [(0, .ref 64), (1, .int y1), (2, .int y2), (3, .int y3), (4, .int y4)]) (st' := [.int (((h.1 76 (((3 * y4) + r8) : Int32).toNatClampNeg) + 1)), .int (((3 * y4) + r8)), .ref 76]) (sh' := ab_SH) (D' := ab_dD h) (fun n => rfl) ?_
      obtain ⟨c11, hf⟩ := ab_ask_s hf
      refine ab_Ex.grd (c := ((3 * y4) + r8) < 0 ∨ 18 ≤ (((3 * y4) + r8) : Int32).toNatClampNeg) (S := (96, [(0, .ref 64), (1, .int y1), (2, .int y2), (3, .int y3), (4, .int y4)], [], ab_dD (ab_wI h 76 (((3 * y4) + r8) : Int32).toNatClampNeg ((h.1 76 (((3 * y4) + r8) : Int32).toNatClampNeg) + 1)))) (fun n => rfl) c11 ?_
      refine ab_Ex.blk (k := 2) (pc' := 65) (lv' := [(0, .ref 64), (1, .int y1), (2, .int y2), (3, .int y3), (4, .int ((y4 + 1)))]) (st' := []) (sh' := ab_SH) (D' := ab_dD (ab_wI h 76 (((3 * y4) + r8) : Int32).toNatClampNeg ((h.1 76 (((3 * y4) + r8) : Int32).toNatClampNeg) + 1))) (fun n => rfl) ?_
      exact ih y1 y2 y3 ((y4 + 1)) (ab_wI h 76 (((3 * y4) + r8) : Int32).toNatClampNeg ((h.1 76 (((3 * y4) + r8) : Int32).toNatClampNeg) + 1)) _ hf
set_option maxRecDepth 20000 in
theorem sX12_laysFeet_L25 (d : Nat) (X : abX)   : ∀ (n : Nat), ∀ (y1 : Int32) (y2 : Int32) (y3 : Int32) (h : abJ) (z : (Int32 × abJ)), fX12_laysFeet_L25 n y1 y2 y3 h = some z → ab_Ex X (d + 5) 265 25 [(0, .ref 64), (1, .int y1), (2, .int y2), (3, .int y3)] [] ab_SH (ab_dD h) (fun r => r = (some (.int z.1), ab_SH, ab_dD z.2)) := by
  intro n
  induction n with
  | zero => intro y1 y2 y3 h z hf; cases hf
  | succ n ih =>
    intro y1 y2 y3 h z hf
    rw [fX12_laysFeet_L25] at hf
    refine ab_Ex.blk (k := 2) (pc' := 29) (lv' := [(0, .ref 64), (1, .int y1), (2, .int y2), (3, .int y3)]) (st' := [.int 729, .int y3]) (sh' := ab_SH) (D' := ab_dD h) (fun n => rfl) ?_
    refine ab_Ex.ifc (c := 729 ≤ y3) (SA := (108, [(0, .ref 64), (1, .int y1), (2, .int y2), (3, .int y3)], [], ab_dD h)) (SB := (32, [(0, .ref 64), (1, .int y1), (2, .int y2), (3, .int y3)], [], ab_dD h)) (fun n => rfl) (fun c2 => ?_) (fun c2 => ?_)
    · replace hf := (if_pos c2).symm.trans hf
      refine ab_Ex.blk (k := 1) (pc' := 109) (lv' := [(0, .ref 64), (1, .int y1), (2, .int y2), (3, .int y3)]) (st' := [.int y2]) (sh' := ab_SH) (D' := ab_dD h) (fun n => rfl) ?_
      obtain rfl := Option.some.inj hf
      exact ab_Ex.ret (fun n => rfl) rfl
    · replace hf := (if_neg c2).symm.trans hf
      refine ab_Ex.blk (k := 2) (pc' := 34) (lv' := [(0, .ref 64), (1, .int y1), (2, .int y2), (3, .int y3)]) (st' := [.int y3, .ref 64]) (sh' := ab_SH) (D' := ab_dD h) (fun n => rfl) ?_
      obtain ⟨r3, hr3, hf⟩ := ab_bind_s hf
      refine ab_Ex.call (d := d + 4) (M2 := 219) (as := [.ref 64, .int y3]) (rest := []) (fun n => rfl) rfl (Nat.not_lt.mpr (Nat.le_of_ble_eq_true rfl)) (sX12_areArms (d + 2) X y3 h _ hr3) (fun r hr => ?_)
      subst hr
      show ab_Ex X (d + 5) 265 37 [(0, .ref 64), (1, .int y1), (2, .int y2), (3, .int y3)] [.int r3] ab_SH (ab_dD h) _
      refine ab_Ex.ifc (c := r3 = 0) (SA := (102, [(0, .ref 64), (1, .int y1), (2, .int y2), (3, .int y3)], [], ab_dD h)) (SB := (40, [(0, .ref 64), (1, .int y1), (2, .int y2), (3, .int y3)], [], ab_dD h)) (fun n => rfl) (fun c4 => ?_) (fun c4 => ?_)
      · replace hf := (if_pos c4).symm.trans hf
        exact sX12_laysFeet_J102 d X (fun y1 y2 y3 h => fX12_laysFeet_L25 n y1 y2 y3 h) (fun y1 y2 y3 h z hz => ih y1 y2 y3 h z hz) y1 y2 y3 h _ hf
      · replace hf := (if_neg c4).symm.trans hf
        refine ab_Ex.blk (k := 6) (pc' := 49) (lv' := [(0, .ref 64), (1, .int y1), (2, .int y2), (3, .int y3)]) (st' := [.int 40, .ref 65, .int y3, .int y1, .ref 64]) (sh' := ab_SH) (D' := ab_dD h) (fun n => rfl) ?_
        refine ab_Ex.blk (k := 1) (pc' := 50) (lv' := [(0, .ref 64), (1, .int y1), (2, .int y2), (3, .int y3)]) (st' := [.int ((h.1 65 40)), .int y3, .int y1, .ref 64]) (sh' := ab_SH) (D' := ab_dD h) (fun n => rfl) ?_
        obtain ⟨r5, hr5, hf⟩ := ab_bind_s hf
        refine ab_Ex.call (d := d + 4) (M2 := 264) (as := [.ref 64, .int y1, .int y3, .int ((h.1 65 40))]) (rest := []) (fun n => rfl) rfl (Nat.not_lt.mpr (Nat.le_of_ble_eq_true rfl)) (sX12_areFeet (d) X y1 y3 ((h.1 65 40)) h _ hr5) (fun r hr => ?_)
        subst hr
        show ab_Ex X (d + 5) 265 53 [(0, .ref 64), (1, .int y1), (2, .int y2), (3, .int y3)] [.int r5.1] ab_SH (ab_dD r5.2) _
        refine ab_Ex.ifc (c := r5.1 = 0) (SA := (56, [(0, .ref 64), (1, .int y1), (2, .int y2), (3, .int y3)], [], ab_dD r5.2)) (SB := (59, [(0, .ref 64), (1, .int y1), (2, .int y2), (3, .int y3)], [], ab_dD r5.2)) (fun n => rfl) (fun c6 => ?_) (fun c6 => ?_)
        · replace hf := (if_pos c6).symm.trans hf
          refine ab_Ex.blk (k := 1) (pc' := 102) (lv' := [(0, .ref 64), (1, .int y1), (2, .int y2), (3, .int y3)]) (st' := []) (sh' := ab_SH) (D' := ab_dD r5.2) (fun n => rfl) ?_
          exact sX12_laysFeet_J102 d X (fun y1 y2 y3 h => fX12_laysFeet_L25 n y1 y2 y3 h) (fun y1 y2 y3 h z hz => ih y1 y2 y3 h z hz) y1 y2 y3 r5.2 _ hf
        · replace hf := (if_neg c6).symm.trans hf
          refine ab_Ex.blk (k := 3) (pc' := 65) (lv' := [(0, .ref 64), (1, .int y1), (2, .int ((y2 + 1))), (3, .int y3), (4, .int 0)]) (st' := []) (sh' := ab_SH) (D' := ab_dD r5.2) (fun n => rfl) ?_
          exact sX12_laysFeet_L65 d X (fun y1 y2 y3 h => fX12_laysFeet_L25 n y1 y2 y3 h) (fun y1 y2 y3 h z hz => ih y1 y2 y3 h z hz) ab_N y1 ((y2 + 1)) y3 0 r5.2 _ hf
set_option maxRecDepth 20000 in
theorem sX12_laysFeet_L4 (d : Nat) (X : abX)   : ∀ (n : Nat), ∀ (y1 : Int32) (y2 : Int32) (y3 : Int32) (h : abJ) (z : (Int32 × abJ)), fX12_laysFeet_L4 n y1 y2 y3 h = some z → ab_Ex X (d + 5) 265 4 [(0, .ref 64), (1, .int y1), (2, .int y2), (3, .int y3)] [] ab_SH (ab_dD h) (fun r => r = (some (.int z.1), ab_SH, ab_dD z.2)) := by
  intro n
  induction n with
  | zero => intro y1 y2 y3 h z hf; cases hf
  | succ n ih =>
    intro y1 y2 y3 h z hf
    rw [fX12_laysFeet_L4] at hf
    refine ab_Ex.blk (k := 2) (pc' := 7) (lv' := [(0, .ref 64), (1, .int y1), (2, .int y2), (3, .int y3)]) (st' := [.int 18, .int y3]) (sh' := ab_SH) (D' := ab_dD h) (fun n => rfl) ?_
    refine ab_Ex.ifc (c := 18 ≤ y3) (SA := (23, [(0, .ref 64), (1, .int y1), (2, .int y2), (3, .int y3)], [], ab_dD h)) (SB := (10, [(0, .ref 64), (1, .int y1), (2, .int y2), (3, .int y3)], [], ab_dD h)) (fun n => rfl) (fun c1 => ?_) (fun c1 => ?_)
    · replace hf := (if_pos c1).symm.trans hf
      refine ab_Ex.blk (k := 2) (pc' := 25) (lv' := [(0, .ref 64), (1, .int y1), (2, .int y2), (3, .int 0)]) (st' := []) (sh' := ab_SH) (D' := ab_dD h) (fun n => rfl) ?_
      exact sX12_laysFeet_L25 d X  ab_N y1 y2 0 h _ hf
    · replace hf := (if_neg c1).symm.trans hf
      refine ab_Ex.blk (k := 4) (pc' := 16) (lv' := [(0, .ref 64), (1, .int y1), (2, .int y2), (3, .int y3)]) (st' := [.int 0, .int y3, .ref 76]) (sh' := ab_SH) (D' := ab_dD h) (fun n => rfl) ?_
      obtain ⟨c12, hf⟩ := ab_ask_s hf
      refine ab_Ex.grd (c := y3 < 0 ∨ 18 ≤ (y3 : Int32).toNatClampNeg) (S := (17, [(0, .ref 64), (1, .int y1), (2, .int y2), (3, .int y3)], [], ab_dD (ab_wI h 76 (y3 : Int32).toNatClampNeg 0))) (fun n => rfl) c12 ?_
      refine ab_Ex.blk (k := 2) (pc' := 4) (lv' := [(0, .ref 64), (1, .int y1), (2, .int y2), (3, .int ((y3 + 1)))]) (st' := []) (sh' := ab_SH) (D' := ab_dD (ab_wI h 76 (y3 : Int32).toNatClampNeg 0)) (fun n => rfl) ?_
      exact ih y1 y2 ((y3 + 1)) (ab_wI h 76 (y3 : Int32).toNatClampNeg 0) _ hf
set_option maxRecDepth 20000 in
theorem sX12_laysFeet (d : Nat) (X : abX) (x0 : Int32) (h : abJ) (z : (Int32 × abJ)) (hf : fX12_laysFeet x0 h = some z) : ab_Ex X (d + 5) 265 0 [(0, .ref 64), (1, .int x0)] [] ab_SH (ab_dD h) (fun r => r = (some (.int z.1), ab_SH, ab_dD z.2)) := by
  unfold fX12_laysFeet at hf
  refine ab_Ex.blk (k := 4) (pc' := 4) (lv' := [(0, .ref 64), (1, .int x0), (2, .int 0), (3, .int 0)]) (st' := []) (sh' := ab_SH) (D' := ab_dD h) (fun n => rfl) ?_
  exact sX12_laysFeet_L4 d X  ab_N x0 0 0 h _ hf
def fX12_footprints (x0 : Int32) (h : abJ) : Option (Int32 × abJ) := (fX12_noFeet x0 (ab_wI h 64 0 0)).bind (fun r1 => if r1 = 0 then (fX12_laysFeet x0 (ab_wI h 64 0 0)).bind (fun r3 => some (r3.1, r3.2)) else some (r1, (ab_wI h 64 0 0)))
set_option maxRecDepth 20000 in
theorem sX12_footprints (d : Nat) (X : abX) (x0 : Int32) (h : abJ) (z : (Int32 × abJ)) (hf : fX12_footprints x0 h = some z) : ab_Ex X (d + 6) 266 0 [(0, .ref 64), (1, .int x0)] [] ab_SH (ab_dD h) (fun r => r = (some (.int z.1), ab_SH, ab_dD z.2)) := by
  unfold fX12_footprints at hf
  refine ab_Ex.blk (k := 5) (pc' := 7) (lv' := [(0, .ref 64), (1, .int x0)]) (st' := [.int x0, .ref 64]) (sh' := ab_SH) (D' := ab_dD (ab_wI h 64 0 0)) (fun n => rfl) ?_
  obtain ⟨r1, hr1, hf⟩ := ab_bind_s hf
  refine ab_Ex.call (d := d + 5) (M2 := 263) (as := [.ref 64, .int x0]) (rest := []) (fun n => rfl) rfl (Nat.not_lt.mpr (Nat.le_of_ble_eq_true rfl)) (sX12_noFeet (d + 3) X x0 (ab_wI h 64 0 0) _ hr1) (fun r hr => ?_)
  subst hr
  show ab_Ex X (d + 6) 266 10 [(0, .ref 64), (1, .int x0)] [.int r1] ab_SH (ab_dD (ab_wI h 64 0 0)) _
  refine ab_Ex.blk (k := 2) (pc' := 12) (lv' := [(2, .int r1), (0, .ref 64), (1, .int x0)]) (st' := [.int r1]) (sh' := ab_SH) (D' := ab_dD (ab_wI h 64 0 0)) (fun n => rfl) ?_
  refine ab_Ex.ifc (c := r1 = 0) (SA := (19, [(2, .int r1), (0, .ref 64), (1, .int x0)], [], ab_dD (ab_wI h 64 0 0))) (SB := (15, [(2, .int r1), (0, .ref 64), (1, .int x0)], [], ab_dD (ab_wI h 64 0 0))) (fun n => rfl) (fun c2 => ?_) (fun c2 => ?_)
  · replace hf := (if_pos c2).symm.trans hf
    refine ab_Ex.blk (k := 2) (pc' := 21) (lv' := [(2, .int r1), (0, .ref 64), (1, .int x0)]) (st' := [.int x0, .ref 64]) (sh' := ab_SH) (D' := ab_dD (ab_wI h 64 0 0)) (fun n => rfl) ?_
    obtain ⟨r3, hr3, hf⟩ := ab_bind_s hf
    refine ab_Ex.call (d := d + 5) (M2 := 265) (as := [.ref 64, .int x0]) (rest := []) (fun n => rfl) rfl (Nat.not_lt.mpr (Nat.le_of_ble_eq_true rfl)) (sX12_laysFeet (d) X x0 (ab_wI h 64 0 0) _ hr3) (fun r hr => ?_)
    subst hr
    show ab_Ex X (d + 6) 266 24 [] [.int r3.1] ab_SH (ab_dD r3.2) _
    obtain rfl := Option.some.inj hf
    exact ab_Ex.ret (fun n => rfl) rfl
  · replace hf := (if_neg c2).symm.trans hf
    refine ab_Ex.blk (k := 2) (pc' := 24) (lv' := []) (st' := [.int r1]) (sh' := ab_SH) (D' := ab_dD (ab_wI h 64 0 0)) (fun n => rfl) ?_
    obtain rfl := Option.some.inj hf
    exact ab_Ex.ret (fun n => rfl) rfl
def fX12_shown_J83  (k53 : Int32 → Int32 → Int32 → abJ → Option (Int32 × abJ)) (y2 : Int32) (y5 : Int32) (t0 : Int32) (t1 : Int32) (h : abJ) : Option (Int32 × abJ) := k53 y2 ((t0 ||| t1)) ((y5 + 1)) h
def fX12_shown_L53   : Nat → Int32 → Int32 → Int32 → abJ → Option (Int32 × abJ)
  | 0, _, _, _, _ => none
  | n + 1, y2, y4, y5, h => if 3 ≤ y5 then some (y4, h) else ab_ask (((3 * y2) + y5) < 0 ∨ 18 ≤ (((3 * y2) + y5) : Int32).toNatClampNeg) (if (h.1 76 (((3 * y2) + y5) : Int32).toNatClampNeg) ≤ 0 then fX12_shown_J83 (fun y2 y4 y5 h => fX12_shown_L53 n y2 y4 y5 h) y2 y5 y4 0 h else fX12_shown_J83 (fun y2 y4 y5 h => fX12_shown_L53 n y2 y4 y5 h) y2 y5 y4 (((1 : Int32) <<< (y5 &&& 31))) h)
def fX12_shown (x0 : Int32) (x1 : Int32) (h : abJ) : Option (Int32 × abJ) := (fX12_within ((x0 : Int32).toInt64) 0 3 (ab_wI h 64 0 0)).bind (fun r1 => if r1 = 0 then some ((-2), (ab_wI h 64 0 0)) else (fX12_isPost ((x1 : Int32).toInt64) (ab_wI h 64 0 0)).bind (fun r3 => if r3 = 0 then some ((-2), (ab_wI h 64 0 0)) else (fX12_noFeet x0 (ab_wI h 64 0 0)).bind (fun r5 => if r5 = 0 then (fX12_laysFeet x0 (ab_wI h 64 0 0)).bind (fun r7 => fX12_shown_L53 ab_N x1 0 0 r7.2) else some (r5, (ab_wI h 64 0 0)))))
set_option maxRecDepth 20000 in
theorem sX12_shown_J83 (d : Nat) (X : abX) (k53 : Int32 → Int32 → Int32 → abJ → Option (Int32 × abJ)) (hk53 : ∀ (y2 : Int32) (y4 : Int32) (y5 : Int32) (h : abJ) (z : (Int32 × abJ)), k53 y2 y4 y5 h = some z → ab_Ex X (d + 6) 267 53 [(0, .ref 64), (2, .int y2), (4, .int y4), (5, .int y5)] [] ab_SH (ab_dD h) (fun r => r = (some (.int z.1), ab_SH, ab_dD z.2))) : ∀ (y2 : Int32) (y5 : Int32) (t0 : Int32) (t1 : Int32) (h : abJ) (z : (Int32 × abJ)), fX12_shown_J83 k53 y2 y5 t0 t1 h = some z → ab_Ex X (d + 6) 267 83 [(0, .ref 64), (2, .int y2), (5, .int y5)] [.int t1, .int t0] ab_SH (ab_dD h) (fun r => r = (some (.int z.1), ab_SH, ab_dD z.2)) := by
  intro y2 y5 t0 t1 h z hf
  unfold fX12_shown_J83 at hf
  refine ab_Ex.blk (k := 4) (pc' := 53) (lv' := [(0, .ref 64), (2, .int y2), (4, .int ((t0 ||| t1))), (5, .int ((y5 + 1)))]) (st' := []) (sh' := ab_SH) (D' := ab_dD h) (fun n => rfl) ?_
  exact hk53 y2 ((t0 ||| t1)) ((y5 + 1)) h _ hf
set_option maxRecDepth 20000 in
theorem sX12_shown_L53 (d : Nat) (X : abX)   : ∀ (n : Nat), ∀ (y2 : Int32) (y4 : Int32) (y5 : Int32) (h : abJ) (z : (Int32 × abJ)), fX12_shown_L53 n y2 y4 y5 h = some z → ab_Ex X (d + 6) 267 53 [(0, .ref 64), (2, .int y2), (4, .int y4), (5, .int y5)] [] ab_SH (ab_dD h) (fun r => r = (some (.int z.1), ab_SH, ab_dD z.2)) := by
  intro n
  induction n with
  | zero => intro y2 y4 y5 h z hf; cases hf
  | succ n ih =>
    intro y2 y4 y5 h z hf
    rw [fX12_shown_L53] at hf
    refine ab_Ex.blk (k := 2) (pc' := 56) (lv' := [(0, .ref 64), (2, .int y2), (4, .int y4), (5, .int y5)]) (st' := [.int 3, .int y5]) (sh' := ab_SH) (D' := ab_dD h) (fun n => rfl) ?_
    refine ab_Ex.ifc (c := 3 ≤ y5) (SA := (92, [(0, .ref 64), (2, .int y2), (4, .int y4), (5, .int y5)], [], ab_dD h)) (SB := (59, [(0, .ref 64), (2, .int y2), (4, .int y4), (5, .int y5)], [], ab_dD h)) (fun n => rfl) (fun c8 => ?_) (fun c8 => ?_)
    · replace hf := (if_pos c8).symm.trans hf
      refine ab_Ex.blk (k := 1) (pc' := 94) (lv' := [(0, .ref 64), (2, .int y2), (4, .int y4), (5, .int y5)]) (st' := [.int y4]) (sh' := ab_SH) (D' := ab_dD h) (fun n => rfl) ?_
      obtain rfl := Option.some.inj hf
      exact ab_Ex.ret (fun n => rfl) rfl
    · replace hf := (if_neg c8).symm.trans hf
      refine ab_Ex.blk (k := 8) (pc' := 71) (lv' := [(0, .ref 64), (2, .int y2), (4, .int y4), (5, .int y5)]) (st' := [.int (((3 * y2) + y5)), .ref 76, .int y4]) (sh' := ab_SH) (D' := ab_dD h) (fun n => rfl) ?_
      obtain ⟨c10, hf⟩ := ab_ask_s hf
      refine ab_Ex.grd (c := ((3 * y2) + y5) < 0 ∨ 18 ≤ (((3 * y2) + y5) : Int32).toNatClampNeg) (S := (72, [(0, .ref 64), (2, .int y2), (4, .int y4), (5, .int y5)], [.int ((h.1 76 (((3 * y2) + y5) : Int32).toNatClampNeg)), .int y4], ab_dD h)) (fun n => rfl) c10 ?_
      refine ab_Ex.ifc (c := (h.1 76 (((3 * y2) + y5) : Int32).toNatClampNeg) ≤ 0) (SA := (82, [(0, .ref 64), (2, .int y2), (4, .int y4), (5, .int y5)], [.int y4], ab_dD h)) (SB := (75, [(0, .ref 64), (2, .int y2), (4, .int y4), (5, .int y5)], [.int y4], ab_dD h)) (fun n => rfl) (fun c11 => ?_) (fun c11 => ?_)
      · replace hf := (if_pos c11).symm.trans hf
        refine ab_Ex.blk (k := 1) (pc' := 83) (lv' := [(0, .ref 64), (2, .int y2), (5, .int y5)]) (st' := [.int 0, .int y4]) (sh' := ab_SH) (D' := ab_dD h) (fun n => rfl) ?_
        exact sX12_shown_J83 d X (fun y2 y4 y5 h => fX12_shown_L53 n y2 y4 y5 h) (fun y2 y4 y5 h z hz => ih y2 y4 y5 h z hz) y2 y5 y4 0 h _ hf
      · replace hf := (if_neg c11).symm.trans hf
        refine ab_Ex.blk (k := 4) (pc' := 83) (lv' := [(0, .ref 64), (2, .int y2), (5, .int y5)]) (st' := [.int (((1 : Int32) <<< (y5 &&& 31))), .int y4]) (sh' := ab_SH) (D' := ab_dD h) (fun n => rfl) ?_
        exact sX12_shown_J83 d X (fun y2 y4 y5 h => fX12_shown_L53 n y2 y4 y5 h) (fun y2 y4 y5 h z hz => ih y2 y4 y5 h z hz) y2 y5 y4 (((1 : Int32) <<< (y5 &&& 31))) h _ hf
set_option maxRecDepth 20000 in
theorem sX12_shown (d : Nat) (X : abX) (x0 : Int32) (x1 : Int32) (h : abJ) (z : (Int32 × abJ)) (hf : fX12_shown x0 x1 h = some z) : ab_Ex X (d + 6) 267 0 [(0, .ref 64), (1, .int x0), (2, .int x1)] [] ab_SH (ab_dD h) (fun r => r = (some (.int z.1), ab_SH, ab_dD z.2)) := by
  unfold fX12_shown at hf
  refine ab_Ex.blk (k := 7) (pc' := 11) (lv' := [(0, .ref 64), (1, .int x0), (2, .int x1)]) (st' := [.long 3, .long 0, .long ((x0 : Int32).toInt64)]) (sh' := ab_SH) (D' := ab_dD (ab_wI h 64 0 0)) (fun n => rfl) ?_
  obtain ⟨r1, hr1, hf⟩ := ab_bind_s hf
  refine ab_Ex.call (d := d + 5) (M2 := 175) (as := [.long ((x0 : Int32).toInt64), .long 0, .long 3]) (rest := []) (fun n => rfl) rfl (Nat.not_lt.mpr (Nat.le_of_ble_eq_true rfl)) (sX12_within (d + 5) X ((x0 : Int32).toInt64) 0 3 (ab_wI h 64 0 0) _ hr1) (fun r hr => ?_)
  subst hr
  show ab_Ex X (d + 6) 267 14 [(0, .ref 64), (1, .int x0), (2, .int x1)] [.int r1] ab_SH (ab_dD (ab_wI h 64 0 0)) _
  refine ab_Ex.ifc (c := r1 = 0) (SA := (26, [(0, .ref 64), (1, .int x0), (2, .int x1)], [], ab_dD (ab_wI h 64 0 0))) (SB := (17, [(0, .ref 64), (1, .int x0), (2, .int x1)], [], ab_dD (ab_wI h 64 0 0))) (fun n => rfl) (fun c2 => ?_) (fun c2 => ?_)
  · replace hf := (if_pos c2).symm.trans hf
    refine ab_Ex.blk (k := 1) (pc' := 28) (lv' := []) (st' := [.int ((-2))]) (sh' := ab_SH) (D' := ab_dD (ab_wI h 64 0 0)) (fun n => rfl) ?_
    obtain rfl := Option.some.inj hf
    exact ab_Ex.ret (fun n => rfl) rfl
  · replace hf := (if_neg c2).symm.trans hf
    refine ab_Ex.blk (k := 3) (pc' := 20) (lv' := [(0, .ref 64), (1, .int x0), (2, .int x1)]) (st' := [.long ((x1 : Int32).toInt64), .ref 64]) (sh' := ab_SH) (D' := ab_dD (ab_wI h 64 0 0)) (fun n => rfl) ?_
    obtain ⟨r3, hr3, hf⟩ := ab_bind_s hf
    refine ab_Ex.call (d := d + 5) (M2 := 209) (as := [.ref 64, .long ((x1 : Int32).toInt64)]) (rest := []) (fun n => rfl) rfl (Nat.not_lt.mpr (Nat.le_of_ble_eq_true rfl)) (sX12_isPost (d + 4) X ((x1 : Int32).toInt64) (ab_wI h 64 0 0) _ hr3) (fun r hr => ?_)
    subst hr
    show ab_Ex X (d + 6) 267 23 [(0, .ref 64), (1, .int x0), (2, .int x1)] [.int r3] ab_SH (ab_dD (ab_wI h 64 0 0)) _
    refine ab_Ex.ifc (c := r3 = 0) (SA := (26, [(0, .ref 64), (1, .int x0), (2, .int x1)], [], ab_dD (ab_wI h 64 0 0))) (SB := (29, [(0, .ref 64), (1, .int x0), (2, .int x1)], [], ab_dD (ab_wI h 64 0 0))) (fun n => rfl) (fun c4 => ?_) (fun c4 => ?_)
    · replace hf := (if_pos c4).symm.trans hf
      refine ab_Ex.blk (k := 1) (pc' := 28) (lv' := []) (st' := [.int ((-2))]) (sh' := ab_SH) (D' := ab_dD (ab_wI h 64 0 0)) (fun n => rfl) ?_
      obtain rfl := Option.some.inj hf
      exact ab_Ex.ret (fun n => rfl) rfl
    · replace hf := (if_neg c4).symm.trans hf
      refine ab_Ex.blk (k := 2) (pc' := 31) (lv' := [(0, .ref 64), (1, .int x0), (2, .int x1)]) (st' := [.int x0, .ref 64]) (sh' := ab_SH) (D' := ab_dD (ab_wI h 64 0 0)) (fun n => rfl) ?_
      obtain ⟨r5, hr5, hf⟩ := ab_bind_s hf
      refine ab_Ex.call (d := d + 5) (M2 := 263) (as := [.ref 64, .int x0]) (rest := []) (fun n => rfl) rfl (Nat.not_lt.mpr (Nat.le_of_ble_eq_true rfl)) (sX12_noFeet (d + 3) X x0 (ab_wI h 64 0 0) _ hr5) (fun r hr => ?_)
      subst hr
      show ab_Ex X (d + 6) 267 34 [(0, .ref 64), (1, .int x0), (2, .int x1)] [.int r5] ab_SH (ab_dD (ab_wI h 64 0 0)) _
      refine ab_Ex.blk (k := 2) (pc' := 36) (lv' := [(3, .int r5), (0, .ref 64), (1, .int x0), (2, .int x1)]) (st' := [.int r5]) (sh' := ab_SH) (D' := ab_dD (ab_wI h 64 0 0)) (fun n => rfl) ?_
      refine ab_Ex.ifc (c := r5 = 0) (SA := (41, [(3, .int r5), (0, .ref 64), (1, .int x0), (2, .int x1)], [], ab_dD (ab_wI h 64 0 0))) (SB := (39, [(3, .int r5), (0, .ref 64), (1, .int x0), (2, .int x1)], [], ab_dD (ab_wI h 64 0 0))) (fun n => rfl) (fun c6 => ?_) (fun c6 => ?_)
      · replace hf := (if_pos c6).symm.trans hf
        refine ab_Ex.blk (k := 2) (pc' := 43) (lv' := [(3, .int r5), (0, .ref 64), (1, .int x0), (2, .int x1)]) (st' := [.int x0, .ref 64]) (sh' := ab_SH) (D' := ab_dD (ab_wI h 64 0 0)) (fun n => rfl) ?_
        obtain ⟨r7, hr7, hf⟩ := ab_bind_s hf
        refine ab_Ex.call (d := d + 5) (M2 := 265) (as := [.ref 64, .int x0]) (rest := []) (fun n => rfl) rfl (Nat.not_lt.mpr (Nat.le_of_ble_eq_true rfl)) (sX12_laysFeet (d) X x0 (ab_wI h 64 0 0) _ hr7) (fun r hr => ?_)
        subst hr
        show ab_Ex X (d + 6) 267 46 [(3, .int r5), (0, .ref 64), (1, .int x0), (2, .int x1)] [.int r7.1] ab_SH (ab_dD r7.2) _
        refine ab_Ex.blk (k := 5) (pc' := 53) (lv' := [(0, .ref 64), (2, .int x1), (4, .int 0), (5, .int 0)]) (st' := []) (sh' := ab_SH) (D' := ab_dD r7.2) (fun n => rfl) ?_
        exact sX12_shown_L53 d X  ab_N x1 0 0 r7.2 _ hf
      · replace hf := (if_neg c6).symm.trans hf
        refine ab_Ex.blk (k := 1) (pc' := 40) (lv' := [(3, .int r5), (0, .ref 64), (1, .int x0), (2, .int x1)]) (st' := [.int r5]) (sh' := ab_SH) (D' := ab_dD (ab_wI h 64 0 0)) (fun n => rfl) ?_
        obtain rfl := Option.some.inj hf
        exact ab_Ex.ret (fun n => rfl) rfl
def fX12_look_J119  (k37 : Int32 → Int32 → Int32 → abJ → Option (Int32 × abJ)) (y3 : Int32) (y4 : Int32) (y5 : Int32) (h : abJ) : Option (Int32 × abJ) := k37 y3 y4 ((y5 + 1)) h
def fX12_look_J94  (k54 : Int32 → Int32 → Int32 → Int32 → Int32 → abJ → Option (Int32 × abJ)) (y3 : Int32) (y4 : Int32) (y5 : Int32) (y7 : Int32) (t0 : Int32) (h : abJ) : Option (Int32 × abJ) := k54 y3 y4 y5 t0 ((y7 + 1)) h
def fX12_look_L54  (k37 : Int32 → Int32 → Int32 → abJ → Option (Int32 × abJ)) : Nat → Int32 → Int32 → Int32 → Int32 → Int32 → abJ → Option (Int32 × abJ)
  | 0, _, _, _, _, _, _ => none
  | n + 1, y3, y4, y5, y6, y7, h => if 3 ≤ y7 then if y6 < y4 then fX12_look_J119 k37 y5 y6 y5 h else fX12_look_J119 k37 y3 y4 y5 h else ab_ask (((3 * y5) + y7) < 0 ∨ 18 ≤ (((3 * y5) + y7) : Int32).toNatClampNeg) (if (h.1 76 (((3 * y5) + y7) : Int32).toNatClampNeg) ≤ y6 then fX12_look_J94 (fun y3 y4 y5 y6 y7 h => fX12_look_L54 k37 n y3 y4 y5 y6 y7 h) y3 y4 y5 y7 y6 h else ab_ask (((3 * y5) + y7) < 0 ∨ 18 ≤ (((3 * y5) + y7) : Int32).toNatClampNeg) (fX12_look_J94 (fun y3 y4 y5 y6 y7 h => fX12_look_L54 k37 n y3 y4 y5 y6 y7 h) y3 y4 y5 y7 ((h.1 76 (((3 * y5) + y7) : Int32).toNatClampNeg)) h))
def fX12_look_L37   : Nat → Int32 → Int32 → Int32 → abJ → Option (Int32 × abJ)
  | 0, _, _, _, _ => none
  | n + 1, y3, y4, y5, h => if (h.1 65 1) ≤ y5 then some (y3, h) else fX12_look_L54 (fun y3 y4 y5 h => fX12_look_L37 n y3 y4 y5 h) ab_N y3 y4 y5 0 0 h
def fX12_look (x0 : Int32) (h : abJ) : Option (Int32 × abJ) := (fX12_noFeet x0 (ab_wI h 64 0 0)).bind (fun r1 => if r1 = 0 then (fX12_laysFeet x0 (ab_wI h 64 0 0)).bind (fun r3 => if r3.1 = 0 then some ((-1), r3.2) else fX12_look_L37 ab_N ((-1)) 268435456 0 r3.2) else some (r1, (ab_wI h 64 0 0)))
set_option maxRecDepth 20000 in
theorem sX12_look_J119 (d : Nat) (X : abX) (k37 : Int32 → Int32 → Int32 → abJ → Option (Int32 × abJ)) (hk37 : ∀ (y3 : Int32) (y4 : Int32) (y5 : Int32) (h : abJ) (z : (Int32 × abJ)), k37 y3 y4 y5 h = some z → ab_Ex X (d + 6) 268 37 [(0, .ref 64), (3, .int y3), (4, .int y4), (5, .int y5)] [] ab_SH (ab_dD h) (fun r => r = (some (.int z.1), ab_SH, ab_dD z.2))) : ∀ (y3 : Int32) (y4 : Int32) (y5 : Int32) (h : abJ) (z : (Int32 × abJ)), fX12_look_J119 k37 y3 y4 y5 h = some z → ab_Ex X (d + 6) 268 119 [(0, .ref 64), (3, .int y3), (4, .int y4), (5, .int y5)] [] ab_SH (ab_dD h) (fun r => r = (some (.int z.1), ab_SH, ab_dD z.2)) := by
  intro y3 y4 y5 h z hf
  unfold fX12_look_J119 at hf
  refine ab_Ex.blk (k := 2) (pc' := 37) (lv' := [(0, .ref 64), (3, .int y3), (4, .int y4), (5, .int ((y5 + 1)))]) (st' := []) (sh' := ab_SH) (D' := ab_dD h) (fun n => rfl) ?_
  exact hk37 y3 y4 ((y5 + 1)) h _ hf
set_option maxRecDepth 20000 in
theorem sX12_look_J94 (d : Nat) (X : abX) (k54 : Int32 → Int32 → Int32 → Int32 → Int32 → abJ → Option (Int32 × abJ)) (hk54 : ∀ (y3 : Int32) (y4 : Int32) (y5 : Int32) (y6 : Int32) (y7 : Int32) (h : abJ) (z : (Int32 × abJ)), k54 y3 y4 y5 y6 y7 h = some z → ab_Ex X (d + 6) 268 54 [(0, .ref 64), (3, .int y3), (4, .int y4), (5, .int y5), (6, .int y6), (7, .int y7)] [] ab_SH (ab_dD h) (fun r => r = (some (.int z.1), ab_SH, ab_dD z.2))) : ∀ (y3 : Int32) (y4 : Int32) (y5 : Int32) (y7 : Int32) (t0 : Int32) (h : abJ) (z : (Int32 × abJ)), fX12_look_J94 k54 y3 y4 y5 y7 t0 h = some z → ab_Ex X (d + 6) 268 94 [(0, .ref 64), (3, .int y3), (4, .int y4), (5, .int y5), (7, .int y7)] [.int t0] ab_SH (ab_dD h) (fun r => r = (some (.int z.1), ab_SH, ab_dD z.2)) := by
  intro y3 y4 y5 y7 t0 h z hf
  unfold fX12_look_J94 at hf
  refine ab_Ex.blk (k := 3) (pc' := 54) (lv' := [(0, .ref 64), (3, .int y3), (4, .int y4), (5, .int y5), (6, .int t0), (7, .int ((y7 + 1)))]) (st' := []) (sh' := ab_SH) (D' := ab_dD h) (fun n => rfl) ?_
  exact hk54 y3 y4 y5 t0 ((y7 + 1)) h _ hf
set_option maxRecDepth 20000 in
theorem sX12_look_L54 (d : Nat) (X : abX) (k37 : Int32 → Int32 → Int32 → abJ → Option (Int32 × abJ)) (hk37 : ∀ (y3 : Int32) (y4 : Int32) (y5 : Int32) (h : abJ) (z : (Int32 × abJ)), k37 y3 y4 y5 h = some z → ab_Ex X (d + 6) 268 37 [(0, .ref 64), (3, .int y3), (4, .int y4), (5, .int y5)] [] ab_SH (ab_dD h) (fun r => r = (some (.int z.1), ab_SH, ab_dD z.2))) : ∀ (n : Nat), ∀ (y3 : Int32) (y4 : Int32) (y5 : Int32) (y6 : Int32) (y7 : Int32) (h : abJ) (z : (Int32 × abJ)), fX12_look_L54 k37 n y3 y4 y5 y6 y7 h = some z → ab_Ex X (d + 6) 268 54 [(0, .ref 64), (3, .int y3), (4, .int y4), (5, .int y5), (6, .int y6), (7, .int y7)] [] ab_SH (ab_dD h) (fun r => r = (some (.int z.1), ab_SH, ab_dD z.2)) := by
  intro n
  induction n with
  | zero => intro y3 y4 y5 y6 y7 h z hf; cases hf
  | succ n ih =>
    intro y3 y4 y5 y6 y7 h z hf
    rw [fX12_look_L54] at hf
    refine ab_Ex.blk (k := 2) (pc' := 57) (lv' := [(0, .ref 64), (3, .int y3), (4, .int y4), (5, .int y5), (6, .int y6), (7, .int y7)]) (st' := [.int 3, .int y7]) (sh' := ab_SH) (D' := ab_dD h) (fun n => rfl) ?_
    refine ab_Ex.ifc (c := 3 ≤ y7) (SA := (102, [(0, .ref 64), (3, .int y3), (4, .int y4), (5, .int y5), (6, .int y6), (7, .int y7)], [], ab_dD h)) (SB := (60, [(0, .ref 64), (3, .int y3), (4, .int y4), (5, .int y5), (6, .int y6), (7, .int y7)], [], ab_dD h)) (fun n => rfl) (fun c6 => ?_) (fun c6 => ?_)
    · replace hf := (if_pos c6).symm.trans hf
      refine ab_Ex.blk (k := 2) (pc' := 106) (lv' := [(0, .ref 64), (3, .int y3), (4, .int y4), (5, .int y5), (6, .int y6), (7, .int y7)]) (st' := [.int y4, .int y6]) (sh' := ab_SH) (D' := ab_dD h) (fun n => rfl) ?_
      refine ab_Ex.ifc (c := y6 < y4) (SA := (112, [(0, .ref 64), (3, .int y3), (4, .int y4), (5, .int y5), (6, .int y6), (7, .int y7)], [], ab_dD h)) (SB := (109, [(0, .ref 64), (3, .int y3), (4, .int y4), (5, .int y5), (6, .int y6), (7, .int y7)], [], ab_dD h)) (fun n => rfl) (fun c7 => ?_) (fun c7 => ?_)
      · replace hf := (if_pos c7).symm.trans hf
        refine ab_Ex.blk (k := 4) (pc' := 119) (lv' := [(0, .ref 64), (3, .int y5), (4, .int y6), (5, .int y5)]) (st' := []) (sh' := ab_SH) (D' := ab_dD h) (fun n => rfl) ?_
        exact sX12_look_J119 d X k37 hk37 y5 y6 y5 h _ hf
      · replace hf := (if_neg c7).symm.trans hf
        refine ab_Ex.blk (k := 1) (pc' := 119) (lv' := [(0, .ref 64), (3, .int y3), (4, .int y4), (5, .int y5)]) (st' := []) (sh' := ab_SH) (D' := ab_dD h) (fun n => rfl) ?_
        exact sX12_look_J119 d X k37 hk37 y3 y4 y5 h _ hf
    · replace hf := (if_neg c6).symm.trans hf
      refine ab_Ex.blk (k := 7) (pc' := 71) (lv' := [(0, .ref 64), (3, .int y3), (4, .int y4), (5, .int y5), (6, .int y6), (7, .int y7)]) (st' := [.int (((3 * y5) + y7)), .ref 76]) (sh' := ab_SH) (D' := ab_dD h) (fun n => rfl) ?_
      obtain ⟨c9, hf⟩ := ab_ask_s hf
      refine ab_Ex.grd (c := ((3 * y5) + y7) < 0 ∨ 18 ≤ (((3 * y5) + y7) : Int32).toNatClampNeg) (S := (72, [(0, .ref 64), (3, .int y3), (4, .int y4), (5, .int y5), (6, .int y6), (7, .int y7)], [.int ((h.1 76 (((3 * y5) + y7) : Int32).toNatClampNeg))], ab_dD h)) (fun n => rfl) c9 ?_
      refine ab_Ex.blk (k := 1) (pc' := 74) (lv' := [(0, .ref 64), (3, .int y3), (4, .int y4), (5, .int y5), (6, .int y6), (7, .int y7)]) (st' := [.int y6, .int ((h.1 76 (((3 * y5) + y7) : Int32).toNatClampNeg))]) (sh' := ab_SH) (D' := ab_dD h) (fun n => rfl) ?_
      refine ab_Ex.ifc (c := (h.1 76 (((3 * y5) + y7) : Int32).toNatClampNeg) ≤ y6) (SA := (92, [(0, .ref 64), (3, .int y3), (4, .int y4), (5, .int y5), (6, .int y6), (7, .int y7)], [], ab_dD h)) (SB := (77, [(0, .ref 64), (3, .int y3), (4, .int y4), (5, .int y5), (6, .int y6), (7, .int y7)], [], ab_dD h)) (fun n => rfl) (fun c10 => ?_) (fun c10 => ?_)
      · replace hf := (if_pos c10).symm.trans hf
        refine ab_Ex.blk (k := 1) (pc' := 94) (lv' := [(0, .ref 64), (3, .int y3), (4, .int y4), (5, .int y5), (7, .int y7)]) (st' := [.int y6]) (sh' := ab_SH) (D' := ab_dD h) (fun n => rfl) ?_
        exact sX12_look_J94 d X (fun y3 y4 y5 y6 y7 h => fX12_look_L54 k37 n y3 y4 y5 y6 y7 h) (fun y3 y4 y5 y6 y7 h z hz => ih y3 y4 y5 y6 y7 h z hz) y3 y4 y5 y7 y6 h _ hf
      · replace hf := (if_neg c10).symm.trans hf
        refine ab_Ex.blk (k := 7) (pc' := 88) (lv' := [(0, .ref 64), (3, .int y3), (4, .int y4), (5, .int y5), (6, .int y6), (7, .int y7)]) (st' := [.int (((3 * y5) + y7)), .ref 76]) (sh' := ab_SH) (D' := ab_dD h) (fun n => rfl) ?_
        obtain ⟨c12, hf⟩ := ab_ask_s hf
        refine ab_Ex.grd (c := ((3 * y5) + y7) < 0 ∨ 18 ≤ (((3 * y5) + y7) : Int32).toNatClampNeg) (S := (89, [(0, .ref 64), (3, .int y3), (4, .int y4), (5, .int y5), (6, .int y6), (7, .int y7)], [.int ((h.1 76 (((3 * y5) + y7) : Int32).toNatClampNeg))], ab_dD h)) (fun n => rfl) c12 ?_
        refine ab_Ex.blk (k := 1) (pc' := 94) (lv' := [(0, .ref 64), (3, .int y3), (4, .int y4), (5, .int y5), (7, .int y7)]) (st' := [.int ((h.1 76 (((3 * y5) + y7) : Int32).toNatClampNeg))]) (sh' := ab_SH) (D' := ab_dD h) (fun n => rfl) ?_
        exact sX12_look_J94 d X (fun y3 y4 y5 y6 y7 h => fX12_look_L54 k37 n y3 y4 y5 y6 y7 h) (fun y3 y4 y5 y6 y7 h z hz => ih y3 y4 y5 y6 y7 h z hz) y3 y4 y5 y7 ((h.1 76 (((3 * y5) + y7) : Int32).toNatClampNeg)) h _ hf
set_option maxRecDepth 20000 in
theorem sX12_look_L37 (d : Nat) (X : abX)   : ∀ (n : Nat), ∀ (y3 : Int32) (y4 : Int32) (y5 : Int32) (h : abJ) (z : (Int32 × abJ)), fX12_look_L37 n y3 y4 y5 h = some z → ab_Ex X (d + 6) 268 37 [(0, .ref 64), (3, .int y3), (4, .int y4), (5, .int y5)] [] ab_SH (ab_dD h) (fun r => r = (some (.int z.1), ab_SH, ab_dD z.2)) := by
  intro n
  induction n with
  | zero => intro y3 y4 y5 h z hf; cases hf
  | succ n ih =>
    intro y3 y4 y5 h z hf
    rw [fX12_look_L37] at hf
    refine ab_Ex.blk (k := 4) (pc' := 44) (lv' := [(0, .ref 64), (3, .int y3), (4, .int y4), (5, .int y5)]) (st' := [.int 1, .ref 65, .int y5]) (sh' := ab_SH) (D' := ab_dD h) (fun n => rfl) ?_
    refine ab_Ex.blk (k := 1) (pc' := 45) (lv' := [(0, .ref 64), (3, .int y3), (4, .int y4), (5, .int y5)]) (st' := [.int ((h.1 65 1)), .int y5]) (sh' := ab_SH) (D' := ab_dD h) (fun n => rfl) ?_
    refine ab_Ex.ifc (c := (h.1 65 1) ≤ y5) (SA := (125, [(0, .ref 64), (3, .int y3), (4, .int y4), (5, .int y5)], [], ab_dD h)) (SB := (48, [(0, .ref 64), (3, .int y3), (4, .int y4), (5, .int y5)], [], ab_dD h)) (fun n => rfl) (fun c5 => ?_) (fun c5 => ?_)
    · replace hf := (if_pos c5).symm.trans hf
      refine ab_Ex.blk (k := 1) (pc' := 126) (lv' := [(0, .ref 64), (3, .int y3), (4, .int y4), (5, .int y5)]) (st' := [.int y3]) (sh' := ab_SH) (D' := ab_dD h) (fun n => rfl) ?_
      obtain rfl := Option.some.inj hf
      exact ab_Ex.ret (fun n => rfl) rfl
    · replace hf := (if_neg c5).symm.trans hf
      refine ab_Ex.blk (k := 4) (pc' := 54) (lv' := [(0, .ref 64), (3, .int y3), (4, .int y4), (5, .int y5), (6, .int 0), (7, .int 0)]) (st' := []) (sh' := ab_SH) (D' := ab_dD h) (fun n => rfl) ?_
      exact sX12_look_L54 d X (fun y3 y4 y5 h => fX12_look_L37 n y3 y4 y5 h) (fun y3 y4 y5 h z hz => ih y3 y4 y5 h z hz) ab_N y3 y4 y5 0 0 h _ hf
set_option maxRecDepth 20000 in
theorem sX12_look (d : Nat) (X : abX) (x0 : Int32) (h : abJ) (z : (Int32 × abJ)) (hf : fX12_look x0 h = some z) : ab_Ex X (d + 6) 268 0 [(0, .ref 64), (1, .int x0)] [] ab_SH (ab_dD h) (fun r => r = (some (.int z.1), ab_SH, ab_dD z.2)) := by
  unfold fX12_look at hf
  refine ab_Ex.blk (k := 5) (pc' := 7) (lv' := [(0, .ref 64), (1, .int x0)]) (st' := [.int x0, .ref 64]) (sh' := ab_SH) (D' := ab_dD (ab_wI h 64 0 0)) (fun n => rfl) ?_
  obtain ⟨r1, hr1, hf⟩ := ab_bind_s hf
  refine ab_Ex.call (d := d + 5) (M2 := 263) (as := [.ref 64, .int x0]) (rest := []) (fun n => rfl) rfl (Nat.not_lt.mpr (Nat.le_of_ble_eq_true rfl)) (sX12_noFeet (d + 3) X x0 (ab_wI h 64 0 0) _ hr1) (fun r hr => ?_)
  subst hr
  show ab_Ex X (d + 6) 268 10 [(0, .ref 64), (1, .int x0)] [.int r1] ab_SH (ab_dD (ab_wI h 64 0 0)) _
  refine ab_Ex.blk (k := 2) (pc' := 12) (lv' := [(2, .int r1), (0, .ref 64), (1, .int x0)]) (st' := [.int r1]) (sh' := ab_SH) (D' := ab_dD (ab_wI h 64 0 0)) (fun n => rfl) ?_
  refine ab_Ex.ifc (c := r1 = 0) (SA := (17, [(2, .int r1), (0, .ref 64), (1, .int x0)], [], ab_dD (ab_wI h 64 0 0))) (SB := (15, [(2, .int r1), (0, .ref 64), (1, .int x0)], [], ab_dD (ab_wI h 64 0 0))) (fun n => rfl) (fun c2 => ?_) (fun c2 => ?_)
  · replace hf := (if_pos c2).symm.trans hf
    refine ab_Ex.blk (k := 2) (pc' := 19) (lv' := [(2, .int r1), (0, .ref 64), (1, .int x0)]) (st' := [.int x0, .ref 64]) (sh' := ab_SH) (D' := ab_dD (ab_wI h 64 0 0)) (fun n => rfl) ?_
    obtain ⟨r3, hr3, hf⟩ := ab_bind_s hf
    refine ab_Ex.call (d := d + 5) (M2 := 265) (as := [.ref 64, .int x0]) (rest := []) (fun n => rfl) rfl (Nat.not_lt.mpr (Nat.le_of_ble_eq_true rfl)) (sX12_laysFeet (d) X x0 (ab_wI h 64 0 0) _ hr3) (fun r hr => ?_)
    subst hr
    show ab_Ex X (d + 6) 268 22 [(2, .int r1), (0, .ref 64), (1, .int x0)] [.int r3.1] ab_SH (ab_dD r3.2) _
    refine ab_Ex.ifc (c := r3.1 = 0) (SA := (25, [(2, .int r1), (0, .ref 64), (1, .int x0)], [], ab_dD r3.2)) (SB := (27, [(2, .int r1), (0, .ref 64), (1, .int x0)], [], ab_dD r3.2)) (fun n => rfl) (fun c4 => ?_) (fun c4 => ?_)
    · replace hf := (if_pos c4).symm.trans hf
      refine ab_Ex.blk (k := 1) (pc' := 26) (lv' := [(2, .int r1), (0, .ref 64), (1, .int x0)]) (st' := [.int ((-1))]) (sh' := ab_SH) (D' := ab_dD r3.2) (fun n => rfl) ?_
      obtain rfl := Option.some.inj hf
      exact ab_Ex.ret (fun n => rfl) rfl
    · replace hf := (if_neg c4).symm.trans hf
      refine ab_Ex.blk (k := 6) (pc' := 37) (lv' := [(0, .ref 64), (3, .int ((-1))), (4, .int 268435456), (5, .int 0)]) (st' := []) (sh' := ab_SH) (D' := ab_dD r3.2) (fun n => rfl) ?_
      exact sX12_look_L37 d X  ab_N ((-1)) 268435456 0 r3.2 _ hf
  · replace hf := (if_neg c2).symm.trans hf
    refine ab_Ex.blk (k := 1) (pc' := 16) (lv' := [(2, .int r1), (0, .ref 64), (1, .int x0)]) (st' := [.int r1]) (sh' := ab_SH) (D' := ab_dD (ab_wI h 64 0 0)) (fun n => rfl) ?_
    obtain rfl := Option.some.inj hf
    exact ab_Ex.ret (fun n => rfl) rfl
def fX12_fogs_J52  (k22 : Int32 → Int32 → Int32 → abJ → Option (Int32 × abJ)) (y1 : Int32) (y4 : Int32) (t0 : Int32) (t1 : Int32) (h : abJ) : Option (Int32 × abJ) := k22 y1 ((t0 ||| t1)) ((y4 + 1)) h
def fX12_fogs_L22   : Nat → Int32 → Int32 → Int32 → abJ → Option (Int32 × abJ)
  | 0, _, _, _, _ => none
  | n + 1, y1, y3, y4, h => if 10 ≤ y4 then some (y3, h) else (fX12_armsNow h).bind (fun r4 => (fX12_areFeet y1 r4 y4 h).bind (fun r5 => if r5.1 = 0 then fX12_fogs_J52 (fun y1 y3 y4 h => fX12_fogs_L22 n y1 y3 y4 h) y1 y4 y3 0 r5.2 else fX12_fogs_J52 (fun y1 y3 y4 h => fX12_fogs_L22 n y1 y3 y4 h) y1 y4 y3 (((1 : Int32) <<< (y4 &&& 31))) r5.2))
def fX12_fogs (x0 : Int32) (h : abJ) : Option (Int32 × abJ) := (fX12_noFeet x0 (ab_wI h 64 0 0)).bind (fun r1 => if r1 = 0 then fX12_fogs_L22 ab_N x0 0 0 (ab_wI h 64 0 0) else some (r1, (ab_wI h 64 0 0)))
set_option maxRecDepth 20000 in
theorem sX12_fogs_J52 (d : Nat) (X : abX) (k22 : Int32 → Int32 → Int32 → abJ → Option (Int32 × abJ)) (hk22 : ∀ (y1 : Int32) (y3 : Int32) (y4 : Int32) (h : abJ) (z : (Int32 × abJ)), k22 y1 y3 y4 h = some z → ab_Ex X (d + 5) 269 22 [(0, .ref 64), (1, .int y1), (3, .int y3), (4, .int y4)] [] ab_SH (ab_dD h) (fun r => r = (some (.int z.1), ab_SH, ab_dD z.2))) : ∀ (y1 : Int32) (y4 : Int32) (t0 : Int32) (t1 : Int32) (h : abJ) (z : (Int32 × abJ)), fX12_fogs_J52 k22 y1 y4 t0 t1 h = some z → ab_Ex X (d + 5) 269 52 [(0, .ref 64), (1, .int y1), (4, .int y4)] [.int t1, .int t0] ab_SH (ab_dD h) (fun r => r = (some (.int z.1), ab_SH, ab_dD z.2)) := by
  intro y1 y4 t0 t1 h z hf
  unfold fX12_fogs_J52 at hf
  refine ab_Ex.blk (k := 4) (pc' := 22) (lv' := [(0, .ref 64), (1, .int y1), (3, .int ((t0 ||| t1))), (4, .int ((y4 + 1)))]) (st' := []) (sh' := ab_SH) (D' := ab_dD h) (fun n => rfl) ?_
  exact hk22 y1 ((t0 ||| t1)) ((y4 + 1)) h _ hf
set_option maxRecDepth 20000 in
theorem sX12_fogs_L22 (d : Nat) (X : abX)   : ∀ (n : Nat), ∀ (y1 : Int32) (y3 : Int32) (y4 : Int32) (h : abJ) (z : (Int32 × abJ)), fX12_fogs_L22 n y1 y3 y4 h = some z → ab_Ex X (d + 5) 269 22 [(0, .ref 64), (1, .int y1), (3, .int y3), (4, .int y4)] [] ab_SH (ab_dD h) (fun r => r = (some (.int z.1), ab_SH, ab_dD z.2)) := by
  intro n
  induction n with
  | zero => intro y1 y3 y4 h z hf; cases hf
  | succ n ih =>
    intro y1 y3 y4 h z hf
    rw [fX12_fogs_L22] at hf
    refine ab_Ex.blk (k := 2) (pc' := 26) (lv' := [(0, .ref 64), (1, .int y1), (3, .int y3), (4, .int y4)]) (st' := [.int 10, .int y4]) (sh' := ab_SH) (D' := ab_dD h) (fun n => rfl) ?_
    refine ab_Ex.ifc (c := 10 ≤ y4) (SA := (60, [(0, .ref 64), (1, .int y1), (3, .int y3), (4, .int y4)], [], ab_dD h)) (SB := (29, [(0, .ref 64), (1, .int y1), (3, .int y3), (4, .int y4)], [], ab_dD h)) (fun n => rfl) (fun c3 => ?_) (fun c3 => ?_)
    · replace hf := (if_pos c3).symm.trans hf
      refine ab_Ex.blk (k := 1) (pc' := 61) (lv' := [(0, .ref 64), (1, .int y1), (3, .int y3), (4, .int y4)]) (st' := [.int y3]) (sh' := ab_SH) (D' := ab_dD h) (fun n => rfl) ?_
      obtain rfl := Option.some.inj hf
      exact ab_Ex.ret (fun n => rfl) rfl
    · replace hf := (if_neg c3).symm.trans hf
      refine ab_Ex.blk (k := 4) (pc' := 33) (lv' := [(0, .ref 64), (1, .int y1), (3, .int y3), (4, .int y4)]) (st' := [.ref 64, .int y1, .ref 64, .int y3]) (sh' := ab_SH) (D' := ab_dD h) (fun n => rfl) ?_
      obtain ⟨r4, hr4, hf⟩ := ab_bind_s hf
      refine ab_Ex.call (d := d + 4) (M2 := 214) (as := [.ref 64]) (rest := [.int y1, .ref 64, .int y3]) (fun n => rfl) rfl (Nat.not_lt.mpr (Nat.le_of_ble_eq_true rfl)) (sX12_armsNow (d + 3) X  h _ hr4) (fun r hr => ?_)
      subst hr
      show ab_Ex X (d + 5) 269 36 [(0, .ref 64), (1, .int y1), (3, .int y3), (4, .int y4)] [.int r4, .int y1, .ref 64, .int y3] ab_SH (ab_dD h) _
      refine ab_Ex.blk (k := 1) (pc' := 38) (lv' := [(0, .ref 64), (1, .int y1), (3, .int y3), (4, .int y4)]) (st' := [.int y4, .int r4, .int y1, .ref 64, .int y3]) (sh' := ab_SH) (D' := ab_dD h) (fun n => rfl) ?_
      obtain ⟨r5, hr5, hf⟩ := ab_bind_s hf
      refine ab_Ex.call (d := d + 4) (M2 := 264) (as := [.ref 64, .int y1, .int r4, .int y4]) (rest := [.int y3]) (fun n => rfl) rfl (Nat.not_lt.mpr (Nat.le_of_ble_eq_true rfl)) (sX12_areFeet (d) X y1 r4 y4 h _ hr5) (fun r hr => ?_)
      subst hr
      show ab_Ex X (d + 5) 269 41 [(0, .ref 64), (1, .int y1), (3, .int y3), (4, .int y4)] [.int r5.1, .int y3] ab_SH (ab_dD r5.2) _
      refine ab_Ex.ifc (c := r5.1 = 0) (SA := (51, [(0, .ref 64), (1, .int y1), (3, .int y3), (4, .int y4)], [.int y3], ab_dD r5.2)) (SB := (44, [(0, .ref 64), (1, .int y1), (3, .int y3), (4, .int y4)], [.int y3], ab_dD r5.2)) (fun n => rfl) (fun c6 => ?_) (fun c6 => ?_)
      · replace hf := (if_pos c6).symm.trans hf
        refine ab_Ex.blk (k := 1) (pc' := 52) (lv' := [(0, .ref 64), (1, .int y1), (4, .int y4)]) (st' := [.int 0, .int y3]) (sh' := ab_SH) (D' := ab_dD r5.2) (fun n => rfl) ?_
        exact sX12_fogs_J52 d X (fun y1 y3 y4 h => fX12_fogs_L22 n y1 y3 y4 h) (fun y1 y3 y4 h z hz => ih y1 y3 y4 h z hz) y1 y4 y3 0 r5.2 _ hf
      · replace hf := (if_neg c6).symm.trans hf
        refine ab_Ex.blk (k := 4) (pc' := 52) (lv' := [(0, .ref 64), (1, .int y1), (4, .int y4)]) (st' := [.int (((1 : Int32) <<< (y4 &&& 31))), .int y3]) (sh' := ab_SH) (D' := ab_dD r5.2) (fun n => rfl) ?_
        exact sX12_fogs_J52 d X (fun y1 y3 y4 h => fX12_fogs_L22 n y1 y3 y4 h) (fun y1 y3 y4 h z hz => ih y1 y3 y4 h z hz) y1 y4 y3 (((1 : Int32) <<< (y4 &&& 31))) r5.2 _ hf
set_option maxRecDepth 20000 in
theorem sX12_fogs (d : Nat) (X : abX) (x0 : Int32) (h : abJ) (z : (Int32 × abJ)) (hf : fX12_fogs x0 h = some z) : ab_Ex X (d + 5) 269 0 [(0, .ref 64), (1, .int x0)] [] ab_SH (ab_dD h) (fun r => r = (some (.int z.1), ab_SH, ab_dD z.2)) := by
  unfold fX12_fogs at hf
  refine ab_Ex.blk (k := 5) (pc' := 7) (lv' := [(0, .ref 64), (1, .int x0)]) (st' := [.int x0, .ref 64]) (sh' := ab_SH) (D' := ab_dD (ab_wI h 64 0 0)) (fun n => rfl) ?_
  obtain ⟨r1, hr1, hf⟩ := ab_bind_s hf
  refine ab_Ex.call (d := d + 4) (M2 := 263) (as := [.ref 64, .int x0]) (rest := []) (fun n => rfl) rfl (Nat.not_lt.mpr (Nat.le_of_ble_eq_true rfl)) (sX12_noFeet (d + 2) X x0 (ab_wI h 64 0 0) _ hr1) (fun r hr => ?_)
  subst hr
  show ab_Ex X (d + 5) 269 10 [(0, .ref 64), (1, .int x0)] [.int r1] ab_SH (ab_dD (ab_wI h 64 0 0)) _
  refine ab_Ex.blk (k := 2) (pc' := 12) (lv' := [(2, .int r1), (0, .ref 64), (1, .int x0)]) (st' := [.int r1]) (sh' := ab_SH) (D' := ab_dD (ab_wI h 64 0 0)) (fun n => rfl) ?_
  refine ab_Ex.ifc (c := r1 = 0) (SA := (17, [(2, .int r1), (0, .ref 64), (1, .int x0)], [], ab_dD (ab_wI h 64 0 0))) (SB := (15, [(2, .int r1), (0, .ref 64), (1, .int x0)], [], ab_dD (ab_wI h 64 0 0))) (fun n => rfl) (fun c2 => ?_) (fun c2 => ?_)
  · replace hf := (if_pos c2).symm.trans hf
    refine ab_Ex.blk (k := 4) (pc' := 22) (lv' := [(0, .ref 64), (1, .int x0), (3, .int 0), (4, .int 0)]) (st' := []) (sh' := ab_SH) (D' := ab_dD (ab_wI h 64 0 0)) (fun n => rfl) ?_
    exact sX12_fogs_L22 d X  ab_N x0 0 0 (ab_wI h 64 0 0) _ hf
  · replace hf := (if_neg c2).symm.trans hf
    refine ab_Ex.blk (k := 1) (pc' := 16) (lv' := [(2, .int r1), (0, .ref 64), (1, .int x0)]) (st' := [.int r1]) (sh' := ab_SH) (D' := ab_dD (ab_wI h 64 0 0)) (fun n => rfl) ?_
    obtain rfl := Option.some.inj hf
    exact ab_Ex.ret (fun n => rfl) rfl
def fX12_laysAhead_L86   : Nat → Int32 → Int32 → abJ → Option (Int32 × abJ)
  | 0, _, _, _ => none
  | n + 1, y1, y2, h => if 4374 ≤ y2 then some (y1, h) else ab_ask (y2 < 0 ∨ 4374 ≤ (y2 : Int32).toNatClampNeg) (ab_ask (y2 < 0 ∨ 4374 ≤ (y2 : Int32).toNatClampNeg) (fX12_laysAhead_L86 n y1 ((y2 + 1)) (ab_wI h 77 (y2 : Int32).toNatClampNeg (vp_nar .boolean (h.1 78 (y2 : Int32).toNatClampNeg)))))
def fX12_laysAhead_J76  (k4 : Int32 → Int32 → abJ → Option (Int32 × abJ)) (y2 : Int32) (t0 : Int32) (t1 : Int32) (h : abJ) : Option (Int32 × abJ) := k4 ((t0 + t1)) ((y2 + 1)) h
def fX12_laysAhead_J60  (k4 : Int32 → Int32 → abJ → Option (Int32 × abJ)) (y1 : Int32) (y2 : Int32) (t1 : Int32) (t2 : Int32) (h : abJ) : Option (Int32 × abJ) := ab_ask (t1 < 0 ∨ 4374 ≤ (t1 : Int32).toNatClampNeg) (ab_ask (y2 < 0 ∨ 4374 ≤ (y2 : Int32).toNatClampNeg) (if ((ab_wI h 78 (t1 : Int32).toNatClampNeg (vp_nar .boolean t2)).1 78 (y2 : Int32).toNatClampNeg) = 0 then fX12_laysAhead_J76 k4 y2 y1 0 (ab_wI h 78 (t1 : Int32).toNatClampNeg (vp_nar .boolean t2)) else fX12_laysAhead_J76 k4 y2 y1 1 (ab_wI h 78 (t1 : Int32).toNatClampNeg (vp_nar .boolean t2))))
def fX12_laysAhead_J59  (k4 : Int32 → Int32 → abJ → Option (Int32 × abJ)) (y1 : Int32) (y2 : Int32) (t1 : Int32) (h : abJ) : Option (Int32 × abJ) := fX12_laysAhead_J60 k4 y1 y2 t1 0 h
def fX12_laysAhead_L4   : Nat → Int32 → Int32 → abJ → Option (Int32 × abJ)
  | 0, _, _, _ => none
  | n + 1, y1, y2, h => if 4374 ≤ y2 then fX12_laysAhead_L86 ab_N y1 0 h else (fX12_isStand1 y2 h).bind (fun r6 => if r6 = 0 then fX12_laysAhead_J59 (fun y1 y2 h => fX12_laysAhead_L4 n y1 y2 h) y1 y2 y2 h else (fX12_isRest ((y2 - y2 / 6 * 6)) h).bind (fun r12 => if r12 = 0 then (fX12_stepTo y2 ((h.1 65 40)) h).bind (fun r14 => ab_ask (r14.1 < 0 ∨ 4374 ≤ (r14.1 : Int32).toNatClampNeg) (if (r14.2.1 77 (r14.1 : Int32).toNatClampNeg) = 0 then fX12_laysAhead_J59 (fun y1 y2 h => fX12_laysAhead_L4 n y1 y2 h) y1 y2 y2 r14.2 else fX12_laysAhead_J60 (fun y1 y2 h => fX12_laysAhead_L4 n y1 y2 h) y1 y2 y2 1 r14.2)) else fX12_laysAhead_J59 (fun y1 y2 h => fX12_laysAhead_L4 n y1 y2 h) y1 y2 y2 h))
def fX12_laysAhead  (h : abJ) : Option (Int32 × abJ) := fX12_laysAhead_L4 ab_N 0 0 h
set_option maxRecDepth 20000 in
theorem sX12_laysAhead_L86 (d : Nat) (X : abX)   : ∀ (n : Nat), ∀ (y1 : Int32) (y2 : Int32) (h : abJ) (z : (Int32 × abJ)), fX12_laysAhead_L86 n y1 y2 h = some z → ab_Ex X (d + 4) 270 86 [(0, .ref 64), (1, .int y1), (2, .int y2)] [] ab_SH (ab_dD h) (fun r => r = (some (.int z.1), ab_SH, ab_dD z.2)) := by
  intro n
  induction n with
  | zero => intro y1 y2 h z hf; cases hf
  | succ n ih =>
    intro y1 y2 h z hf
    rw [fX12_laysAhead_L86] at hf
    refine ab_Ex.blk (k := 2) (pc' := 90) (lv' := [(0, .ref 64), (1, .int y1), (2, .int y2)]) (st' := [.int 4374, .int y2]) (sh' := ab_SH) (D' := ab_dD h) (fun n => rfl) ?_
    refine ab_Ex.ifc (c := 4374 ≤ y2) (SA := (111, [(0, .ref 64), (1, .int y1), (2, .int y2)], [], ab_dD h)) (SB := (93, [(0, .ref 64), (1, .int y1), (2, .int y2)], [], ab_dD h)) (fun n => rfl) (fun c2 => ?_) (fun c2 => ?_)
    · replace hf := (if_pos c2).symm.trans hf
      refine ab_Ex.blk (k := 1) (pc' := 112) (lv' := [(0, .ref 64), (1, .int y1), (2, .int y2)]) (st' := [.int y1]) (sh' := ab_SH) (D' := ab_dD h) (fun n => rfl) ?_
      obtain rfl := Option.some.inj hf
      exact ab_Ex.ret (fun n => rfl) rfl
    · replace hf := (if_neg c2).symm.trans hf
      refine ab_Ex.blk (k := 6) (pc' := 103) (lv' := [(0, .ref 64), (1, .int y1), (2, .int y2)]) (st' := [.int y2, .ref 78, .int y2, .ref 77]) (sh' := ab_SH) (D' := ab_dD h) (fun n => rfl) ?_
      obtain ⟨c4, hf⟩ := ab_ask_s hf
      refine ab_Ex.grd (c := y2 < 0 ∨ 4374 ≤ (y2 : Int32).toNatClampNeg) (S := (104, [(0, .ref 64), (1, .int y1), (2, .int y2)], [.int ((h.1 78 (y2 : Int32).toNatClampNeg)), .int y2, .ref 77], ab_dD h)) (fun n => rfl) c4 ?_
      obtain ⟨c5, hf⟩ := ab_ask_s hf
      refine ab_Ex.grd (c := y2 < 0 ∨ 4374 ≤ (y2 : Int32).toNatClampNeg) (S := (105, [(0, .ref 64), (1, .int y1), (2, .int y2)], [], ab_dD (ab_wI h 77 (y2 : Int32).toNatClampNeg (vp_nar .boolean (h.1 78 (y2 : Int32).toNatClampNeg))))) (fun n => rfl) c5 ?_
      refine ab_Ex.blk (k := 2) (pc' := 86) (lv' := [(0, .ref 64), (1, .int y1), (2, .int ((y2 + 1)))]) (st' := []) (sh' := ab_SH) (D' := ab_dD (ab_wI h 77 (y2 : Int32).toNatClampNeg (vp_nar .boolean (h.1 78 (y2 : Int32).toNatClampNeg)))) (fun n => rfl) ?_
      exact ih y1 ((y2 + 1)) (ab_wI h 77 (y2 : Int32).toNatClampNeg (vp_nar .boolean (h.1 78 (y2 : Int32).toNatClampNeg))) _ hf
set_option maxRecDepth 20000 in
theorem sX12_laysAhead_J76 (d : Nat) (X : abX) (k4 : Int32 → Int32 → abJ → Option (Int32 × abJ)) (hk4 : ∀ (y1 : Int32) (y2 : Int32) (h : abJ) (z : (Int32 × abJ)), k4 y1 y2 h = some z → ab_Ex X (d + 4) 270 4 [(0, .ref 64), (1, .int y1), (2, .int y2)] [] ab_SH (ab_dD h) (fun r => r = (some (.int z.1), ab_SH, ab_dD z.2))) : ∀ (y2 : Int32) (t0 : Int32) (t1 : Int32) (h : abJ) (z : (Int32 × abJ)), fX12_laysAhead_J76 k4 y2 t0 t1 h = some z → ab_Ex X (d + 4) 270 76 [(0, .ref 64), (2, .int y2)] [.int t1, .int t0] ab_SH (ab_dD h) (fun r => r = (some (.int z.1), ab_SH, ab_dD z.2)) := by
  intro y2 t0 t1 h z hf
  unfold fX12_laysAhead_J76 at hf
  refine ab_Ex.blk (k := 4) (pc' := 4) (lv' := [(0, .ref 64), (1, .int ((t0 + t1))), (2, .int ((y2 + 1)))]) (st' := []) (sh' := ab_SH) (D' := ab_dD h) (fun n => rfl) ?_
  exact hk4 ((t0 + t1)) ((y2 + 1)) h _ hf
set_option maxRecDepth 20000 in
theorem sX12_laysAhead_J60 (d : Nat) (X : abX) (k4 : Int32 → Int32 → abJ → Option (Int32 × abJ)) (hk4 : ∀ (y1 : Int32) (y2 : Int32) (h : abJ) (z : (Int32 × abJ)), k4 y1 y2 h = some z → ab_Ex X (d + 4) 270 4 [(0, .ref 64), (1, .int y1), (2, .int y2)] [] ab_SH (ab_dD h) (fun r => r = (some (.int z.1), ab_SH, ab_dD z.2))) : ∀ (y1 : Int32) (y2 : Int32) (t1 : Int32) (t2 : Int32) (h : abJ) (z : (Int32 × abJ)), fX12_laysAhead_J60 k4 y1 y2 t1 t2 h = some z → ab_Ex X (d + 4) 270 60 [(0, .ref 64), (1, .int y1), (2, .int y2)] [.int t2, .int t1, .ref 78] ab_SH (ab_dD h) (fun r => r = (some (.int z.1), ab_SH, ab_dD z.2)) := by
  intro y1 y2 t1 t2 h z hf
  unfold fX12_laysAhead_J60 at hf
  obtain ⟨c8, hf⟩ := ab_ask_s hf
  refine ab_Ex.grd (c := t1 < 0 ∨ 4374 ≤ (t1 : Int32).toNatClampNeg) (S := (61, [(0, .ref 64), (1, .int y1), (2, .int y2)], [], ab_dD (ab_wI h 78 (t1 : Int32).toNatClampNeg (vp_nar .boolean t2)))) (fun n => rfl) c8 ?_
  refine ab_Ex.blk (k := 4) (pc' := 67) (lv' := [(0, .ref 64), (1, .int y1), (2, .int y2)]) (st' := [.int y2, .ref 78, .int y1]) (sh' := ab_SH) (D' := ab_dD (ab_wI h 78 (t1 : Int32).toNatClampNeg (vp_nar .boolean t2))) (fun n => rfl) ?_
  obtain ⟨c10, hf⟩ := ab_ask_s hf
  refine ab_Ex.grd (c := y2 < 0 ∨ 4374 ≤ (y2 : Int32).toNatClampNeg) (S := (68, [(0, .ref 64), (1, .int y1), (2, .int y2)], [.int (((ab_wI h 78 (t1 : Int32).toNatClampNeg (vp_nar .boolean t2)).1 78 (y2 : Int32).toNatClampNeg)), .int y1], ab_dD (ab_wI h 78 (t1 : Int32).toNatClampNeg (vp_nar .boolean t2)))) (fun n => rfl) c10 ?_
  refine ab_Ex.ifc (c := ((ab_wI h 78 (t1 : Int32).toNatClampNeg (vp_nar .boolean t2)).1 78 (y2 : Int32).toNatClampNeg) = 0) (SA := (75, [(0, .ref 64), (1, .int y1), (2, .int y2)], [.int y1], ab_dD (ab_wI h 78 (t1 : Int32).toNatClampNeg (vp_nar .boolean t2)))) (SB := (71, [(0, .ref 64), (1, .int y1), (2, .int y2)], [.int y1], ab_dD (ab_wI h 78 (t1 : Int32).toNatClampNeg (vp_nar .boolean t2)))) (fun n => rfl) (fun c11 => ?_) (fun c11 => ?_)
  · replace hf := (if_pos c11).symm.trans hf
    refine ab_Ex.blk (k := 1) (pc' := 76) (lv' := [(0, .ref 64), (2, .int y2)]) (st' := [.int 0, .int y1]) (sh' := ab_SH) (D' := ab_dD (ab_wI h 78 (t1 : Int32).toNatClampNeg (vp_nar .boolean t2))) (fun n => rfl) ?_
    exact sX12_laysAhead_J76 d X k4 hk4 y2 y1 0 (ab_wI h 78 (t1 : Int32).toNatClampNeg (vp_nar .boolean t2)) _ hf
  · replace hf := (if_neg c11).symm.trans hf
    refine ab_Ex.blk (k := 2) (pc' := 76) (lv' := [(0, .ref 64), (2, .int y2)]) (st' := [.int 1, .int y1]) (sh' := ab_SH) (D' := ab_dD (ab_wI h 78 (t1 : Int32).toNatClampNeg (vp_nar .boolean t2))) (fun n => rfl) ?_
    exact sX12_laysAhead_J76 d X k4 hk4 y2 y1 1 (ab_wI h 78 (t1 : Int32).toNatClampNeg (vp_nar .boolean t2)) _ hf
set_option maxRecDepth 20000 in
theorem sX12_laysAhead_J59 (d : Nat) (X : abX) (k4 : Int32 → Int32 → abJ → Option (Int32 × abJ)) (hk4 : ∀ (y1 : Int32) (y2 : Int32) (h : abJ) (z : (Int32 × abJ)), k4 y1 y2 h = some z → ab_Ex X (d + 4) 270 4 [(0, .ref 64), (1, .int y1), (2, .int y2)] [] ab_SH (ab_dD h) (fun r => r = (some (.int z.1), ab_SH, ab_dD z.2))) : ∀ (y1 : Int32) (y2 : Int32) (t1 : Int32) (h : abJ) (z : (Int32 × abJ)), fX12_laysAhead_J59 k4 y1 y2 t1 h = some z → ab_Ex X (d + 4) 270 59 [(0, .ref 64), (1, .int y1), (2, .int y2)] [.int t1, .ref 78] ab_SH (ab_dD h) (fun r => r = (some (.int z.1), ab_SH, ab_dD z.2)) := by
  intro y1 y2 t1 h z hf
  unfold fX12_laysAhead_J59 at hf
  refine ab_Ex.blk (k := 1) (pc' := 60) (lv' := [(0, .ref 64), (1, .int y1), (2, .int y2)]) (st' := [.int 0, .int t1, .ref 78]) (sh' := ab_SH) (D' := ab_dD h) (fun n => rfl) ?_
  exact sX12_laysAhead_J60 d X k4 hk4 y1 y2 t1 0 h _ hf
set_option maxRecDepth 20000 in
theorem sX12_laysAhead_L4 (d : Nat) (X : abX)   : ∀ (n : Nat), ∀ (y1 : Int32) (y2 : Int32) (h : abJ) (z : (Int32 × abJ)), fX12_laysAhead_L4 n y1 y2 h = some z → ab_Ex X (d + 4) 270 4 [(0, .ref 64), (1, .int y1), (2, .int y2)] [] ab_SH (ab_dD h) (fun r => r = (some (.int z.1), ab_SH, ab_dD z.2)) := by
  intro n
  induction n with
  | zero => intro y1 y2 h z hf; cases hf
  | succ n ih =>
    intro y1 y2 h z hf
    rw [fX12_laysAhead_L4] at hf
    refine ab_Ex.blk (k := 2) (pc' := 8) (lv' := [(0, .ref 64), (1, .int y1), (2, .int y2)]) (st' := [.int 4374, .int y2]) (sh' := ab_SH) (D' := ab_dD h) (fun n => rfl) ?_
    refine ab_Ex.ifc (c := 4374 ≤ y2) (SA := (84, [(0, .ref 64), (1, .int y1), (2, .int y2)], [], ab_dD h)) (SB := (11, [(0, .ref 64), (1, .int y1), (2, .int y2)], [], ab_dD h)) (fun n => rfl) (fun c1 => ?_) (fun c1 => ?_)
    · replace hf := (if_pos c1).symm.trans hf
      refine ab_Ex.blk (k := 2) (pc' := 86) (lv' := [(0, .ref 64), (1, .int y1), (2, .int 0)]) (st' := []) (sh' := ab_SH) (D' := ab_dD h) (fun n => rfl) ?_
      exact sX12_laysAhead_L86 d X  ab_N y1 0 h _ hf
    · replace hf := (if_neg c1).symm.trans hf
      refine ab_Ex.blk (k := 5) (pc' := 18) (lv' := [(0, .ref 64), (1, .int y1), (2, .int y2)]) (st' := [.int y2, .ref 64, .int y2, .ref 78]) (sh' := ab_SH) (D' := ab_dD h) (fun n => rfl) ?_
      obtain ⟨r6, hr6, hf⟩ := ab_bind_s hf
      refine ab_Ex.call (d := d + 3) (M2 := 220) (as := [.ref 64, .int y2]) (rest := [.int y2, .ref 78]) (fun n => rfl) rfl (Nat.not_lt.mpr (Nat.le_of_ble_eq_true rfl)) (sX12_isStand1 (d) X y2 h _ hr6) (fun r hr => ?_)
      subst hr
      show ab_Ex X (d + 4) 270 21 [(0, .ref 64), (1, .int y1), (2, .int y2)] [.int r6, .int y2, .ref 78] ab_SH (ab_dD h) _
      refine ab_Ex.ifc (c := r6 = 0) (SA := (59, [(0, .ref 64), (1, .int y1), (2, .int y2)], [.int y2, .ref 78], ab_dD h)) (SB := (24, [(0, .ref 64), (1, .int y1), (2, .int y2)], [.int y2, .ref 78], ab_dD h)) (fun n => rfl) (fun c7 => ?_) (fun c7 => ?_)
      · replace hf := (if_pos c7).symm.trans hf
        exact sX12_laysAhead_J59 d X (fun y1 y2 h => fX12_laysAhead_L4 n y1 y2 h) (fun y1 y2 h z hz => ih y1 y2 h z hz) y1 y2 y2 h _ hf
      · replace hf := (if_neg c7).symm.trans hf
        refine ab_Ex.blk (k := 3) (pc' := 28) (lv' := [(0, .ref 64), (1, .int y1), (2, .int y2)]) (st' := [.int 6, .int y2, .ref 64, .int y2, .ref 78]) (sh' := ab_SH) (D' := ab_dD h) (fun n => rfl) ?_
        refine ab_Ex.blk (k := 1) (pc' := 29) (lv' := [(0, .ref 64), (1, .int y1), (2, .int y2)]) (st' := [.int ((y2 - y2 / 6 * 6)), .ref 64, .int y2, .ref 78]) (sh' := ab_SH) (D' := ab_dD h) (fun n => rfl) ?_
        obtain ⟨r12, hr12, hf⟩ := ab_bind_s hf
        refine ab_Ex.call (d := d + 3) (M2 := 223) (as := [.ref 64, .int ((y2 - y2 / 6 * 6))]) (rest := [.int y2, .ref 78]) (fun n => rfl) rfl (Nat.not_lt.mpr (Nat.le_of_ble_eq_true rfl)) (sX12_isRest (d + 2) X ((y2 - y2 / 6 * 6)) h _ hr12) (fun r hr => ?_)
        subst hr
        show ab_Ex X (d + 4) 270 32 [(0, .ref 64), (1, .int y1), (2, .int y2)] [.int r12, .int y2, .ref 78] ab_SH (ab_dD h) _
        refine ab_Ex.ifc (c := r12 = 0) (SA := (35, [(0, .ref 64), (1, .int y1), (2, .int y2)], [.int y2, .ref 78], ab_dD h)) (SB := (59, [(0, .ref 64), (1, .int y1), (2, .int y2)], [.int y2, .ref 78], ab_dD h)) (fun n => rfl) (fun c13 => ?_) (fun c13 => ?_)
        · replace hf := (if_pos c13).symm.trans hf
          refine ab_Ex.blk (k := 7) (pc' := 47) (lv' := [(0, .ref 64), (1, .int y1), (2, .int y2)]) (st' := [.int 40, .ref 65, .int y2, .ref 64, .ref 77, .int y2, .ref 78]) (sh' := ab_SH) (D' := ab_dD h) (fun n => rfl) ?_
          refine ab_Ex.blk (k := 1) (pc' := 48) (lv' := [(0, .ref 64), (1, .int y1), (2, .int y2)]) (st' := [.int ((h.1 65 40)), .int y2, .ref 64, .ref 77, .int y2, .ref 78]) (sh' := ab_SH) (D' := ab_dD h) (fun n => rfl) ?_
          obtain ⟨r14, hr14, hf⟩ := ab_bind_s hf
          refine ab_Ex.call (d := d + 3) (M2 := 224) (as := [.ref 64, .int y2, .int ((h.1 65 40))]) (rest := [.ref 77, .int y2, .ref 78]) (fun n => rfl) rfl (Nat.not_lt.mpr (Nat.le_of_ble_eq_true rfl)) (sX12_stepTo (d) X y2 ((h.1 65 40)) h _ hr14) (fun r hr => ?_)
          subst hr
          show ab_Ex X (d + 4) 270 51 [(0, .ref 64), (1, .int y1), (2, .int y2)] [.int r14.1, .ref 77, .int y2, .ref 78] ab_SH (ab_dD r14.2) _
          obtain ⟨c16, hf⟩ := ab_ask_s hf
          refine ab_Ex.grd (c := r14.1 < 0 ∨ 4374 ≤ (r14.1 : Int32).toNatClampNeg) (S := (52, [(0, .ref 64), (1, .int y1), (2, .int y2)], [.int ((r14.2.1 77 (r14.1 : Int32).toNatClampNeg)), .int y2, .ref 78], ab_dD r14.2)) (fun n => rfl) c16 ?_
          refine ab_Ex.ifc (c := (r14.2.1 77 (r14.1 : Int32).toNatClampNeg) = 0) (SA := (59, [(0, .ref 64), (1, .int y1), (2, .int y2)], [.int y2, .ref 78], ab_dD r14.2)) (SB := (55, [(0, .ref 64), (1, .int y1), (2, .int y2)], [.int y2, .ref 78], ab_dD r14.2)) (fun n => rfl) (fun c17 => ?_) (fun c17 => ?_)
          · replace hf := (if_pos c17).symm.trans hf
            exact sX12_laysAhead_J59 d X (fun y1 y2 h => fX12_laysAhead_L4 n y1 y2 h) (fun y1 y2 h z hz => ih y1 y2 h z hz) y1 y2 y2 r14.2 _ hf
          · replace hf := (if_neg c17).symm.trans hf
            refine ab_Ex.blk (k := 2) (pc' := 60) (lv' := [(0, .ref 64), (1, .int y1), (2, .int y2)]) (st' := [.int 1, .int y2, .ref 78]) (sh' := ab_SH) (D' := ab_dD r14.2) (fun n => rfl) ?_
            exact sX12_laysAhead_J60 d X (fun y1 y2 h => fX12_laysAhead_L4 n y1 y2 h) (fun y1 y2 h z hz => ih y1 y2 h z hz) y1 y2 y2 1 r14.2 _ hf
        · replace hf := (if_neg c13).symm.trans hf
          exact sX12_laysAhead_J59 d X (fun y1 y2 h => fX12_laysAhead_L4 n y1 y2 h) (fun y1 y2 h z hz => ih y1 y2 h z hz) y1 y2 y2 h _ hf
set_option maxRecDepth 20000 in
theorem sX12_laysAhead (d : Nat) (X : abX)  (h : abJ) (z : (Int32 × abJ)) (hf : fX12_laysAhead  h = some z) : ab_Ex X (d + 4) 270 0 [(0, .ref 64)] [] ab_SH (ab_dD h) (fun r => r = (some (.int z.1), ab_SH, ab_dD z.2)) := by
  unfold fX12_laysAhead at hf
  refine ab_Ex.blk (k := 4) (pc' := 4) (lv' := [(0, .ref 64), (1, .int 0), (2, .int 0)]) (st' := []) (sh' := ab_SH) (D' := ab_dD h) (fun n => rfl) ?_
  exact sX12_laysAhead_L4 d X  ab_N 0 0 h _ hf
def fX12_beginsAhead_J27  (k2 : Int32 → abJ → Option abJ) (y1 : Int32) (t1 : Int32) (t2 : Int32) (h : abJ) : Option abJ := ab_ask (t1 < 0 ∨ 4374 ≤ (t1 : Int32).toNatClampNeg) (k2 ((y1 + 1)) (ab_wI h 77 (t1 : Int32).toNatClampNeg (vp_nar .boolean t2)))
def fX12_beginsAhead_L2   : Nat → Int32 → abJ → Option abJ
  | 0, _, _ => none
  | n + 1, y1, h => if 4374 ≤ y1 then some h else (fX12_standNow h).bind (fun r2 => if y1 = r2 then fX12_beginsAhead_J27 (fun y1 h => fX12_beginsAhead_L2 n y1 h) y1 y1 1 h else fX12_beginsAhead_J27 (fun y1 h => fX12_beginsAhead_L2 n y1 h) y1 y1 0 h)
def fX12_beginsAhead  (h : abJ) : Option abJ := fX12_beginsAhead_L2 ab_N 0 h
set_option maxRecDepth 20000 in
theorem sX12_beginsAhead_J27 (d : Nat) (X : abX) (k2 : Int32 → abJ → Option abJ) (hk2 : ∀ (y1 : Int32) (h : abJ) (z : abJ), k2 y1 h = some z → ab_Ex X (d + 3) 271 2 [(0, .ref 64), (1, .int y1)] [] ab_SH (ab_dD h) (fun r => r = (none, ab_SH, ab_dD z))) : ∀ (y1 : Int32) (t1 : Int32) (t2 : Int32) (h : abJ) (z : abJ), fX12_beginsAhead_J27 k2 y1 t1 t2 h = some z → ab_Ex X (d + 3) 271 27 [(0, .ref 64), (1, .int y1)] [.int t2, .int t1, .ref 77] ab_SH (ab_dD h) (fun r => r = (none, ab_SH, ab_dD z)) := by
  intro y1 t1 t2 h z hf
  unfold fX12_beginsAhead_J27 at hf
  obtain ⟨c4, hf⟩ := ab_ask_s hf
  refine ab_Ex.grd (c := t1 < 0 ∨ 4374 ≤ (t1 : Int32).toNatClampNeg) (S := (28, [(0, .ref 64), (1, .int y1)], [], ab_dD (ab_wI h 77 (t1 : Int32).toNatClampNeg (vp_nar .boolean t2)))) (fun n => rfl) c4 ?_
  refine ab_Ex.blk (k := 2) (pc' := 2) (lv' := [(0, .ref 64), (1, .int ((y1 + 1)))]) (st' := []) (sh' := ab_SH) (D' := ab_dD (ab_wI h 77 (t1 : Int32).toNatClampNeg (vp_nar .boolean t2))) (fun n => rfl) ?_
  exact hk2 ((y1 + 1)) (ab_wI h 77 (t1 : Int32).toNatClampNeg (vp_nar .boolean t2)) _ hf
set_option maxRecDepth 20000 in
theorem sX12_beginsAhead_L2 (d : Nat) (X : abX)   : ∀ (n : Nat), ∀ (y1 : Int32) (h : abJ) (z : abJ), fX12_beginsAhead_L2 n y1 h = some z → ab_Ex X (d + 3) 271 2 [(0, .ref 64), (1, .int y1)] [] ab_SH (ab_dD h) (fun r => r = (none, ab_SH, ab_dD z)) := by
  intro n
  induction n with
  | zero => intro y1 h z hf; cases hf
  | succ n ih =>
    intro y1 h z hf
    rw [fX12_beginsAhead_L2] at hf
    refine ab_Ex.blk (k := 2) (pc' := 6) (lv' := [(0, .ref 64), (1, .int y1)]) (st' := [.int 4374, .int y1]) (sh' := ab_SH) (D' := ab_dD h) (fun n => rfl) ?_
    refine ab_Ex.ifc (c := 4374 ≤ y1) (SA := (34, [(0, .ref 64), (1, .int y1)], [], ab_dD h)) (SB := (9, [(0, .ref 64), (1, .int y1)], [], ab_dD h)) (fun n => rfl) (fun c1 => ?_) (fun c1 => ?_)
    · replace hf := (if_pos c1).symm.trans hf
      obtain rfl := Option.some.inj hf
      exact ab_Ex.ret (fun n => rfl) rfl
    · replace hf := (if_neg c1).symm.trans hf
      refine ab_Ex.blk (k := 5) (pc' := 16) (lv' := [(0, .ref 64), (1, .int y1)]) (st' := [.ref 64, .int y1, .int y1, .ref 77]) (sh' := ab_SH) (D' := ab_dD h) (fun n => rfl) ?_
      obtain ⟨r2, hr2, hf⟩ := ab_bind_s hf
      refine ab_Ex.call (d := d + 2) (M2 := 216) (as := [.ref 64]) (rest := [.int y1, .int y1, .ref 77]) (fun n => rfl) rfl (Nat.not_lt.mpr (Nat.le_of_ble_eq_true rfl)) (sX12_standNow (d) X  h _ hr2) (fun r hr => ?_)
      subst hr
      show ab_Ex X (d + 3) 271 19 [(0, .ref 64), (1, .int y1)] [.int r2, .int y1, .int y1, .ref 77] ab_SH (ab_dD h) _
      refine ab_Ex.ifc (c := y1 = r2) (SA := (22, [(0, .ref 64), (1, .int y1)], [.int y1, .ref 77], ab_dD h)) (SB := (26, [(0, .ref 64), (1, .int y1)], [.int y1, .ref 77], ab_dD h)) (fun n => rfl) (fun c3 => ?_) (fun c3 => ?_)
      · replace hf := (if_pos c3).symm.trans hf
        refine ab_Ex.blk (k := 2) (pc' := 27) (lv' := [(0, .ref 64), (1, .int y1)]) (st' := [.int 1, .int y1, .ref 77]) (sh' := ab_SH) (D' := ab_dD h) (fun n => rfl) ?_
        exact sX12_beginsAhead_J27 d X (fun y1 h => fX12_beginsAhead_L2 n y1 h) (fun y1 h z hz => ih y1 h z hz) y1 y1 1 h _ hf
      · replace hf := (if_neg c3).symm.trans hf
        refine ab_Ex.blk (k := 1) (pc' := 27) (lv' := [(0, .ref 64), (1, .int y1)]) (st' := [.int 0, .int y1, .ref 77]) (sh' := ab_SH) (D' := ab_dD h) (fun n => rfl) ?_
        exact sX12_beginsAhead_J27 d X (fun y1 h => fX12_beginsAhead_L2 n y1 h) (fun y1 h z hz => ih y1 h z hz) y1 y1 0 h _ hf
set_option maxRecDepth 20000 in
theorem sX12_beginsAhead (d : Nat) (X : abX)  (h : abJ) (z : abJ) (hf : fX12_beginsAhead  h = some z) : ab_Ex X (d + 3) 271 0 [(0, .ref 64)] [] ab_SH (ab_dD h) (fun r => r = (none, ab_SH, ab_dD z)) := by
  unfold fX12_beginsAhead at hf
  refine ab_Ex.blk (k := 2) (pc' := 2) (lv' := [(0, .ref 64), (1, .int 0)]) (st' := []) (sh' := ab_SH) (D' := ab_dD h) (fun n => rfl) ?_
  exact sX12_beginsAhead_L2 d X  ab_N 0 h _ hf
def fX12_ahead_L28   : Nat → Int32 → Int32 → Int32 → abJ → Option (Int32 × abJ)
  | 0, _, _, _, _ => none
  | n + 1, y1, y2, y3, h => if y1 ≤ y3 then some (y2, h) else (fX12_laysAhead h).bind (fun r5 => fX12_ahead_L28 n y1 r5.1 ((y3 + 1)) r5.2)
def fX12_ahead (x0 : Int32) (h : abJ) : Option (Int32 × abJ) := (fX12_within ((x0 : Int32).toInt64) 0 6 (ab_wI h 64 0 0)).bind (fun r1 => if r1 = 0 then some ((-3), (ab_wI h 64 0 0)) else (fX12_beginsAhead (ab_wI h 64 0 0)).bind (fun r3 => fX12_ahead_L28 ab_N x0 1 0 r3))
set_option maxRecDepth 20000 in
theorem sX12_ahead_L28 (d : Nat) (X : abX)   : ∀ (n : Nat), ∀ (y1 : Int32) (y2 : Int32) (y3 : Int32) (h : abJ) (z : (Int32 × abJ)), fX12_ahead_L28 n y1 y2 y3 h = some z → ab_Ex X (d + 5) 272 28 [(0, .ref 64), (1, .int y1), (2, .int y2), (3, .int y3)] [] ab_SH (ab_dD h) (fun r => r = (some (.int z.1), ab_SH, ab_dD z.2)) := by
  intro n
  induction n with
  | zero => intro y1 y2 y3 h z hf; cases hf
  | succ n ih =>
    intro y1 y2 y3 h z hf
    rw [fX12_ahead_L28] at hf
    refine ab_Ex.blk (k := 2) (pc' := 30) (lv' := [(0, .ref 64), (1, .int y1), (2, .int y2), (3, .int y3)]) (st' := [.int y1, .int y3]) (sh' := ab_SH) (D' := ab_dD h) (fun n => rfl) ?_
    refine ab_Ex.ifc (c := y1 ≤ y3) (SA := (44, [(0, .ref 64), (1, .int y1), (2, .int y2), (3, .int y3)], [], ab_dD h)) (SB := (33, [(0, .ref 64), (1, .int y1), (2, .int y2), (3, .int y3)], [], ab_dD h)) (fun n => rfl) (fun c4 => ?_) (fun c4 => ?_)
    · replace hf := (if_pos c4).symm.trans hf
      refine ab_Ex.blk (k := 1) (pc' := 45) (lv' := [(0, .ref 64), (1, .int y1), (2, .int y2), (3, .int y3)]) (st' := [.int y2]) (sh' := ab_SH) (D' := ab_dD h) (fun n => rfl) ?_
      obtain rfl := Option.some.inj hf
      exact ab_Ex.ret (fun n => rfl) rfl
    · replace hf := (if_neg c4).symm.trans hf
      refine ab_Ex.blk (k := 1) (pc' := 34) (lv' := [(0, .ref 64), (1, .int y1), (2, .int y2), (3, .int y3)]) (st' := [.ref 64]) (sh' := ab_SH) (D' := ab_dD h) (fun n => rfl) ?_
      obtain ⟨r5, hr5, hf⟩ := ab_bind_s hf
      refine ab_Ex.call (d := d + 4) (M2 := 270) (as := [.ref 64]) (rest := []) (fun n => rfl) rfl (Nat.not_lt.mpr (Nat.le_of_ble_eq_true rfl)) (sX12_laysAhead (d) X  h _ hr5) (fun r hr => ?_)
      subst hr
      show ab_Ex X (d + 5) 272 37 [(0, .ref 64), (1, .int y1), (2, .int y2), (3, .int y3)] [.int r5.1] ab_SH (ab_dD r5.2) _
      refine ab_Ex.blk (k := 3) (pc' := 28) (lv' := [(0, .ref 64), (1, .int y1), (2, .int r5.1), (3, .int ((y3 + 1)))]) (st' := []) (sh' := ab_SH) (D' := ab_dD r5.2) (fun n => rfl) ?_
      exact ih y1 r5.1 ((y3 + 1)) r5.2 _ hf
set_option maxRecDepth 20000 in
theorem sX12_ahead (d : Nat) (X : abX) (x0 : Int32) (h : abJ) (z : (Int32 × abJ)) (hf : fX12_ahead x0 h = some z) : ab_Ex X (d + 5) 272 0 [(0, .ref 64), (1, .int x0)] [] ab_SH (ab_dD h) (fun r => r = (some (.int z.1), ab_SH, ab_dD z.2)) := by
  unfold fX12_ahead at hf
  refine ab_Ex.blk (k := 7) (pc' := 11) (lv' := [(0, .ref 64), (1, .int x0)]) (st' := [.long 6, .long 0, .long ((x0 : Int32).toInt64)]) (sh' := ab_SH) (D' := ab_dD (ab_wI h 64 0 0)) (fun n => rfl) ?_
  obtain ⟨r1, hr1, hf⟩ := ab_bind_s hf
  refine ab_Ex.call (d := d + 4) (M2 := 175) (as := [.long ((x0 : Int32).toInt64), .long 0, .long 6]) (rest := []) (fun n => rfl) rfl (Nat.not_lt.mpr (Nat.le_of_ble_eq_true rfl)) (sX12_within (d + 4) X ((x0 : Int32).toInt64) 0 6 (ab_wI h 64 0 0) _ hr1) (fun r hr => ?_)
  subst hr
  show ab_Ex X (d + 5) 272 14 [(0, .ref 64), (1, .int x0)] [.int r1] ab_SH (ab_dD (ab_wI h 64 0 0)) _
  refine ab_Ex.ifc (c := r1 = 0) (SA := (17, [(0, .ref 64), (1, .int x0)], [], ab_dD (ab_wI h 64 0 0))) (SB := (20, [(0, .ref 64), (1, .int x0)], [], ab_dD (ab_wI h 64 0 0))) (fun n => rfl) (fun c2 => ?_) (fun c2 => ?_)
  · replace hf := (if_pos c2).symm.trans hf
    refine ab_Ex.blk (k := 1) (pc' := 19) (lv' := [(0, .ref 64), (1, .int x0)]) (st' := [.int ((-3))]) (sh' := ab_SH) (D' := ab_dD (ab_wI h 64 0 0)) (fun n => rfl) ?_
    obtain rfl := Option.some.inj hf
    exact ab_Ex.ret (fun n => rfl) rfl
  · replace hf := (if_neg c2).symm.trans hf
    refine ab_Ex.blk (k := 1) (pc' := 21) (lv' := [(0, .ref 64), (1, .int x0)]) (st' := [.ref 64]) (sh' := ab_SH) (D' := ab_dD (ab_wI h 64 0 0)) (fun n => rfl) ?_
    obtain ⟨r3, hr3, hf⟩ := ab_bind_s hf
    refine ab_Ex.call (d := d + 4) (M2 := 271) (as := [.ref 64]) (rest := []) (fun n => rfl) rfl (Nat.not_lt.mpr (Nat.le_of_ble_eq_true rfl)) (sX12_beginsAhead (d + 1) X  (ab_wI h 64 0 0) _ hr3) (fun r hr => ?_)
    subst hr
    show ab_Ex X (d + 5) 272 24 [(0, .ref 64), (1, .int x0)] [] ab_SH (ab_dD r3) _
    refine ab_Ex.blk (k := 4) (pc' := 28) (lv' := [(0, .ref 64), (1, .int x0), (2, .int 1), (3, .int 0)]) (st' := []) (sh' := ab_SH) (D' := ab_dD r3) (fun n => rfl) ?_
    exact sX12_ahead_L28 d X  ab_N x0 1 0 r3 _ hf
def fX12_from_J45  (k18 : Int32 → Int32 → abJ → Option (Int32 × abJ)) (y2 : Int32) (t0 : Int32) (t1 : Int32) (h : abJ) : Option (Int32 × abJ) := k18 ((t0 ||| t1)) ((y2 + 1)) h
def fX12_from_L18   : Nat → Int32 → Int32 → abJ → Option (Int32 × abJ)
  | 0, _, _, _ => none
  | n + 1, y1, y2, h => if 4374 ≤ y2 then some (y1, h) else ab_ask (y2 < 0 ∨ 4374 ≤ (y2 : Int32).toNatClampNeg) (if (h.1 77 (y2 : Int32).toNatClampNeg) = 0 then fX12_from_J45 (fun y1 y2 h => fX12_from_L18 n y1 y2 h) y2 y1 0 h else fX12_from_J45 (fun y1 y2 h => fX12_from_L18 n y1 y2 h) y2 y1 (((1 : Int32) <<< ((y2 - y2 / 6 * 6) &&& 31))) h)
def fX12_from  (h : abJ) : Option (Int32 × abJ) := (fX12_beginsAhead (ab_wI h 64 0 0)).bind (fun r1 => (fX12_laysAhead r1).bind (fun r2 => fX12_from_L18 ab_N 0 0 r2.2))
set_option maxRecDepth 20000 in
theorem sX12_from_J45 (d : Nat) (X : abX) (k18 : Int32 → Int32 → abJ → Option (Int32 × abJ)) (hk18 : ∀ (y1 : Int32) (y2 : Int32) (h : abJ) (z : (Int32 × abJ)), k18 y1 y2 h = some z → ab_Ex X (d + 5) 273 18 [(0, .ref 64), (1, .int y1), (2, .int y2)] [] ab_SH (ab_dD h) (fun r => r = (some (.int z.1), ab_SH, ab_dD z.2))) : ∀ (y2 : Int32) (t0 : Int32) (t1 : Int32) (h : abJ) (z : (Int32 × abJ)), fX12_from_J45 k18 y2 t0 t1 h = some z → ab_Ex X (d + 5) 273 45 [(0, .ref 64), (2, .int y2)] [.int t1, .int t0] ab_SH (ab_dD h) (fun r => r = (some (.int z.1), ab_SH, ab_dD z.2)) := by
  intro y2 t0 t1 h z hf
  unfold fX12_from_J45 at hf
  refine ab_Ex.blk (k := 4) (pc' := 18) (lv' := [(0, .ref 64), (1, .int ((t0 ||| t1))), (2, .int ((y2 + 1)))]) (st' := []) (sh' := ab_SH) (D' := ab_dD h) (fun n => rfl) ?_
  exact hk18 ((t0 ||| t1)) ((y2 + 1)) h _ hf
set_option maxRecDepth 20000 in
theorem sX12_from_L18 (d : Nat) (X : abX)   : ∀ (n : Nat), ∀ (y1 : Int32) (y2 : Int32) (h : abJ) (z : (Int32 × abJ)), fX12_from_L18 n y1 y2 h = some z → ab_Ex X (d + 5) 273 18 [(0, .ref 64), (1, .int y1), (2, .int y2)] [] ab_SH (ab_dD h) (fun r => r = (some (.int z.1), ab_SH, ab_dD z.2)) := by
  intro n
  induction n with
  | zero => intro y1 y2 h z hf; cases hf
  | succ n ih =>
    intro y1 y2 h z hf
    rw [fX12_from_L18] at hf
    refine ab_Ex.blk (k := 2) (pc' := 22) (lv' := [(0, .ref 64), (1, .int y1), (2, .int y2)]) (st' := [.int 4374, .int y2]) (sh' := ab_SH) (D' := ab_dD h) (fun n => rfl) ?_
    refine ab_Ex.ifc (c := 4374 ≤ y2) (SA := (53, [(0, .ref 64), (1, .int y1), (2, .int y2)], [], ab_dD h)) (SB := (25, [(0, .ref 64), (1, .int y1), (2, .int y2)], [], ab_dD h)) (fun n => rfl) (fun c3 => ?_) (fun c3 => ?_)
    · replace hf := (if_pos c3).symm.trans hf
      refine ab_Ex.blk (k := 1) (pc' := 54) (lv' := [(0, .ref 64), (1, .int y1), (2, .int y2)]) (st' := [.int y1]) (sh' := ab_SH) (D' := ab_dD h) (fun n => rfl) ?_
      obtain rfl := Option.some.inj hf
      exact ab_Ex.ret (fun n => rfl) rfl
    · replace hf := (if_neg c3).symm.trans hf
      refine ab_Ex.blk (k := 4) (pc' := 31) (lv' := [(0, .ref 64), (1, .int y1), (2, .int y2)]) (st' := [.int y2, .ref 77, .int y1]) (sh' := ab_SH) (D' := ab_dD h) (fun n => rfl) ?_
      obtain ⟨c5, hf⟩ := ab_ask_s hf
      refine ab_Ex.grd (c := y2 < 0 ∨ 4374 ≤ (y2 : Int32).toNatClampNeg) (S := (32, [(0, .ref 64), (1, .int y1), (2, .int y2)], [.int ((h.1 77 (y2 : Int32).toNatClampNeg)), .int y1], ab_dD h)) (fun n => rfl) c5 ?_
      refine ab_Ex.ifc (c := (h.1 77 (y2 : Int32).toNatClampNeg) = 0) (SA := (44, [(0, .ref 64), (1, .int y1), (2, .int y2)], [.int y1], ab_dD h)) (SB := (35, [(0, .ref 64), (1, .int y1), (2, .int y2)], [.int y1], ab_dD h)) (fun n => rfl) (fun c6 => ?_) (fun c6 => ?_)
      · replace hf := (if_pos c6).symm.trans hf
        refine ab_Ex.blk (k := 1) (pc' := 45) (lv' := [(0, .ref 64), (2, .int y2)]) (st' := [.int 0, .int y1]) (sh' := ab_SH) (D' := ab_dD h) (fun n => rfl) ?_
        exact sX12_from_J45 d X (fun y1 y2 h => fX12_from_L18 n y1 y2 h) (fun y1 y2 h z hz => ih y1 y2 h z hz) y2 y1 0 h _ hf
      · replace hf := (if_neg c6).symm.trans hf
        refine ab_Ex.blk (k := 3) (pc' := 39) (lv' := [(0, .ref 64), (1, .int y1), (2, .int y2)]) (st' := [.int 6, .int y2, .int 1, .int y1]) (sh' := ab_SH) (D' := ab_dD h) (fun n => rfl) ?_
        refine ab_Ex.blk (k := 1) (pc' := 40) (lv' := [(0, .ref 64), (1, .int y1), (2, .int y2)]) (st' := [.int ((y2 - y2 / 6 * 6)), .int 1, .int y1]) (sh' := ab_SH) (D' := ab_dD h) (fun n => rfl) ?_
        refine ab_Ex.blk (k := 2) (pc' := 45) (lv' := [(0, .ref 64), (2, .int y2)]) (st' := [.int (((1 : Int32) <<< ((y2 - y2 / 6 * 6) &&& 31))), .int y1]) (sh' := ab_SH) (D' := ab_dD h) (fun n => rfl) ?_
        exact sX12_from_J45 d X (fun y1 y2 h => fX12_from_L18 n y1 y2 h) (fun y1 y2 h z hz => ih y1 y2 h z hz) y2 y1 (((1 : Int32) <<< ((y2 - y2 / 6 * 6) &&& 31))) h _ hf
set_option maxRecDepth 20000 in
theorem sX12_from (d : Nat) (X : abX)  (h : abJ) (z : (Int32 × abJ)) (hf : fX12_from  h = some z) : ab_Ex X (d + 5) 273 0 [(0, .ref 64)] [] ab_SH (ab_dD h) (fun r => r = (some (.int z.1), ab_SH, ab_dD z.2)) := by
  unfold fX12_from at hf
  refine ab_Ex.blk (k := 4) (pc' := 6) (lv' := [(0, .ref 64)]) (st' := [.ref 64]) (sh' := ab_SH) (D' := ab_dD (ab_wI h 64 0 0)) (fun n => rfl) ?_
  obtain ⟨r1, hr1, hf⟩ := ab_bind_s hf
  refine ab_Ex.call (d := d + 4) (M2 := 271) (as := [.ref 64]) (rest := []) (fun n => rfl) rfl (Nat.not_lt.mpr (Nat.le_of_ble_eq_true rfl)) (sX12_beginsAhead (d + 1) X  (ab_wI h 64 0 0) _ hr1) (fun r hr => ?_)
  subst hr
  show ab_Ex X (d + 5) 273 9 [(0, .ref 64)] [] ab_SH (ab_dD r1) _
  refine ab_Ex.blk (k := 1) (pc' := 10) (lv' := [(0, .ref 64)]) (st' := [.ref 64]) (sh' := ab_SH) (D' := ab_dD r1) (fun n => rfl) ?_
  obtain ⟨r2, hr2, hf⟩ := ab_bind_s hf
  refine ab_Ex.call (d := d + 4) (M2 := 270) (as := [.ref 64]) (rest := []) (fun n => rfl) rfl (Nat.not_lt.mpr (Nat.le_of_ble_eq_true rfl)) (sX12_laysAhead (d) X  r1 _ hr2) (fun r hr => ?_)
  subst hr
  show ab_Ex X (d + 5) 273 13 [(0, .ref 64)] [.int r2.1] ab_SH (ab_dD r2.2) _
  refine ab_Ex.blk (k := 5) (pc' := 18) (lv' := [(0, .ref 64), (1, .int 0), (2, .int 0)]) (st' := []) (sh' := ab_SH) (D' := ab_dD r2.2) (fun n => rfl) ?_
  exact sX12_from_L18 d X  ab_N 0 0 r2.2 _ hf
def fX12_again_J184  (k112 : Int32 → Int32 → Int32 → abJ → Option (Int32 × abJ)) (y1 : Int32) (y2 : Int32) (y3 : Int32) (h : abJ) : Option (Int32 × abJ) := k112 y1 y2 ((y3 + 1)) h
def fX12_again_J182  (k112 : Int32 → Int32 → Int32 → abJ → Option (Int32 × abJ)) (y1 : Int32) (y3 : Int32) (h : abJ) : Option (Int32 × abJ) := fX12_again_J184 k112 y1 1 y3 h
def fX12_again_J150  (k112 : Int32 → Int32 → Int32 → abJ → Option (Int32 × abJ)) (y1 : Int32) (y2 : Int32) (y3 : Int32) (h : abJ) : Option (Int32 × abJ) := (fX12_isRest ((y3 - y3 / 6 * 6)) h).bind (fun r12 => if r12 = 0 then (fX12_stepTo y3 ((h.1 65 40)) h).bind (fun r14 => ab_ask (r14.1 < 0 ∨ 4374 ≤ (r14.1 : Int32).toNatClampNeg) (ab_ask (r14.1 < 0 ∨ 4374 ≤ (r14.1 : Int32).toNatClampNeg) (fX12_again_J182 k112 y1 y3 (ab_wI r14.2 79 (r14.1 : Int32).toNatClampNeg ((r14.2.1 79 (r14.1 : Int32).toNatClampNeg) - 1))))) else fX12_again_J182 k112 y1 y3 h)
def fX12_again_L112  (k104 : Int32 → Int32 → abJ → Option (Int32 × abJ)) : Nat → Int32 → Int32 → Int32 → abJ → Option (Int32 × abJ)
  | 0, _, _, _, _ => none
  | n + 1, y1, y2, y3, h => if 4374 ≤ y3 then k104 y1 y2 h else ab_ask (y3 < 0 ∨ 4374 ≤ (y3 : Int32).toNatClampNeg) (if (h.1 77 (y3 : Int32).toNatClampNeg) = 0 then fX12_again_J184 (fun y1 y2 y3 h => fX12_again_L112 k104 n y1 y2 y3 h) y1 y2 y3 h else ab_ask (y3 < 0 ∨ 4374 ≤ (y3 : Int32).toNatClampNeg) (if (h.1 79 (y3 : Int32).toNatClampNeg) ≤ 0 then ab_ask (y3 < 0 ∨ 4374 ≤ (y3 : Int32).toNatClampNeg) (fX12_again_J150 (fun y1 y2 y3 h => fX12_again_L112 k104 n y1 y2 y3 h) ((y1 + Int32.ofInt (-1))) y2 y3 (ab_wI h 77 (y3 : Int32).toNatClampNeg (vp_nar .boolean 0))) else fX12_again_J184 (fun y1 y2 y3 h => fX12_again_L112 k104 n y1 y2 y3 h) y1 y2 y3 h))
def fX12_again_L104   : Nat → Int32 → Int32 → abJ → Option (Int32 × abJ)
  | 0, _, _, _ => none
  | n + 1, y1, y2, h => if y2 = 0 then some (y1, h) else fX12_again_L112 (fun y1 y2 h => fX12_again_L104 n y1 y2 h) ab_N y1 0 0 h
def fX12_again_J96  (k31 : Int32 → Int32 → abJ → Option (Int32 × abJ)) (y1 : Int32) (y2 : Int32) (h : abJ) : Option (Int32 × abJ) := k31 y1 ((y2 + 1)) h
def fX12_again_L31   : Nat → Int32 → Int32 → abJ → Option (Int32 × abJ)
  | 0, _, _, _ => none
  | n + 1, y1, y2, h => if 4374 ≤ y2 then fX12_again_L104 ab_N y1 1 h else (fX12_isStand1 y2 h).bind (fun r18 => ab_ask (y2 < 0 ∨ 4374 ≤ (y2 : Int32).toNatClampNeg) (ab_ask (y2 < 0 ∨ 4374 ≤ (y2 : Int32).toNatClampNeg) (if ((ab_wI h 77 (y2 : Int32).toNatClampNeg (vp_nar .boolean r18)).1 77 (y2 : Int32).toNatClampNeg) = 0 then fX12_again_J96 (fun y1 y2 h => fX12_again_L31 n y1 y2 h) y1 y2 (ab_wI h 77 (y2 : Int32).toNatClampNeg (vp_nar .boolean r18)) else (fX12_isRest ((y2 - y2 / 6 * 6)) (ab_wI h 77 (y2 : Int32).toNatClampNeg (vp_nar .boolean r18))).bind (fun r23 => if r23 = 0 then (fX12_stepTo y2 (((ab_wI h 77 (y2 : Int32).toNatClampNeg (vp_nar .boolean r18)).1 65 40)) (ab_wI h 77 (y2 : Int32).toNatClampNeg (vp_nar .boolean r18))).bind (fun r25 => ab_ask (r25.1 < 0 ∨ 4374 ≤ (r25.1 : Int32).toNatClampNeg) (ab_ask (r25.1 < 0 ∨ 4374 ≤ (r25.1 : Int32).toNatClampNeg) (fX12_again_J96 (fun y1 y2 h => fX12_again_L31 n y1 y2 h) ((y1 + 1)) y2 (ab_wI r25.2 79 (r25.1 : Int32).toNatClampNeg ((r25.2.1 79 (r25.1 : Int32).toNatClampNeg) + 1))))) else fX12_again_J96 (fun y1 y2 h => fX12_again_L31 n y1 y2 h) ((y1 + 1)) y2 (ab_wI h 77 (y2 : Int32).toNatClampNeg (vp_nar .boolean r18))))))
def fX12_again_L9   : Nat → Int32 → Int32 → abJ → Option (Int32 × abJ)
  | 0, _, _, _ => none
  | n + 1, y1, y2, h => if 4374 ≤ y2 then fX12_again_L31 ab_N y1 0 h else ab_ask (y2 < 0 ∨ 4374 ≤ (y2 : Int32).toNatClampNeg) (fX12_again_L9 n y1 ((y2 + 1)) (ab_wI h 79 (y2 : Int32).toNatClampNeg 0))
def fX12_again  (h : abJ) : Option (Int32 × abJ) := fX12_again_L9 ab_N 0 0 (ab_wI h 64 0 0)
set_option maxRecDepth 20000 in
theorem sX12_again_J184 (d : Nat) (X : abX) (k112 : Int32 → Int32 → Int32 → abJ → Option (Int32 × abJ)) (hk112 : ∀ (y1 : Int32) (y2 : Int32) (y3 : Int32) (h : abJ) (z : (Int32 × abJ)), k112 y1 y2 y3 h = some z → ab_Ex X (d + 4) 274 112 [(0, .ref 64), (1, .int y1), (2, .int y2), (3, .int y3)] [] ab_SH (ab_dD h) (fun r => r = (some (.int z.1), ab_SH, ab_dD z.2))) : ∀ (y1 : Int32) (y2 : Int32) (y3 : Int32) (h : abJ) (z : (Int32 × abJ)), fX12_again_J184 k112 y1 y2 y3 h = some z → ab_Ex X (d + 4) 274 184 [(0, .ref 64), (1, .int y1), (2, .int y2), (3, .int y3)] [] ab_SH (ab_dD h) (fun r => r = (some (.int z.1), ab_SH, ab_dD z.2)) := by
  intro y1 y2 y3 h z hf
  unfold fX12_again_J184 at hf
  refine ab_Ex.blk (k := 2) (pc' := 112) (lv' := [(0, .ref 64), (1, .int y1), (2, .int y2), (3, .int ((y3 + 1)))]) (st' := []) (sh' := ab_SH) (D' := ab_dD h) (fun n => rfl) ?_
  exact hk112 y1 y2 ((y3 + 1)) h _ hf
set_option maxRecDepth 20000 in
theorem sX12_again_J182 (d : Nat) (X : abX) (k112 : Int32 → Int32 → Int32 → abJ → Option (Int32 × abJ)) (hk112 : ∀ (y1 : Int32) (y2 : Int32) (y3 : Int32) (h : abJ) (z : (Int32 × abJ)), k112 y1 y2 y3 h = some z → ab_Ex X (d + 4) 274 112 [(0, .ref 64), (1, .int y1), (2, .int y2), (3, .int y3)] [] ab_SH (ab_dD h) (fun r => r = (some (.int z.1), ab_SH, ab_dD z.2))) : ∀ (y1 : Int32) (y3 : Int32) (h : abJ) (z : (Int32 × abJ)), fX12_again_J182 k112 y1 y3 h = some z → ab_Ex X (d + 4) 274 182 [(0, .ref 64), (1, .int y1), (3, .int y3)] [] ab_SH (ab_dD h) (fun r => r = (some (.int z.1), ab_SH, ab_dD z.2)) := by
  intro y1 y3 h z hf
  unfold fX12_again_J182 at hf
  refine ab_Ex.blk (k := 2) (pc' := 184) (lv' := [(0, .ref 64), (1, .int y1), (2, .int 1), (3, .int y3)]) (st' := []) (sh' := ab_SH) (D' := ab_dD h) (fun n => rfl) ?_
  exact sX12_again_J184 d X k112 hk112 y1 1 y3 h _ hf
set_option maxRecDepth 20000 in
theorem sX12_again_J150 (d : Nat) (X : abX) (k112 : Int32 → Int32 → Int32 → abJ → Option (Int32 × abJ)) (hk112 : ∀ (y1 : Int32) (y2 : Int32) (y3 : Int32) (h : abJ) (z : (Int32 × abJ)), k112 y1 y2 y3 h = some z → ab_Ex X (d + 4) 274 112 [(0, .ref 64), (1, .int y1), (2, .int y2), (3, .int y3)] [] ab_SH (ab_dD h) (fun r => r = (some (.int z.1), ab_SH, ab_dD z.2))) : ∀ (y1 : Int32) (y2 : Int32) (y3 : Int32) (h : abJ) (z : (Int32 × abJ)), fX12_again_J150 k112 y1 y2 y3 h = some z → ab_Ex X (d + 4) 274 150 [(1, .int y1), (0, .ref 64), (2, .int y2), (3, .int y3)] [] ab_SH (ab_dD h) (fun r => r = (some (.int z.1), ab_SH, ab_dD z.2)) := by
  intro y1 y2 y3 h z hf
  unfold fX12_again_J150 at hf
  refine ab_Ex.blk (k := 3) (pc' := 154) (lv' := [(1, .int y1), (0, .ref 64), (2, .int y2), (3, .int y3)]) (st' := [.int 6, .int y3, .ref 64]) (sh' := ab_SH) (D' := ab_dD h) (fun n => rfl) ?_
  refine ab_Ex.blk (k := 1) (pc' := 155) (lv' := [(1, .int y1), (0, .ref 64), (2, .int y2), (3, .int y3)]) (st' := [.int ((y3 - y3 / 6 * 6)), .ref 64]) (sh' := ab_SH) (D' := ab_dD h) (fun n => rfl) ?_
  obtain ⟨r12, hr12, hf⟩ := ab_bind_s hf
  refine ab_Ex.call (d := d + 3) (M2 := 223) (as := [.ref 64, .int ((y3 - y3 / 6 * 6))]) (rest := []) (fun n => rfl) rfl (Nat.not_lt.mpr (Nat.le_of_ble_eq_true rfl)) (sX12_isRest (d + 2) X ((y3 - y3 / 6 * 6)) h _ hr12) (fun r hr => ?_)
  subst hr
  show ab_Ex X (d + 4) 274 158 [(1, .int y1), (0, .ref 64), (2, .int y2), (3, .int y3)] [.int r12] ab_SH (ab_dD h) _
  refine ab_Ex.ifc (c := r12 = 0) (SA := (161, [(1, .int y1), (0, .ref 64), (2, .int y2), (3, .int y3)], [], ab_dD h)) (SB := (182, [(1, .int y1), (0, .ref 64), (2, .int y2), (3, .int y3)], [], ab_dD h)) (fun n => rfl) (fun c13 => ?_) (fun c13 => ?_)
  · replace hf := (if_pos c13).symm.trans hf
    refine ab_Ex.blk (k := 7) (pc' := 173) (lv' := [(1, .int y1), (0, .ref 64), (2, .int y2), (3, .int y3)]) (st' := [.int 40, .ref 65, .int y3, .ref 64, .ref 79]) (sh' := ab_SH) (D' := ab_dD h) (fun n => rfl) ?_
    refine ab_Ex.blk (k := 1) (pc' := 174) (lv' := [(1, .int y1), (0, .ref 64), (2, .int y2), (3, .int y3)]) (st' := [.int ((h.1 65 40)), .int y3, .ref 64, .ref 79]) (sh' := ab_SH) (D' := ab_dD h) (fun n => rfl) ?_
    obtain ⟨r14, hr14, hf⟩ := ab_bind_s hf
    refine ab_Ex.call (d := d + 3) (M2 := 224) (as := [.ref 64, .int y3, .int ((h.1 65 40))]) (rest := [.ref 79]) (fun n => rfl) rfl (Nat.not_lt.mpr (Nat.le_of_ble_eq_true rfl)) (sX12_stepTo (d) X y3 ((h.1 65 40)) h _ hr14) (fun r hr => ?_)
    subst hr
    show ab_Ex X (d + 4) 274 177 [(1, .int y1), (0, .ref 64), (2, .int y2), (3, .int y3)] [.int r14.1, .ref 79] ab_SH (ab_dD r14.2) _
    refine ab_Ex.blk (k := 1) (pc' := 178) (lv' := [(1, .int y1), (0, .ref 64), (2, .int y2), (3, .int y3)]) (st' := [.int r14.1, .ref 79, .int r14.1, .ref 79]) (sh' := ab_SH) (D' := ab_dD r14.2) (fun n => rfl) ?_
    obtain ⟨c16, hf⟩ := ab_ask_s hf
    refine ab_Ex.grd (c := r14.1 < 0 ∨ 4374 ≤ (r14.1 : Int32).toNatClampNeg) (S := (179, [(1, .int y1), (0, .ref 64), (2, .int y2), (3, .int y3)], [.int ((r14.2.1 79 (r14.1 : Int32).toNatClampNeg)), .int r14.1, .ref 79], ab_dD r14.2)) (fun n => rfl) c16 ?_
    refine ab_Ex.blk (k := 2) (pc' := 181) (lv' := [(1, .int y1), (0, .ref 64), (2, .int y2), (3, .int y3)]) (st' := [.int (((r14.2.1 79 (r14.1 : Int32).toNatClampNeg) - 1)), .int r14.1, .ref 79]) (sh' := ab_SH) (D' := ab_dD r14.2) (fun n => rfl) ?_
    obtain ⟨c17, hf⟩ := ab_ask_s hf
    refine ab_Ex.grd (c := r14.1 < 0 ∨ 4374 ≤ (r14.1 : Int32).toNatClampNeg) (S := (182, [(1, .int y1), (0, .ref 64), (2, .int y2), (3, .int y3)], [], ab_dD (ab_wI r14.2 79 (r14.1 : Int32).toNatClampNeg ((r14.2.1 79 (r14.1 : Int32).toNatClampNeg) - 1)))) (fun n => rfl) c17 ?_
    exact sX12_again_J182 d X k112 hk112 y1 y3 (ab_wI r14.2 79 (r14.1 : Int32).toNatClampNeg ((r14.2.1 79 (r14.1 : Int32).toNatClampNeg) - 1)) _ hf
  · replace hf := (if_neg c13).symm.trans hf
    exact sX12_again_J182 d X k112 hk112 y1 y3 h _ hf
set_option maxRecDepth 20000 in
theorem sX12_again_L112 (d : Nat) (X : abX) (k104 : Int32 → Int32 → abJ → Option (Int32 × abJ)) (hk104 : ∀ (y1 : Int32) (y2 : Int32) (h : abJ) (z : (Int32 × abJ)), k104 y1 y2 h = some z → ab_Ex X (d + 4) 274 104 [(0, .ref 64), (1, .int y1), (2, .int y2)] [] ab_SH (ab_dD h) (fun r => r = (some (.int z.1), ab_SH, ab_dD z.2))) : ∀ (n : Nat), ∀ (y1 : Int32) (y2 : Int32) (y3 : Int32) (h : abJ) (z : (Int32 × abJ)), fX12_again_L112 k104 n y1 y2 y3 h = some z → ab_Ex X (d + 4) 274 112 [(0, .ref 64), (1, .int y1), (2, .int y2), (3, .int y3)] [] ab_SH (ab_dD h) (fun r => r = (some (.int z.1), ab_SH, ab_dD z.2)) := by
  intro n
  induction n with
  | zero => intro y1 y2 y3 h z hf; cases hf
  | succ n ih =>
    intro y1 y2 y3 h z hf
    rw [fX12_again_L112] at hf
    refine ab_Ex.blk (k := 2) (pc' := 116) (lv' := [(0, .ref 64), (1, .int y1), (2, .int y2), (3, .int y3)]) (st' := [.int 4374, .int y3]) (sh' := ab_SH) (D' := ab_dD h) (fun n => rfl) ?_
    refine ab_Ex.ifc (c := 4374 ≤ y3) (SA := (190, [(0, .ref 64), (1, .int y1), (2, .int y2), (3, .int y3)], [], ab_dD h)) (SB := (119, [(0, .ref 64), (1, .int y1), (2, .int y2), (3, .int y3)], [], ab_dD h)) (fun n => rfl) (fun c4 => ?_) (fun c4 => ?_)
    · replace hf := (if_pos c4).symm.trans hf
      refine ab_Ex.blk (k := 1) (pc' := 104) (lv' := [(0, .ref 64), (1, .int y1), (2, .int y2)]) (st' := []) (sh' := ab_SH) (D' := ab_dD h) (fun n => rfl) ?_
      exact hk104 y1 y2 h _ hf
    · replace hf := (if_neg c4).symm.trans hf
      refine ab_Ex.blk (k := 3) (pc' := 124) (lv' := [(0, .ref 64), (1, .int y1), (2, .int y2), (3, .int y3)]) (st' := [.int y3, .ref 77]) (sh' := ab_SH) (D' := ab_dD h) (fun n => rfl) ?_
      obtain ⟨c6, hf⟩ := ab_ask_s hf
      refine ab_Ex.grd (c := y3 < 0 ∨ 4374 ≤ (y3 : Int32).toNatClampNeg) (S := (125, [(0, .ref 64), (1, .int y1), (2, .int y2), (3, .int y3)], [.int ((h.1 77 (y3 : Int32).toNatClampNeg))], ab_dD h)) (fun n => rfl) c6 ?_
      refine ab_Ex.ifc (c := (h.1 77 (y3 : Int32).toNatClampNeg) = 0) (SA := (184, [(0, .ref 64), (1, .int y1), (2, .int y2), (3, .int y3)], [], ab_dD h)) (SB := (128, [(0, .ref 64), (1, .int y1), (2, .int y2), (3, .int y3)], [], ab_dD h)) (fun n => rfl) (fun c7 => ?_) (fun c7 => ?_)
      · replace hf := (if_pos c7).symm.trans hf
        exact sX12_again_J184 d X (fun y1 y2 y3 h => fX12_again_L112 k104 n y1 y2 y3 h) (fun y1 y2 y3 h z hz => ih y1 y2 y3 h z hz) y1 y2 y3 h _ hf
      · replace hf := (if_neg c7).symm.trans hf
        refine ab_Ex.blk (k := 3) (pc' := 133) (lv' := [(0, .ref 64), (1, .int y1), (2, .int y2), (3, .int y3)]) (st' := [.int y3, .ref 79]) (sh' := ab_SH) (D' := ab_dD h) (fun n => rfl) ?_
        obtain ⟨c9, hf⟩ := ab_ask_s hf
        refine ab_Ex.grd (c := y3 < 0 ∨ 4374 ≤ (y3 : Int32).toNatClampNeg) (S := (134, [(0, .ref 64), (1, .int y1), (2, .int y2), (3, .int y3)], [.int ((h.1 79 (y3 : Int32).toNatClampNeg))], ab_dD h)) (fun n => rfl) c9 ?_
        refine ab_Ex.ifc (c := (h.1 79 (y3 : Int32).toNatClampNeg) ≤ 0) (SA := (140, [(0, .ref 64), (1, .int y1), (2, .int y2), (3, .int y3)], [], ab_dD h)) (SB := (137, [(0, .ref 64), (1, .int y1), (2, .int y2), (3, .int y3)], [], ab_dD h)) (fun n => rfl) (fun c10 => ?_) (fun c10 => ?_)
        · replace hf := (if_pos c10).symm.trans hf
          refine ab_Ex.blk (k := 4) (pc' := 146) (lv' := [(0, .ref 64), (1, .int y1), (2, .int y2), (3, .int y3)]) (st' := [.int 0, .int y3, .ref 77]) (sh' := ab_SH) (D' := ab_dD h) (fun n => rfl) ?_
          obtain ⟨c11, hf⟩ := ab_ask_s hf
          refine ab_Ex.grd (c := y3 < 0 ∨ 4374 ≤ (y3 : Int32).toNatClampNeg) (S := (147, [(0, .ref 64), (1, .int y1), (2, .int y2), (3, .int y3)], [], ab_dD (ab_wI h 77 (y3 : Int32).toNatClampNeg (vp_nar .boolean 0)))) (fun n => rfl) c11 ?_
          refine ab_Ex.blk (k := 1) (pc' := 150) (lv' := [(1, .int ((y1 + Int32.ofInt (-1)))), (0, .ref 64), (2, .int y2), (3, .int y3)]) (st' := []) (sh' := ab_SH) (D' := ab_dD (ab_wI h 77 (y3 : Int32).toNatClampNeg (vp_nar .boolean 0))) (fun n => rfl) ?_
          exact sX12_again_J150 d X (fun y1 y2 y3 h => fX12_again_L112 k104 n y1 y2 y3 h) (fun y1 y2 y3 h z hz => ih y1 y2 y3 h z hz) ((y1 + Int32.ofInt (-1))) y2 y3 (ab_wI h 77 (y3 : Int32).toNatClampNeg (vp_nar .boolean 0)) _ hf
        · replace hf := (if_neg c10).symm.trans hf
          refine ab_Ex.blk (k := 1) (pc' := 184) (lv' := [(0, .ref 64), (1, .int y1), (2, .int y2), (3, .int y3)]) (st' := []) (sh' := ab_SH) (D' := ab_dD h) (fun n => rfl) ?_
          exact sX12_again_J184 d X (fun y1 y2 y3 h => fX12_again_L112 k104 n y1 y2 y3 h) (fun y1 y2 y3 h z hz => ih y1 y2 y3 h z hz) y1 y2 y3 h _ hf
set_option maxRecDepth 20000 in
theorem sX12_again_L104 (d : Nat) (X : abX)   : ∀ (n : Nat), ∀ (y1 : Int32) (y2 : Int32) (h : abJ) (z : (Int32 × abJ)), fX12_again_L104 n y1 y2 h = some z → ab_Ex X (d + 4) 274 104 [(0, .ref 64), (1, .int y1), (2, .int y2)] [] ab_SH (ab_dD h) (fun r => r = (some (.int z.1), ab_SH, ab_dD z.2)) := by
  intro n
  induction n with
  | zero => intro y1 y2 h z hf; cases hf
  | succ n ih =>
    intro y1 y2 h z hf
    rw [fX12_again_L104] at hf
    refine ab_Ex.blk (k := 1) (pc' := 105) (lv' := [(0, .ref 64), (1, .int y1), (2, .int y2)]) (st' := [.int y2]) (sh' := ab_SH) (D' := ab_dD h) (fun n => rfl) ?_
    refine ab_Ex.ifc (c := y2 = 0) (SA := (193, [(0, .ref 64), (1, .int y1), (2, .int y2)], [], ab_dD h)) (SB := (108, [(0, .ref 64), (1, .int y1), (2, .int y2)], [], ab_dD h)) (fun n => rfl) (fun c3 => ?_) (fun c3 => ?_)
    · replace hf := (if_pos c3).symm.trans hf
      refine ab_Ex.blk (k := 1) (pc' := 194) (lv' := [(0, .ref 64), (1, .int y1), (2, .int y2)]) (st' := [.int y1]) (sh' := ab_SH) (D' := ab_dD h) (fun n => rfl) ?_
      obtain rfl := Option.some.inj hf
      exact ab_Ex.ret (fun n => rfl) rfl
    · replace hf := (if_neg c3).symm.trans hf
      refine ab_Ex.blk (k := 4) (pc' := 112) (lv' := [(0, .ref 64), (1, .int y1), (2, .int 0), (3, .int 0)]) (st' := []) (sh' := ab_SH) (D' := ab_dD h) (fun n => rfl) ?_
      exact sX12_again_L112 d X (fun y1 y2 h => fX12_again_L104 n y1 y2 h) (fun y1 y2 h z hz => ih y1 y2 h z hz) ab_N y1 0 0 h _ hf
set_option maxRecDepth 20000 in
theorem sX12_again_J96 (d : Nat) (X : abX) (k31 : Int32 → Int32 → abJ → Option (Int32 × abJ)) (hk31 : ∀ (y1 : Int32) (y2 : Int32) (h : abJ) (z : (Int32 × abJ)), k31 y1 y2 h = some z → ab_Ex X (d + 4) 274 31 [(0, .ref 64), (1, .int y1), (2, .int y2)] [] ab_SH (ab_dD h) (fun r => r = (some (.int z.1), ab_SH, ab_dD z.2))) : ∀ (y1 : Int32) (y2 : Int32) (h : abJ) (z : (Int32 × abJ)), fX12_again_J96 k31 y1 y2 h = some z → ab_Ex X (d + 4) 274 96 [(0, .ref 64), (1, .int y1), (2, .int y2)] [] ab_SH (ab_dD h) (fun r => r = (some (.int z.1), ab_SH, ab_dD z.2)) := by
  intro y1 y2 h z hf
  unfold fX12_again_J96 at hf
  refine ab_Ex.blk (k := 2) (pc' := 31) (lv' := [(0, .ref 64), (1, .int y1), (2, .int ((y2 + 1)))]) (st' := []) (sh' := ab_SH) (D' := ab_dD h) (fun n => rfl) ?_
  exact hk31 y1 ((y2 + 1)) h _ hf
set_option maxRecDepth 20000 in
theorem sX12_again_L31 (d : Nat) (X : abX)   : ∀ (n : Nat), ∀ (y1 : Int32) (y2 : Int32) (h : abJ) (z : (Int32 × abJ)), fX12_again_L31 n y1 y2 h = some z → ab_Ex X (d + 4) 274 31 [(0, .ref 64), (1, .int y1), (2, .int y2)] [] ab_SH (ab_dD h) (fun r => r = (some (.int z.1), ab_SH, ab_dD z.2)) := by
  intro n
  induction n with
  | zero => intro y1 y2 h z hf; cases hf
  | succ n ih =>
    intro y1 y2 h z hf
    rw [fX12_again_L31] at hf
    refine ab_Ex.blk (k := 2) (pc' := 35) (lv' := [(0, .ref 64), (1, .int y1), (2, .int y2)]) (st' := [.int 4374, .int y2]) (sh' := ab_SH) (D' := ab_dD h) (fun n => rfl) ?_
    refine ab_Ex.ifc (c := 4374 ≤ y2) (SA := (102, [(0, .ref 64), (1, .int y1), (2, .int y2)], [], ab_dD h)) (SB := (38, [(0, .ref 64), (1, .int y1), (2, .int y2)], [], ab_dD h)) (fun n => rfl) (fun c2 => ?_) (fun c2 => ?_)
    · replace hf := (if_pos c2).symm.trans hf
      refine ab_Ex.blk (k := 2) (pc' := 104) (lv' := [(0, .ref 64), (1, .int y1), (2, .int 1)]) (st' := []) (sh' := ab_SH) (D' := ab_dD h) (fun n => rfl) ?_
      exact sX12_again_L104 d X  ab_N y1 1 h _ hf
    · replace hf := (if_neg c2).symm.trans hf
      refine ab_Ex.blk (k := 5) (pc' := 45) (lv' := [(0, .ref 64), (1, .int y1), (2, .int y2)]) (st' := [.int y2, .ref 64, .int y2, .ref 77]) (sh' := ab_SH) (D' := ab_dD h) (fun n => rfl) ?_
      obtain ⟨r18, hr18, hf⟩ := ab_bind_s hf
      refine ab_Ex.call (d := d + 3) (M2 := 220) (as := [.ref 64, .int y2]) (rest := [.int y2, .ref 77]) (fun n => rfl) rfl (Nat.not_lt.mpr (Nat.le_of_ble_eq_true rfl)) (sX12_isStand1 (d) X y2 h _ hr18) (fun r hr => ?_)
      subst hr
      show ab_Ex X (d + 4) 274 48 [(0, .ref 64), (1, .int y1), (2, .int y2)] [.int r18, .int y2, .ref 77] ab_SH (ab_dD h) _
      obtain ⟨c19, hf⟩ := ab_ask_s hf
      refine ab_Ex.grd (c := y2 < 0 ∨ 4374 ≤ (y2 : Int32).toNatClampNeg) (S := (49, [(0, .ref 64), (1, .int y1), (2, .int y2)], [], ab_dD (ab_wI h 77 (y2 : Int32).toNatClampNeg (vp_nar .boolean r18)))) (fun n => rfl) c19 ?_
      refine ab_Ex.blk (k := 3) (pc' := 54) (lv' := [(0, .ref 64), (1, .int y1), (2, .int y2)]) (st' := [.int y2, .ref 77]) (sh' := ab_SH) (D' := ab_dD (ab_wI h 77 (y2 : Int32).toNatClampNeg (vp_nar .boolean r18))) (fun n => rfl) ?_
      obtain ⟨c21, hf⟩ := ab_ask_s hf
      refine ab_Ex.grd (c := y2 < 0 ∨ 4374 ≤ (y2 : Int32).toNatClampNeg) (S := (55, [(0, .ref 64), (1, .int y1), (2, .int y2)], [.int (((ab_wI h 77 (y2 : Int32).toNatClampNeg (vp_nar .boolean r18)).1 77 (y2 : Int32).toNatClampNeg))], ab_dD (ab_wI h 77 (y2 : Int32).toNatClampNeg (vp_nar .boolean r18)))) (fun n => rfl) c21 ?_
      refine ab_Ex.ifc (c := ((ab_wI h 77 (y2 : Int32).toNatClampNeg (vp_nar .boolean r18)).1 77 (y2 : Int32).toNatClampNeg) = 0) (SA := (58, [(0, .ref 64), (1, .int y1), (2, .int y2)], [], ab_dD (ab_wI h 77 (y2 : Int32).toNatClampNeg (vp_nar .boolean r18)))) (SB := (61, [(0, .ref 64), (1, .int y1), (2, .int y2)], [], ab_dD (ab_wI h 77 (y2 : Int32).toNatClampNeg (vp_nar .boolean r18)))) (fun n => rfl) (fun c22 => ?_) (fun c22 => ?_)
      · replace hf := (if_pos c22).symm.trans hf
        refine ab_Ex.blk (k := 1) (pc' := 96) (lv' := [(0, .ref 64), (1, .int y1), (2, .int y2)]) (st' := []) (sh' := ab_SH) (D' := ab_dD (ab_wI h 77 (y2 : Int32).toNatClampNeg (vp_nar .boolean r18))) (fun n => rfl) ?_
        exact sX12_again_J96 d X (fun y1 y2 h => fX12_again_L31 n y1 y2 h) (fun y1 y2 h z hz => ih y1 y2 h z hz) y1 y2 (ab_wI h 77 (y2 : Int32).toNatClampNeg (vp_nar .boolean r18)) _ hf
      · replace hf := (if_neg c22).symm.trans hf
        refine ab_Ex.blk (k := 4) (pc' := 68) (lv' := [(1, .int ((y1 + 1))), (0, .ref 64), (2, .int y2)]) (st' := [.int 6, .int y2, .ref 64]) (sh' := ab_SH) (D' := ab_dD (ab_wI h 77 (y2 : Int32).toNatClampNeg (vp_nar .boolean r18))) (fun n => rfl) ?_
        refine ab_Ex.blk (k := 1) (pc' := 69) (lv' := [(1, .int ((y1 + 1))), (0, .ref 64), (2, .int y2)]) (st' := [.int ((y2 - y2 / 6 * 6)), .ref 64]) (sh' := ab_SH) (D' := ab_dD (ab_wI h 77 (y2 : Int32).toNatClampNeg (vp_nar .boolean r18))) (fun n => rfl) ?_
        obtain ⟨r23, hr23, hf⟩ := ab_bind_s hf
        refine ab_Ex.call (d := d + 3) (M2 := 223) (as := [.ref 64, .int ((y2 - y2 / 6 * 6))]) (rest := []) (fun n => rfl) rfl (Nat.not_lt.mpr (Nat.le_of_ble_eq_true rfl)) (sX12_isRest (d + 2) X ((y2 - y2 / 6 * 6)) (ab_wI h 77 (y2 : Int32).toNatClampNeg (vp_nar .boolean r18)) _ hr23) (fun r hr => ?_)
        subst hr
        show ab_Ex X (d + 4) 274 72 [(1, .int ((y1 + 1))), (0, .ref 64), (2, .int y2)] [.int r23] ab_SH (ab_dD (ab_wI h 77 (y2 : Int32).toNatClampNeg (vp_nar .boolean r18))) _
        refine ab_Ex.ifc (c := r23 = 0) (SA := (75, [(1, .int ((y1 + 1))), (0, .ref 64), (2, .int y2)], [], ab_dD (ab_wI h 77 (y2 : Int32).toNatClampNeg (vp_nar .boolean r18)))) (SB := (96, [(1, .int ((y1 + 1))), (0, .ref 64), (2, .int y2)], [], ab_dD (ab_wI h 77 (y2 : Int32).toNatClampNeg (vp_nar .boolean r18)))) (fun n => rfl) (fun c24 => ?_) (fun c24 => ?_)
        · replace hf := (if_pos c24).symm.trans hf
          refine ab_Ex.blk (k := 7) (pc' := 87) (lv' := [(1, .int ((y1 + 1))), (0, .ref 64), (2, .int y2)]) (st' := [.int 40, .ref 65, .int y2, .ref 64, .ref 79]) (sh' := ab_SH) (D' := ab_dD (ab_wI h 77 (y2 : Int32).toNatClampNeg (vp_nar .boolean r18))) (fun n => rfl) ?_
          refine ab_Ex.blk (k := 1) (pc' := 88) (lv' := [(1, .int ((y1 + 1))), (0, .ref 64), (2, .int y2)]) (st' := [.int (((ab_wI h 77 (y2 : Int32).toNatClampNeg (vp_nar .boolean r18)).1 65 40)), .int y2, .ref 64, .ref 79]) (sh' := ab_SH) (D' := ab_dD (ab_wI h 77 (y2 : Int32).toNatClampNeg (vp_nar .boolean r18))) (fun n => rfl) ?_
          obtain ⟨r25, hr25, hf⟩ := ab_bind_s hf
          refine ab_Ex.call (d := d + 3) (M2 := 224) (as := [.ref 64, .int y2, .int (((ab_wI h 77 (y2 : Int32).toNatClampNeg (vp_nar .boolean r18)).1 65 40))]) (rest := [.ref 79]) (fun n => rfl) rfl (Nat.not_lt.mpr (Nat.le_of_ble_eq_true rfl)) (sX12_stepTo (d) X y2 (((ab_wI h 77 (y2 : Int32).toNatClampNeg (vp_nar .boolean r18)).1 65 40)) (ab_wI h 77 (y2 : Int32).toNatClampNeg (vp_nar .boolean r18)) _ hr25) (fun r hr => ?_)
          subst hr
          show ab_Ex X (d + 4) 274 91 [(1, .int ((y1 + 1))), (0, .ref 64), (2, .int y2)] [.int r25.1, .ref 79] ab_SH (ab_dD r25.2) _
          refine ab_Ex.blk (k := 1) (pc' := 92) (lv' := [(1, .int ((y1 + 1))), (0, .ref 64), (2, .int y2)]) (st' := [.int r25.1, .ref 79, .int r25.1, .ref 79]) (sh' := ab_SH) (D' := ab_dD r25.2) (fun n => rfl) ?_
          obtain ⟨c27, hf⟩ := ab_ask_s hf
          refine ab_Ex.grd (c := r25.1 < 0 ∨ 4374 ≤ (r25.1 : Int32).toNatClampNeg) (S := (93, [(1, .int ((y1 + 1))), (0, .ref 64), (2, .int y2)], [.int ((r25.2.1 79 (r25.1 : Int32).toNatClampNeg)), .int r25.1, .ref 79], ab_dD r25.2)) (fun n => rfl) c27 ?_
          refine ab_Ex.blk (k := 2) (pc' := 95) (lv' := [(1, .int ((y1 + 1))), (0, .ref 64), (2, .int y2)]) (st' := [.int (((r25.2.1 79 (r25.1 : Int32).toNatClampNeg) + 1)), .int r25.1, .ref 79]) (sh' := ab_SH) (D' := ab_dD r25.2) (fun n => rfl) ?_
          obtain ⟨c28, hf⟩ := ab_ask_s hf
          refine ab_Ex.grd (c := r25.1 < 0 ∨ 4374 ≤ (r25.1 : Int32).toNatClampNeg) (S := (96, [(1, .int ((y1 + 1))), (0, .ref 64), (2, .int y2)], [], ab_dD (ab_wI r25.2 79 (r25.1 : Int32).toNatClampNeg ((r25.2.1 79 (r25.1 : Int32).toNatClampNeg) + 1)))) (fun n => rfl) c28 ?_
          exact sX12_again_J96 d X (fun y1 y2 h => fX12_again_L31 n y1 y2 h) (fun y1 y2 h z hz => ih y1 y2 h z hz) ((y1 + 1)) y2 (ab_wI r25.2 79 (r25.1 : Int32).toNatClampNeg ((r25.2.1 79 (r25.1 : Int32).toNatClampNeg) + 1)) _ hf
        · replace hf := (if_neg c24).symm.trans hf
          exact sX12_again_J96 d X (fun y1 y2 h => fX12_again_L31 n y1 y2 h) (fun y1 y2 h z hz => ih y1 y2 h z hz) ((y1 + 1)) y2 (ab_wI h 77 (y2 : Int32).toNatClampNeg (vp_nar .boolean r18)) _ hf
set_option maxRecDepth 20000 in
theorem sX12_again_L9 (d : Nat) (X : abX)   : ∀ (n : Nat), ∀ (y1 : Int32) (y2 : Int32) (h : abJ) (z : (Int32 × abJ)), fX12_again_L9 n y1 y2 h = some z → ab_Ex X (d + 4) 274 9 [(0, .ref 64), (1, .int y1), (2, .int y2)] [] ab_SH (ab_dD h) (fun r => r = (some (.int z.1), ab_SH, ab_dD z.2)) := by
  intro n
  induction n with
  | zero => intro y1 y2 h z hf; cases hf
  | succ n ih =>
    intro y1 y2 h z hf
    rw [fX12_again_L9] at hf
    refine ab_Ex.blk (k := 2) (pc' := 13) (lv' := [(0, .ref 64), (1, .int y1), (2, .int y2)]) (st' := [.int 4374, .int y2]) (sh' := ab_SH) (D' := ab_dD h) (fun n => rfl) ?_
    refine ab_Ex.ifc (c := 4374 ≤ y2) (SA := (29, [(0, .ref 64), (1, .int y1), (2, .int y2)], [], ab_dD h)) (SB := (16, [(0, .ref 64), (1, .int y1), (2, .int y2)], [], ab_dD h)) (fun n => rfl) (fun c1 => ?_) (fun c1 => ?_)
    · replace hf := (if_pos c1).symm.trans hf
      refine ab_Ex.blk (k := 2) (pc' := 31) (lv' := [(0, .ref 64), (1, .int y1), (2, .int 0)]) (st' := []) (sh' := ab_SH) (D' := ab_dD h) (fun n => rfl) ?_
      exact sX12_again_L31 d X  ab_N y1 0 h _ hf
    · replace hf := (if_neg c1).symm.trans hf
      refine ab_Ex.blk (k := 4) (pc' := 22) (lv' := [(0, .ref 64), (1, .int y1), (2, .int y2)]) (st' := [.int 0, .int y2, .ref 79]) (sh' := ab_SH) (D' := ab_dD h) (fun n => rfl) ?_
      obtain ⟨c29, hf⟩ := ab_ask_s hf
      refine ab_Ex.grd (c := y2 < 0 ∨ 4374 ≤ (y2 : Int32).toNatClampNeg) (S := (23, [(0, .ref 64), (1, .int y1), (2, .int y2)], [], ab_dD (ab_wI h 79 (y2 : Int32).toNatClampNeg 0))) (fun n => rfl) c29 ?_
      refine ab_Ex.blk (k := 2) (pc' := 9) (lv' := [(0, .ref 64), (1, .int y1), (2, .int ((y2 + 1)))]) (st' := []) (sh' := ab_SH) (D' := ab_dD (ab_wI h 79 (y2 : Int32).toNatClampNeg 0)) (fun n => rfl) ?_
      exact ih y1 ((y2 + 1)) (ab_wI h 79 (y2 : Int32).toNatClampNeg 0) _ hf
set_option maxRecDepth 20000 in
theorem sX12_again (d : Nat) (X : abX)  (h : abJ) (z : (Int32 × abJ)) (hf : fX12_again  h = some z) : ab_Ex X (d + 4) 274 0 [(0, .ref 64)] [] ab_SH (ab_dD h) (fun r => r = (some (.int z.1), ab_SH, ab_dD z.2)) := by
  unfold fX12_again at hf
  refine ab_Ex.blk (k := 7) (pc' := 9) (lv' := [(0, .ref 64), (1, .int 0), (2, .int 0)]) (st' := []) (sh' := ab_SH) (D' := ab_dD (ab_wI h 64 0 0)) (fun n => rfl) ?_
  exact sX12_again_L9 d X  ab_N 0 0 (ab_wI h 64 0 0) _ hf
def fX12_isTree_J51  (h : abJ) (k2 : Int32 → Int32 → Int32 → Option Int32) (y1 : Int32) (y2 : Int32) (y3 : Int32) (y4 : Int32) : Option Int32 := if y4 = y1 then k2 y1 y2 ((y3 + 1)) else some 0
def fX12_isTree_L18  (h : abJ) (k2 : Int32 → Int32 → Int32 → Option Int32) : Nat → Int32 → Int32 → Int32 → Int32 → Int32 → Option Int32
  | 0, _, _, _, _, _ => none
  | n + 1, y1, y2, y3, y4, y5 => if 6 ≤ y5 then fX12_isTree_J51 h k2 y1 y2 y3 y4 else if y4 = y1 then fX12_isTree_J51 h k2 y1 y2 y3 y4 else (fX12_armIn y2 y4 h).bind (fun r5 => (fX12_roadOf y4 r5 h).bind (fun r6 => fX12_isTree_L18 h k2 n y1 y2 y3 r6 ((y5 + 1))))
def fX12_isTree_L2  (h : abJ)  : Nat → Int32 → Int32 → Int32 → Option Int32
  | 0, _, _, _ => none
  | n + 1, y1, y2, y3 => if (h.1 65 1) ≤ y3 then some 1 else fX12_isTree_L18 h (fun y1 y2 y3 => fX12_isTree_L2 h n y1 y2 y3) ab_N y1 y2 y3 y3 0
def fX12_isTree (x0 : Int32) (x1 : Int32) (h : abJ) : Option Int32 := fX12_isTree_L2 h ab_N x0 x1 0
set_option maxRecDepth 20000 in
theorem sX12_isTree_J51 (d : Nat) (X : abX) (h : abJ) (k2 : Int32 → Int32 → Int32 → Option Int32) (hk2 : ∀ (y1 : Int32) (y2 : Int32) (y3 : Int32) (z : Int32), k2 y1 y2 y3 = some z → ab_Ex X (d + 2) 275 2 [(0, .ref 64), (1, .int y1), (2, .int y2), (3, .int y3)] [] ab_SH (ab_dD h) (fun r => r = (some (.int z), ab_SH, ab_dD h))) : ∀ (y1 : Int32) (y2 : Int32) (y3 : Int32) (y4 : Int32) (z : Int32), fX12_isTree_J51 h k2 y1 y2 y3 y4 = some z → ab_Ex X (d + 2) 275 51 [(0, .ref 64), (1, .int y1), (2, .int y2), (3, .int y3), (4, .int y4)] [] ab_SH (ab_dD h) (fun r => r = (some (.int z), ab_SH, ab_dD h)) := by
  intro y1 y2 y3 y4 z hf
  unfold fX12_isTree_J51 at hf
  refine ab_Ex.blk (k := 2) (pc' := 54) (lv' := [(0, .ref 64), (1, .int y1), (2, .int y2), (3, .int y3), (4, .int y4)]) (st' := [.int y1, .int y4]) (sh' := ab_SH) (D' := ab_dD h) (fun n => rfl) ?_
  refine ab_Ex.ifc (c := y4 = y1) (SA := (59, [(0, .ref 64), (1, .int y1), (2, .int y2), (3, .int y3), (4, .int y4)], [], ab_dD h)) (SB := (57, [(0, .ref 64), (1, .int y1), (2, .int y2), (3, .int y3), (4, .int y4)], [], ab_dD h)) (fun n => rfl) (fun c3 => ?_) (fun c3 => ?_)
  · replace hf := (if_pos c3).symm.trans hf
    refine ab_Ex.blk (k := 2) (pc' := 2) (lv' := [(0, .ref 64), (1, .int y1), (2, .int y2), (3, .int ((y3 + 1)))]) (st' := []) (sh' := ab_SH) (D' := ab_dD h) (fun n => rfl) ?_
    exact hk2 y1 y2 ((y3 + 1)) _ hf
  · replace hf := (if_neg c3).symm.trans hf
    refine ab_Ex.blk (k := 1) (pc' := 58) (lv' := [(0, .ref 64), (1, .int y1), (2, .int y2), (3, .int y3), (4, .int y4)]) (st' := [.int 0]) (sh' := ab_SH) (D' := ab_dD h) (fun n => rfl) ?_
    obtain rfl := Option.some.inj hf
    exact ab_Ex.ret (fun n => rfl) rfl
set_option maxRecDepth 20000 in
theorem sX12_isTree_L18 (d : Nat) (X : abX) (h : abJ) (k2 : Int32 → Int32 → Int32 → Option Int32) (hk2 : ∀ (y1 : Int32) (y2 : Int32) (y3 : Int32) (z : Int32), k2 y1 y2 y3 = some z → ab_Ex X (d + 2) 275 2 [(0, .ref 64), (1, .int y1), (2, .int y2), (3, .int y3)] [] ab_SH (ab_dD h) (fun r => r = (some (.int z), ab_SH, ab_dD h))) : ∀ (n : Nat), ∀ (y1 : Int32) (y2 : Int32) (y3 : Int32) (y4 : Int32) (y5 : Int32) (z : Int32), fX12_isTree_L18 h k2 n y1 y2 y3 y4 y5 = some z → ab_Ex X (d + 2) 275 18 [(0, .ref 64), (1, .int y1), (2, .int y2), (3, .int y3), (4, .int y4), (5, .int y5)] [] ab_SH (ab_dD h) (fun r => r = (some (.int z), ab_SH, ab_dD h)) := by
  intro n
  induction n with
  | zero => intro y1 y2 y3 y4 y5 z hf; cases hf
  | succ n ih =>
    intro y1 y2 y3 y4 y5 z hf
    rw [fX12_isTree_L18] at hf
    refine ab_Ex.blk (k := 2) (pc' := 22) (lv' := [(0, .ref 64), (1, .int y1), (2, .int y2), (3, .int y3), (4, .int y4), (5, .int y5)]) (st' := [.int 6, .int y5]) (sh' := ab_SH) (D' := ab_dD h) (fun n => rfl) ?_
    refine ab_Ex.ifc (c := 6 ≤ y5) (SA := (51, [(0, .ref 64), (1, .int y1), (2, .int y2), (3, .int y3), (4, .int y4), (5, .int y5)], [], ab_dD h)) (SB := (25, [(0, .ref 64), (1, .int y1), (2, .int y2), (3, .int y3), (4, .int y4), (5, .int y5)], [], ab_dD h)) (fun n => rfl) (fun c2 => ?_) (fun c2 => ?_)
    · replace hf := (if_pos c2).symm.trans hf
      exact sX12_isTree_J51 d X h k2 hk2 y1 y2 y3 y4 _ hf
    · replace hf := (if_neg c2).symm.trans hf
      refine ab_Ex.blk (k := 2) (pc' := 28) (lv' := [(0, .ref 64), (1, .int y1), (2, .int y2), (3, .int y3), (4, .int y4), (5, .int y5)]) (st' := [.int y1, .int y4]) (sh' := ab_SH) (D' := ab_dD h) (fun n => rfl) ?_
      refine ab_Ex.ifc (c := y4 = y1) (SA := (51, [(0, .ref 64), (1, .int y1), (2, .int y2), (3, .int y3), (4, .int y4), (5, .int y5)], [], ab_dD h)) (SB := (31, [(0, .ref 64), (1, .int y1), (2, .int y2), (3, .int y3), (4, .int y4), (5, .int y5)], [], ab_dD h)) (fun n => rfl) (fun c4 => ?_) (fun c4 => ?_)
      · replace hf := (if_pos c4).symm.trans hf
        exact sX12_isTree_J51 d X h k2 hk2 y1 y2 y3 y4 _ hf
      · replace hf := (if_neg c4).symm.trans hf
        refine ab_Ex.blk (k := 4) (pc' := 37) (lv' := [(0, .ref 64), (1, .int y1), (2, .int y2), (3, .int y3), (4, .int y4), (5, .int y5)]) (st' := [.int y4, .int y2, .int y4, .ref 64]) (sh' := ab_SH) (D' := ab_dD h) (fun n => rfl) ?_
        obtain ⟨r5, hr5, hf⟩ := ab_bind_s hf
        refine ab_Ex.call (d := d + 1) (M2 := 212) (as := [.int y2, .int y4]) (rest := [.int y4, .ref 64]) (fun n => rfl) rfl (Nat.not_lt.mpr (Nat.le_of_ble_eq_true rfl)) (sX12_armIn (d) X y2 y4 h _ hr5) (fun r hr => ?_)
        subst hr
        show ab_Ex X (d + 2) 275 40 [(0, .ref 64), (1, .int y1), (2, .int y2), (3, .int y3), (4, .int y4), (5, .int y5)] [.int r5, .int y4, .ref 64] ab_SH (ab_dD h) _
        obtain ⟨r6, hr6, hf⟩ := ab_bind_s hf
        refine ab_Ex.call (d := d + 1) (M2 := 218) (as := [.ref 64, .int y4, .int r5]) (rest := []) (fun n => rfl) rfl (Nat.not_lt.mpr (Nat.le_of_ble_eq_true rfl)) (sX12_roadOf (d + 1) X y4 r5 h _ hr6) (fun r hr => ?_)
        subst hr
        show ab_Ex X (d + 2) 275 43 [(0, .ref 64), (1, .int y1), (2, .int y2), (3, .int y3), (4, .int y4), (5, .int y5)] [.int r6] ab_SH (ab_dD h) _
        refine ab_Ex.blk (k := 3) (pc' := 18) (lv' := [(0, .ref 64), (1, .int y1), (2, .int y2), (3, .int y3), (4, .int r6), (5, .int ((y5 + 1)))]) (st' := []) (sh' := ab_SH) (D' := ab_dD h) (fun n => rfl) ?_
        exact ih y1 y2 y3 r6 ((y5 + 1)) _ hf
set_option maxRecDepth 20000 in
theorem sX12_isTree_L2 (d : Nat) (X : abX) (h : abJ)   : ∀ (n : Nat), ∀ (y1 : Int32) (y2 : Int32) (y3 : Int32) (z : Int32), fX12_isTree_L2 h n y1 y2 y3 = some z → ab_Ex X (d + 2) 275 2 [(0, .ref 64), (1, .int y1), (2, .int y2), (3, .int y3)] [] ab_SH (ab_dD h) (fun r => r = (some (.int z), ab_SH, ab_dD h)) := by
  intro n
  induction n with
  | zero => intro y1 y2 y3 z hf; cases hf
  | succ n ih =>
    intro y1 y2 y3 z hf
    rw [fX12_isTree_L2] at hf
    refine ab_Ex.blk (k := 4) (pc' := 8) (lv' := [(0, .ref 64), (1, .int y1), (2, .int y2), (3, .int y3)]) (st' := [.int 1, .ref 65, .int y3]) (sh' := ab_SH) (D' := ab_dD h) (fun n => rfl) ?_
    refine ab_Ex.blk (k := 1) (pc' := 9) (lv' := [(0, .ref 64), (1, .int y1), (2, .int y2), (3, .int y3)]) (st' := [.int ((h.1 65 1)), .int y3]) (sh' := ab_SH) (D' := ab_dD h) (fun n => rfl) ?_
    refine ab_Ex.ifc (c := (h.1 65 1) ≤ y3) (SA := (65, [(0, .ref 64), (1, .int y1), (2, .int y2), (3, .int y3)], [], ab_dD h)) (SB := (12, [(0, .ref 64), (1, .int y1), (2, .int y2), (3, .int y3)], [], ab_dD h)) (fun n => rfl) (fun c1 => ?_) (fun c1 => ?_)
    · replace hf := (if_pos c1).symm.trans hf
      refine ab_Ex.blk (k := 1) (pc' := 66) (lv' := [(0, .ref 64), (1, .int y1), (2, .int y2), (3, .int y3)]) (st' := [.int 1]) (sh' := ab_SH) (D' := ab_dD h) (fun n => rfl) ?_
      obtain rfl := Option.some.inj hf
      exact ab_Ex.ret (fun n => rfl) rfl
    · replace hf := (if_neg c1).symm.trans hf
      refine ab_Ex.blk (k := 4) (pc' := 18) (lv' := [(0, .ref 64), (1, .int y1), (2, .int y2), (3, .int y3), (4, .int y3), (5, .int 0)]) (st' := []) (sh' := ab_SH) (D' := ab_dD h) (fun n => rfl) ?_
      exact sX12_isTree_L18 d X h (fun y1 y2 y3 => fX12_isTree_L2 h n y1 y2 y3) (fun y1 y2 y3 z hz => ih y1 y2 y3 z hz) ab_N y1 y2 y3 y3 0 _ hf
set_option maxRecDepth 20000 in
theorem sX12_isTree (d : Nat) (X : abX) (x0 : Int32) (x1 : Int32) (h : abJ) (z : Int32) (hf : fX12_isTree x0 x1 h = some z) : ab_Ex X (d + 2) 275 0 [(0, .ref 64), (1, .int x0), (2, .int x1)] [] ab_SH (ab_dD h) (fun r => r = (some (.int z), ab_SH, ab_dD h)) := by
  unfold fX12_isTree at hf
  refine ab_Ex.blk (k := 2) (pc' := 2) (lv' := [(0, .ref 64), (1, .int x0), (2, .int x1), (3, .int 0)]) (st' := []) (sh' := ab_SH) (D' := ab_dD h) (fun n => rfl) ?_
  exact sX12_isTree_L2 d X h ab_N x0 x1 0 _ hf
def fX12_trees_J96  (k58 : Int32 → Int32 → Int32 → abJ → Option (Int32 × abJ)) (y1 : Int32) (y3 : Int32) (t0 : Int32) (t1 : Int32) (h : abJ) : Option (Int32 × abJ) := k58 y1 ((t0 + t1)) ((y3 + 1)) h
def fX12_trees_J95  (k58 : Int32 → Int32 → Int32 → abJ → Option (Int32 × abJ)) (y1 : Int32) (y3 : Int32) (t0 : Int32) (h : abJ) : Option (Int32 × abJ) := fX12_trees_J96 k58 y1 y3 t0 0 h
def fX12_trees_L58   : Nat → Int32 → Int32 → Int32 → abJ → Option (Int32 × abJ)
  | 0, _, _, _, _ => none
  | n + 1, y1, y2, y3, h => if 729 ≤ y3 then some (y2, h) else (fX12_armIn y3 y1 h).bind (fun r5 => if r5 = 0 then (fX12_areArms y3 h).bind (fun r7 => if r7 = 0 then fX12_trees_J95 (fun y1 y2 y3 h => fX12_trees_L58 n y1 y2 y3 h) y1 y3 y2 h else (fX12_isTree y1 y3 h).bind (fun r9 => if r9 = 0 then fX12_trees_J95 (fun y1 y2 y3 h => fX12_trees_L58 n y1 y2 y3 h) y1 y3 y2 h else fX12_trees_J96 (fun y1 y2 y3 h => fX12_trees_L58 n y1 y2 y3 h) y1 y3 y2 1 h)) else fX12_trees_J95 (fun y1 y2 y3 h => fX12_trees_L58 n y1 y2 y3 h) y1 y3 y2 h)
def fX12_trees_J48  (k19 : Int32 → Int32 → abJ → Option (Int32 × abJ)) (y1 : Int32) (y2 : Int32) (h : abJ) : Option (Int32 × abJ) := k19 y1 ((y2 + 1)) h
def fX12_trees_L19   : Nat → Int32 → Int32 → abJ → Option (Int32 × abJ)
  | 0, _, _, _ => none
  | n + 1, y1, y2, h => if (h.1 65 1) ≤ y2 then fX12_trees_L58 ab_N y1 0 0 h else if y2 = y1 then fX12_trees_J48 (fun y1 y2 h => fX12_trees_L19 n y1 y2 h) y1 y2 h else ab_ask ((9 + y2) < 0 ∨ 3102 ≤ ((9 + y2) : Int32).toNatClampNeg) (if (h.1 65 ((9 + y2) : Int32).toNatClampNeg) = 0 then some (0, h) else fX12_trees_J48 (fun y1 y2 h => fX12_trees_L19 n y1 y2 h) y1 y2 h)
def fX12_trees (x0 : Int32) (h : abJ) : Option (Int32 × abJ) := (fX12_isPost ((x0 : Int32).toInt64) (ab_wI h 64 0 0)).bind (fun r1 => if r1 = 0 then some ((-2), (ab_wI h 64 0 0)) else fX12_trees_L19 ab_N x0 0 (ab_wI h 64 0 0))
set_option maxRecDepth 20000 in
theorem sX12_trees_J96 (d : Nat) (X : abX) (k58 : Int32 → Int32 → Int32 → abJ → Option (Int32 × abJ)) (hk58 : ∀ (y1 : Int32) (y2 : Int32) (y3 : Int32) (h : abJ) (z : (Int32 × abJ)), k58 y1 y2 y3 h = some z → ab_Ex X (d + 3) 276 58 [(0, .ref 64), (1, .int y1), (2, .int y2), (3, .int y3)] [] ab_SH (ab_dD h) (fun r => r = (some (.int z.1), ab_SH, ab_dD z.2))) : ∀ (y1 : Int32) (y3 : Int32) (t0 : Int32) (t1 : Int32) (h : abJ) (z : (Int32 × abJ)), fX12_trees_J96 k58 y1 y3 t0 t1 h = some z → ab_Ex X (d + 3) 276 96 [(0, .ref 64), (1, .int y1), (3, .int y3)] [.int t1, .int t0] ab_SH (ab_dD h) (fun r => r = (some (.int z.1), ab_SH, ab_dD z.2)) := by
  intro y1 y3 t0 t1 h z hf
  unfold fX12_trees_J96 at hf
  refine ab_Ex.blk (k := 4) (pc' := 58) (lv' := [(0, .ref 64), (1, .int y1), (2, .int ((t0 + t1))), (3, .int ((y3 + 1)))]) (st' := []) (sh' := ab_SH) (D' := ab_dD h) (fun n => rfl) ?_
  exact hk58 y1 ((t0 + t1)) ((y3 + 1)) h _ hf
set_option maxRecDepth 20000 in
theorem sX12_trees_J95 (d : Nat) (X : abX) (k58 : Int32 → Int32 → Int32 → abJ → Option (Int32 × abJ)) (hk58 : ∀ (y1 : Int32) (y2 : Int32) (y3 : Int32) (h : abJ) (z : (Int32 × abJ)), k58 y1 y2 y3 h = some z → ab_Ex X (d + 3) 276 58 [(0, .ref 64), (1, .int y1), (2, .int y2), (3, .int y3)] [] ab_SH (ab_dD h) (fun r => r = (some (.int z.1), ab_SH, ab_dD z.2))) : ∀ (y1 : Int32) (y3 : Int32) (t0 : Int32) (h : abJ) (z : (Int32 × abJ)), fX12_trees_J95 k58 y1 y3 t0 h = some z → ab_Ex X (d + 3) 276 95 [(0, .ref 64), (1, .int y1), (3, .int y3)] [.int t0] ab_SH (ab_dD h) (fun r => r = (some (.int z.1), ab_SH, ab_dD z.2)) := by
  intro y1 y3 t0 h z hf
  unfold fX12_trees_J95 at hf
  refine ab_Ex.blk (k := 1) (pc' := 96) (lv' := [(0, .ref 64), (1, .int y1), (3, .int y3)]) (st' := [.int 0, .int t0]) (sh' := ab_SH) (D' := ab_dD h) (fun n => rfl) ?_
  exact sX12_trees_J96 d X k58 hk58 y1 y3 t0 0 h _ hf
set_option maxRecDepth 20000 in
theorem sX12_trees_L58 (d : Nat) (X : abX)   : ∀ (n : Nat), ∀ (y1 : Int32) (y2 : Int32) (y3 : Int32) (h : abJ) (z : (Int32 × abJ)), fX12_trees_L58 n y1 y2 y3 h = some z → ab_Ex X (d + 3) 276 58 [(0, .ref 64), (1, .int y1), (2, .int y2), (3, .int y3)] [] ab_SH (ab_dD h) (fun r => r = (some (.int z.1), ab_SH, ab_dD z.2)) := by
  intro n
  induction n with
  | zero => intro y1 y2 y3 h z hf; cases hf
  | succ n ih =>
    intro y1 y2 y3 h z hf
    rw [fX12_trees_L58] at hf
    refine ab_Ex.blk (k := 2) (pc' := 62) (lv' := [(0, .ref 64), (1, .int y1), (2, .int y2), (3, .int y3)]) (st' := [.int 729, .int y3]) (sh' := ab_SH) (D' := ab_dD h) (fun n => rfl) ?_
    refine ab_Ex.ifc (c := 729 ≤ y3) (SA := (104, [(0, .ref 64), (1, .int y1), (2, .int y2), (3, .int y3)], [], ab_dD h)) (SB := (65, [(0, .ref 64), (1, .int y1), (2, .int y2), (3, .int y3)], [], ab_dD h)) (fun n => rfl) (fun c4 => ?_) (fun c4 => ?_)
    · replace hf := (if_pos c4).symm.trans hf
      refine ab_Ex.blk (k := 1) (pc' := 105) (lv' := [(0, .ref 64), (1, .int y1), (2, .int y2), (3, .int y3)]) (st' := [.int y2]) (sh' := ab_SH) (D' := ab_dD h) (fun n => rfl) ?_
      obtain rfl := Option.some.inj hf
      exact ab_Ex.ret (fun n => rfl) rfl
    · replace hf := (if_neg c4).symm.trans hf
      refine ab_Ex.blk (k := 3) (pc' := 68) (lv' := [(0, .ref 64), (1, .int y1), (2, .int y2), (3, .int y3)]) (st' := [.int y1, .int y3, .int y2]) (sh' := ab_SH) (D' := ab_dD h) (fun n => rfl) ?_
      obtain ⟨r5, hr5, hf⟩ := ab_bind_s hf
      refine ab_Ex.call (d := d + 2) (M2 := 212) (as := [.int y3, .int y1]) (rest := [.int y2]) (fun n => rfl) rfl (Nat.not_lt.mpr (Nat.le_of_ble_eq_true rfl)) (sX12_armIn (d + 1) X y3 y1 h _ hr5) (fun r hr => ?_)
      subst hr
      show ab_Ex X (d + 3) 276 71 [(0, .ref 64), (1, .int y1), (2, .int y2), (3, .int y3)] [.int r5, .int y2] ab_SH (ab_dD h) _
      refine ab_Ex.ifc (c := r5 = 0) (SA := (74, [(0, .ref 64), (1, .int y1), (2, .int y2), (3, .int y3)], [.int y2], ab_dD h)) (SB := (95, [(0, .ref 64), (1, .int y1), (2, .int y2), (3, .int y3)], [.int y2], ab_dD h)) (fun n => rfl) (fun c6 => ?_) (fun c6 => ?_)
      · replace hf := (if_pos c6).symm.trans hf
        refine ab_Ex.blk (k := 2) (pc' := 76) (lv' := [(0, .ref 64), (1, .int y1), (2, .int y2), (3, .int y3)]) (st' := [.int y3, .ref 64, .int y2]) (sh' := ab_SH) (D' := ab_dD h) (fun n => rfl) ?_
        obtain ⟨r7, hr7, hf⟩ := ab_bind_s hf
        refine ab_Ex.call (d := d + 2) (M2 := 219) (as := [.ref 64, .int y3]) (rest := [.int y2]) (fun n => rfl) rfl (Nat.not_lt.mpr (Nat.le_of_ble_eq_true rfl)) (sX12_areArms (d) X y3 h _ hr7) (fun r hr => ?_)
        subst hr
        show ab_Ex X (d + 3) 276 79 [(0, .ref 64), (1, .int y1), (2, .int y2), (3, .int y3)] [.int r7, .int y2] ab_SH (ab_dD h) _
        refine ab_Ex.ifc (c := r7 = 0) (SA := (95, [(0, .ref 64), (1, .int y1), (2, .int y2), (3, .int y3)], [.int y2], ab_dD h)) (SB := (82, [(0, .ref 64), (1, .int y1), (2, .int y2), (3, .int y3)], [.int y2], ab_dD h)) (fun n => rfl) (fun c8 => ?_) (fun c8 => ?_)
        · replace hf := (if_pos c8).symm.trans hf
          exact sX12_trees_J95 d X (fun y1 y2 y3 h => fX12_trees_L58 n y1 y2 y3 h) (fun y1 y2 y3 h z hz => ih y1 y2 y3 h z hz) y1 y3 y2 h _ hf
        · replace hf := (if_neg c8).symm.trans hf
          refine ab_Ex.blk (k := 3) (pc' := 85) (lv' := [(0, .ref 64), (1, .int y1), (2, .int y2), (3, .int y3)]) (st' := [.int y3, .int y1, .ref 64, .int y2]) (sh' := ab_SH) (D' := ab_dD h) (fun n => rfl) ?_
          obtain ⟨r9, hr9, hf⟩ := ab_bind_s hf
          refine ab_Ex.call (d := d + 2) (M2 := 275) (as := [.ref 64, .int y1, .int y3]) (rest := [.int y2]) (fun n => rfl) rfl (Nat.not_lt.mpr (Nat.le_of_ble_eq_true rfl)) (sX12_isTree (d) X y1 y3 h _ hr9) (fun r hr => ?_)
          subst hr
          show ab_Ex X (d + 3) 276 88 [(0, .ref 64), (1, .int y1), (2, .int y2), (3, .int y3)] [.int r9, .int y2] ab_SH (ab_dD h) _
          refine ab_Ex.ifc (c := r9 = 0) (SA := (95, [(0, .ref 64), (1, .int y1), (2, .int y2), (3, .int y3)], [.int y2], ab_dD h)) (SB := (91, [(0, .ref 64), (1, .int y1), (2, .int y2), (3, .int y3)], [.int y2], ab_dD h)) (fun n => rfl) (fun c10 => ?_) (fun c10 => ?_)
          · replace hf := (if_pos c10).symm.trans hf
            exact sX12_trees_J95 d X (fun y1 y2 y3 h => fX12_trees_L58 n y1 y2 y3 h) (fun y1 y2 y3 h z hz => ih y1 y2 y3 h z hz) y1 y3 y2 h _ hf
          · replace hf := (if_neg c10).symm.trans hf
            refine ab_Ex.blk (k := 2) (pc' := 96) (lv' := [(0, .ref 64), (1, .int y1), (3, .int y3)]) (st' := [.int 1, .int y2]) (sh' := ab_SH) (D' := ab_dD h) (fun n => rfl) ?_
            exact sX12_trees_J96 d X (fun y1 y2 y3 h => fX12_trees_L58 n y1 y2 y3 h) (fun y1 y2 y3 h z hz => ih y1 y2 y3 h z hz) y1 y3 y2 1 h _ hf
      · replace hf := (if_neg c6).symm.trans hf
        exact sX12_trees_J95 d X (fun y1 y2 y3 h => fX12_trees_L58 n y1 y2 y3 h) (fun y1 y2 y3 h z hz => ih y1 y2 y3 h z hz) y1 y3 y2 h _ hf
set_option maxRecDepth 20000 in
theorem sX12_trees_J48 (d : Nat) (X : abX) (k19 : Int32 → Int32 → abJ → Option (Int32 × abJ)) (hk19 : ∀ (y1 : Int32) (y2 : Int32) (h : abJ) (z : (Int32 × abJ)), k19 y1 y2 h = some z → ab_Ex X (d + 3) 276 19 [(0, .ref 64), (1, .int y1), (2, .int y2)] [] ab_SH (ab_dD h) (fun r => r = (some (.int z.1), ab_SH, ab_dD z.2))) : ∀ (y1 : Int32) (y2 : Int32) (h : abJ) (z : (Int32 × abJ)), fX12_trees_J48 k19 y1 y2 h = some z → ab_Ex X (d + 3) 276 48 [(0, .ref 64), (1, .int y1), (2, .int y2)] [] ab_SH (ab_dD h) (fun r => r = (some (.int z.1), ab_SH, ab_dD z.2)) := by
  intro y1 y2 h z hf
  unfold fX12_trees_J48 at hf
  refine ab_Ex.blk (k := 2) (pc' := 19) (lv' := [(0, .ref 64), (1, .int y1), (2, .int ((y2 + 1)))]) (st' := []) (sh' := ab_SH) (D' := ab_dD h) (fun n => rfl) ?_
  exact hk19 y1 ((y2 + 1)) h _ hf
set_option maxRecDepth 20000 in
theorem sX12_trees_L19 (d : Nat) (X : abX)   : ∀ (n : Nat), ∀ (y1 : Int32) (y2 : Int32) (h : abJ) (z : (Int32 × abJ)), fX12_trees_L19 n y1 y2 h = some z → ab_Ex X (d + 3) 276 19 [(0, .ref 64), (1, .int y1), (2, .int y2)] [] ab_SH (ab_dD h) (fun r => r = (some (.int z.1), ab_SH, ab_dD z.2)) := by
  intro n
  induction n with
  | zero => intro y1 y2 h z hf; cases hf
  | succ n ih =>
    intro y1 y2 h z hf
    rw [fX12_trees_L19] at hf
    refine ab_Ex.blk (k := 4) (pc' := 25) (lv' := [(0, .ref 64), (1, .int y1), (2, .int y2)]) (st' := [.int 1, .ref 65, .int y2]) (sh' := ab_SH) (D' := ab_dD h) (fun n => rfl) ?_
    refine ab_Ex.blk (k := 1) (pc' := 26) (lv' := [(0, .ref 64), (1, .int y1), (2, .int y2)]) (st' := [.int ((h.1 65 1)), .int y2]) (sh' := ab_SH) (D' := ab_dD h) (fun n => rfl) ?_
    refine ab_Ex.ifc (c := (h.1 65 1) ≤ y2) (SA := (54, [(0, .ref 64), (1, .int y1), (2, .int y2)], [], ab_dD h)) (SB := (29, [(0, .ref 64), (1, .int y1), (2, .int y2)], [], ab_dD h)) (fun n => rfl) (fun c3 => ?_) (fun c3 => ?_)
    · replace hf := (if_pos c3).symm.trans hf
      refine ab_Ex.blk (k := 4) (pc' := 58) (lv' := [(0, .ref 64), (1, .int y1), (2, .int 0), (3, .int 0)]) (st' := []) (sh' := ab_SH) (D' := ab_dD h) (fun n => rfl) ?_
      exact sX12_trees_L58 d X  ab_N y1 0 0 h _ hf
    · replace hf := (if_neg c3).symm.trans hf
      refine ab_Ex.blk (k := 2) (pc' := 31) (lv' := [(0, .ref 64), (1, .int y1), (2, .int y2)]) (st' := [.int y1, .int y2]) (sh' := ab_SH) (D' := ab_dD h) (fun n => rfl) ?_
      refine ab_Ex.ifc (c := y2 = y1) (SA := (48, [(0, .ref 64), (1, .int y1), (2, .int y2)], [], ab_dD h)) (SB := (34, [(0, .ref 64), (1, .int y1), (2, .int y2)], [], ab_dD h)) (fun n => rfl) (fun c11 => ?_) (fun c11 => ?_)
      · replace hf := (if_pos c11).symm.trans hf
        exact sX12_trees_J48 d X (fun y1 y2 h => fX12_trees_L19 n y1 y2 h) (fun y1 y2 h z hz => ih y1 y2 h z hz) y1 y2 h _ hf
      · replace hf := (if_neg c11).symm.trans hf
        refine ab_Ex.blk (k := 5) (pc' := 42) (lv' := [(0, .ref 64), (1, .int y1), (2, .int y2)]) (st' := [.int ((9 + y2)), .ref 65]) (sh' := ab_SH) (D' := ab_dD h) (fun n => rfl) ?_
        obtain ⟨c13, hf⟩ := ab_ask_s hf
        refine ab_Ex.grd (c := (9 + y2) < 0 ∨ 3102 ≤ ((9 + y2) : Int32).toNatClampNeg) (S := (43, [(0, .ref 64), (1, .int y1), (2, .int y2)], [.int ((h.1 65 ((9 + y2) : Int32).toNatClampNeg))], ab_dD h)) (fun n => rfl) c13 ?_
        refine ab_Ex.ifc (c := (h.1 65 ((9 + y2) : Int32).toNatClampNeg) = 0) (SA := (46, [(0, .ref 64), (1, .int y1), (2, .int y2)], [], ab_dD h)) (SB := (48, [(0, .ref 64), (1, .int y1), (2, .int y2)], [], ab_dD h)) (fun n => rfl) (fun c14 => ?_) (fun c14 => ?_)
        · replace hf := (if_pos c14).symm.trans hf
          refine ab_Ex.blk (k := 1) (pc' := 47) (lv' := [(0, .ref 64), (1, .int y1), (2, .int y2)]) (st' := [.int 0]) (sh' := ab_SH) (D' := ab_dD h) (fun n => rfl) ?_
          obtain rfl := Option.some.inj hf
          exact ab_Ex.ret (fun n => rfl) rfl
        · replace hf := (if_neg c14).symm.trans hf
          exact sX12_trees_J48 d X (fun y1 y2 h => fX12_trees_L19 n y1 y2 h) (fun y1 y2 h z hz => ih y1 y2 h z hz) y1 y2 h _ hf
set_option maxRecDepth 20000 in
theorem sX12_trees (d : Nat) (X : abX) (x0 : Int32) (h : abJ) (z : (Int32 × abJ)) (hf : fX12_trees x0 h = some z) : ab_Ex X (d + 3) 276 0 [(0, .ref 64), (1, .int x0)] [] ab_SH (ab_dD h) (fun r => r = (some (.int z.1), ab_SH, ab_dD z.2)) := by
  unfold fX12_trees at hf
  refine ab_Ex.blk (k := 6) (pc' := 8) (lv' := [(0, .ref 64), (1, .int x0)]) (st' := [.long ((x0 : Int32).toInt64), .ref 64]) (sh' := ab_SH) (D' := ab_dD (ab_wI h 64 0 0)) (fun n => rfl) ?_
  obtain ⟨r1, hr1, hf⟩ := ab_bind_s hf
  refine ab_Ex.call (d := d + 2) (M2 := 209) (as := [.ref 64, .long ((x0 : Int32).toInt64)]) (rest := []) (fun n => rfl) rfl (Nat.not_lt.mpr (Nat.le_of_ble_eq_true rfl)) (sX12_isPost (d + 1) X ((x0 : Int32).toInt64) (ab_wI h 64 0 0) _ hr1) (fun r hr => ?_)
  subst hr
  show ab_Ex X (d + 3) 276 11 [(0, .ref 64), (1, .int x0)] [.int r1] ab_SH (ab_dD (ab_wI h 64 0 0)) _
  refine ab_Ex.ifc (c := r1 = 0) (SA := (14, [(0, .ref 64), (1, .int x0)], [], ab_dD (ab_wI h 64 0 0))) (SB := (17, [(0, .ref 64), (1, .int x0)], [], ab_dD (ab_wI h 64 0 0))) (fun n => rfl) (fun c2 => ?_) (fun c2 => ?_)
  · replace hf := (if_pos c2).symm.trans hf
    refine ab_Ex.blk (k := 1) (pc' := 16) (lv' := [(0, .ref 64), (1, .int x0)]) (st' := [.int ((-2))]) (sh' := ab_SH) (D' := ab_dD (ab_wI h 64 0 0)) (fun n => rfl) ?_
    obtain rfl := Option.some.inj hf
    exact ab_Ex.ret (fun n => rfl) rfl
  · replace hf := (if_neg c2).symm.trans hf
    refine ab_Ex.blk (k := 2) (pc' := 19) (lv' := [(0, .ref 64), (1, .int x0), (2, .int 0)]) (st' := []) (sh' := ab_SH) (D' := ab_dD (ab_wI h 64 0 0)) (fun n => rfl) ?_
    exact sX12_trees_L19 d X  ab_N x0 0 (ab_wI h 64 0 0) _ hf
def bX12_common (R : Nat → Int64 → Int64 → abJ → Option Int64) (x0 : Int64) (x1 : Int64) (h : abJ) : Option Int64 := if (lg_cmp x1 0) = 0 then if 0 ≤ (lg_cmp x0 0) then some x0 else some (-x0) else ab_ask (x1 = 0) ((R 0 x1 ((x0 - x0 / x1 * x1)) h).bind (fun r4 => some r4))
set_option maxRecDepth 20000 in
theorem sX12_common_b (d : Nat) (X : abX) (R : Nat → Int64 → Int64 → abJ → Option Int64) (IH : ∀ (sel : Nat) (a0 : Int64) (a1 : Int64) (h : abJ) (z : Int64), R sel a0 a1 h = some z → ab_Ex X (d + 0) (([277] : List Nat).getD sel 0) 0 [(0, .long a0), (2, .long a1)] [] ab_SH (ab_dD h) (fun r => r = (some (.long z), ab_SH, ab_dD h))) (x0 : Int64) (x1 : Int64) (h : abJ) (z : Int64) (hf : bX12_common R x0 x1 h = some z) : ab_Ex X (d + 1) 277 0 [(0, .long x0), (2, .long x1)] [] ab_SH (ab_dD h) (fun r => r = (some (.long z), ab_SH, ab_dD h)) := by
  unfold bX12_common at hf
  refine ab_Ex.blk (k := 3) (pc' := 3) (lv' := [(0, .long x0), (2, .long x1)]) (st' := [.int ((lg_cmp x1 0))]) (sh' := ab_SH) (D' := ab_dD h) (fun n => rfl) ?_
  refine ab_Ex.ifc (c := (lg_cmp x1 0) = 0) (SA := (6, [(0, .long x0), (2, .long x1)], [], ab_dD h)) (SB := (21, [(0, .long x0), (2, .long x1)], [], ab_dD h)) (fun n => rfl) (fun c1 => ?_) (fun c1 => ?_)
  · replace hf := (if_pos c1).symm.trans hf
    refine ab_Ex.blk (k := 3) (pc' := 9) (lv' := [(0, .long x0), (2, .long x1)]) (st' := [.int ((lg_cmp x0 0))]) (sh' := ab_SH) (D' := ab_dD h) (fun n => rfl) ?_
    refine ab_Ex.ifc (c := 0 ≤ (lg_cmp x0 0)) (SA := (17, [(0, .long x0), (2, .long x1)], [], ab_dD h)) (SB := (12, [(0, .long x0), (2, .long x1)], [], ab_dD h)) (fun n => rfl) (fun c2 => ?_) (fun c2 => ?_)
    · replace hf := (if_pos c2).symm.trans hf
      refine ab_Ex.blk (k := 2) (pc' := 28) (lv' := []) (st' := [.long x0]) (sh' := ab_SH) (D' := ab_dD h) (fun n => rfl) ?_
      obtain rfl := Option.some.inj hf
      exact ab_Ex.ret (fun n => rfl) rfl
    · replace hf := (if_neg c2).symm.trans hf
      refine ab_Ex.blk (k := 3) (pc' := 28) (lv' := []) (st' := [.long ((-x0))]) (sh' := ab_SH) (D' := ab_dD h) (fun n => rfl) ?_
      obtain rfl := Option.some.inj hf
      exact ab_Ex.ret (fun n => rfl) rfl
  · replace hf := (if_neg c1).symm.trans hf
    refine ab_Ex.blk (k := 3) (pc' := 24) (lv' := [(0, .long x0), (2, .long x1)]) (st' := [.long x1, .long x0, .long x1]) (sh' := ab_SH) (D' := ab_dD h) (fun n => rfl) ?_
    obtain ⟨c3, hf⟩ := ab_ask_s hf
    refine ab_Ex.grd (c := x1 = 0) (S := (25, [(0, .long x0), (2, .long x1)], [.long ((x0 - x0 / x1 * x1)), .long x1], ab_dD h)) (fun n => rfl) c3 ?_
    obtain ⟨r4, hr4, hf⟩ := ab_bind_s hf
    refine ab_Ex.call (d := d + 0) (M2 := 277) (as := [.long x1, .long ((x0 - x0 / x1 * x1))]) (rest := []) (fun n => rfl) rfl (Nat.not_lt.mpr (Nat.le_of_ble_eq_true rfl)) (IH 0 x1 ((x0 - x0 / x1 * x1)) h _ hr4) (fun r hr => ?_)
    subst hr
    show ab_Ex X (d + 1) 277 28 [] [.long r4] ab_SH (ab_dD h) _
    obtain rfl := Option.some.inj hf
    exact ab_Ex.ret (fun n => rfl) rfl
def fPXC : Nat → Nat → Int64 → Int64 → abJ → Option Int64
  | 0, _, _, _, _ => none
  | n + 1, sel, a0, a1, h => match sel with
    | 0 => bX12_common (fPXC n) a0 a1 h
    | _ => none
set_option maxRecDepth 20000 in
theorem sPXC (d : Nat) (X : abX) : ∀ (n sel : Nat) (a0 : Int64) (a1 : Int64) (h : abJ) (z : Int64), fPXC n sel a0 a1 h = some z → ab_Ex X (d + n + 0) (([277] : List Nat).getD sel 0) 0 [(0, .long a0), (2, .long a1)] [] ab_SH (ab_dD h) (fun r => r = (some (.long z), ab_SH, ab_dD h)) := by
  intro n
  induction n with
  | zero => intro sel a0 a1 h z hf; cases hf
  | succ n ih =>
    intro sel a0 a1 h z hf
    match sel, hf with
    | 0, hf => exact sX12_common_b (d + n) X (fPXC n) ih a0 a1 h z hf
    | s + 1, hf => cases hf
def fX12_common (a0 : Int64) (a1 : Int64) (h : abJ) : Option Int64 := fPXC 100 0 a0 a1 h
set_option maxRecDepth 20000 in
theorem sX12_common (d : Nat) (X : abX) (a0 : Int64) (a1 : Int64) (h : abJ) (z : Int64) (hf : fX12_common a0 a1 h = some z) : ab_Ex X (d + 100) 277 0 [(0, .long a0), (2, .long a1)] [] ab_SH (ab_dD h) (fun r => r = (some (.long z), ab_SH, ab_dD h)) := sPXC d X 100 0 a0 a1 h z hf
def fX12_lays (x0 : Int32) (x1 : Int64) (x2 : Int64) (h : abJ) : Option abJ := (fX12_common x1 x2 h).bind (fun r1 => if 0 ≤ (lg_cmp x2 0) then ab_ask (r1 = 0) (ab_ask (x0 < 0 ∨ 42 ≤ (x0 : Int32).toNatClampNeg) (ab_ask (r1 = 0) (ab_ask (x0 < 0 ∨ 42 ≤ (x0 : Int32).toNatClampNeg) (some (ab_wL (ab_wL h 80 (x0 : Int32).toNatClampNeg (x1 / r1)) 81 (x0 : Int32).toNatClampNeg (x2 / r1)))))) else ab_ask ((-r1) = 0) (ab_ask (x0 < 0 ∨ 42 ≤ (x0 : Int32).toNatClampNeg) (ab_ask ((-r1) = 0) (ab_ask (x0 < 0 ∨ 42 ≤ (x0 : Int32).toNatClampNeg) (some (ab_wL (ab_wL h 80 (x0 : Int32).toNatClampNeg (x1 / (-r1))) 81 (x0 : Int32).toNatClampNeg (x2 / (-r1))))))))
set_option maxRecDepth 20000 in
theorem sX12_lays (d : Nat) (X : abX) (x0 : Int32) (x1 : Int64) (x2 : Int64) (h : abJ) (z : abJ) (hf : fX12_lays x0 x1 x2 h = some z) : ab_Ex X (d + 101) 278 0 [(0, .ref 64), (1, .int x0), (2, .long x1), (4, .long x2)] [] ab_SH (ab_dD h) (fun r => r = (none, ab_SH, ab_dD z)) := by
  unfold fX12_lays at hf
  refine ab_Ex.blk (k := 2) (pc' := 3) (lv' := [(0, .ref 64), (1, .int x0), (2, .long x1), (4, .long x2)]) (st' := [.long x2, .long x1]) (sh' := ab_SH) (D' := ab_dD h) (fun n => rfl) ?_
  obtain ⟨r1, hr1, hf⟩ := ab_bind_s hf
  refine ab_Ex.call (d := d + 100) (M2 := 277) (as := [.long x1, .long x2]) (rest := []) (fun n => rfl) rfl (Nat.not_lt.mpr (Nat.le_of_ble_eq_true rfl)) (sX12_common (d) X x1 x2 h _ hr1) (fun r hr => ?_)
  subst hr
  show ab_Ex X (d + 101) 278 6 [(0, .ref 64), (1, .int x0), (2, .long x1), (4, .long x2)] [.long r1] ab_SH (ab_dD h) _
  refine ab_Ex.blk (k := 4) (pc' := 12) (lv' := [(6, .long r1), (0, .ref 64), (1, .int x0), (2, .long x1), (4, .long x2)]) (st' := [.int ((lg_cmp x2 0))]) (sh' := ab_SH) (D' := ab_dD h) (fun n => rfl) ?_
  refine ab_Ex.ifc (c := 0 ≤ (lg_cmp x2 0)) (SA := (20, [(6, .long r1), (0, .ref 64), (1, .int x0), (2, .long x1), (4, .long x2)], [], ab_dD h)) (SB := (15, [(6, .long r1), (0, .ref 64), (1, .int x0), (2, .long x1), (4, .long x2)], [], ab_dD h)) (fun n => rfl) (fun c2 => ?_) (fun c2 => ?_)
  · replace hf := (if_pos c2).symm.trans hf
    refine ab_Ex.blk (k := 5) (pc' := 28) (lv' := [(0, .ref 64), (1, .int x0), (2, .long x1), (4, .long x2), (6, .long r1)]) (st' := [.long r1, .long x1, .int x0, .ref 80]) (sh' := ab_SH) (D' := ab_dD h) (fun n => rfl) ?_
    obtain ⟨c3, hf⟩ := ab_ask_s hf
    refine ab_Ex.grd (c := r1 = 0) (S := (29, [(0, .ref 64), (1, .int x0), (2, .long x1), (4, .long x2), (6, .long r1)], [.long ((x1 / r1)), .int x0, .ref 80], ab_dD h)) (fun n => rfl) c3 ?_
    obtain ⟨c4, hf⟩ := ab_ask_s hf
    refine ab_Ex.grd (c := x0 < 0 ∨ 42 ≤ (x0 : Int32).toNatClampNeg) (S := (30, [(0, .ref 64), (1, .int x0), (2, .long x1), (4, .long x2), (6, .long r1)], [], ab_dD (ab_wL h 80 (x0 : Int32).toNatClampNeg (x1 / r1)))) (fun n => rfl) c4 ?_
    refine ab_Ex.blk (k := 5) (pc' := 39) (lv' := [(0, .ref 64), (1, .int x0), (2, .long x1), (4, .long x2), (6, .long r1)]) (st' := [.long r1, .long x2, .int x0, .ref 81]) (sh' := ab_SH) (D' := ab_dD (ab_wL h 80 (x0 : Int32).toNatClampNeg (x1 / r1))) (fun n => rfl) ?_
    obtain ⟨c5, hf⟩ := ab_ask_s hf
    refine ab_Ex.grd (c := r1 = 0) (S := (40, [(0, .ref 64), (1, .int x0), (2, .long x1), (4, .long x2), (6, .long r1)], [.long ((x2 / r1)), .int x0, .ref 81], ab_dD (ab_wL h 80 (x0 : Int32).toNatClampNeg (x1 / r1)))) (fun n => rfl) c5 ?_
    obtain ⟨c6, hf⟩ := ab_ask_s hf
    refine ab_Ex.grd (c := x0 < 0 ∨ 42 ≤ (x0 : Int32).toNatClampNeg) (S := (41, [(0, .ref 64), (1, .int x0), (2, .long x1), (4, .long x2), (6, .long r1)], [], ab_dD (ab_wL (ab_wL h 80 (x0 : Int32).toNatClampNeg (x1 / r1)) 81 (x0 : Int32).toNatClampNeg (x2 / r1)))) (fun n => rfl) c6 ?_
    obtain rfl := Option.some.inj hf
    exact ab_Ex.ret (fun n => rfl) rfl
  · replace hf := (if_neg c2).symm.trans hf
    refine ab_Ex.blk (k := 8) (pc' := 28) (lv' := [(0, .ref 64), (1, .int x0), (2, .long x1), (4, .long x2), (6, .long ((-r1)))]) (st' := [.long ((-r1)), .long x1, .int x0, .ref 80]) (sh' := ab_SH) (D' := ab_dD h) (fun n => rfl) ?_
    obtain ⟨c7, hf⟩ := ab_ask_s hf
    refine ab_Ex.grd (c := (-r1) = 0) (S := (29, [(0, .ref 64), (1, .int x0), (2, .long x1), (4, .long x2), (6, .long ((-r1)))], [.long ((x1 / (-r1))), .int x0, .ref 80], ab_dD h)) (fun n => rfl) c7 ?_
    obtain ⟨c8, hf⟩ := ab_ask_s hf
    refine ab_Ex.grd (c := x0 < 0 ∨ 42 ≤ (x0 : Int32).toNatClampNeg) (S := (30, [(0, .ref 64), (1, .int x0), (2, .long x1), (4, .long x2), (6, .long ((-r1)))], [], ab_dD (ab_wL h 80 (x0 : Int32).toNatClampNeg (x1 / (-r1))))) (fun n => rfl) c8 ?_
    refine ab_Ex.blk (k := 5) (pc' := 39) (lv' := [(0, .ref 64), (1, .int x0), (2, .long x1), (4, .long x2), (6, .long ((-r1)))]) (st' := [.long ((-r1)), .long x2, .int x0, .ref 81]) (sh' := ab_SH) (D' := ab_dD (ab_wL h 80 (x0 : Int32).toNatClampNeg (x1 / (-r1)))) (fun n => rfl) ?_
    obtain ⟨c9, hf⟩ := ab_ask_s hf
    refine ab_Ex.grd (c := (-r1) = 0) (S := (40, [(0, .ref 64), (1, .int x0), (2, .long x1), (4, .long x2), (6, .long ((-r1)))], [.long ((x2 / (-r1))), .int x0, .ref 81], ab_dD (ab_wL h 80 (x0 : Int32).toNatClampNeg (x1 / (-r1))))) (fun n => rfl) c9 ?_
    obtain ⟨c10, hf⟩ := ab_ask_s hf
    refine ab_Ex.grd (c := x0 < 0 ∨ 42 ≤ (x0 : Int32).toNatClampNeg) (S := (41, [(0, .ref 64), (1, .int x0), (2, .long x1), (4, .long x2), (6, .long ((-r1)))], [], ab_dD (ab_wL (ab_wL h 80 (x0 : Int32).toNatClampNeg (x1 / (-r1))) 81 (x0 : Int32).toNatClampNeg (x2 / (-r1))))) (fun n => rfl) c10 ?_
    obtain rfl := Option.some.inj hf
    exact ab_Ex.ret (fun n => rfl) rfl
def fX12_addsTo (x0 : Int32) (x1 : Int32) (x2 : Int64) (x3 : Int64) (h : abJ) : Option abJ := ab_ask (x1 < 0 ∨ 42 ≤ (x1 : Int32).toNatClampNeg) (ab_ask (x1 < 0 ∨ 42 ≤ (x1 : Int32).toNatClampNeg) ((fX12_common ((x2 * (h.2 80 (x1 : Int32).toNatClampNeg))) ((x3 * (h.2 81 (x1 : Int32).toNatClampNeg))) h).bind (fun r5 => ab_ask (r5 = 0) (ab_ask (r5 = 0) (ab_ask (x0 < 0 ∨ 42 ≤ (x0 : Int32).toNatClampNeg) (ab_ask (x0 < 0 ∨ 42 ≤ (x0 : Int32).toNatClampNeg) (ab_ask (x0 < 0 ∨ 42 ≤ (x0 : Int32).toNatClampNeg) ((fX12_lays x0 ((((h.2 80 (x0 : Int32).toNatClampNeg) * ((x3 * (h.2 81 (x1 : Int32).toNatClampNeg)) / r5)) + (((x2 * (h.2 80 (x1 : Int32).toNatClampNeg)) / r5) * (h.2 81 (x0 : Int32).toNatClampNeg)))) (((h.2 81 (x0 : Int32).toNatClampNeg) * ((x3 * (h.2 81 (x1 : Int32).toNatClampNeg)) / r5))) h).bind (fun r14 => some r14)))))))))
set_option maxRecDepth 20000 in
theorem sX12_addsTo (d : Nat) (X : abX) (x0 : Int32) (x1 : Int32) (x2 : Int64) (x3 : Int64) (h : abJ) (z : abJ) (hf : fX12_addsTo x0 x1 x2 x3 h = some z) : ab_Ex X (d + 102) 279 0 [(0, .ref 64), (1, .int x0), (2, .int x1), (3, .long x2), (5, .long x3)] [] ab_SH (ab_dD h) (fun r => r = (none, ab_SH, ab_dD z)) := by
  unfold fX12_addsTo at hf
  refine ab_Ex.blk (k := 4) (pc' := 6) (lv' := [(0, .ref 64), (1, .int x0), (2, .int x1), (3, .long x2), (5, .long x3)]) (st' := [.int x1, .ref 80, .long x2]) (sh' := ab_SH) (D' := ab_dD h) (fun n => rfl) ?_
  obtain ⟨c2, hf⟩ := ab_ask_s hf
  refine ab_Ex.grd (c := x1 < 0 ∨ 42 ≤ (x1 : Int32).toNatClampNeg) (S := (7, [(0, .ref 64), (1, .int x0), (2, .int x1), (3, .long x2), (5, .long x3)], [.long ((h.2 80 (x1 : Int32).toNatClampNeg)), .long x2], ab_dD h)) (fun n => rfl) c2 ?_
  refine ab_Ex.blk (k := 6) (pc' := 17) (lv' := [(7, .long ((x2 * (h.2 80 (x1 : Int32).toNatClampNeg)))), (0, .ref 64), (1, .int x0), (2, .int x1), (3, .long x2), (5, .long x3)]) (st' := [.int x1, .ref 81, .long x3]) (sh' := ab_SH) (D' := ab_dD h) (fun n => rfl) ?_
  obtain ⟨c4, hf⟩ := ab_ask_s hf
  refine ab_Ex.grd (c := x1 < 0 ∨ 42 ≤ (x1 : Int32).toNatClampNeg) (S := (18, [(7, .long ((x2 * (h.2 80 (x1 : Int32).toNatClampNeg)))), (0, .ref 64), (1, .int x0), (2, .int x1), (3, .long x2), (5, .long x3)], [.long ((h.2 81 (x1 : Int32).toNatClampNeg)), .long x3], ab_dD h)) (fun n => rfl) c4 ?_
  refine ab_Ex.blk (k := 4) (pc' := 25) (lv' := [(9, .long ((x3 * (h.2 81 (x1 : Int32).toNatClampNeg)))), (7, .long ((x2 * (h.2 80 (x1 : Int32).toNatClampNeg)))), (0, .ref 64), (1, .int x0), (2, .int x1), (3, .long x2), (5, .long x3)]) (st' := [.long ((x3 * (h.2 81 (x1 : Int32).toNatClampNeg))), .long ((x2 * (h.2 80 (x1 : Int32).toNatClampNeg)))]) (sh' := ab_SH) (D' := ab_dD h) (fun n => rfl) ?_
  obtain ⟨r5, hr5, hf⟩ := ab_bind_s hf
  refine ab_Ex.call (d := d + 101) (M2 := 277) (as := [.long ((x2 * (h.2 80 (x1 : Int32).toNatClampNeg))), .long ((x3 * (h.2 81 (x1 : Int32).toNatClampNeg)))]) (rest := []) (fun n => rfl) rfl (Nat.not_lt.mpr (Nat.le_of_ble_eq_true rfl)) (sX12_common (d + 1) X ((x2 * (h.2 80 (x1 : Int32).toNatClampNeg))) ((x3 * (h.2 81 (x1 : Int32).toNatClampNeg))) h _ hr5) (fun r hr => ?_)
  subst hr
  show ab_Ex X (d + 102) 279 28 [(9, .long ((x3 * (h.2 81 (x1 : Int32).toNatClampNeg)))), (7, .long ((x2 * (h.2 80 (x1 : Int32).toNatClampNeg)))), (0, .ref 64), (1, .int x0), (2, .int x1), (3, .long x2), (5, .long x3)] [.long r5] ab_SH (ab_dD h) _
  refine ab_Ex.blk (k := 3) (pc' := 34) (lv' := [(11, .long r5), (9, .long ((x3 * (h.2 81 (x1 : Int32).toNatClampNeg)))), (7, .long ((x2 * (h.2 80 (x1 : Int32).toNatClampNeg)))), (0, .ref 64), (1, .int x0), (2, .int x1), (3, .long x2), (5, .long x3)]) (st' := [.long r5, .long ((x2 * (h.2 80 (x1 : Int32).toNatClampNeg)))]) (sh' := ab_SH) (D' := ab_dD h) (fun n => rfl) ?_
  obtain ⟨c6, hf⟩ := ab_ask_s hf
  refine ab_Ex.grd (c := r5 = 0) (S := (35, [(11, .long r5), (9, .long ((x3 * (h.2 81 (x1 : Int32).toNatClampNeg)))), (7, .long ((x2 * (h.2 80 (x1 : Int32).toNatClampNeg)))), (0, .ref 64), (1, .int x0), (2, .int x1), (3, .long x2), (5, .long x3)], [.long (((x2 * (h.2 80 (x1 : Int32).toNatClampNeg)) / r5))], ab_dD h)) (fun n => rfl) c6 ?_
  refine ab_Ex.blk (k := 3) (pc' := 41) (lv' := [(7, .long (((x2 * (h.2 80 (x1 : Int32).toNatClampNeg)) / r5))), (11, .long r5), (9, .long ((x3 * (h.2 81 (x1 : Int32).toNatClampNeg)))), (0, .ref 64), (1, .int x0), (2, .int x1), (3, .long x2), (5, .long x3)]) (st' := [.long r5, .long ((x3 * (h.2 81 (x1 : Int32).toNatClampNeg)))]) (sh' := ab_SH) (D' := ab_dD h) (fun n => rfl) ?_
  obtain ⟨c7, hf⟩ := ab_ask_s hf
  refine ab_Ex.grd (c := r5 = 0) (S := (42, [(7, .long (((x2 * (h.2 80 (x1 : Int32).toNatClampNeg)) / r5))), (11, .long r5), (9, .long ((x3 * (h.2 81 (x1 : Int32).toNatClampNeg)))), (0, .ref 64), (1, .int x0), (2, .int x1), (3, .long x2), (5, .long x3)], [.long (((x3 * (h.2 81 (x1 : Int32).toNatClampNeg)) / r5))], ab_dD h)) (fun n => rfl) c7 ?_
  refine ab_Ex.blk (k := 6) (pc' := 51) (lv' := [(9, .long (((x3 * (h.2 81 (x1 : Int32).toNatClampNeg)) / r5))), (7, .long (((x2 * (h.2 80 (x1 : Int32).toNatClampNeg)) / r5))), (11, .long r5), (0, .ref 64), (1, .int x0), (2, .int x1), (3, .long x2), (5, .long x3)]) (st' := [.int x0, .ref 80, .int x0, .ref 64]) (sh' := ab_SH) (D' := ab_dD h) (fun n => rfl) ?_
  obtain ⟨c9, hf⟩ := ab_ask_s hf
  refine ab_Ex.grd (c := x0 < 0 ∨ 42 ≤ (x0 : Int32).toNatClampNeg) (S := (52, [(9, .long (((x3 * (h.2 81 (x1 : Int32).toNatClampNeg)) / r5))), (7, .long (((x2 * (h.2 80 (x1 : Int32).toNatClampNeg)) / r5))), (11, .long r5), (0, .ref 64), (1, .int x0), (2, .int x1), (3, .long x2), (5, .long x3)], [.long ((h.2 80 (x0 : Int32).toNatClampNeg)), .int x0, .ref 64], ab_dD h)) (fun n => rfl) c9 ?_
  refine ab_Ex.blk (k := 6) (pc' := 62) (lv' := [(9, .long (((x3 * (h.2 81 (x1 : Int32).toNatClampNeg)) / r5))), (7, .long (((x2 * (h.2 80 (x1 : Int32).toNatClampNeg)) / r5))), (11, .long r5), (0, .ref 64), (1, .int x0), (2, .int x1), (3, .long x2), (5, .long x3)]) (st' := [.int x0, .ref 81, .long (((x2 * (h.2 80 (x1 : Int32).toNatClampNeg)) / r5)), .long (((h.2 80 (x0 : Int32).toNatClampNeg) * ((x3 * (h.2 81 (x1 : Int32).toNatClampNeg)) / r5))), .int x0, .ref 64]) (sh' := ab_SH) (D' := ab_dD h) (fun n => rfl) ?_
  obtain ⟨c11, hf⟩ := ab_ask_s hf
  refine ab_Ex.grd (c := x0 < 0 ∨ 42 ≤ (x0 : Int32).toNatClampNeg) (S := (63, [(9, .long (((x3 * (h.2 81 (x1 : Int32).toNatClampNeg)) / r5))), (7, .long (((x2 * (h.2 80 (x1 : Int32).toNatClampNeg)) / r5))), (11, .long r5), (0, .ref 64), (1, .int x0), (2, .int x1), (3, .long x2), (5, .long x3)], [.long ((h.2 81 (x0 : Int32).toNatClampNeg)), .long (((x2 * (h.2 80 (x1 : Int32).toNatClampNeg)) / r5)), .long (((h.2 80 (x0 : Int32).toNatClampNeg) * ((x3 * (h.2 81 (x1 : Int32).toNatClampNeg)) / r5))), .int x0, .ref 64], ab_dD h)) (fun n => rfl) c11 ?_
  refine ab_Ex.blk (k := 5) (pc' := 70) (lv' := [(9, .long (((x3 * (h.2 81 (x1 : Int32).toNatClampNeg)) / r5))), (7, .long (((x2 * (h.2 80 (x1 : Int32).toNatClampNeg)) / r5))), (11, .long r5), (0, .ref 64), (1, .int x0), (2, .int x1), (3, .long x2), (5, .long x3)]) (st' := [.int x0, .ref 81, .long ((((h.2 80 (x0 : Int32).toNatClampNeg) * ((x3 * (h.2 81 (x1 : Int32).toNatClampNeg)) / r5)) + (((x2 * (h.2 80 (x1 : Int32).toNatClampNeg)) / r5) * (h.2 81 (x0 : Int32).toNatClampNeg)))), .int x0, .ref 64]) (sh' := ab_SH) (D' := ab_dD h) (fun n => rfl) ?_
  obtain ⟨c13, hf⟩ := ab_ask_s hf
  refine ab_Ex.grd (c := x0 < 0 ∨ 42 ≤ (x0 : Int32).toNatClampNeg) (S := (71, [(9, .long (((x3 * (h.2 81 (x1 : Int32).toNatClampNeg)) / r5))), (7, .long (((x2 * (h.2 80 (x1 : Int32).toNatClampNeg)) / r5))), (11, .long r5), (0, .ref 64), (1, .int x0), (2, .int x1), (3, .long x2), (5, .long x3)], [.long ((h.2 81 (x0 : Int32).toNatClampNeg)), .long ((((h.2 80 (x0 : Int32).toNatClampNeg) * ((x3 * (h.2 81 (x1 : Int32).toNatClampNeg)) / r5)) + (((x2 * (h.2 80 (x1 : Int32).toNatClampNeg)) / r5) * (h.2 81 (x0 : Int32).toNatClampNeg)))), .int x0, .ref 64], ab_dD h)) (fun n => rfl) c13 ?_
  refine ab_Ex.blk (k := 2) (pc' := 74) (lv' := [(9, .long (((x3 * (h.2 81 (x1 : Int32).toNatClampNeg)) / r5))), (7, .long (((x2 * (h.2 80 (x1 : Int32).toNatClampNeg)) / r5))), (11, .long r5), (0, .ref 64), (1, .int x0), (2, .int x1), (3, .long x2), (5, .long x3)]) (st' := [.long (((h.2 81 (x0 : Int32).toNatClampNeg) * ((x3 * (h.2 81 (x1 : Int32).toNatClampNeg)) / r5))), .long ((((h.2 80 (x0 : Int32).toNatClampNeg) * ((x3 * (h.2 81 (x1 : Int32).toNatClampNeg)) / r5)) + (((x2 * (h.2 80 (x1 : Int32).toNatClampNeg)) / r5) * (h.2 81 (x0 : Int32).toNatClampNeg)))), .int x0, .ref 64]) (sh' := ab_SH) (D' := ab_dD h) (fun n => rfl) ?_
  obtain ⟨r14, hr14, hf⟩ := ab_bind_s hf
  refine ab_Ex.call (d := d + 101) (M2 := 278) (as := [.ref 64, .int x0, .long ((((h.2 80 (x0 : Int32).toNatClampNeg) * ((x3 * (h.2 81 (x1 : Int32).toNatClampNeg)) / r5)) + (((x2 * (h.2 80 (x1 : Int32).toNatClampNeg)) / r5) * (h.2 81 (x0 : Int32).toNatClampNeg)))), .long (((h.2 81 (x0 : Int32).toNatClampNeg) * ((x3 * (h.2 81 (x1 : Int32).toNatClampNeg)) / r5)))]) (rest := []) (fun n => rfl) rfl (Nat.not_lt.mpr (Nat.le_of_ble_eq_true rfl)) (sX12_lays (d) X x0 ((((h.2 80 (x0 : Int32).toNatClampNeg) * ((x3 * (h.2 81 (x1 : Int32).toNatClampNeg)) / r5)) + (((x2 * (h.2 80 (x1 : Int32).toNatClampNeg)) / r5) * (h.2 81 (x0 : Int32).toNatClampNeg)))) (((h.2 81 (x0 : Int32).toNatClampNeg) * ((x3 * (h.2 81 (x1 : Int32).toNatClampNeg)) / r5))) h _ hr14) (fun r hr => ?_)
  subst hr
  show ab_Ex X (d + 102) 279 77 [(9, .long (((x3 * (h.2 81 (x1 : Int32).toNatClampNeg)) / r5))), (7, .long (((x2 * (h.2 80 (x1 : Int32).toNatClampNeg)) / r5))), (11, .long r5), (0, .ref 64), (1, .int x0), (2, .int x1), (3, .long x2), (5, .long x3)] [] ab_SH (ab_dD r14) _
  obtain rfl := Option.some.inj hf
  exact ab_Ex.ret (fun n => rfl) rfl
def fX12_swaps (x0 : Int32) (x1 : Int32) (h : abJ) : Option abJ := ab_ask (x0 < 0 ∨ 42 ≤ (x0 : Int32).toNatClampNeg) (ab_ask (x0 < 0 ∨ 42 ≤ (x0 : Int32).toNatClampNeg) (ab_ask (x1 < 0 ∨ 42 ≤ (x1 : Int32).toNatClampNeg) (ab_ask (x0 < 0 ∨ 42 ≤ (x0 : Int32).toNatClampNeg) (ab_ask (x1 < 0 ∨ 42 ≤ (x1 : Int32).toNatClampNeg) (ab_ask (x0 < 0 ∨ 42 ≤ (x0 : Int32).toNatClampNeg) (ab_ask (x1 < 0 ∨ 42 ≤ (x1 : Int32).toNatClampNeg) (ab_ask (x1 < 0 ∨ 42 ≤ (x1 : Int32).toNatClampNeg) (some (ab_wL (ab_wL (ab_wL (ab_wL h 80 (x0 : Int32).toNatClampNeg (h.2 80 (x1 : Int32).toNatClampNeg)) 81 (x0 : Int32).toNatClampNeg ((ab_wL h 80 (x0 : Int32).toNatClampNeg (h.2 80 (x1 : Int32).toNatClampNeg)).2 81 (x1 : Int32).toNatClampNeg)) 80 (x1 : Int32).toNatClampNeg (h.2 80 (x0 : Int32).toNatClampNeg)) 81 (x1 : Int32).toNatClampNeg (h.2 81 (x0 : Int32).toNatClampNeg))))))))))
set_option maxRecDepth 20000 in
theorem sX12_swaps (d : Nat) (X : abX) (x0 : Int32) (x1 : Int32) (h : abJ) (z : abJ) (hf : fX12_swaps x0 x1 h = some z) : ab_Ex X (d + 0) 281 0 [(0, .ref 64), (1, .int x0), (2, .int x1)] [] ab_SH (ab_dD h) (fun r => r = (none, ab_SH, ab_dD z)) := by
  unfold fX12_swaps at hf
  refine ab_Ex.blk (k := 3) (pc' := 5) (lv' := [(0, .ref 64), (1, .int x0), (2, .int x1)]) (st' := [.int x0, .ref 80]) (sh' := ab_SH) (D' := ab_dD h) (fun n => rfl) ?_
  obtain ⟨c2, hf⟩ := ab_ask_s hf
  refine ab_Ex.grd (c := x0 < 0 ∨ 42 ≤ (x0 : Int32).toNatClampNeg) (S := (6, [(0, .ref 64), (1, .int x0), (2, .int x1)], [.long ((h.2 80 (x0 : Int32).toNatClampNeg))], ab_dD h)) (fun n => rfl) c2 ?_
  refine ab_Ex.blk (k := 4) (pc' := 12) (lv' := [(3, .long ((h.2 80 (x0 : Int32).toNatClampNeg))), (0, .ref 64), (1, .int x0), (2, .int x1)]) (st' := [.int x0, .ref 81]) (sh' := ab_SH) (D' := ab_dD h) (fun n => rfl) ?_
  obtain ⟨c4, hf⟩ := ab_ask_s hf
  refine ab_Ex.grd (c := x0 < 0 ∨ 42 ≤ (x0 : Int32).toNatClampNeg) (S := (13, [(3, .long ((h.2 80 (x0 : Int32).toNatClampNeg))), (0, .ref 64), (1, .int x0), (2, .int x1)], [.long ((h.2 81 (x0 : Int32).toNatClampNeg))], ab_dD h)) (fun n => rfl) c4 ?_
  refine ab_Ex.blk (k := 7) (pc' := 25) (lv' := [(5, .long ((h.2 81 (x0 : Int32).toNatClampNeg))), (3, .long ((h.2 80 (x0 : Int32).toNatClampNeg))), (0, .ref 64), (1, .int x0), (2, .int x1)]) (st' := [.int x1, .ref 80, .int x0, .ref 80]) (sh' := ab_SH) (D' := ab_dD h) (fun n => rfl) ?_
  obtain ⟨c6, hf⟩ := ab_ask_s hf
  refine ab_Ex.grd (c := x1 < 0 ∨ 42 ≤ (x1 : Int32).toNatClampNeg) (S := (26, [(5, .long ((h.2 81 (x0 : Int32).toNatClampNeg))), (3, .long ((h.2 80 (x0 : Int32).toNatClampNeg))), (0, .ref 64), (1, .int x0), (2, .int x1)], [.long ((h.2 80 (x1 : Int32).toNatClampNeg)), .int x0, .ref 80], ab_dD h)) (fun n => rfl) c6 ?_
  obtain ⟨c7, hf⟩ := ab_ask_s hf
  refine ab_Ex.grd (c := x0 < 0 ∨ 42 ≤ (x0 : Int32).toNatClampNeg) (S := (27, [(5, .long ((h.2 81 (x0 : Int32).toNatClampNeg))), (3, .long ((h.2 80 (x0 : Int32).toNatClampNeg))), (0, .ref 64), (1, .int x0), (2, .int x1)], [], ab_dD (ab_wL h 80 (x0 : Int32).toNatClampNeg (h.2 80 (x1 : Int32).toNatClampNeg)))) (fun n => rfl) c7 ?_
  refine ab_Ex.blk (k := 6) (pc' := 37) (lv' := [(5, .long ((h.2 81 (x0 : Int32).toNatClampNeg))), (3, .long ((h.2 80 (x0 : Int32).toNatClampNeg))), (0, .ref 64), (1, .int x0), (2, .int x1)]) (st' := [.int x1, .ref 81, .int x0, .ref 81]) (sh' := ab_SH) (D' := ab_dD (ab_wL h 80 (x0 : Int32).toNatClampNeg (h.2 80 (x1 : Int32).toNatClampNeg))) (fun n => rfl) ?_
  obtain ⟨c9, hf⟩ := ab_ask_s hf
  refine ab_Ex.grd (c := x1 < 0 ∨ 42 ≤ (x1 : Int32).toNatClampNeg) (S := (38, [(5, .long ((h.2 81 (x0 : Int32).toNatClampNeg))), (3, .long ((h.2 80 (x0 : Int32).toNatClampNeg))), (0, .ref 64), (1, .int x0), (2, .int x1)], [.long (((ab_wL h 80 (x0 : Int32).toNatClampNeg (h.2 80 (x1 : Int32).toNatClampNeg)).2 81 (x1 : Int32).toNatClampNeg)), .int x0, .ref 81], ab_dD (ab_wL h 80 (x0 : Int32).toNatClampNeg (h.2 80 (x1 : Int32).toNatClampNeg)))) (fun n => rfl) c9 ?_
  obtain ⟨c10, hf⟩ := ab_ask_s hf
  refine ab_Ex.grd (c := x0 < 0 ∨ 42 ≤ (x0 : Int32).toNatClampNeg) (S := (39, [(5, .long ((h.2 81 (x0 : Int32).toNatClampNeg))), (3, .long ((h.2 80 (x0 : Int32).toNatClampNeg))), (0, .ref 64), (1, .int x0), (2, .int x1)], [], ab_dD (ab_wL (ab_wL h 80 (x0 : Int32).toNatClampNeg (h.2 80 (x1 : Int32).toNatClampNeg)) 81 (x0 : Int32).toNatClampNeg ((ab_wL h 80 (x0 : Int32).toNatClampNeg (h.2 80 (x1 : Int32).toNatClampNeg)).2 81 (x1 : Int32).toNatClampNeg)))) (fun n => rfl) c10 ?_
  refine ab_Ex.blk (k := 4) (pc' := 45) (lv' := [(5, .long ((h.2 81 (x0 : Int32).toNatClampNeg))), (3, .long ((h.2 80 (x0 : Int32).toNatClampNeg))), (0, .ref 64), (1, .int x0), (2, .int x1)]) (st' := [.long ((h.2 80 (x0 : Int32).toNatClampNeg)), .int x1, .ref 80]) (sh' := ab_SH) (D' := ab_dD (ab_wL (ab_wL h 80 (x0 : Int32).toNatClampNeg (h.2 80 (x1 : Int32).toNatClampNeg)) 81 (x0 : Int32).toNatClampNeg ((ab_wL h 80 (x0 : Int32).toNatClampNeg (h.2 80 (x1 : Int32).toNatClampNeg)).2 81 (x1 : Int32).toNatClampNeg))) (fun n => rfl) ?_
  obtain ⟨c11, hf⟩ := ab_ask_s hf
  refine ab_Ex.grd (c := x1 < 0 ∨ 42 ≤ (x1 : Int32).toNatClampNeg) (S := (46, [(5, .long ((h.2 81 (x0 : Int32).toNatClampNeg))), (3, .long ((h.2 80 (x0 : Int32).toNatClampNeg))), (0, .ref 64), (1, .int x0), (2, .int x1)], [], ab_dD (ab_wL (ab_wL (ab_wL h 80 (x0 : Int32).toNatClampNeg (h.2 80 (x1 : Int32).toNatClampNeg)) 81 (x0 : Int32).toNatClampNeg ((ab_wL h 80 (x0 : Int32).toNatClampNeg (h.2 80 (x1 : Int32).toNatClampNeg)).2 81 (x1 : Int32).toNatClampNeg)) 80 (x1 : Int32).toNatClampNeg (h.2 80 (x0 : Int32).toNatClampNeg)))) (fun n => rfl) c11 ?_
  refine ab_Ex.blk (k := 4) (pc' := 53) (lv' := [(5, .long ((h.2 81 (x0 : Int32).toNatClampNeg))), (3, .long ((h.2 80 (x0 : Int32).toNatClampNeg))), (0, .ref 64), (1, .int x0), (2, .int x1)]) (st' := [.long ((h.2 81 (x0 : Int32).toNatClampNeg)), .int x1, .ref 81]) (sh' := ab_SH) (D' := ab_dD (ab_wL (ab_wL (ab_wL h 80 (x0 : Int32).toNatClampNeg (h.2 80 (x1 : Int32).toNatClampNeg)) 81 (x0 : Int32).toNatClampNeg ((ab_wL h 80 (x0 : Int32).toNatClampNeg (h.2 80 (x1 : Int32).toNatClampNeg)).2 81 (x1 : Int32).toNatClampNeg)) 80 (x1 : Int32).toNatClampNeg (h.2 80 (x0 : Int32).toNatClampNeg))) (fun n => rfl) ?_
  obtain ⟨c12, hf⟩ := ab_ask_s hf
  refine ab_Ex.grd (c := x1 < 0 ∨ 42 ≤ (x1 : Int32).toNatClampNeg) (S := (54, [(5, .long ((h.2 81 (x0 : Int32).toNatClampNeg))), (3, .long ((h.2 80 (x0 : Int32).toNatClampNeg))), (0, .ref 64), (1, .int x0), (2, .int x1)], [], ab_dD (ab_wL (ab_wL (ab_wL (ab_wL h 80 (x0 : Int32).toNatClampNeg (h.2 80 (x1 : Int32).toNatClampNeg)) 81 (x0 : Int32).toNatClampNeg ((ab_wL h 80 (x0 : Int32).toNatClampNeg (h.2 80 (x1 : Int32).toNatClampNeg)).2 81 (x1 : Int32).toNatClampNeg)) 80 (x1 : Int32).toNatClampNeg (h.2 80 (x0 : Int32).toNatClampNeg)) 81 (x1 : Int32).toNatClampNeg (h.2 81 (x0 : Int32).toNatClampNeg)))) (fun n => rfl) c12 ?_
  obtain rfl := Option.some.inj hf
  exact ab_Ex.ret (fun n => rfl) rfl
def fX12_solves_J282  (k2 : Int32 → abJ → Option abJ) (y1 : Int32) (h : abJ) : Option abJ := k2 ((y1 + 1)) h
def fX12_solves_J47  (k22 : Int32 → Int32 → abJ → Option abJ) (y1 : Int32) (y2 : Int32) (h : abJ) : Option abJ := k22 y1 ((y2 + 1)) h
def fX12_solves_J276  (k167 : Int32 → Int32 → abJ → Option abJ) (y1 : Int32) (y7 : Int32) (h : abJ) : Option abJ := k167 y1 ((y7 + 1)) h
def fX12_solves_L241  (k167 : Int32 → Int32 → abJ → Option abJ) : Nat → Int32 → Int64 → Int64 → Int32 → Int32 → abJ → Option abJ
  | 0, _, _, _, _, _, _ => none
  | n + 1, y1, y3, y5, y7, y8, h => if 7 ≤ y8 then fX12_solves_J276 k167 y1 y7 h else (fX12_addsTo (((7 * y7) + y8)) (((7 * y1) + y8)) y3 y5 h).bind (fun r30 => fX12_solves_L241 k167 n y1 y3 y5 y7 ((y8 + 1)) r30)
def fX12_solves_L167  (k2 : Int32 → abJ → Option abJ) : Nat → Int32 → Int32 → abJ → Option abJ
  | 0, _, _, _ => none
  | n + 1, y1, y7, h => if 6 ≤ y7 then fX12_solves_J282 k2 y1 h else if y7 = y1 then fX12_solves_J276 (fun y1 y7 h => fX12_solves_L167 k2 n y1 y7 h) y1 y7 h else ab_ask (y7 < 0 ∨ 6 ≤ (y7 : Int32).toNatClampNeg) (if (h.1 82 (y7 : Int32).toNatClampNeg) = 0 then fX12_solves_J276 (fun y1 y7 h => fX12_solves_L167 k2 n y1 y7 h) y1 y7 h else ab_ask (((7 * y7) + y1) < 0 ∨ 42 ≤ (((7 * y7) + y1) : Int32).toNatClampNeg) (if (lg_cmp (h.2 80 (((7 * y7) + y1) : Int32).toNatClampNeg) 0) = 0 then fX12_solves_J276 (fun y1 y7 h => fX12_solves_L167 k2 n y1 y7 h) y1 y7 h else ab_ask (((7 * y7) + y1) < 0 ∨ 42 ≤ (((7 * y7) + y1) : Int32).toNatClampNeg) (ab_ask (((7 * y7) + y1) < 0 ∨ 42 ≤ (((7 * y7) + y1) : Int32).toNatClampNeg) (fX12_solves_L241 (fun y1 y7 h => fX12_solves_L167 k2 n y1 y7 h) ab_N y1 ((-(h.2 80 (((7 * y7) + y1) : Int32).toNatClampNeg))) ((h.2 81 (((7 * y7) + y1) : Int32).toNatClampNeg)) y7 0 h))))
def fX12_solves_L111  (k2 : Int32 → abJ → Option abJ) : Nat → Int32 → Int64 → Int64 → Int32 → abJ → Option abJ
  | 0, _, _, _, _, _ => none
  | n + 1, y1, y3, y5, y7, h => if 7 ≤ y7 then fX12_solves_L167 k2 ab_N y1 0 h else ab_ask (((7 * y1) + y7) < 0 ∨ 42 ≤ (((7 * y1) + y7) : Int32).toNatClampNeg) (ab_ask (((7 * y1) + y7) < 0 ∨ 42 ≤ (((7 * y1) + y7) : Int32).toNatClampNeg) ((fX12_lays (((7 * y1) + y7)) (((h.2 80 (((7 * y1) + y7) : Int32).toNatClampNeg) * y5)) (((h.2 81 (((7 * y1) + y7) : Int32).toNatClampNeg) * y3)) h).bind (fun r35 => fX12_solves_L111 k2 n y1 y3 y5 ((y7 + 1)) r35)))
def fX12_solves_L55  (k2 : Int32 → abJ → Option abJ) : Nat → Int32 → Int32 → Int32 → abJ → Option abJ
  | 0, _, _, _, _ => none
  | n + 1, y1, y2, y3, h => if 7 ≤ y3 then ab_ask (((7 * y1) + y1) < 0 ∨ 42 ≤ (((7 * y1) + y1) : Int32).toNatClampNeg) (ab_ask (((7 * y1) + y1) < 0 ∨ 42 ≤ (((7 * y1) + y1) : Int32).toNatClampNeg) (fX12_solves_L111 k2 ab_N y1 ((h.2 80 (((7 * y1) + y1) : Int32).toNatClampNeg)) ((h.2 81 (((7 * y1) + y1) : Int32).toNatClampNeg)) 0 h)) else (fX12_swaps (((7 * y1) + y3)) (((7 * y2) + y3)) h).bind (fun r36 => fX12_solves_L55 k2 n y1 y2 ((y3 + 1)) r36)
def fX12_solves_L22  (k2 : Int32 → abJ → Option abJ) : Nat → Int32 → Int32 → abJ → Option abJ
  | 0, _, _, _ => none
  | n + 1, y1, y2, h => ab_ask (((7 * y2) + y1) < 0 ∨ 42 ≤ (((7 * y2) + y1) : Int32).toNatClampNeg) (if (lg_cmp (h.2 80 (((7 * y2) + y1) : Int32).toNatClampNeg) 0) = 0 then fX12_solves_J47 (fun y1 y2 h => fX12_solves_L22 k2 n y1 y2 h) y1 y2 h else ab_ask (y2 < 0 ∨ 6 ≤ (y2 : Int32).toNatClampNeg) (if (h.1 82 (y2 : Int32).toNatClampNeg) = 0 then fX12_solves_J47 (fun y1 y2 h => fX12_solves_L22 k2 n y1 y2 h) y1 y2 h else fX12_solves_L55 k2 ab_N y1 y2 0 h))
def fX12_solves_L2   : Nat → Int32 → abJ → Option abJ
  | 0, _, _ => none
  | n + 1, y1, h => if 6 ≤ y1 then some h else ab_ask (y1 < 0 ∨ 6 ≤ (y1 : Int32).toNatClampNeg) (if (h.1 82 (y1 : Int32).toNatClampNeg) = 0 then fX12_solves_J282 (fun y1 h => fX12_solves_L2 n y1 h) y1 h else fX12_solves_L22 (fun y1 h => fX12_solves_L2 n y1 h) ab_N y1 y1 h)
def fX12_solves  (h : abJ) : Option abJ := fX12_solves_L2 ab_N 0 h
set_option maxRecDepth 20000 in
theorem sX12_solves_J282 (d : Nat) (X : abX) (k2 : Int32 → abJ → Option abJ) (hk2 : ∀ (y1 : Int32) (h : abJ) (z : abJ), k2 y1 h = some z → ab_Ex X (d + 103) 280 2 [(0, .ref 64), (1, .int y1)] [] ab_SH (ab_dD h) (fun r => r = (none, ab_SH, ab_dD z))) : ∀ (y1 : Int32) (h : abJ) (z : abJ), fX12_solves_J282 k2 y1 h = some z → ab_Ex X (d + 103) 280 282 [(0, .ref 64), (1, .int y1)] [] ab_SH (ab_dD h) (fun r => r = (none, ab_SH, ab_dD z)) := by
  intro y1 h z hf
  unfold fX12_solves_J282 at hf
  refine ab_Ex.blk (k := 2) (pc' := 2) (lv' := [(0, .ref 64), (1, .int ((y1 + 1)))]) (st' := []) (sh' := ab_SH) (D' := ab_dD h) (fun n => rfl) ?_
  exact hk2 ((y1 + 1)) h _ hf
set_option maxRecDepth 20000 in
theorem sX12_solves_J47 (d : Nat) (X : abX) (k22 : Int32 → Int32 → abJ → Option abJ) (hk22 : ∀ (y1 : Int32) (y2 : Int32) (h : abJ) (z : abJ), k22 y1 y2 h = some z → ab_Ex X (d + 103) 280 22 [(0, .ref 64), (1, .int y1), (2, .int y2)] [] ab_SH (ab_dD h) (fun r => r = (none, ab_SH, ab_dD z))) : ∀ (y1 : Int32) (y2 : Int32) (h : abJ) (z : abJ), fX12_solves_J47 k22 y1 y2 h = some z → ab_Ex X (d + 103) 280 47 [(0, .ref 64), (1, .int y1), (2, .int y2)] [] ab_SH (ab_dD h) (fun r => r = (none, ab_SH, ab_dD z)) := by
  intro y1 y2 h z hf
  unfold fX12_solves_J47 at hf
  refine ab_Ex.blk (k := 2) (pc' := 22) (lv' := [(0, .ref 64), (1, .int y1), (2, .int ((y2 + 1)))]) (st' := []) (sh' := ab_SH) (D' := ab_dD h) (fun n => rfl) ?_
  exact hk22 y1 ((y2 + 1)) h _ hf
set_option maxRecDepth 20000 in
theorem sX12_solves_J276 (d : Nat) (X : abX) (k167 : Int32 → Int32 → abJ → Option abJ) (hk167 : ∀ (y1 : Int32) (y7 : Int32) (h : abJ) (z : abJ), k167 y1 y7 h = some z → ab_Ex X (d + 103) 280 167 [(0, .ref 64), (1, .int y1), (7, .int y7)] [] ab_SH (ab_dD h) (fun r => r = (none, ab_SH, ab_dD z))) : ∀ (y1 : Int32) (y7 : Int32) (h : abJ) (z : abJ), fX12_solves_J276 k167 y1 y7 h = some z → ab_Ex X (d + 103) 280 276 [(0, .ref 64), (1, .int y1), (7, .int y7)] [] ab_SH (ab_dD h) (fun r => r = (none, ab_SH, ab_dD z)) := by
  intro y1 y7 h z hf
  unfold fX12_solves_J276 at hf
  refine ab_Ex.blk (k := 2) (pc' := 167) (lv' := [(0, .ref 64), (1, .int y1), (7, .int ((y7 + 1)))]) (st' := []) (sh' := ab_SH) (D' := ab_dD h) (fun n => rfl) ?_
  exact hk167 y1 ((y7 + 1)) h _ hf
set_option maxRecDepth 20000 in
theorem sX12_solves_L241 (d : Nat) (X : abX) (k167 : Int32 → Int32 → abJ → Option abJ) (hk167 : ∀ (y1 : Int32) (y7 : Int32) (h : abJ) (z : abJ), k167 y1 y7 h = some z → ab_Ex X (d + 103) 280 167 [(0, .ref 64), (1, .int y1), (7, .int y7)] [] ab_SH (ab_dD h) (fun r => r = (none, ab_SH, ab_dD z))) : ∀ (n : Nat), ∀ (y1 : Int32) (y3 : Int64) (y5 : Int64) (y7 : Int32) (y8 : Int32) (h : abJ) (z : abJ), fX12_solves_L241 k167 n y1 y3 y5 y7 y8 h = some z → ab_Ex X (d + 103) 280 241 [(0, .ref 64), (1, .int y1), (3, .long y3), (5, .long y5), (7, .int y7), (8, .int y8)] [] ab_SH (ab_dD h) (fun r => r = (none, ab_SH, ab_dD z)) := by
  intro n
  induction n with
  | zero => intro y1 y3 y5 y7 y8 h z hf; cases hf
  | succ n ih =>
    intro y1 y3 y5 y7 y8 h z hf
    rw [fX12_solves_L241] at hf
    refine ab_Ex.blk (k := 2) (pc' := 245) (lv' := [(0, .ref 64), (1, .int y1), (3, .long y3), (5, .long y5), (7, .int y7), (8, .int y8)]) (st' := [.int 7, .int y8]) (sh' := ab_SH) (D' := ab_dD h) (fun n => rfl) ?_
    refine ab_Ex.ifc (c := 7 ≤ y8) (SA := (276, [(0, .ref 64), (1, .int y1), (3, .long y3), (5, .long y5), (7, .int y7), (8, .int y8)], [], ab_dD h)) (SB := (248, [(0, .ref 64), (1, .int y1), (3, .long y3), (5, .long y5), (7, .int y7), (8, .int y8)], [], ab_dD h)) (fun n => rfl) (fun c29 => ?_) (fun c29 => ?_)
    · replace hf := (if_pos c29).symm.trans hf
      exact sX12_solves_J276 d X k167 hk167 y1 y7 h _ hf
    · replace hf := (if_neg c29).symm.trans hf
      refine ab_Ex.blk (k := 13) (pc' := 267) (lv' := [(0, .ref 64), (1, .int y1), (3, .long y3), (5, .long y5), (7, .int y7), (8, .int y8)]) (st' := [.long y5, .long y3, .int (((7 * y1) + y8)), .int (((7 * y7) + y8)), .ref 64]) (sh' := ab_SH) (D' := ab_dD h) (fun n => rfl) ?_
      obtain ⟨r30, hr30, hf⟩ := ab_bind_s hf
      refine ab_Ex.call (d := d + 102) (M2 := 279) (as := [.ref 64, .int (((7 * y7) + y8)), .int (((7 * y1) + y8)), .long y3, .long y5]) (rest := []) (fun n => rfl) rfl (Nat.not_lt.mpr (Nat.le_of_ble_eq_true rfl)) (sX12_addsTo (d) X (((7 * y7) + y8)) (((7 * y1) + y8)) y3 y5 h _ hr30) (fun r hr => ?_)
      subst hr
      show ab_Ex X (d + 103) 280 270 [(0, .ref 64), (1, .int y1), (3, .long y3), (5, .long y5), (7, .int y7), (8, .int y8)] [] ab_SH (ab_dD r30) _
      refine ab_Ex.blk (k := 2) (pc' := 241) (lv' := [(0, .ref 64), (1, .int y1), (3, .long y3), (5, .long y5), (7, .int y7), (8, .int ((y8 + 1)))]) (st' := []) (sh' := ab_SH) (D' := ab_dD r30) (fun n => rfl) ?_
      exact ih y1 y3 y5 y7 ((y8 + 1)) r30 _ hf
set_option maxRecDepth 20000 in
theorem sX12_solves_L167 (d : Nat) (X : abX) (k2 : Int32 → abJ → Option abJ) (hk2 : ∀ (y1 : Int32) (h : abJ) (z : abJ), k2 y1 h = some z → ab_Ex X (d + 103) 280 2 [(0, .ref 64), (1, .int y1)] [] ab_SH (ab_dD h) (fun r => r = (none, ab_SH, ab_dD z))) : ∀ (n : Nat), ∀ (y1 : Int32) (y7 : Int32) (h : abJ) (z : abJ), fX12_solves_L167 k2 n y1 y7 h = some z → ab_Ex X (d + 103) 280 167 [(0, .ref 64), (1, .int y1), (7, .int y7)] [] ab_SH (ab_dD h) (fun r => r = (none, ab_SH, ab_dD z)) := by
  intro n
  induction n with
  | zero => intro y1 y7 h z hf; cases hf
  | succ n ih =>
    intro y1 y7 h z hf
    rw [fX12_solves_L167] at hf
    refine ab_Ex.blk (k := 2) (pc' := 171) (lv' := [(0, .ref 64), (1, .int y1), (7, .int y7)]) (st' := [.int 6, .int y7]) (sh' := ab_SH) (D' := ab_dD h) (fun n => rfl) ?_
    refine ab_Ex.ifc (c := 6 ≤ y7) (SA := (282, [(0, .ref 64), (1, .int y1), (7, .int y7)], [], ab_dD h)) (SB := (174, [(0, .ref 64), (1, .int y1), (7, .int y7)], [], ab_dD h)) (fun n => rfl) (fun c17 => ?_) (fun c17 => ?_)
    · replace hf := (if_pos c17).symm.trans hf
      exact sX12_solves_J282 d X k2 hk2 y1 h _ hf
    · replace hf := (if_neg c17).symm.trans hf
      refine ab_Ex.blk (k := 2) (pc' := 177) (lv' := [(0, .ref 64), (1, .int y1), (7, .int y7)]) (st' := [.int y1, .int y7]) (sh' := ab_SH) (D' := ab_dD h) (fun n => rfl) ?_
      refine ab_Ex.ifc (c := y7 = y1) (SA := (276, [(0, .ref 64), (1, .int y1), (7, .int y7)], [], ab_dD h)) (SB := (180, [(0, .ref 64), (1, .int y1), (7, .int y7)], [], ab_dD h)) (fun n => rfl) (fun c18 => ?_) (fun c18 => ?_)
      · replace hf := (if_pos c18).symm.trans hf
        exact sX12_solves_J276 d X (fun y1 y7 h => fX12_solves_L167 k2 n y1 y7 h) (fun y1 y7 h z hz => ih y1 y7 h z hz) y1 y7 h _ hf
      · replace hf := (if_neg c18).symm.trans hf
        refine ab_Ex.blk (k := 3) (pc' := 186) (lv' := [(0, .ref 64), (1, .int y1), (7, .int y7)]) (st' := [.int y7, .ref 82]) (sh' := ab_SH) (D' := ab_dD h) (fun n => rfl) ?_
        obtain ⟨c20, hf⟩ := ab_ask_s hf
        refine ab_Ex.grd (c := y7 < 0 ∨ 6 ≤ (y7 : Int32).toNatClampNeg) (S := (187, [(0, .ref 64), (1, .int y1), (7, .int y7)], [.int ((h.1 82 (y7 : Int32).toNatClampNeg))], ab_dD h)) (fun n => rfl) c20 ?_
        refine ab_Ex.ifc (c := (h.1 82 (y7 : Int32).toNatClampNeg) = 0) (SA := (276, [(0, .ref 64), (1, .int y1), (7, .int y7)], [], ab_dD h)) (SB := (190, [(0, .ref 64), (1, .int y1), (7, .int y7)], [], ab_dD h)) (fun n => rfl) (fun c21 => ?_) (fun c21 => ?_)
        · replace hf := (if_pos c21).symm.trans hf
          exact sX12_solves_J276 d X (fun y1 y7 h => fX12_solves_L167 k2 n y1 y7 h) (fun y1 y7 h z hz => ih y1 y7 h z hz) y1 y7 h _ hf
        · replace hf := (if_neg c21).symm.trans hf
          refine ab_Ex.blk (k := 7) (pc' := 201) (lv' := [(0, .ref 64), (1, .int y1), (7, .int y7)]) (st' := [.int (((7 * y7) + y1)), .ref 80]) (sh' := ab_SH) (D' := ab_dD h) (fun n => rfl) ?_
          obtain ⟨c23, hf⟩ := ab_ask_s hf
          refine ab_Ex.grd (c := ((7 * y7) + y1) < 0 ∨ 42 ≤ (((7 * y7) + y1) : Int32).toNatClampNeg) (S := (202, [(0, .ref 64), (1, .int y1), (7, .int y7)], [.long ((h.2 80 (((7 * y7) + y1) : Int32).toNatClampNeg))], ab_dD h)) (fun n => rfl) c23 ?_
          refine ab_Ex.blk (k := 2) (pc' := 204) (lv' := [(0, .ref 64), (1, .int y1), (7, .int y7)]) (st' := [.int ((lg_cmp (h.2 80 (((7 * y7) + y1) : Int32).toNatClampNeg) 0))]) (sh' := ab_SH) (D' := ab_dD h) (fun n => rfl) ?_
          refine ab_Ex.ifc (c := (lg_cmp (h.2 80 (((7 * y7) + y1) : Int32).toNatClampNeg) 0) = 0) (SA := (207, [(0, .ref 64), (1, .int y1), (7, .int y7)], [], ab_dD h)) (SB := (210, [(0, .ref 64), (1, .int y1), (7, .int y7)], [], ab_dD h)) (fun n => rfl) (fun c24 => ?_) (fun c24 => ?_)
          · replace hf := (if_pos c24).symm.trans hf
            refine ab_Ex.blk (k := 1) (pc' := 276) (lv' := [(0, .ref 64), (1, .int y1), (7, .int y7)]) (st' := []) (sh' := ab_SH) (D' := ab_dD h) (fun n => rfl) ?_
            exact sX12_solves_J276 d X (fun y1 y7 h => fX12_solves_L167 k2 n y1 y7 h) (fun y1 y7 h z hz => ih y1 y7 h z hz) y1 y7 h _ hf
          · replace hf := (if_neg c24).symm.trans hf
            refine ab_Ex.blk (k := 7) (pc' := 221) (lv' := [(0, .ref 64), (1, .int y1), (7, .int y7)]) (st' := [.int (((7 * y7) + y1)), .ref 80]) (sh' := ab_SH) (D' := ab_dD h) (fun n => rfl) ?_
            obtain ⟨c26, hf⟩ := ab_ask_s hf
            refine ab_Ex.grd (c := ((7 * y7) + y1) < 0 ∨ 42 ≤ (((7 * y7) + y1) : Int32).toNatClampNeg) (S := (222, [(0, .ref 64), (1, .int y1), (7, .int y7)], [.long ((h.2 80 (((7 * y7) + y1) : Int32).toNatClampNeg))], ab_dD h)) (fun n => rfl) c26 ?_
            refine ab_Ex.blk (k := 9) (pc' := 235) (lv' := [(3, .long ((-(h.2 80 (((7 * y7) + y1) : Int32).toNatClampNeg)))), (0, .ref 64), (1, .int y1), (7, .int y7)]) (st' := [.int (((7 * y7) + y1)), .ref 81]) (sh' := ab_SH) (D' := ab_dD h) (fun n => rfl) ?_
            obtain ⟨c28, hf⟩ := ab_ask_s hf
            refine ab_Ex.grd (c := ((7 * y7) + y1) < 0 ∨ 42 ≤ (((7 * y7) + y1) : Int32).toNatClampNeg) (S := (236, [(3, .long ((-(h.2 80 (((7 * y7) + y1) : Int32).toNatClampNeg)))), (0, .ref 64), (1, .int y1), (7, .int y7)], [.long ((h.2 81 (((7 * y7) + y1) : Int32).toNatClampNeg))], ab_dD h)) (fun n => rfl) c28 ?_
            refine ab_Ex.blk (k := 3) (pc' := 241) (lv' := [(0, .ref 64), (1, .int y1), (3, .long ((-(h.2 80 (((7 * y7) + y1) : Int32).toNatClampNeg)))), (5, .long ((h.2 81 (((7 * y7) + y1) : Int32).toNatClampNeg))), (7, .int y7), (8, .int 0)]) (st' := []) (sh' := ab_SH) (D' := ab_dD h) (fun n => rfl) ?_
            exact sX12_solves_L241 d X (fun y1 y7 h => fX12_solves_L167 k2 n y1 y7 h) (fun y1 y7 h z hz => ih y1 y7 h z hz) ab_N y1 ((-(h.2 80 (((7 * y7) + y1) : Int32).toNatClampNeg))) ((h.2 81 (((7 * y7) + y1) : Int32).toNatClampNeg)) y7 0 h _ hf
set_option maxRecDepth 20000 in
theorem sX12_solves_L111 (d : Nat) (X : abX) (k2 : Int32 → abJ → Option abJ) (hk2 : ∀ (y1 : Int32) (h : abJ) (z : abJ), k2 y1 h = some z → ab_Ex X (d + 103) 280 2 [(0, .ref 64), (1, .int y1)] [] ab_SH (ab_dD h) (fun r => r = (none, ab_SH, ab_dD z))) : ∀ (n : Nat), ∀ (y1 : Int32) (y3 : Int64) (y5 : Int64) (y7 : Int32) (h : abJ) (z : abJ), fX12_solves_L111 k2 n y1 y3 y5 y7 h = some z → ab_Ex X (d + 103) 280 111 [(0, .ref 64), (1, .int y1), (3, .long y3), (5, .long y5), (7, .int y7)] [] ab_SH (ab_dD h) (fun r => r = (none, ab_SH, ab_dD z)) := by
  intro n
  induction n with
  | zero => intro y1 y3 y5 y7 h z hf; cases hf
  | succ n ih =>
    intro y1 y3 y5 y7 h z hf
    rw [fX12_solves_L111] at hf
    refine ab_Ex.blk (k := 2) (pc' := 115) (lv' := [(0, .ref 64), (1, .int y1), (3, .long y3), (5, .long y5), (7, .int y7)]) (st' := [.int 7, .int y7]) (sh' := ab_SH) (D' := ab_dD h) (fun n => rfl) ?_
    refine ab_Ex.ifc (c := 7 ≤ y7) (SA := (164, [(0, .ref 64), (1, .int y1), (3, .long y3), (5, .long y5), (7, .int y7)], [], ab_dD h)) (SB := (118, [(0, .ref 64), (1, .int y1), (3, .long y3), (5, .long y5), (7, .int y7)], [], ab_dD h)) (fun n => rfl) (fun c16 => ?_) (fun c16 => ?_)
    · replace hf := (if_pos c16).symm.trans hf
      refine ab_Ex.blk (k := 2) (pc' := 167) (lv' := [(0, .ref 64), (1, .int y1), (7, .int 0)]) (st' := []) (sh' := ab_SH) (D' := ab_dD h) (fun n => rfl) ?_
      exact sX12_solves_L167 d X k2 hk2 ab_N y1 0 h _ hf
    · replace hf := (if_neg c16).symm.trans hf
      refine ab_Ex.blk (k := 13) (pc' := 137) (lv' := [(0, .ref 64), (1, .int y1), (3, .long y3), (5, .long y5), (7, .int y7)]) (st' := [.int (((7 * y1) + y7)), .ref 80, .int (((7 * y1) + y7)), .ref 64]) (sh' := ab_SH) (D' := ab_dD h) (fun n => rfl) ?_
      obtain ⟨c32, hf⟩ := ab_ask_s hf
      refine ab_Ex.grd (c := ((7 * y1) + y7) < 0 ∨ 42 ≤ (((7 * y1) + y7) : Int32).toNatClampNeg) (S := (138, [(0, .ref 64), (1, .int y1), (3, .long y3), (5, .long y5), (7, .int y7)], [.long ((h.2 80 (((7 * y1) + y7) : Int32).toNatClampNeg)), .int (((7 * y1) + y7)), .ref 64], ab_dD h)) (fun n => rfl) c32 ?_
      refine ab_Ex.blk (k := 9) (pc' := 152) (lv' := [(0, .ref 64), (1, .int y1), (3, .long y3), (5, .long y5), (7, .int y7)]) (st' := [.int (((7 * y1) + y7)), .ref 81, .long (((h.2 80 (((7 * y1) + y7) : Int32).toNatClampNeg) * y5)), .int (((7 * y1) + y7)), .ref 64]) (sh' := ab_SH) (D' := ab_dD h) (fun n => rfl) ?_
      obtain ⟨c34, hf⟩ := ab_ask_s hf
      refine ab_Ex.grd (c := ((7 * y1) + y7) < 0 ∨ 42 ≤ (((7 * y1) + y7) : Int32).toNatClampNeg) (S := (153, [(0, .ref 64), (1, .int y1), (3, .long y3), (5, .long y5), (7, .int y7)], [.long ((h.2 81 (((7 * y1) + y7) : Int32).toNatClampNeg)), .long (((h.2 80 (((7 * y1) + y7) : Int32).toNatClampNeg) * y5)), .int (((7 * y1) + y7)), .ref 64], ab_dD h)) (fun n => rfl) c34 ?_
      refine ab_Ex.blk (k := 2) (pc' := 155) (lv' := [(0, .ref 64), (1, .int y1), (3, .long y3), (5, .long y5), (7, .int y7)]) (st' := [.long (((h.2 81 (((7 * y1) + y7) : Int32).toNatClampNeg) * y3)), .long (((h.2 80 (((7 * y1) + y7) : Int32).toNatClampNeg) * y5)), .int (((7 * y1) + y7)), .ref 64]) (sh' := ab_SH) (D' := ab_dD h) (fun n => rfl) ?_
      obtain ⟨r35, hr35, hf⟩ := ab_bind_s hf
      refine ab_Ex.call (d := d + 102) (M2 := 278) (as := [.ref 64, .int (((7 * y1) + y7)), .long (((h.2 80 (((7 * y1) + y7) : Int32).toNatClampNeg) * y5)), .long (((h.2 81 (((7 * y1) + y7) : Int32).toNatClampNeg) * y3))]) (rest := []) (fun n => rfl) rfl (Nat.not_lt.mpr (Nat.le_of_ble_eq_true rfl)) (sX12_lays (d + 1) X (((7 * y1) + y7)) (((h.2 80 (((7 * y1) + y7) : Int32).toNatClampNeg) * y5)) (((h.2 81 (((7 * y1) + y7) : Int32).toNatClampNeg) * y3)) h _ hr35) (fun r hr => ?_)
      subst hr
      show ab_Ex X (d + 103) 280 158 [(0, .ref 64), (1, .int y1), (3, .long y3), (5, .long y5), (7, .int y7)] [] ab_SH (ab_dD r35) _
      refine ab_Ex.blk (k := 2) (pc' := 111) (lv' := [(0, .ref 64), (1, .int y1), (3, .long y3), (5, .long y5), (7, .int ((y7 + 1)))]) (st' := []) (sh' := ab_SH) (D' := ab_dD r35) (fun n => rfl) ?_
      exact ih y1 y3 y5 ((y7 + 1)) r35 _ hf
set_option maxRecDepth 20000 in
theorem sX12_solves_L55 (d : Nat) (X : abX) (k2 : Int32 → abJ → Option abJ) (hk2 : ∀ (y1 : Int32) (h : abJ) (z : abJ), k2 y1 h = some z → ab_Ex X (d + 103) 280 2 [(0, .ref 64), (1, .int y1)] [] ab_SH (ab_dD h) (fun r => r = (none, ab_SH, ab_dD z))) : ∀ (n : Nat), ∀ (y1 : Int32) (y2 : Int32) (y3 : Int32) (h : abJ) (z : abJ), fX12_solves_L55 k2 n y1 y2 y3 h = some z → ab_Ex X (d + 103) 280 55 [(0, .ref 64), (1, .int y1), (2, .int y2), (3, .int y3)] [] ab_SH (ab_dD h) (fun r => r = (none, ab_SH, ab_dD z)) := by
  intro n
  induction n with
  | zero => intro y1 y2 y3 h z hf; cases hf
  | succ n ih =>
    intro y1 y2 y3 h z hf
    rw [fX12_solves_L55] at hf
    refine ab_Ex.blk (k := 2) (pc' := 58) (lv' := [(0, .ref 64), (1, .int y1), (2, .int y2), (3, .int y3)]) (st' := [.int 7, .int y3]) (sh' := ab_SH) (D' := ab_dD h) (fun n => rfl) ?_
    refine ab_Ex.ifc (c := 7 ≤ y3) (SA := (83, [(0, .ref 64), (1, .int y1), (2, .int y2), (3, .int y3)], [], ab_dD h)) (SB := (61, [(0, .ref 64), (1, .int y1), (2, .int y2), (3, .int y3)], [], ab_dD h)) (fun n => rfl) (fun c11 => ?_) (fun c11 => ?_)
    · replace hf := (if_pos c11).symm.trans hf
      refine ab_Ex.blk (k := 7) (pc' := 93) (lv' := [(0, .ref 64), (1, .int y1), (2, .int y2), (3, .int y3)]) (st' := [.int (((7 * y1) + y1)), .ref 80]) (sh' := ab_SH) (D' := ab_dD h) (fun n => rfl) ?_
      obtain ⟨c13, hf⟩ := ab_ask_s hf
      refine ab_Ex.grd (c := ((7 * y1) + y1) < 0 ∨ 42 ≤ (((7 * y1) + y1) : Int32).toNatClampNeg) (S := (94, [(0, .ref 64), (1, .int y1), (2, .int y2), (3, .int y3)], [.long ((h.2 80 (((7 * y1) + y1) : Int32).toNatClampNeg))], ab_dD h)) (fun n => rfl) c13 ?_
      refine ab_Ex.blk (k := 8) (pc' := 105) (lv' := [(3, .long ((h.2 80 (((7 * y1) + y1) : Int32).toNatClampNeg))), (0, .ref 64), (1, .int y1), (2, .int y2)]) (st' := [.int (((7 * y1) + y1)), .ref 81]) (sh' := ab_SH) (D' := ab_dD h) (fun n => rfl) ?_
      obtain ⟨c15, hf⟩ := ab_ask_s hf
      refine ab_Ex.grd (c := ((7 * y1) + y1) < 0 ∨ 42 ≤ (((7 * y1) + y1) : Int32).toNatClampNeg) (S := (106, [(3, .long ((h.2 80 (((7 * y1) + y1) : Int32).toNatClampNeg))), (0, .ref 64), (1, .int y1), (2, .int y2)], [.long ((h.2 81 (((7 * y1) + y1) : Int32).toNatClampNeg))], ab_dD h)) (fun n => rfl) c15 ?_
      refine ab_Ex.blk (k := 3) (pc' := 111) (lv' := [(0, .ref 64), (1, .int y1), (3, .long ((h.2 80 (((7 * y1) + y1) : Int32).toNatClampNeg))), (5, .long ((h.2 81 (((7 * y1) + y1) : Int32).toNatClampNeg))), (7, .int 0)]) (st' := []) (sh' := ab_SH) (D' := ab_dD h) (fun n => rfl) ?_
      exact sX12_solves_L111 d X k2 hk2 ab_N y1 ((h.2 80 (((7 * y1) + y1) : Int32).toNatClampNeg)) ((h.2 81 (((7 * y1) + y1) : Int32).toNatClampNeg)) 0 h _ hf
    · replace hf := (if_neg c11).symm.trans hf
      refine ab_Ex.blk (k := 11) (pc' := 74) (lv' := [(0, .ref 64), (1, .int y1), (2, .int y2), (3, .int y3)]) (st' := [.int (((7 * y2) + y3)), .int (((7 * y1) + y3)), .ref 64]) (sh' := ab_SH) (D' := ab_dD h) (fun n => rfl) ?_
      obtain ⟨r36, hr36, hf⟩ := ab_bind_s hf
      refine ab_Ex.call (d := d + 102) (M2 := 281) (as := [.ref 64, .int (((7 * y1) + y3)), .int (((7 * y2) + y3))]) (rest := []) (fun n => rfl) rfl (Nat.not_lt.mpr (Nat.le_of_ble_eq_true rfl)) (sX12_swaps (d + 102) X (((7 * y1) + y3)) (((7 * y2) + y3)) h _ hr36) (fun r hr => ?_)
      subst hr
      show ab_Ex X (d + 103) 280 77 [(0, .ref 64), (1, .int y1), (2, .int y2), (3, .int y3)] [] ab_SH (ab_dD r36) _
      refine ab_Ex.blk (k := 2) (pc' := 55) (lv' := [(0, .ref 64), (1, .int y1), (2, .int y2), (3, .int ((y3 + 1)))]) (st' := []) (sh' := ab_SH) (D' := ab_dD r36) (fun n => rfl) ?_
      exact ih y1 y2 ((y3 + 1)) r36 _ hf
set_option maxRecDepth 20000 in
theorem sX12_solves_L22 (d : Nat) (X : abX) (k2 : Int32 → abJ → Option abJ) (hk2 : ∀ (y1 : Int32) (h : abJ) (z : abJ), k2 y1 h = some z → ab_Ex X (d + 103) 280 2 [(0, .ref 64), (1, .int y1)] [] ab_SH (ab_dD h) (fun r => r = (none, ab_SH, ab_dD z))) : ∀ (n : Nat), ∀ (y1 : Int32) (y2 : Int32) (h : abJ) (z : abJ), fX12_solves_L22 k2 n y1 y2 h = some z → ab_Ex X (d + 103) 280 22 [(0, .ref 64), (1, .int y1), (2, .int y2)] [] ab_SH (ab_dD h) (fun r => r = (none, ab_SH, ab_dD z)) := by
  intro n
  induction n with
  | zero => intro y1 y2 h z hf; cases hf
  | succ n ih =>
    intro y1 y2 h z hf
    rw [fX12_solves_L22] at hf
    refine ab_Ex.blk (k := 7) (pc' := 32) (lv' := [(0, .ref 64), (1, .int y1), (2, .int y2)]) (st' := [.int (((7 * y2) + y1)), .ref 80]) (sh' := ab_SH) (D' := ab_dD h) (fun n => rfl) ?_
    obtain ⟨c6, hf⟩ := ab_ask_s hf
    refine ab_Ex.grd (c := ((7 * y2) + y1) < 0 ∨ 42 ≤ (((7 * y2) + y1) : Int32).toNatClampNeg) (S := (33, [(0, .ref 64), (1, .int y1), (2, .int y2)], [.long ((h.2 80 (((7 * y2) + y1) : Int32).toNatClampNeg))], ab_dD h)) (fun n => rfl) c6 ?_
    refine ab_Ex.blk (k := 2) (pc' := 35) (lv' := [(0, .ref 64), (1, .int y1), (2, .int y2)]) (st' := [.int ((lg_cmp (h.2 80 (((7 * y2) + y1) : Int32).toNatClampNeg) 0))]) (sh' := ab_SH) (D' := ab_dD h) (fun n => rfl) ?_
    refine ab_Ex.ifc (c := (lg_cmp (h.2 80 (((7 * y2) + y1) : Int32).toNatClampNeg) 0) = 0) (SA := (47, [(0, .ref 64), (1, .int y1), (2, .int y2)], [], ab_dD h)) (SB := (38, [(0, .ref 64), (1, .int y1), (2, .int y2)], [], ab_dD h)) (fun n => rfl) (fun c7 => ?_) (fun c7 => ?_)
    · replace hf := (if_pos c7).symm.trans hf
      exact sX12_solves_J47 d X (fun y1 y2 h => fX12_solves_L22 k2 n y1 y2 h) (fun y1 y2 h z hz => ih y1 y2 h z hz) y1 y2 h _ hf
    · replace hf := (if_neg c7).symm.trans hf
      refine ab_Ex.blk (k := 3) (pc' := 43) (lv' := [(0, .ref 64), (1, .int y1), (2, .int y2)]) (st' := [.int y2, .ref 82]) (sh' := ab_SH) (D' := ab_dD h) (fun n => rfl) ?_
      obtain ⟨c9, hf⟩ := ab_ask_s hf
      refine ab_Ex.grd (c := y2 < 0 ∨ 6 ≤ (y2 : Int32).toNatClampNeg) (S := (44, [(0, .ref 64), (1, .int y1), (2, .int y2)], [.int ((h.1 82 (y2 : Int32).toNatClampNeg))], ab_dD h)) (fun n => rfl) c9 ?_
      refine ab_Ex.ifc (c := (h.1 82 (y2 : Int32).toNatClampNeg) = 0) (SA := (47, [(0, .ref 64), (1, .int y1), (2, .int y2)], [], ab_dD h)) (SB := (53, [(0, .ref 64), (1, .int y1), (2, .int y2)], [], ab_dD h)) (fun n => rfl) (fun c10 => ?_) (fun c10 => ?_)
      · replace hf := (if_pos c10).symm.trans hf
        exact sX12_solves_J47 d X (fun y1 y2 h => fX12_solves_L22 k2 n y1 y2 h) (fun y1 y2 h z hz => ih y1 y2 h z hz) y1 y2 h _ hf
      · replace hf := (if_neg c10).symm.trans hf
        refine ab_Ex.blk (k := 2) (pc' := 55) (lv' := [(0, .ref 64), (1, .int y1), (2, .int y2), (3, .int 0)]) (st' := []) (sh' := ab_SH) (D' := ab_dD h) (fun n => rfl) ?_
        exact sX12_solves_L55 d X k2 hk2 ab_N y1 y2 0 h _ hf
set_option maxRecDepth 20000 in
theorem sX12_solves_L2 (d : Nat) (X : abX)   : ∀ (n : Nat), ∀ (y1 : Int32) (h : abJ) (z : abJ), fX12_solves_L2 n y1 h = some z → ab_Ex X (d + 103) 280 2 [(0, .ref 64), (1, .int y1)] [] ab_SH (ab_dD h) (fun r => r = (none, ab_SH, ab_dD z)) := by
  intro n
  induction n with
  | zero => intro y1 h z hf; cases hf
  | succ n ih =>
    intro y1 h z hf
    rw [fX12_solves_L2] at hf
    refine ab_Ex.blk (k := 2) (pc' := 5) (lv' := [(0, .ref 64), (1, .int y1)]) (st' := [.int 6, .int y1]) (sh' := ab_SH) (D' := ab_dD h) (fun n => rfl) ?_
    refine ab_Ex.ifc (c := 6 ≤ y1) (SA := (288, [(0, .ref 64), (1, .int y1)], [], ab_dD h)) (SB := (8, [(0, .ref 64), (1, .int y1)], [], ab_dD h)) (fun n => rfl) (fun c1 => ?_) (fun c1 => ?_)
    · replace hf := (if_pos c1).symm.trans hf
      obtain rfl := Option.some.inj hf
      exact ab_Ex.ret (fun n => rfl) rfl
    · replace hf := (if_neg c1).symm.trans hf
      refine ab_Ex.blk (k := 3) (pc' := 13) (lv' := [(0, .ref 64), (1, .int y1)]) (st' := [.int y1, .ref 82]) (sh' := ab_SH) (D' := ab_dD h) (fun n => rfl) ?_
      obtain ⟨c3, hf⟩ := ab_ask_s hf
      refine ab_Ex.grd (c := y1 < 0 ∨ 6 ≤ (y1 : Int32).toNatClampNeg) (S := (14, [(0, .ref 64), (1, .int y1)], [.int ((h.1 82 (y1 : Int32).toNatClampNeg))], ab_dD h)) (fun n => rfl) c3 ?_
      refine ab_Ex.ifc (c := (h.1 82 (y1 : Int32).toNatClampNeg) = 0) (SA := (17, [(0, .ref 64), (1, .int y1)], [], ab_dD h)) (SB := (20, [(0, .ref 64), (1, .int y1)], [], ab_dD h)) (fun n => rfl) (fun c4 => ?_) (fun c4 => ?_)
      · replace hf := (if_pos c4).symm.trans hf
        refine ab_Ex.blk (k := 1) (pc' := 282) (lv' := [(0, .ref 64), (1, .int y1)]) (st' := []) (sh' := ab_SH) (D' := ab_dD h) (fun n => rfl) ?_
        exact sX12_solves_J282 d X (fun y1 h => fX12_solves_L2 n y1 h) (fun y1 h z hz => ih y1 h z hz) y1 h _ hf
      · replace hf := (if_neg c4).symm.trans hf
        refine ab_Ex.blk (k := 2) (pc' := 22) (lv' := [(0, .ref 64), (1, .int y1), (2, .int y1)]) (st' := []) (sh' := ab_SH) (D' := ab_dD h) (fun n => rfl) ?_
        exact sX12_solves_L22 d X (fun y1 h => fX12_solves_L2 n y1 h) (fun y1 h z hz => ih y1 h z hz) ab_N y1 y1 h _ hf
set_option maxRecDepth 20000 in
theorem sX12_solves (d : Nat) (X : abX)  (h : abJ) (z : abJ) (hf : fX12_solves  h = some z) : ab_Ex X (d + 103) 280 0 [(0, .ref 64)] [] ab_SH (ab_dD h) (fun r => r = (none, ab_SH, ab_dD z)) := by
  unfold fX12_solves at hf
  refine ab_Ex.blk (k := 2) (pc' := 2) (lv' := [(0, .ref 64), (1, .int 0)]) (st' := []) (sh' := ab_SH) (D' := ab_dD h) (fun n => rfl) ?_
  exact sX12_solves_L2 d X  ab_N 0 h _ hf
