def fX7_valueOf_J186  (k5 : Int32 → Int32 → Int32 → abJ → Option (Int32 × abJ)) (y2 : Int32) (y3 : Int32) (y4 : Int32) (h : abJ) : Option (Int32 × abJ) := k5 y2 y3 ((y4 + 1)) h
def fX7_valueOf_J157  (k5 : Int32 → Int32 → Int32 → abJ → Option (Int32 × abJ)) (y3 : Int32) (y2 : Int32) (y4 : Int32) (y5 : Int32) (h : abJ) : Option (Int32 × abJ) := ab_ask ((y3 - 1) < 0 ∨ 64 ≤ ((y3 - 1) : Int32).toNatClampNeg) (ab_ask (y3 < 0 ∨ 64 ≤ (y3 : Int32).toNatClampNeg) ((fX7_joined y5 (((h.1 15 ((y3 - 1) : Int32).toNatClampNeg) : Int32).toInt64) (((h.1 15 (y3 : Int32).toNatClampNeg) : Int32).toInt64) h).bind (fun r17 => ab_ask ((y3 - 1) < 0 ∨ 64 ≤ ((y3 - 1) : Int32).toNatClampNeg) (fX7_valueOf_J186 k5 y2 y3 y4 (ab_wI h 15 ((y3 - 1) : Int32).toNatClampNeg r17)))))
def fX7_valueOf_J149  (k5 : Int32 → Int32 → Int32 → abJ → Option (Int32 × abJ)) (y2 : Int32) (y3 : Int32) (y4 : Int32) (y5 : Int32) (h : abJ) : Option (Int32 × abJ) := if y3 < 2 then fX7_valueOf_J186 k5 y2 y3 y4 h else fX7_valueOf_J157 k5 ((y3 + Int32.ofInt (-1))) y2 y4 y5 h
def fX7_valueOf_J145  (k5 : Int32 → Int32 → Int32 → abJ → Option (Int32 × abJ)) (y2 : Int32) (y3 : Int32) (y4 : Int32) (t1 : Int32) (t2 : Int32) (h : abJ) : Option (Int32 × abJ) := ab_ask (t1 < 0 ∨ 64 ≤ (t1 : Int32).toNatClampNeg) (fX7_valueOf_J186 k5 y2 y3 y4 (ab_wI h 15 (t1 : Int32).toNatClampNeg t2))
def fX7_valueOf_J110  (k5 : Int32 → Int32 → Int32 → abJ → Option (Int32 × abJ)) (y3 : Int32) (y2 : Int32) (y4 : Int32) (y5 : Int32) (h : abJ) : Option (Int32 × abJ) := ab_ask ((y3 - 1) < 0 ∨ 64 ≤ ((y3 - 1) : Int32).toNatClampNeg) (if (h.1 15 ((y3 - 1) : Int32).toNatClampNeg) = 0 then ab_ask ((y3 + 1) < 0 ∨ 64 ≤ ((y3 + 1) : Int32).toNatClampNeg) (fX7_valueOf_J145 k5 y2 y3 y4 ((y3 - 1)) ((h.1 15 ((y3 + 1) : Int32).toNatClampNeg)) h) else ab_ask (y3 < 0 ∨ 64 ≤ (y3 : Int32).toNatClampNeg) (fX7_valueOf_J145 k5 y2 y3 y4 ((y3 - 1)) ((h.1 15 (y3 : Int32).toNatClampNeg)) h))
def fX7_valueOf_J95  (k5 : Int32 → Int32 → Int32 → abJ → Option (Int32 × abJ)) (y2 : Int32) (y3 : Int32) (y4 : Int32) (y5 : Int32) (h : abJ) : Option (Int32 × abJ) := if y5 = (-14) then if y3 < 3 then fX7_valueOf_J149 k5 y2 y3 y4 y5 h else fX7_valueOf_J110 k5 ((y3 + Int32.ofInt (-2))) y2 y4 y5 h else fX7_valueOf_J149 k5 y2 y3 y4 y5 h
def fX7_valueOf_J62  (k5 : Int32 → Int32 → Int32 → abJ → Option (Int32 × abJ)) (y2 : Int32) (y3 : Int32) (y4 : Int32) (y5 : Int32) (h : abJ) : Option (Int32 × abJ) := if y5 = (-13) then if y3 < 1 then fX7_valueOf_J95 k5 y2 y3 y4 y5 h else ab_ask ((y3 - 1) < 0 ∨ 64 ≤ ((y3 - 1) : Int32).toNatClampNeg) (ab_ask ((y3 - 1) < 0 ∨ 64 ≤ ((y3 - 1) : Int32).toNatClampNeg) (fX7_valueOf_J186 k5 y2 y3 y4 (ab_wI h 15 ((y3 - 1) : Int32).toNatClampNeg (1 - (h.1 15 ((y3 - 1) : Int32).toNatClampNeg))))) else fX7_valueOf_J95 k5 y2 y3 y4 y5 h
def fX7_valueOf_L5   : Nat → Int32 → Int32 → Int32 → abJ → Option (Int32 × abJ)
  | 0, _, _, _, _ => none
  | n + 1, y2, y3, y4, h => if y2 ≤ y4 then if y3 ≤ 0 then some (0, h) else some ((h.1 15 0), h) else if 900 ≤ y4 then if y3 ≤ 0 then some (0, h) else some ((h.1 15 0), h) else ab_ask (y4 < 0 ∨ 900 ≤ (y4 : Int32).toNatClampNeg) (if (h.1 4 (y4 : Int32).toNatClampNeg) ≤ (-5) then fX7_valueOf_J62 (fun y2 y3 y4 h => fX7_valueOf_L5 n y2 y3 y4 h) y2 y3 y4 ((h.1 4 (y4 : Int32).toNatClampNeg)) h else if 64 ≤ y3 then fX7_valueOf_J62 (fun y2 y3 y4 h => fX7_valueOf_L5 n y2 y3 y4 h) y2 y3 y4 ((h.1 4 (y4 : Int32).toNatClampNeg)) h else (fX7_leafValue ((h.1 4 (y4 : Int32).toNatClampNeg)) h).bind (fun r31 => ab_ask (y3 < 0 ∨ 64 ≤ (y3 : Int32).toNatClampNeg) (fX7_valueOf_J186 (fun y2 y3 y4 h => fX7_valueOf_L5 n y2 y3 y4 h) y2 ((y3 + 1)) y4 (ab_wI h 15 (y3 : Int32).toNatClampNeg r31))))
def fX7_valueOf (x0 : Int32) (x1 : Int32) (h : abJ) : Option (Int32 × abJ) := fX7_valueOf_L5 ab_N x1 0 x0 h
set_option maxRecDepth 20000 in
theorem sX7_valueOf_J186 (d : Nat) (X : abX) (k5 : Int32 → Int32 → Int32 → abJ → Option (Int32 × abJ)) (hk5 : ∀ (y2 : Int32) (y3 : Int32) (y4 : Int32) (h : abJ) (z : (Int32 × abJ)), k5 y2 y3 y4 h = some z → ab_Ex X (d + 1) 101 5 [(0, .ref 13), (2, .int y2), (3, .int y3), (4, .int y4)] [] ab_SH (ab_dD h) (fun r => r = (some (.int z.1), ab_SH, ab_dD z.2))) : ∀ (y2 : Int32) (y3 : Int32) (y4 : Int32) (h : abJ) (z : (Int32 × abJ)), fX7_valueOf_J186 k5 y2 y3 y4 h = some z → ab_Ex X (d + 1) 101 186 [(0, .ref 13), (2, .int y2), (3, .int y3), (4, .int y4)] [] ab_SH (ab_dD h) (fun r => r = (some (.int z.1), ab_SH, ab_dD z.2)) := by
  intro y2 y3 y4 h z hf
  unfold fX7_valueOf_J186 at hf
  refine ab_Ex.blk (k := 2) (pc' := 5) (lv' := [(0, .ref 13), (2, .int y2), (3, .int y3), (4, .int ((y4 + 1)))]) (st' := []) (sh' := ab_SH) (D' := ab_dD h) (fun n => rfl) ?_
  exact hk5 y2 y3 ((y4 + 1)) h _ hf
set_option maxRecDepth 20000 in
theorem sX7_valueOf_J157 (d : Nat) (X : abX) (k5 : Int32 → Int32 → Int32 → abJ → Option (Int32 × abJ)) (hk5 : ∀ (y2 : Int32) (y3 : Int32) (y4 : Int32) (h : abJ) (z : (Int32 × abJ)), k5 y2 y3 y4 h = some z → ab_Ex X (d + 1) 101 5 [(0, .ref 13), (2, .int y2), (3, .int y3), (4, .int y4)] [] ab_SH (ab_dD h) (fun r => r = (some (.int z.1), ab_SH, ab_dD z.2))) : ∀ (y3 : Int32) (y2 : Int32) (y4 : Int32) (y5 : Int32) (h : abJ) (z : (Int32 × abJ)), fX7_valueOf_J157 k5 y3 y2 y4 y5 h = some z → ab_Ex X (d + 1) 101 157 [(3, .int y3), (0, .ref 13), (2, .int y2), (4, .int y4), (5, .int y5)] [] ab_SH (ab_dD h) (fun r => r = (some (.int z.1), ab_SH, ab_dD z.2)) := by
  intro y3 y2 y4 y5 h z hf
  unfold fX7_valueOf_J157 at hf
  refine ab_Ex.blk (k := 11) (pc' := 173) (lv' := [(3, .int y3), (0, .ref 13), (2, .int y2), (4, .int y4), (5, .int y5)]) (st' := [.int ((y3 - 1)), .ref 15, .int y5, .int ((y3 - 1)), .ref 15]) (sh' := ab_SH) (D' := ab_dD h) (fun n => rfl) ?_
  obtain ⟨c14, hf⟩ := ab_ask_s hf
  refine ab_Ex.grd (c := (y3 - 1) < 0 ∨ 64 ≤ ((y3 - 1) : Int32).toNatClampNeg) (S := (174, [(3, .int y3), (0, .ref 13), (2, .int y2), (4, .int y4), (5, .int y5)], [.int ((h.1 15 ((y3 - 1) : Int32).toNatClampNeg)), .int y5, .int ((y3 - 1)), .ref 15], ab_dD h)) (fun n => rfl) c14 ?_
  refine ab_Ex.blk (k := 4) (pc' := 180) (lv' := [(3, .int y3), (0, .ref 13), (2, .int y2), (4, .int y4), (5, .int y5)]) (st' := [.int y3, .ref 15, .long (((h.1 15 ((y3 - 1) : Int32).toNatClampNeg) : Int32).toInt64), .int y5, .int ((y3 - 1)), .ref 15]) (sh' := ab_SH) (D' := ab_dD h) (fun n => rfl) ?_
  obtain ⟨c16, hf⟩ := ab_ask_s hf
  refine ab_Ex.grd (c := y3 < 0 ∨ 64 ≤ (y3 : Int32).toNatClampNeg) (S := (181, [(3, .int y3), (0, .ref 13), (2, .int y2), (4, .int y4), (5, .int y5)], [.int ((h.1 15 (y3 : Int32).toNatClampNeg)), .long (((h.1 15 ((y3 - 1) : Int32).toNatClampNeg) : Int32).toInt64), .int y5, .int ((y3 - 1)), .ref 15], ab_dD h)) (fun n => rfl) c16 ?_
  refine ab_Ex.blk (k := 1) (pc' := 182) (lv' := [(3, .int y3), (0, .ref 13), (2, .int y2), (4, .int y4), (5, .int y5)]) (st' := [.long (((h.1 15 (y3 : Int32).toNatClampNeg) : Int32).toInt64), .long (((h.1 15 ((y3 - 1) : Int32).toNatClampNeg) : Int32).toInt64), .int y5, .int ((y3 - 1)), .ref 15]) (sh' := ab_SH) (D' := ab_dD h) (fun n => rfl) ?_
  obtain ⟨r17, hr17, hf⟩ := ab_bind_s hf
  refine ab_Ex.call (d := d + 0) (M2 := 103) (as := [.int y5, .long (((h.1 15 ((y3 - 1) : Int32).toNatClampNeg) : Int32).toInt64), .long (((h.1 15 (y3 : Int32).toNatClampNeg) : Int32).toInt64)]) (rest := [.int ((y3 - 1)), .ref 15]) (fun n => rfl) rfl (Nat.not_lt.mpr (Nat.le_of_ble_eq_true rfl)) (sX7_joined (d) X y5 (((h.1 15 ((y3 - 1) : Int32).toNatClampNeg) : Int32).toInt64) (((h.1 15 (y3 : Int32).toNatClampNeg) : Int32).toInt64) h _ hr17) (fun r hr => ?_)
  subst hr
  show ab_Ex X (d + 1) 101 185 [(3, .int y3), (0, .ref 13), (2, .int y2), (4, .int y4), (5, .int y5)] [.int r17, .int ((y3 - 1)), .ref 15] ab_SH (ab_dD h) _
  obtain ⟨c18, hf⟩ := ab_ask_s hf
  refine ab_Ex.grd (c := (y3 - 1) < 0 ∨ 64 ≤ ((y3 - 1) : Int32).toNatClampNeg) (S := (186, [(3, .int y3), (0, .ref 13), (2, .int y2), (4, .int y4), (5, .int y5)], [], ab_dD (ab_wI h 15 ((y3 - 1) : Int32).toNatClampNeg r17))) (fun n => rfl) c18 ?_
  exact sX7_valueOf_J186 d X k5 hk5 y2 y3 y4 (ab_wI h 15 ((y3 - 1) : Int32).toNatClampNeg r17) _ hf
set_option maxRecDepth 20000 in
theorem sX7_valueOf_J149 (d : Nat) (X : abX) (k5 : Int32 → Int32 → Int32 → abJ → Option (Int32 × abJ)) (hk5 : ∀ (y2 : Int32) (y3 : Int32) (y4 : Int32) (h : abJ) (z : (Int32 × abJ)), k5 y2 y3 y4 h = some z → ab_Ex X (d + 1) 101 5 [(0, .ref 13), (2, .int y2), (3, .int y3), (4, .int y4)] [] ab_SH (ab_dD h) (fun r => r = (some (.int z.1), ab_SH, ab_dD z.2))) : ∀ (y2 : Int32) (y3 : Int32) (y4 : Int32) (y5 : Int32) (h : abJ) (z : (Int32 × abJ)), fX7_valueOf_J149 k5 y2 y3 y4 y5 h = some z → ab_Ex X (d + 1) 101 149 [(0, .ref 13), (2, .int y2), (3, .int y3), (4, .int y4), (5, .int y5)] [] ab_SH (ab_dD h) (fun r => r = (some (.int z.1), ab_SH, ab_dD z.2)) := by
  intro y2 y3 y4 y5 h z hf
  unfold fX7_valueOf_J149 at hf
  refine ab_Ex.blk (k := 2) (pc' := 151) (lv' := [(0, .ref 13), (2, .int y2), (3, .int y3), (4, .int y4), (5, .int y5)]) (st' := [.int 2, .int y3]) (sh' := ab_SH) (D' := ab_dD h) (fun n => rfl) ?_
  refine ab_Ex.ifc (c := y3 < 2) (SA := (186, [(0, .ref 13), (2, .int y2), (3, .int y3), (4, .int y4), (5, .int y5)], [], ab_dD h)) (SB := (154, [(0, .ref 13), (2, .int y2), (3, .int y3), (4, .int y4), (5, .int y5)], [], ab_dD h)) (fun n => rfl) (fun c12 => ?_) (fun c12 => ?_)
  · replace hf := (if_pos c12).symm.trans hf
    exact sX7_valueOf_J186 d X k5 hk5 y2 y3 y4 h _ hf
  · replace hf := (if_neg c12).symm.trans hf
    refine ab_Ex.blk (k := 1) (pc' := 157) (lv' := [(3, .int ((y3 + Int32.ofInt (-1)))), (0, .ref 13), (2, .int y2), (4, .int y4), (5, .int y5)]) (st' := []) (sh' := ab_SH) (D' := ab_dD h) (fun n => rfl) ?_
    exact sX7_valueOf_J157 d X k5 hk5 ((y3 + Int32.ofInt (-1))) y2 y4 y5 h _ hf
set_option maxRecDepth 20000 in
theorem sX7_valueOf_J145 (d : Nat) (X : abX) (k5 : Int32 → Int32 → Int32 → abJ → Option (Int32 × abJ)) (hk5 : ∀ (y2 : Int32) (y3 : Int32) (y4 : Int32) (h : abJ) (z : (Int32 × abJ)), k5 y2 y3 y4 h = some z → ab_Ex X (d + 1) 101 5 [(0, .ref 13), (2, .int y2), (3, .int y3), (4, .int y4)] [] ab_SH (ab_dD h) (fun r => r = (some (.int z.1), ab_SH, ab_dD z.2))) : ∀ (y2 : Int32) (y3 : Int32) (y4 : Int32) (t1 : Int32) (t2 : Int32) (h : abJ) (z : (Int32 × abJ)), fX7_valueOf_J145 k5 y2 y3 y4 t1 t2 h = some z → ab_Ex X (d + 1) 101 145 [(0, .ref 13), (2, .int y2), (3, .int y3), (4, .int y4)] [.int t2, .int t1, .ref 15] ab_SH (ab_dD h) (fun r => r = (some (.int z.1), ab_SH, ab_dD z.2)) := by
  intro y2 y3 y4 t1 t2 h z hf
  unfold fX7_valueOf_J145 at hf
  obtain ⟨c24, hf⟩ := ab_ask_s hf
  refine ab_Ex.grd (c := t1 < 0 ∨ 64 ≤ (t1 : Int32).toNatClampNeg) (S := (146, [(0, .ref 13), (2, .int y2), (3, .int y3), (4, .int y4)], [], ab_dD (ab_wI h 15 (t1 : Int32).toNatClampNeg t2))) (fun n => rfl) c24 ?_
  refine ab_Ex.blk (k := 1) (pc' := 186) (lv' := [(0, .ref 13), (2, .int y2), (3, .int y3), (4, .int y4)]) (st' := []) (sh' := ab_SH) (D' := ab_dD (ab_wI h 15 (t1 : Int32).toNatClampNeg t2)) (fun n => rfl) ?_
  exact sX7_valueOf_J186 d X k5 hk5 y2 y3 y4 (ab_wI h 15 (t1 : Int32).toNatClampNeg t2) _ hf
set_option maxRecDepth 20000 in
theorem sX7_valueOf_J110 (d : Nat) (X : abX) (k5 : Int32 → Int32 → Int32 → abJ → Option (Int32 × abJ)) (hk5 : ∀ (y2 : Int32) (y3 : Int32) (y4 : Int32) (h : abJ) (z : (Int32 × abJ)), k5 y2 y3 y4 h = some z → ab_Ex X (d + 1) 101 5 [(0, .ref 13), (2, .int y2), (3, .int y3), (4, .int y4)] [] ab_SH (ab_dD h) (fun r => r = (some (.int z.1), ab_SH, ab_dD z.2))) : ∀ (y3 : Int32) (y2 : Int32) (y4 : Int32) (y5 : Int32) (h : abJ) (z : (Int32 × abJ)), fX7_valueOf_J110 k5 y3 y2 y4 y5 h = some z → ab_Ex X (d + 1) 101 110 [(3, .int y3), (0, .ref 13), (2, .int y2), (4, .int y4), (5, .int y5)] [] ab_SH (ab_dD h) (fun r => r = (some (.int z.1), ab_SH, ab_dD z.2)) := by
  intro y3 y2 y4 y5 h z hf
  unfold fX7_valueOf_J110 at hf
  refine ab_Ex.blk (k := 10) (pc' := 124) (lv' := [(3, .int y3), (0, .ref 13), (2, .int y2), (4, .int y4), (5, .int y5)]) (st' := [.int ((y3 - 1)), .ref 15, .int ((y3 - 1)), .ref 15]) (sh' := ab_SH) (D' := ab_dD h) (fun n => rfl) ?_
  obtain ⟨c20, hf⟩ := ab_ask_s hf
  refine ab_Ex.grd (c := (y3 - 1) < 0 ∨ 64 ≤ ((y3 - 1) : Int32).toNatClampNeg) (S := (125, [(3, .int y3), (0, .ref 13), (2, .int y2), (4, .int y4), (5, .int y5)], [.int ((h.1 15 ((y3 - 1) : Int32).toNatClampNeg)), .int ((y3 - 1)), .ref 15], ab_dD h)) (fun n => rfl) c20 ?_
  refine ab_Ex.ifc (c := (h.1 15 ((y3 - 1) : Int32).toNatClampNeg) = 0) (SA := (137, [(3, .int y3), (0, .ref 13), (2, .int y2), (4, .int y4), (5, .int y5)], [.int ((y3 - 1)), .ref 15], ab_dD h)) (SB := (128, [(3, .int y3), (0, .ref 13), (2, .int y2), (4, .int y4), (5, .int y5)], [.int ((y3 - 1)), .ref 15], ab_dD h)) (fun n => rfl) (fun c21 => ?_) (fun c21 => ?_)
  · replace hf := (if_pos c21).symm.trans hf
    refine ab_Ex.blk (k := 5) (pc' := 144) (lv' := [(3, .int y3), (0, .ref 13), (2, .int y2), (4, .int y4), (5, .int y5)]) (st' := [.int ((y3 + 1)), .ref 15, .int ((y3 - 1)), .ref 15]) (sh' := ab_SH) (D' := ab_dD h) (fun n => rfl) ?_
    obtain ⟨c23, hf⟩ := ab_ask_s hf
    refine ab_Ex.grd (c := (y3 + 1) < 0 ∨ 64 ≤ ((y3 + 1) : Int32).toNatClampNeg) (S := (145, [(3, .int y3), (0, .ref 13), (2, .int y2), (4, .int y4), (5, .int y5)], [.int ((h.1 15 ((y3 + 1) : Int32).toNatClampNeg)), .int ((y3 - 1)), .ref 15], ab_dD h)) (fun n => rfl) c23 ?_
    exact sX7_valueOf_J145 d X k5 hk5 y2 y3 y4 ((y3 - 1)) ((h.1 15 ((y3 + 1) : Int32).toNatClampNeg)) h _ hf
  · replace hf := (if_neg c21).symm.trans hf
    refine ab_Ex.blk (k := 3) (pc' := 133) (lv' := [(3, .int y3), (0, .ref 13), (2, .int y2), (4, .int y4), (5, .int y5)]) (st' := [.int y3, .ref 15, .int ((y3 - 1)), .ref 15]) (sh' := ab_SH) (D' := ab_dD h) (fun n => rfl) ?_
    obtain ⟨c26, hf⟩ := ab_ask_s hf
    refine ab_Ex.grd (c := y3 < 0 ∨ 64 ≤ (y3 : Int32).toNatClampNeg) (S := (134, [(3, .int y3), (0, .ref 13), (2, .int y2), (4, .int y4), (5, .int y5)], [.int ((h.1 15 (y3 : Int32).toNatClampNeg)), .int ((y3 - 1)), .ref 15], ab_dD h)) (fun n => rfl) c26 ?_
    refine ab_Ex.blk (k := 1) (pc' := 145) (lv' := [(0, .ref 13), (2, .int y2), (3, .int y3), (4, .int y4)]) (st' := [.int ((h.1 15 (y3 : Int32).toNatClampNeg)), .int ((y3 - 1)), .ref 15]) (sh' := ab_SH) (D' := ab_dD h) (fun n => rfl) ?_
    exact sX7_valueOf_J145 d X k5 hk5 y2 y3 y4 ((y3 - 1)) ((h.1 15 (y3 : Int32).toNatClampNeg)) h _ hf
set_option maxRecDepth 20000 in
theorem sX7_valueOf_J95 (d : Nat) (X : abX) (k5 : Int32 → Int32 → Int32 → abJ → Option (Int32 × abJ)) (hk5 : ∀ (y2 : Int32) (y3 : Int32) (y4 : Int32) (h : abJ) (z : (Int32 × abJ)), k5 y2 y3 y4 h = some z → ab_Ex X (d + 1) 101 5 [(0, .ref 13), (2, .int y2), (3, .int y3), (4, .int y4)] [] ab_SH (ab_dD h) (fun r => r = (some (.int z.1), ab_SH, ab_dD z.2))) : ∀ (y2 : Int32) (y3 : Int32) (y4 : Int32) (y5 : Int32) (h : abJ) (z : (Int32 × abJ)), fX7_valueOf_J95 k5 y2 y3 y4 y5 h = some z → ab_Ex X (d + 1) 101 95 [(0, .ref 13), (2, .int y2), (3, .int y3), (4, .int y4), (5, .int y5)] [] ab_SH (ab_dD h) (fun r => r = (some (.int z.1), ab_SH, ab_dD z.2)) := by
  intro y2 y3 y4 y5 h z hf
  unfold fX7_valueOf_J95 at hf
  refine ab_Ex.blk (k := 2) (pc' := 99) (lv' := [(0, .ref 13), (2, .int y2), (3, .int y3), (4, .int y4), (5, .int y5)]) (st' := [.int ((-14)), .int y5]) (sh' := ab_SH) (D' := ab_dD h) (fun n => rfl) ?_
  refine ab_Ex.ifc (c := y5 = (-14)) (SA := (102, [(0, .ref 13), (2, .int y2), (3, .int y3), (4, .int y4), (5, .int y5)], [], ab_dD h)) (SB := (149, [(0, .ref 13), (2, .int y2), (3, .int y3), (4, .int y4), (5, .int y5)], [], ab_dD h)) (fun n => rfl) (fun c10 => ?_) (fun c10 => ?_)
  · replace hf := (if_pos c10).symm.trans hf
    refine ab_Ex.blk (k := 2) (pc' := 104) (lv' := [(0, .ref 13), (2, .int y2), (3, .int y3), (4, .int y4), (5, .int y5)]) (st' := [.int 3, .int y3]) (sh' := ab_SH) (D' := ab_dD h) (fun n => rfl) ?_
    refine ab_Ex.ifc (c := y3 < 3) (SA := (149, [(0, .ref 13), (2, .int y2), (3, .int y3), (4, .int y4), (5, .int y5)], [], ab_dD h)) (SB := (107, [(0, .ref 13), (2, .int y2), (3, .int y3), (4, .int y4), (5, .int y5)], [], ab_dD h)) (fun n => rfl) (fun c11 => ?_) (fun c11 => ?_)
    · replace hf := (if_pos c11).symm.trans hf
      exact sX7_valueOf_J149 d X k5 hk5 y2 y3 y4 y5 h _ hf
    · replace hf := (if_neg c11).symm.trans hf
      refine ab_Ex.blk (k := 1) (pc' := 110) (lv' := [(3, .int ((y3 + Int32.ofInt (-2)))), (0, .ref 13), (2, .int y2), (4, .int y4), (5, .int y5)]) (st' := []) (sh' := ab_SH) (D' := ab_dD h) (fun n => rfl) ?_
      exact sX7_valueOf_J110 d X k5 hk5 ((y3 + Int32.ofInt (-2))) y2 y4 y5 h _ hf
  · replace hf := (if_neg c10).symm.trans hf
    exact sX7_valueOf_J149 d X k5 hk5 y2 y3 y4 y5 h _ hf
set_option maxRecDepth 20000 in
theorem sX7_valueOf_J62 (d : Nat) (X : abX) (k5 : Int32 → Int32 → Int32 → abJ → Option (Int32 × abJ)) (hk5 : ∀ (y2 : Int32) (y3 : Int32) (y4 : Int32) (h : abJ) (z : (Int32 × abJ)), k5 y2 y3 y4 h = some z → ab_Ex X (d + 1) 101 5 [(0, .ref 13), (2, .int y2), (3, .int y3), (4, .int y4)] [] ab_SH (ab_dD h) (fun r => r = (some (.int z.1), ab_SH, ab_dD z.2))) : ∀ (y2 : Int32) (y3 : Int32) (y4 : Int32) (y5 : Int32) (h : abJ) (z : (Int32 × abJ)), fX7_valueOf_J62 k5 y2 y3 y4 y5 h = some z → ab_Ex X (d + 1) 101 62 [(0, .ref 13), (2, .int y2), (3, .int y3), (4, .int y4), (5, .int y5)] [] ab_SH (ab_dD h) (fun r => r = (some (.int z.1), ab_SH, ab_dD z.2)) := by
  intro y2 y3 y4 y5 h z hf
  unfold fX7_valueOf_J62 at hf
  refine ab_Ex.blk (k := 2) (pc' := 66) (lv' := [(0, .ref 13), (2, .int y2), (3, .int y3), (4, .int y4), (5, .int y5)]) (st' := [.int ((-13)), .int y5]) (sh' := ab_SH) (D' := ab_dD h) (fun n => rfl) ?_
  refine ab_Ex.ifc (c := y5 = (-13)) (SA := (69, [(0, .ref 13), (2, .int y2), (3, .int y3), (4, .int y4), (5, .int y5)], [], ab_dD h)) (SB := (95, [(0, .ref 13), (2, .int y2), (3, .int y3), (4, .int y4), (5, .int y5)], [], ab_dD h)) (fun n => rfl) (fun c8 => ?_) (fun c8 => ?_)
  · replace hf := (if_pos c8).symm.trans hf
    refine ab_Ex.blk (k := 2) (pc' := 71) (lv' := [(0, .ref 13), (2, .int y2), (3, .int y3), (4, .int y4), (5, .int y5)]) (st' := [.int 1, .int y3]) (sh' := ab_SH) (D' := ab_dD h) (fun n => rfl) ?_
    refine ab_Ex.ifc (c := y3 < 1) (SA := (95, [(0, .ref 13), (2, .int y2), (3, .int y3), (4, .int y4), (5, .int y5)], [], ab_dD h)) (SB := (74, [(0, .ref 13), (2, .int y2), (3, .int y3), (4, .int y4), (5, .int y5)], [], ab_dD h)) (fun n => rfl) (fun c9 => ?_) (fun c9 => ?_)
    · replace hf := (if_pos c9).symm.trans hf
      exact sX7_valueOf_J95 d X k5 hk5 y2 y3 y4 y5 h _ hf
    · replace hf := (if_neg c9).symm.trans hf
      refine ab_Ex.blk (k := 11) (pc' := 89) (lv' := [(0, .ref 13), (2, .int y2), (3, .int y3), (4, .int y4), (5, .int y5)]) (st' := [.int ((y3 - 1)), .ref 15, .int 1, .int ((y3 - 1)), .ref 15]) (sh' := ab_SH) (D' := ab_dD h) (fun n => rfl) ?_
      obtain ⟨c28, hf⟩ := ab_ask_s hf
      refine ab_Ex.grd (c := (y3 - 1) < 0 ∨ 64 ≤ ((y3 - 1) : Int32).toNatClampNeg) (S := (90, [(0, .ref 13), (2, .int y2), (3, .int y3), (4, .int y4), (5, .int y5)], [.int ((h.1 15 ((y3 - 1) : Int32).toNatClampNeg)), .int 1, .int ((y3 - 1)), .ref 15], ab_dD h)) (fun n => rfl) c28 ?_
      refine ab_Ex.blk (k := 1) (pc' := 91) (lv' := [(0, .ref 13), (2, .int y2), (3, .int y3), (4, .int y4), (5, .int y5)]) (st' := [.int ((1 - (h.1 15 ((y3 - 1) : Int32).toNatClampNeg))), .int ((y3 - 1)), .ref 15]) (sh' := ab_SH) (D' := ab_dD h) (fun n => rfl) ?_
      obtain ⟨c29, hf⟩ := ab_ask_s hf
      refine ab_Ex.grd (c := (y3 - 1) < 0 ∨ 64 ≤ ((y3 - 1) : Int32).toNatClampNeg) (S := (92, [(0, .ref 13), (2, .int y2), (3, .int y3), (4, .int y4), (5, .int y5)], [], ab_dD (ab_wI h 15 ((y3 - 1) : Int32).toNatClampNeg (1 - (h.1 15 ((y3 - 1) : Int32).toNatClampNeg))))) (fun n => rfl) c29 ?_
      refine ab_Ex.blk (k := 1) (pc' := 186) (lv' := [(0, .ref 13), (2, .int y2), (3, .int y3), (4, .int y4)]) (st' := []) (sh' := ab_SH) (D' := ab_dD (ab_wI h 15 ((y3 - 1) : Int32).toNatClampNeg (1 - (h.1 15 ((y3 - 1) : Int32).toNatClampNeg)))) (fun n => rfl) ?_
      exact sX7_valueOf_J186 d X k5 hk5 y2 y3 y4 (ab_wI h 15 ((y3 - 1) : Int32).toNatClampNeg (1 - (h.1 15 ((y3 - 1) : Int32).toNatClampNeg))) _ hf
  · replace hf := (if_neg c8).symm.trans hf
    exact sX7_valueOf_J95 d X k5 hk5 y2 y3 y4 y5 h _ hf
set_option maxRecDepth 20000 in
theorem sX7_valueOf_L5 (d : Nat) (X : abX)   : ∀ (n : Nat), ∀ (y2 : Int32) (y3 : Int32) (y4 : Int32) (h : abJ) (z : (Int32 × abJ)), fX7_valueOf_L5 n y2 y3 y4 h = some z → ab_Ex X (d + 1) 101 5 [(0, .ref 13), (2, .int y2), (3, .int y3), (4, .int y4)] [] ab_SH (ab_dD h) (fun r => r = (some (.int z.1), ab_SH, ab_dD z.2)) := by
  intro n
  induction n with
  | zero => intro y2 y3 y4 h z hf; cases hf
  | succ n ih =>
    intro y2 y3 y4 h z hf
    rw [fX7_valueOf_L5] at hf
    refine ab_Ex.blk (k := 2) (pc' := 8) (lv' := [(0, .ref 13), (2, .int y2), (3, .int y3), (4, .int y4)]) (st' := [.int y2, .int y4]) (sh' := ab_SH) (D' := ab_dD h) (fun n => rfl) ?_
    refine ab_Ex.ifc (c := y2 ≤ y4) (SA := (192, [(0, .ref 13), (2, .int y2), (3, .int y3), (4, .int y4)], [], ab_dD h)) (SB := (11, [(0, .ref 13), (2, .int y2), (3, .int y3), (4, .int y4)], [], ab_dD h)) (fun n => rfl) (fun c1 => ?_) (fun c1 => ?_)
    · replace hf := (if_pos c1).symm.trans hf
      refine ab_Ex.blk (k := 1) (pc' := 193) (lv' := [(0, .ref 13), (3, .int y3)]) (st' := [.int y3]) (sh' := ab_SH) (D' := ab_dD h) (fun n => rfl) ?_
      refine ab_Ex.ifc (c := y3 ≤ 0) (SA := (205, [(0, .ref 13), (3, .int y3)], [], ab_dD h)) (SB := (196, [(0, .ref 13), (3, .int y3)], [], ab_dD h)) (fun n => rfl) (fun c2 => ?_) (fun c2 => ?_)
      · replace hf := (if_pos c2).symm.trans hf
        refine ab_Ex.blk (k := 1) (pc' := 206) (lv' := []) (st' := [.int 0]) (sh' := ab_SH) (D' := ab_dD h) (fun n => rfl) ?_
        obtain rfl := Option.some.inj hf
        exact ab_Ex.ret (fun n => rfl) rfl
      · replace hf := (if_neg c2).symm.trans hf
        refine ab_Ex.blk (k := 3) (pc' := 201) (lv' := [(0, .ref 13), (3, .int y3)]) (st' := [.int 0, .ref 15]) (sh' := ab_SH) (D' := ab_dD h) (fun n => rfl) ?_
        refine ab_Ex.blk (k := 1) (pc' := 202) (lv' := [(0, .ref 13), (3, .int y3)]) (st' := [.int ((h.1 15 0))]) (sh' := ab_SH) (D' := ab_dD h) (fun n => rfl) ?_
        refine ab_Ex.blk (k := 1) (pc' := 206) (lv' := []) (st' := [.int ((h.1 15 0))]) (sh' := ab_SH) (D' := ab_dD h) (fun n => rfl) ?_
        obtain rfl := Option.some.inj hf
        exact ab_Ex.ret (fun n => rfl) rfl
    · replace hf := (if_neg c1).symm.trans hf
      refine ab_Ex.blk (k := 2) (pc' := 16) (lv' := [(0, .ref 13), (2, .int y2), (3, .int y3), (4, .int y4)]) (st' := [.int 900, .int y4]) (sh' := ab_SH) (D' := ab_dD h) (fun n => rfl) ?_
      refine ab_Ex.ifc (c := 900 ≤ y4) (SA := (192, [(0, .ref 13), (2, .int y2), (3, .int y3), (4, .int y4)], [], ab_dD h)) (SB := (19, [(0, .ref 13), (2, .int y2), (3, .int y3), (4, .int y4)], [], ab_dD h)) (fun n => rfl) (fun c3 => ?_) (fun c3 => ?_)
      · replace hf := (if_pos c3).symm.trans hf
        refine ab_Ex.blk (k := 1) (pc' := 193) (lv' := [(0, .ref 13), (3, .int y3)]) (st' := [.int y3]) (sh' := ab_SH) (D' := ab_dD h) (fun n => rfl) ?_
        refine ab_Ex.ifc (c := y3 ≤ 0) (SA := (205, [(0, .ref 13), (3, .int y3)], [], ab_dD h)) (SB := (196, [(0, .ref 13), (3, .int y3)], [], ab_dD h)) (fun n => rfl) (fun c4 => ?_) (fun c4 => ?_)
        · replace hf := (if_pos c4).symm.trans hf
          refine ab_Ex.blk (k := 1) (pc' := 206) (lv' := []) (st' := [.int 0]) (sh' := ab_SH) (D' := ab_dD h) (fun n => rfl) ?_
          obtain rfl := Option.some.inj hf
          exact ab_Ex.ret (fun n => rfl) rfl
        · replace hf := (if_neg c4).symm.trans hf
          refine ab_Ex.blk (k := 3) (pc' := 201) (lv' := [(0, .ref 13), (3, .int y3)]) (st' := [.int 0, .ref 15]) (sh' := ab_SH) (D' := ab_dD h) (fun n => rfl) ?_
          refine ab_Ex.blk (k := 1) (pc' := 202) (lv' := [(0, .ref 13), (3, .int y3)]) (st' := [.int ((h.1 15 0))]) (sh' := ab_SH) (D' := ab_dD h) (fun n => rfl) ?_
          refine ab_Ex.blk (k := 1) (pc' := 206) (lv' := []) (st' := [.int ((h.1 15 0))]) (sh' := ab_SH) (D' := ab_dD h) (fun n => rfl) ?_
          obtain rfl := Option.some.inj hf
          exact ab_Ex.ret (fun n => rfl) rfl
      · replace hf := (if_neg c3).symm.trans hf
        refine ab_Ex.blk (k := 4) (pc' := 28) (lv' := [(0, .ref 13), (2, .int y2), (3, .int y3), (4, .int y4)]) (st' := [.int y4, .ref 4]) (sh' := ab_SH) (D' := ab_dD h) (fun n => rfl) ?_
        obtain ⟨c6, hf⟩ := ab_ask_s hf
        refine ab_Ex.grd (c := y4 < 0 ∨ 900 ≤ (y4 : Int32).toNatClampNeg) (S := (29, [(0, .ref 13), (2, .int y2), (3, .int y3), (4, .int y4)], [.int ((h.1 4 (y4 : Int32).toNatClampNeg))], ab_dD h)) (fun n => rfl) c6 ?_
        refine ab_Ex.blk (k := 3) (pc' := 35) (lv' := [(5, .int ((h.1 4 (y4 : Int32).toNatClampNeg))), (0, .ref 13), (2, .int y2), (3, .int y3), (4, .int y4)]) (st' := [.int ((-5)), .int ((h.1 4 (y4 : Int32).toNatClampNeg))]) (sh' := ab_SH) (D' := ab_dD h) (fun n => rfl) ?_
        refine ab_Ex.ifc (c := (h.1 4 (y4 : Int32).toNatClampNeg) ≤ (-5)) (SA := (62, [(5, .int ((h.1 4 (y4 : Int32).toNatClampNeg))), (0, .ref 13), (2, .int y2), (3, .int y3), (4, .int y4)], [], ab_dD h)) (SB := (38, [(5, .int ((h.1 4 (y4 : Int32).toNatClampNeg))), (0, .ref 13), (2, .int y2), (3, .int y3), (4, .int y4)], [], ab_dD h)) (fun n => rfl) (fun c7 => ?_) (fun c7 => ?_)
        · replace hf := (if_pos c7).symm.trans hf
          exact sX7_valueOf_J62 d X (fun y2 y3 y4 h => fX7_valueOf_L5 n y2 y3 y4 h) (fun y2 y3 y4 h z hz => ih y2 y3 y4 h z hz) y2 y3 y4 ((h.1 4 (y4 : Int32).toNatClampNeg)) h _ hf
        · replace hf := (if_neg c7).symm.trans hf
          refine ab_Ex.blk (k := 2) (pc' := 41) (lv' := [(5, .int ((h.1 4 (y4 : Int32).toNatClampNeg))), (0, .ref 13), (2, .int y2), (3, .int y3), (4, .int y4)]) (st' := [.int 64, .int y3]) (sh' := ab_SH) (D' := ab_dD h) (fun n => rfl) ?_
          refine ab_Ex.ifc (c := 64 ≤ y3) (SA := (62, [(5, .int ((h.1 4 (y4 : Int32).toNatClampNeg))), (0, .ref 13), (2, .int y2), (3, .int y3), (4, .int y4)], [], ab_dD h)) (SB := (44, [(5, .int ((h.1 4 (y4 : Int32).toNatClampNeg))), (0, .ref 13), (2, .int y2), (3, .int y3), (4, .int y4)], [], ab_dD h)) (fun n => rfl) (fun c30 => ?_) (fun c30 => ?_)
          · replace hf := (if_pos c30).symm.trans hf
            exact sX7_valueOf_J62 d X (fun y2 y3 y4 h => fX7_valueOf_L5 n y2 y3 y4 h) (fun y2 y3 y4 h z hz => ih y2 y3 y4 h z hz) y2 y3 y4 ((h.1 4 (y4 : Int32).toNatClampNeg)) h _ hf
          · replace hf := (if_neg c30).symm.trans hf
            refine ab_Ex.blk (k := 5) (pc' := 52) (lv' := [(5, .int ((h.1 4 (y4 : Int32).toNatClampNeg))), (0, .ref 13), (2, .int y2), (3, .int y3), (4, .int y4)]) (st' := [.int ((h.1 4 (y4 : Int32).toNatClampNeg)), .ref 13, .int y3, .ref 15]) (sh' := ab_SH) (D' := ab_dD h) (fun n => rfl) ?_
            obtain ⟨r31, hr31, hf⟩ := ab_bind_s hf
            refine ab_Ex.call (d := d + 0) (M2 := 102) (as := [.ref 13, .int ((h.1 4 (y4 : Int32).toNatClampNeg))]) (rest := [.int y3, .ref 15]) (fun n => rfl) rfl (Nat.not_lt.mpr (Nat.le_of_ble_eq_true rfl)) (sX7_leafValue (d) X ((h.1 4 (y4 : Int32).toNatClampNeg)) h _ hr31) (fun r hr => ?_)
            subst hr
            show ab_Ex X (d + 1) 101 55 [(5, .int ((h.1 4 (y4 : Int32).toNatClampNeg))), (0, .ref 13), (2, .int y2), (3, .int y3), (4, .int y4)] [.int r31, .int y3, .ref 15] ab_SH (ab_dD h) _
            obtain ⟨c32, hf⟩ := ab_ask_s hf
            refine ab_Ex.grd (c := y3 < 0 ∨ 64 ≤ (y3 : Int32).toNatClampNeg) (S := (56, [(5, .int ((h.1 4 (y4 : Int32).toNatClampNeg))), (0, .ref 13), (2, .int y2), (3, .int y3), (4, .int y4)], [], ab_dD (ab_wI h 15 (y3 : Int32).toNatClampNeg r31))) (fun n => rfl) c32 ?_
            refine ab_Ex.blk (k := 2) (pc' := 186) (lv' := [(0, .ref 13), (2, .int y2), (3, .int ((y3 + 1))), (4, .int y4)]) (st' := []) (sh' := ab_SH) (D' := ab_dD (ab_wI h 15 (y3 : Int32).toNatClampNeg r31)) (fun n => rfl) ?_
            exact sX7_valueOf_J186 d X (fun y2 y3 y4 h => fX7_valueOf_L5 n y2 y3 y4 h) (fun y2 y3 y4 h z hz => ih y2 y3 y4 h z hz) y2 ((y3 + 1)) y4 (ab_wI h 15 (y3 : Int32).toNatClampNeg r31) _ hf
set_option maxRecDepth 20000 in
theorem sX7_valueOf (d : Nat) (X : abX) (x0 : Int32) (x1 : Int32) (h : abJ) (z : (Int32 × abJ)) (hf : fX7_valueOf x0 x1 h = some z) : ab_Ex X (d + 1) 101 0 [(0, .ref 13), (1, .int x0), (2, .int x1)] [] ab_SH (ab_dD h) (fun r => r = (some (.int z.1), ab_SH, ab_dD z.2)) := by
  unfold fX7_valueOf at hf
  refine ab_Ex.blk (k := 4) (pc' := 5) (lv' := [(0, .ref 13), (2, .int x1), (3, .int 0), (4, .int x0)]) (st' := []) (sh' := ab_SH) (D' := ab_dD h) (fun n => rfl) ?_
  exact sX7_valueOf_L5 d X  ab_N x1 0 x0 h _ hf
