/-! Cells that are made; then every instruction; then every run. -/
theorem ab_nD_1 (D : abD) (o : Nat) : (ab_nD D o).1 o = (fun _ => 0) ∧ (ab_nD D o).2.1 o = (fun _ => 0) ∧ (ab_nD D o).2.2 o = (fun _ => 0) := by simp [ab_nD, ab_new]
theorem ab_nD_n (D : abD) {o a : Nat} (h : a ≠ o) : (ab_nD D o).1 a = D.1 a ∧ (ab_nD D o).2.1 a = D.2.1 a ∧ (ab_nD D o).2.2 a = D.2.2 a := by simp [ab_nD, ab_new, h]
theorem ab_push_ce {K : abK} {sh : abZ} {D : abD} {z : Nat × Nat} (a : Nat) (h : a < sh.length) : ab_ce K (sh ++ [z]) (ab_nD D sh.length) a = ab_ce K sh D a := by
  have e : (sh ++ [z])[a]? = sh[a]? := List.getElem?_append_left h
  have hn := ab_nD_n D (Nat.ne_of_lt h)
  have h1 : ab_ce K (sh ++ [z]) (ab_nD D sh.length) a = ab_ce K sh (ab_nD D sh.length) a := by simp only [ab_ce, e]
  rw [h1]
  exact ab_ce_other hn.1 hn.2.1 hn.2.2
/-- where the new cell is -/
theorem ab_fresh {K : abK} {sh : abZ} {D : abD} {H1 : Heap} {q : Nat} {x : va_E} {N : Nat} (hD : va_D (ab_A K) (ab_wd K sh D ++ [(q, x)])) (hP : va_P (kD K) ab_cl (ab_wd K sh D ++ [(q, x)]) H1) (hN : H1.size ≤ N) (hN2 : N = kb K + sh.length + 1) : q = kb K + sh.length := by
  have hlen := ab_wd_len K sh D
  have h1 : (ab_wd K sh D ++ [(q, x)])[sh.length]? = some (q, x) := by
    rw [List.getElem?_append_right (by omega), hlen, Nat.sub_self]
    rfl
  have h2 : q < H1.size := (hP _ _ h1).lt
  have h3 : kb K ≤ q := hD.2 _ _ h1
  by_cases hq : q = kb K + sh.length
  · exact hq
  · exfalso
    have hl : q - kb K < sh.length := by omega
    have h4 : (ab_wd K sh D ++ [(q, x)])[q - kb K]? = some (kb K + (q - kb K), ab_ce K sh D (q - kb K)) := by
      rw [List.getElem?_append_left (by omega)]
      simp [ab_wd, hl]
    have := hD.1 _ _ _ _ h1 h4 (show q = kb K + (q - kb K) by omega)
    omega
theorem ab_kd_all : ab_fk.all (fun l => l.all (fun k => decide (k < 4))) = true := by decide +kernel
theorem ab_kd_4 (ci k : Nat) : ab_kd ci k = 0 ∨ ab_kd ci k = 1 ∨ ab_kd ci k = 2 ∨ ab_kd ci k = 3 := by
  have h : ab_kd ci k < 4 := by
    unfold ab_kd
    rw [List.getD_eq_getElem?_getD, List.getD_eq_getElem?_getD]
    cases h1 : ab_fk[ci]? with
    | none => simp
    | some l =>
      simp only [Option.getD_some]
      cases h2 : l[k]? with
      | none => simp
      | some z =>
        have h3 := List.all_eq_true.mp (List.all_eq_true.mp ab_kd_all l (List.mem_of_getElem? h1)) z (List.mem_of_getElem? h2)
        simpa using h3
  omega
section AB5
variable {K : abK} {p : Program} {l : Launch} {e : Env} {R : Room} {s : State} {m : MethodId} {args : Array Value} {below : List Frame} {meth : Method} {c : Code} {cells slots : Nat} {Q : State → Prop} {cc : ByteArray} {nL : Nat} {own : String}
theorem ab_inst_ok : (List.range 13).all (fun ci => match ab_cl[ci]? with | some q => lw_tbl.any (fun w => decide (w = .instantiable q.1 q.2.2)) && lw_tbl.any (fun w => decide (w = .initialized q.1)) | none => false) = true := by decide +kernel
theorem ab_inst {ci : Nat} {q : vw_C} (h : ab_cl[ci]? = some q) : Cond.instantiable q.1 q.2.2 ∈ ab_tb ∧ Cond.initialized q.1 ∈ ab_tb := by
  have h1 := List.all_eq_true.mp ab_inst_ok ci (List.mem_range.mpr (ab_cl_lt h))
  rw [h] at h1
  simp only [Bool.and_eq_true, List.any_eq_true, decide_eq_true_eq] at h1
  obtain ⟨⟨w, hw, rfl⟩, w2, hw2, rfl⟩ := h1
  exact ⟨List.mem_filter.mpr ⟨hw, rfl⟩, List.mem_filter.mpr ⟨hw2, rfl⟩⟩
theorem ab_w_new {sh : abZ} {pc ix ci pl : Nat} {lv : abL} {st : List Value} {D : abD} {q : vw_C} (hx : p.tables.exec = Jvm.exec) (hb : c.code = cc) (hown : s.vm.findClass own = some m.cls) (hts : ∀ w ∈ ab_tb, w.before args s = true) (hE : ab_E K s s.heap) (hd : decode cc pc = .ok (.new ix, 3)) (ha : ab_aok own (.new ix) [ci, pl] = true) (hq : ab_cl[ci]? = some q) (hlt : sh.length < 1000)
    (hsz : s.heap.size + cells = kb K + sh.length) (hcl : cells + 1 ≤ R.cells ∧ slots + q.2.2 ≤ R.slots)
    (G : ab_G K p l e R s m args below meth c (cells + 1) (slots + q.2.2) Q nL (sh ++ [(ci, q.2.2)]) (pc + 3, lv, .ref sh.length :: st, ab_nD D sh.length)) : ab_G K p l e R s m args below meth c cells slots Q nL sh (pc, lv, st, D) := by
  intro ls H locs hl hw hS
  have h0 : lw_tbl[pl]? = some (.classLink own ix (ab_own.getD ci "")) := of_decide_eq_true (show decide _ = true from ha)
  rw [← ab_own_cl hq] at h0
  obtain ⟨ty, hty, hnm, hft⟩ := ab_ft_at hq
  have hci := ab_cl_lt hq
  have hA : ∀ x : Nat, s.heap.size ≤ x → ab_A K x := fun x hx1 => Nat.le_trans hE.2.2.2.2 hx1
  have hdef : ∀ j, j < q.2.2 → defaultValue (ty j) = vp_V ((List.range q.2.2).map (ab_fv K (ab_nD D sh.length) ci sh.length)) j := by
    intro j hj
    obtain ⟨-, h1, h2, h3, h4⟩ := hft j hj
    have e1 : vp_V ((List.range q.2.2).map (ab_fv K (ab_nD D sh.length) ci sh.length)) j = ab_fv K (ab_nD D sh.length) ci sh.length j := by
      unfold vp_V
      rw [List.getD_eq_getElem?_getD, List.getElem?_map, List.getElem?_range hj]
      rfl
    rw [e1]
    have hz := ab_nD_1 D sh.length
    unfold ab_fv
    rw [hz.1, hz.2.1, hz.2.2]
    have hkd : ab_kd ci j = 0 ∨ ab_kd ci j = 1 ∨ ab_kd ci j = 2 ∨ ab_kd ci j = 3 := ab_kd_4 ci j
    rcases hkd with k | k | k | k
    · rw [(h1 k).1, k]; rfl
    · rw [(h2 k).1, k]; rfl
    · rw [k]
      have := (h3 k).1
      cases hty2 : ty j <;> rw [hty2] at this <;> first | rfl | (simp [refKind] at this)
    · rw [(h4 k).1, k]; rfl
  refine va_new (D := kD K) (ci := ci) (C := q.1) (T := q.2.1) (N := q.2.2) hx hb hts (ab_cl_in hq) ty hty hown (hts _ (ab_tb_of h0 rfl)) (hts _ (ab_inst hq).1) (hts _ (ab_inst hq).2) hE.1.1 hw.2 (ab_wd_D K sh D) hS hA hq hdef hcl.1 hcl.2 hd (fun a H1 hP1 hD1 hS1 => ?_)
  refine ab_sz (fun hsize => ?_)
  have hadr := ab_fresh hD1 hP1 hsize (by omega)
  subst hadr
  have hpush := ab_wd_push (K := K) (sh := sh) (D := D) (D' := ab_nD D sh.length) (z := (ci, q.2.2)) (e := .inr (ci, (List.range q.2.2).map (ab_fv K (ab_nD D sh.length) ci sh.length))) (by simp only [ab_ce1, if_pos hci]) (fun a h => ab_push_ce a h)
  rw [hpush] at hP1
  have hG := G ls H1 locs hl ⟨by simp; omega, hP1⟩ hS1
  simp only [List.map_cons] at hG
  rw [ab_cv_c K (by omega)] at hG
  exact hG
/-- a new array's class is the one that K has -/
theorem ab_ca {H : Heap} (hE : ab_E K s H) {cA : ClassId} {t : Nat} (a : 100 ≤ t) (b : t < 106) {tys : List (ClassId × FieldType)} (hk : va_K (kD K) ab_cl (tys ++ [(cA, ab_aty t)]) s) : cA = kca K t := by
  have h1 := (hk.2 tys.length (cA, ab_aty t) (by simp)).2
  have h2 := (hE.1.2.1 t a b).2
  have key : ∀ (x y : ClassId) (n : String), s.vm.findClass n = some x → s.vm.findClass n = some y → x = y := fun x y n hx1 hy1 => Option.some.inj (hx1.symm.trans hy1)
  have : t = 100 ∨ t = 101 ∨ t = 102 ∨ t = 103 ∨ t = 104 ∨ t = 105 := by omega
  rcases this with h | h | h | h | h | h <;> subst h
  · exact key _ _ _ h1 h2
  · exact key _ _ _ h1 h2
  · exact key _ _ _ h1 h2
  · obtain ⟨_, _, -, -, -, g1⟩ := h1
    obtain ⟨_, _, -, -, -, g2⟩ := h2
    exact key _ _ _ g1 g2
  · obtain ⟨_, _, -, -, -, g1⟩ := h1
    obtain ⟨_, _, -, -, -, g2⟩ := h2
    exact key _ _ _ g1 g2
  · obtain ⟨_, _, -, -, -, g1⟩ := h1
    obtain ⟨_, _, -, -, -, g2⟩ := h2
    exact key _ _ _ g1 g2
theorem ab_arrw : (Cond.arrayClass .int ∈ lw_tbl ∧ Cond.arrayClass .long ∈ lw_tbl) ∧ Cond.arrayClass .boolean ∈ lw_tbl := by decide +kernel
/-- an array of a primitive type -/
theorem ab_w_newa {sh : abZ} {pc : Nat} {lv : abL} {r : List Value} {n : Int32} {D : abD} {at' : ArrayType} (hx : p.tables.exec = Jvm.exec) (hb : c.code = cc) (hts : ∀ w ∈ ab_tb, w.before args s = true) (hE : ab_E K s s.heap) (hd : decode cc pc = .ok (.newarray at', 2)) (htag : ab_tag at' ≠ 99) (hn : ¬ n < 0) (hn2 : n.toNatClampNeg ≤ 10000) (hlt : sh.length < 1000)
    (hsz : s.heap.size + cells = kb K + sh.length) (hcl : cells + 1 ≤ R.cells ∧ slots + n.toNatClampNeg ≤ R.slots)
    (G : ab_G K p l e R s m args below meth c (cells + 1) (slots + n.toNatClampNeg) Q nL (sh ++ [(ab_tag at', n.toNatClampNeg)]) (pc + 2, lv, .ref sh.length :: r, ab_nD D sh.length)) : ab_G K p l e R s m args below meth c cells slots Q nL sh (pc, lv, .int n :: r, D) := by
  intro ls H locs hl hw hS
  have hA : ∀ x : Nat, s.heap.size ≤ x → ab_A K x := fun x hx1 => Nat.le_trans hE.2.2.2.2 hx1
  have hz := ab_nD_1 D sh.length
  have hT : ∃ (a0 : vp_A) (ty : FieldType), newarray.typeOf at' = ty ∧ ty = ab_aty (ab_tag at') ∧ (100 ≤ ab_tag at' ∧ ab_tag at' < 106) ∧ Cond.arrayClass ty ∈ ab_tb ∧ (∀ cA : ClassId, vp_cell cA a0 = arrV cA n.toNatClampNeg (fun _ => defaultValue ty)) ∧ componentBytes ty ≤ 8 ∧ ab_ce1 K (ab_nD D sh.length) sh.length (ab_tag at') n.toNatClampNeg = .inl (kca K (ab_tag at'), a0) := by
    cases at' <;> first | (exact absurd rfl htag) | skip
    · exact ⟨(n.toNatClampNeg, .inl (fun _ => 0)), .boolean, rfl, rfl, ⟨by decide, by decide⟩, List.mem_filter.mpr ⟨ab_arrw.2, rfl⟩, fun _ => rfl, by decide, by simp [ab_ce1, ab_tag, hz.1]⟩
    · exact ⟨(n.toNatClampNeg, .inl (fun _ => 0)), .int, rfl, rfl, ⟨by decide, by decide⟩, List.mem_filter.mpr ⟨ab_arrw.1.1, rfl⟩, fun _ => rfl, by decide, by simp [ab_ce1, ab_tag, hz.1]⟩
    · exact ⟨(n.toNatClampNeg, .inr (.inl (fun _ => 0))), .long, rfl, rfl, ⟨by decide, by decide⟩, List.mem_filter.mpr ⟨ab_arrw.1.2, rfl⟩, fun _ => rfl, by decide, by simp [ab_ce1, ab_tag, hz.2.1]⟩
  obtain ⟨a0, ty, h1, h2, h3, h4, h5, h6, h7⟩ := hT
  refine va_newa (D := kD K) (a0 := a0) (tys := []) hx hb (by rw [h1]; exact hts _ h4) h1 hE.1.1 hw.2 (ab_wd_D K sh D) hS hA h5 hn rfl (Nat.le_trans (Nat.mul_le_mul hn2 h6) (by decide)) hcl.1 hcl.2 hd (fun a cA H1 hK1 hP1 hD1 hS1 => ?_)
  refine ab_sz (fun hsize => ?_)
  have hadr := ab_fresh hD1 hP1 hsize (by omega)
  subst hadr
  rw [h2] at hK1
  have hca := ab_ca hE h3.1 h3.2 hK1
  subst hca
  have hpush := ab_wd_push (K := K) (sh := sh) (D := D) (D' := ab_nD D sh.length) (z := (ab_tag at', n.toNatClampNeg)) (e := .inl (kca K (ab_tag at'), a0)) h7 (fun a h => ab_push_ce a h)
  rw [hpush] at hP1
  have hG := G ls H1 locs hl ⟨by simp; omega, hP1⟩ hS1
  simp only [List.map_cons] at hG
  rw [ab_cv_c K (by omega)] at hG
  exact hG
/-- an array of references -/
theorem ab_w_newq {sh : abZ} {pc ix t pl : Nat} {lv : abL} {r : List Value} {n : Int32} {D : abD} (hx : p.tables.exec = Jvm.exec) (hb : c.code = cc) (hown : s.vm.findClass own = some m.cls) (hts : ∀ w ∈ ab_tb, w.before args s = true) (hE : ab_E K s s.heap) (hd : decode cc pc = .ok (.anewarray ix, 3)) (ha : ab_aok own (.anewarray ix) [t, pl] = true) (ht : 103 ≤ t ∧ t < 106) (hn : ¬ n < 0) (hn2 : n.toNatClampNeg ≤ 10000) (hlt : sh.length < 1000)
    (hsz : s.heap.size + cells = kb K + sh.length) (hcl : cells + 1 ≤ R.cells ∧ slots + n.toNatClampNeg ≤ R.slots)
    (G : ab_G K p l e R s m args below meth c (cells + 1) (slots + n.toNatClampNeg) Q nL (sh ++ [(t, n.toNatClampNeg)]) (pc + 3, lv, .ref sh.length :: r, ab_nD D sh.length)) : ab_G K p l e R s m args below meth c cells slots Q nL sh (pc, lv, .int n :: r, D) := by
  intro ls H locs hl hw hS
  have hA : ∀ x : Nat, s.heap.size ≤ x → ab_A K x := fun x hx1 => Nat.le_trans hE.2.2.2.2 hx1
  have hz := ab_nD_1 D sh.length
  have h0 : lw_tbl[pl]? = some (.classLink own ix (ab_atn t)) := of_decide_eq_true (show decide _ = true from ha)
  have hty : ab_aty t = .object (ab_atn t) := by
    have : t = 103 ∨ t = 104 ∨ t = 105 := by omega
    rcases this with h | h | h <;> subst h <;> rfl
  have h7 : ab_ce1 K (ab_nD D sh.length) sh.length t n.toNatClampNeg = .inl (kca K t, n.toNatClampNeg, .inr (.inr (.inr (.inr (fun _ => none))))) := by
    unfold ab_ce1
    rw [if_neg (by omega), if_neg (by omega), if_neg (by omega), hz.2.2]
    rfl
  refine va_newq (D := kD K) (tys := []) hx hb hown (hts _ (ab_tb_of h0 rfl)) (hE.1.2.2.2.2 t ht.1 ht.2) hE.1.1 hw.2 (ab_wd_D K sh D) hS hA hn rfl (Nat.le_trans (Nat.mul_le_mul_right 4 hn2) (by decide)) hcl.1 hcl.2 hd (fun a cA H1 hK1 hP1 hD1 hS1 => ?_)
  refine ab_sz (fun hsize => ?_)
  have hadr := ab_fresh hD1 hP1 hsize (by omega)
  subst hadr
  rw [← hty] at hK1
  have hca := ab_ca hE (by omega) ht.2 hK1
  subst hca
  have hpush := ab_wd_push (K := K) (sh := sh) (D := D) (D' := ab_nD D sh.length) (z := (t, n.toNatClampNeg)) (e := .inl (kca K t, n.toNatClampNeg, .inr (.inr (.inr (.inr (fun _ => none)))))) h7 (fun a h => ab_push_ce a h)
  rw [hpush] at hP1
  have hG := G ls H1 locs hl ⟨by simp; omega, hP1⟩ hS1
  simp only [List.map_cons] at hG
  rw [ab_cv_c K (by omega)] at hG
  exact hG
end AB5
