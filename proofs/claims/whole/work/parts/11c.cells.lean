/-! System.arraycopy, the constructor of Object; one instruction, any of them. -/
section AB3
variable {K : abK} {p : Program} {l : Launch} {e : Env} {R : Room} {s : State} {m : MethodId} {args : Array Value} {below : List Frame} {meth : Method} {c : Code} {cells slots : Nat} {Q : State → Prop} {cc : ByteArray} {nL : Nat} {own : String}
theorem ab_nat_w : lw_tbl[899]? = some (.native arraycopyName) := by decide +kernel
theorem ab_nat_s : ∃ pl : Nat, lw_tbl[pl]? = some (.static arraycopyName) := ⟨898, by decide +kernel⟩
theorem ab_nat_i : ∃ pl : Nat, lw_tbl[pl]? = some (.initialized "java/lang/System") := ⟨150, by decide +kernel⟩
theorem ab_oi_i : ∃ pl : Nat, lw_tbl[pl]? = some (.instanceMethod Lib.objectInit) := ⟨157, by decide +kernel⟩
theorem ab_oi_c : ∃ pl : Nat, lw_tbl[pl]? = some (.code Lib.objectInit ⟨#[0xb1]⟩ 1 none) := ⟨158, by decide +kernel⟩
theorem ab_sum_cv {K : abK} (hf : kf K = .null ∨ ∃ a, kf K = .ref a) (st : List Value) : ((st.map (ab_cv K)).map fun v => v.category).sum = (st.map fun v => v.category).sum := by
  rw [List.map_map]
  congr 1
  apply List.map_congr_left
  intro v _
  exact ab_cv_cat hf v
theorem ab_nat_words : nativeFrameWords "java/lang/System" "arraycopy" 5 ≤ 30 := by decide +kernel
theorem ab_w_copy {sh : abZ} {pc len ix : Nat} {lv : abL} {st : List Value} {D : abD} {S : abS} {a : List Nat} (hx : p.tables.exec = Jvm.exec) (hb : c.code = cc) (hml : c.maxLocals = nL) (hown : s.vm.findClass own = some m.cls) (hts : ∀ w ∈ ab_tb, w.before args s = true) (hE : ab_E K s s.heap) (hfr : 1 ≤ R.frames) (hlo : 64 ≤ R.locals) (hd : decode cc pc = .ok (.invokestatic ix, len)) (hs : ab_g len 3 (match a with
    | [7, _, _] => (match st with
      | .int n :: .int dp :: .ref o2 :: .int sp :: .ref o1 :: r => (match sh[o1]?, sh[o2]? with
        | some (100, n1), some (100, n2) => if sp < 0 ∨ dp < 0 ∨ n < 0 ∨ n1 < sp.toNatClampNeg + n.toNatClampNeg ∨ n2 < dp.toNatClampNeg + n.toNatClampNeg ∨ 8 < (r.map fun v => v.category).sum then none
          else some (pc + 3, lv, r, (fun o => if o = o2 then va_cpy (D.1 o1) (D.1 o2) sp.toNatClampNeg dp.toNatClampNeg n.toNatClampNeg else D.1 o), D.2)
        | _, _ => none)
      | _ => none)
    | _ => none) = some S) (ha : ab_aok own (.invokestatic ix) a = true) (G : ab_G K p l e R s m args below meth c cells slots Q nL sh S) : ab_G K p l e R s m args below meth c cells slots Q nL sh (pc, lv, st, D) := by
  obtain ⟨rfl, h2⟩ := ab_g_s hs
  split at h2
  · rename_i z1 pl
    split at h2
    · rename_i n dp o2 sp o1 r
      split at h2
      · rename_i n1 n2 hs1 hs2
        split at h2
        · cases h2
        · rename_i hin
          obtain rfl := Option.some.inj h2
          have h0 : lw_tbl[pl]? = some (.methodLink own ix arraycopyName) := of_decide_eq_true (show decide _ = true from ha)
          intro ls H locs hl hw hS
          show W p l e R s m args below meth c H locs cells slots Q (F0 m pc ls (.int n :: .int dp :: ab_cv K (.ref o2) :: .int sp :: ab_cv K (.ref o1) :: r.map (ab_cv K)))
          have ho1 : o1 < sh.length := (List.getElem?_eq_some_iff.mp hs1).1
          have ho2 : o2 < sh.length := (List.getElem?_eq_some_iff.mp hs2).1
          have hb2 := hw.1
          rw [ab_cv_c K (ab_lt ho1 hb2), ab_cv_c K (ab_lt ho2 hb2)]
          have hset := ab_arr_set (K := K) (D := D) (D' := ((fun o => if o = o2 then va_cpy (D.1 o1) (D.1 o2) sp.toNatClampNeg dp.toNatClampNeg n.toNatClampNeg else D.1 o), D.2)) (x := .inl (kca K 100, n2, .inl (va_cpy (D.1 o1) (D.1 o2) sp.toNatClampNeg dp.toNatClampNeg n.toNatClampNeg))) hs2 (by simp [ab_ce1]) (fun a h => ⟨by simp [h], rfl, rfl⟩)
          obtain ⟨p1, hp1⟩ := ab_nat_s
          obtain ⟨p2, hp2⟩ := ab_nat_i
          have hsum := ab_sum_cv (K := K) hE.2.2.1 r
          have hnw := ab_nat_words
          exact va_copyi hx hb (hml.trans hl.1.symm) hown (hts _ (ab_tb_of h0 rfl)) (hts _ (ab_tb_of ab_nat_w rfl)) (hts _ (ab_tb_of hp1 rfl)) (hts _ (ab_tb_of hp2 rfl)) (hE.k1 100 (by decide) (by decide)) hw.2 (ab_wd_D K sh D) hS o1 o2 0 0 (ab_wd_at hs1) (ab_wd_at hs2) rfl rfl rfl (fun q => hin (Or.inl q)) (fun q => hin (Or.inr (Or.inl q))) (fun q => hin (Or.inr (Or.inr (Or.inl q)))) (by omega) (by omega) (fun _ _ => rfl) hfr (by rw [hsum]; omega) hd (fun H1 locs1 hP1 hD1 hS1 => G ls H1 locs1 hl ⟨hb2, hset ▸ hP1⟩ hS1)
      · cases h2
    · cases h2
  · cases h2
theorem ab_w_oinit {sh : abZ} {pc len ix : Nat} {lv : abL} {st : List Value} {D : abD} {S : abS} {a : List Nat} (hx : p.tables.exec = Jvm.exec) (hb : c.code = cc) (hml : c.maxLocals = nL) (hown : s.vm.findClass own = some m.cls) (hts : ∀ w ∈ ab_tb, w.before args s = true) (hE : ab_E K s s.heap) (hfr : 1 ≤ R.frames) (hlo : 64 ≤ R.locals) (hd : decode cc pc = .ok (.invokespecial ix, len)) (hs : ab_g len 3 (match a with | [6, _, _] => (match st with | .ref o :: r => if o < 3000000 ∧ (r.map fun v => v.category).sum ≤ 8 then some (pc + 3, lv, r, D) else none | _ => none) | _ => none) = some S) (ha : ab_aok own (.invokespecial ix) a = true) (G : ab_G K p l e R s m args below meth c cells slots Q nL sh S) : ab_G K p l e R s m args below meth c cells slots Q nL sh (pc, lv, st, D) := by
  obtain ⟨rfl, h2⟩ := ab_g_s hs
  split at h2
  · rename_i z1 pl
    split at h2
    · rename_i o r
      split at h2
      · rename_i hsm
        obtain rfl := Option.some.inj h2
        have h0 : lw_tbl[pl]? = some (.methodLink own ix Lib.objectInit) := of_decide_eq_true (show decide _ = true from ha)
        intro ls H locs hl hw hS
        have hG := G ls H locs hl hw hS
        obtain ⟨p1, hp1⟩ := ab_oi_i
        obtain ⟨p2, hp2⟩ := ab_oi_c
        have hsum := ab_sum_cv (K := K) hE.2.2.1 r
        show W p l e R s m args below meth c H locs cells slots Q (F0 m pc ls (ab_cv K (.ref o) :: r.map (ab_cv K)))
        rw [ab_cv_r K (Nat.ne_of_lt (Nat.lt_trans hsm.1 (by decide)))]
        exact W.objInit hx hb hown (hts _ (ab_tb_of h0 rfl)) (hts _ (ab_tb_of hp1 rfl)) (hts _ (ab_tb_of hp2 rfl)) rfl (hl.1.trans hml.symm) rfl hd hfr (by show 2 * 0 + _ + 12 ≤ _; rw [hsum]; have := hsm.2; omega) hG
      · cases h2
    · cases h2
  · cases h2
theorem ab_st0_ok {sh : abZ} {i : Instr} {pc len ini : Nat} {lv : abL} {st : List Value} {D : abD} {S : abS} {a : List Nat} (hx : p.tables.exec = Jvm.exec) (hb : c.code = cc) (hml : c.maxLocals = nL) (hown : s.vm.findClass own = some m.cls) (hts : ∀ w ∈ ab_tb, w.before args s = true) (hE : ab_E K s s.heap) (hfr : 1 ≤ R.frames) (hlo : 64 ≤ R.locals) (hini : ini < 13 → meth.name = "<init>" ∧ own = ab_own.getD ini "") (hd : decode cc pc = .ok (i, len)) (ha : ab_aok own i a = true) (hs : ab_st0 (kX K) nL ini sh i len a pc lv st D = some S) (G : ab_G K p l e R s m args below meth c cells slots Q nL sh S) : ab_G K p l e R s m args below meth c cells slots Q nL sh (pc, lv, st, D) := by
  cases i
  case iconst => exact ab_w_iconst hx hb hd hs G
  case bipush => exact ab_w_bipush hx hb hd hs G
  case sipush => exact ab_w_sipush hx hb hd hs G
  case lconst => exact ab_w_lconst hx hb hd hs G
  case ldc => exact ab_w_ldc hx hb hown hts hE hd hs ha G
  case ldc_w => exact ab_w_ldc_w hx hb hown hts hE hd hs ha G
  case ldc2_w => exact ab_w_ldc2 hx hb hown hts hE hd hs ha G
  case iload_n => exact ab_w_iload_n hx hb hd hs G
  case iload => exact ab_w_iload hx hb hd hs G
  case lload_n => exact ab_w_lload_n hx hb hd hs G
  case lload => exact ab_w_lload hx hb hd hs G
  case aload_n => exact ab_w_aload_n hx hb hE.2.2.1 hd hs G
  case aload => exact ab_w_aload hx hb hE.2.2.1 hd hs G
  case istore_n => exact ab_w_istore_n hx hb hE.2.2.1 hd hs G
  case istore => exact ab_w_istore hx hb hE.2.2.1 hd hs G
  case lstore_n => exact ab_w_lstore_n hx hb hE.2.2.1 hd hs G
  case lstore => exact ab_w_lstore hx hb hE.2.2.1 hd hs G
  case astore_n => exact ab_w_astore_n hx hb hE.2.2.1 hd hs G
  case astore => exact ab_w_astore hx hb hE.2.2.1 hd hs G
  case iinc => exact ab_w_iinc hx hb hE.2.2.1 hd hs G
  case iadd => exact ab_w_iadd hx hb hd hs G
  case isub => exact ab_w_isub hx hb hd hs G
  case imul => exact ab_w_imul hx hb hd hs G
  case iand => exact ab_w_iand hx hb hd hs G
  case ior => exact ab_w_ior hx hb hd hs G
  case ixor => exact ab_w_ixor hx hb hd hs G
  case ishl => exact ab_w_ishl hx hb hd hs G
  case ishr => exact ab_w_ishr hx hb hd hs G
  case iushr => exact ab_w_iushr hx hb hd hs G
  case idiv => exact ab_w_idiv hx hb hd hs G
  case irem => exact ab_w_irem hx hb hd hs G
  case ladd => exact ab_w_ladd hx hb hd hs G
  case lsub => exact ab_w_lsub hx hb hd hs G
  case lmul => exact ab_w_lmul hx hb hd hs G
  case land => exact ab_w_land hx hb hd hs G
  case lor => exact ab_w_lor hx hb hd hs G
  case ldiv => exact ab_w_ldiv hx hb hd hs G
  case lrem => exact ab_w_lrem hx hb hd hs G
  case lneg => exact ab_w_lneg hx hb hd hs G
  case lshl => exact ab_w_lshl hx hb hd hs G
  case lshr => exact ab_w_lshr hx hb hd hs G
  case i2l => exact ab_w_i2l hx hb hd hs G
  case i2b => exact ab_w_i2b hx hb hd hs G
  case i2s => exact ab_w_i2s hx hb hd hs G
  case i2c => exact ab_w_i2c hx hb hd hs G
  case l2i => exact ab_w_l2i hx hb hd hs G
  case lcmp => exact ab_w_lcmp hx hb hd hs G
  case dup => exact ab_w_dup hx hb hE.2.2.1 hd hs G
  case pop => exact ab_w_pop hx hb hE.2.2.1 hd hs G
  case dup2 => exact ab_w_dup2 hx hb hE.2.2.1 hd hs G
  case ifCond => exact ab_w_if hx hb hd hs G
  case if_icmp => exact ab_w_icmp hx hb hd hs G
  case goto => exact ab_w_goto hx hb hd hs G
  case tableswitch => exact ab_w_table hx hb hd hs G
  case lookupswitch => exact ab_w_lookup hx hb hd hs G
  case getstatic => exact ab_w_gets hx hb hown hts hE hd hs ha G
  case getfield => exact ab_w_get hx hb hown hts hE hd ha hs G
  case putfield => exact ab_w_put hx hb hown hts hE hini hd ha hs G
  case arraylength => exact ab_w_len (own := own) hx hb hown hts hE hd hs G
  case iaload => exact ab_w_iaload hx hb hE hd hs G
  case baload => exact ab_w_baload hx hb hE hd hs G
  case laload => exact ab_w_laload (own := own) hx hb hown hts hE hd hs G
  case aaload => exact ab_w_aaload (own := own) hx hb hown hts hE hd hs G
  case iastore => exact ab_w_iastore (own := own) hx hb hown hts hE hd hs G
  case bastore => exact ab_w_bastore (own := own) hx hb hown hts hE hd hs G
  case lastore => exact ab_w_lastore (own := own) hx hb hown hts hE hd hs G
  case aastore => exact ab_w_aastore (own := own) hx hb hown hts hE hd hs G
  case invokestatic => exact ab_w_copy hx hb hml hown hts hE hfr hlo hd hs ha G
  case invokespecial => exact ab_w_oinit hx hb hml hown hts hE hfr hlo hd hs ha G
  all_goals (exact absurd hs (by simp [ab_st0]))
end AB3
