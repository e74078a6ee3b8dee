/-! Rows of cells, continued. -/
section AB2
variable {K : abK} {p : Program} {l : Launch} {e : Env} {R : Room} {s : State} {m : MethodId} {args : Array Value} {below : List Frame} {meth : Method} {c : Code} {cells slots : Nat} {Q : State → Prop} {cc : ByteArray} {nL : Nat} {own : String}
theorem ab_w_laload {sh : abZ} {pc len : Nat} {lv : abL} {st : List Value} {D : abD} {S : abS} (hx : p.tables.exec = Jvm.exec) (hb : c.code = cc) (hown : s.vm.findClass own = some m.cls) (hts : ∀ w ∈ ab_tb, w.before args s = true) (hE : ab_E K s s.heap) (hd : decode cc pc = .ok (.laload, len)) (hs : ab_g len 1 (match st with | .int j :: .ref o :: r => (match sh[o]? with | some (101, n) => if j < 0 ∨ n ≤ j.toNatClampNeg then none else some (pc + 1, lv, .long (D.2.1 o j.toNatClampNeg) :: r, D) | _ => none) | _ => none) = some S) (G : ab_G K p l e R s m args below meth c cells slots Q nL sh S) : ab_G K p l e R s m args below meth c cells slots Q nL sh (pc, lv, st, D) := by
  obtain ⟨rfl, h2⟩ := ab_g_s hs
  split at h2
  · rename_i j o r
    split at h2
    · rename_i n hsh
      split at h2
      · cases h2
      · rename_i hin
        obtain rfl := Option.some.inj h2
        intro ls H locs hl hw hS
        have hG := G ls H locs hl hw hS
        show W p l e R s m args below meth c H locs cells slots Q (F0 m pc ls (.int j :: ab_cv K (.ref o) :: r.map (ab_cv K)))
        have ho : o < sh.length := (List.getElem?_eq_some_iff.mp hsh).1
        have hb2 := hw.1
        rw [ab_cv_c K (ab_lt ho hb2)]
        exact va_lald hx hb (hE.k1 101 (by decide) (by decide)) hw.2 o 0 (ab_wd_at hsh) rfl hin hd hG
    · cases h2
  · cases h2
theorem ab_w_iastore {sh : abZ} {pc len : Nat} {lv : abL} {st : List Value} {D : abD} {S : abS} (hx : p.tables.exec = Jvm.exec) (hb : c.code = cc) (hown : s.vm.findClass own = some m.cls) (hts : ∀ w ∈ ab_tb, w.before args s = true) (hE : ab_E K s s.heap) (hd : decode cc pc = .ok (.iastore, len)) (hs : ab_g len 1 (match st with | .int x :: .int j :: .ref o :: r => (match sh[o]? with | some (100, n) => if j < 0 ∨ n ≤ j.toNatClampNeg then none else some (pc + 1, lv, r, ab_uI D.1 o j.toNatClampNeg x, D.2) | _ => none) | _ => none) = some S) (G : ab_G K p l e R s m args below meth c cells slots Q nL sh S) : ab_G K p l e R s m args below meth c cells slots Q nL sh (pc, lv, st, D) := by
  obtain ⟨rfl, h2⟩ := ab_g_s hs
  split at h2
  · rename_i x j o r
    split at h2
    · rename_i n hsh
      split at h2
      · cases h2
      · rename_i hin
        obtain rfl := Option.some.inj h2
        intro ls H locs hl hw hS
        show W p l e R s m args below meth c H locs cells slots Q (F0 m pc ls (.int x :: .int j :: ab_cv K (.ref o) :: r.map (ab_cv K)))
        have ho : o < sh.length := (List.getElem?_eq_some_iff.mp hsh).1
        have hb2 := hw.1
        rw [ab_cv_c K (ab_lt ho hb2)]
        have hset := ab_arr_set (K := K) (D := D) (D' := (ab_uI D.1 o j.toNatClampNeg x, D.2)) (x := .inl (kca K 100, n, .inl (upd (D.1 o) j.toNatClampNeg x))) hsh (by simp [ab_ce1, ab_uI_o]) (fun a h => ⟨ab_uI_n _ _ _ h, rfl, rfl⟩)
        exact va_iast hx hb (hE.k1 100 (by decide) (by decide)) hw.2 (ab_wd_D K sh D) hS o 0 (ab_wd_at hsh) rfl hin hd (fun H1 locs1 hP1 hD1 hS1 => G ls H1 locs1 hl ⟨hb2, hset ▸ hP1⟩ hS1)
    · cases h2
  · cases h2
theorem ab_w_bastore {sh : abZ} {pc len : Nat} {lv : abL} {st : List Value} {D : abD} {S : abS} (hx : p.tables.exec = Jvm.exec) (hb : c.code = cc) (hown : s.vm.findClass own = some m.cls) (hts : ∀ w ∈ ab_tb, w.before args s = true) (hE : ab_E K s s.heap) (hd : decode cc pc = .ok (.bastore, len)) (hs : ab_g len 1 (match st with | .int x :: .int j :: .ref o :: r => (match sh[o]? with | some (102, n) => if j < 0 ∨ n ≤ j.toNatClampNeg then none else some (pc + 1, lv, r, ab_uI D.1 o j.toNatClampNeg (vp_nar .boolean x), D.2) | _ => none) | _ => none) = some S) (G : ab_G K p l e R s m args below meth c cells slots Q nL sh S) : ab_G K p l e R s m args below meth c cells slots Q nL sh (pc, lv, st, D) := by
  obtain ⟨rfl, h2⟩ := ab_g_s hs
  split at h2
  · rename_i x j o r
    split at h2
    · rename_i n hsh
      split at h2
      · cases h2
      · rename_i hin
        obtain rfl := Option.some.inj h2
        intro ls H locs hl hw hS
        show W p l e R s m args below meth c H locs cells slots Q (F0 m pc ls (.int x :: .int j :: ab_cv K (.ref o) :: r.map (ab_cv K)))
        have ho : o < sh.length := (List.getElem?_eq_some_iff.mp hsh).1
        have hb2 := hw.1
        rw [ab_cv_c K (ab_lt ho hb2)]
        have hset := ab_arr_set (K := K) (D := D) (D' := (ab_uI D.1 o j.toNatClampNeg (vp_nar .boolean x), D.2)) (x := .inl (kca K 102, n, .inl (upd (D.1 o) j.toNatClampNeg (vp_nar .boolean x)))) hsh (by simp [ab_ce1, ab_uI_o]) (fun a h => ⟨ab_uI_n _ _ _ h, rfl, rfl⟩)
        exact va_zast hx hb (hE.k1 102 (by decide) (by decide)) hw.2 (ab_wd_D K sh D) hS o 0 (ab_wd_at hsh) rfl hin hd (fun H1 locs1 hP1 hD1 hS1 => G ls H1 locs1 hl ⟨hb2, hset ▸ hP1⟩ hS1)
    · cases h2
  · cases h2
theorem ab_w_lastore {sh : abZ} {pc len : Nat} {lv : abL} {st : List Value} {D : abD} {S : abS} (hx : p.tables.exec = Jvm.exec) (hb : c.code = cc) (hown : s.vm.findClass own = some m.cls) (hts : ∀ w ∈ ab_tb, w.before args s = true) (hE : ab_E K s s.heap) (hd : decode cc pc = .ok (.lastore, len)) (hs : ab_g len 1 (match st with | .long x :: .int j :: .ref o :: r => (match sh[o]? with | some (101, n) => if j < 0 ∨ n ≤ j.toNatClampNeg then none else some (pc + 1, lv, r, D.1, ab_uL D.2.1 o j.toNatClampNeg x, D.2.2) | _ => none) | _ => none) = some S) (G : ab_G K p l e R s m args below meth c cells slots Q nL sh S) : ab_G K p l e R s m args below meth c cells slots Q nL sh (pc, lv, st, D) := by
  obtain ⟨rfl, h2⟩ := ab_g_s hs
  split at h2
  · rename_i x j o r
    split at h2
    · rename_i n hsh
      split at h2
      · cases h2
      · rename_i hin
        obtain rfl := Option.some.inj h2
        intro ls H locs hl hw hS
        show W p l e R s m args below meth c H locs cells slots Q (F0 m pc ls (.long x :: .int j :: ab_cv K (.ref o) :: r.map (ab_cv K)))
        have ho : o < sh.length := (List.getElem?_eq_some_iff.mp hsh).1
        have hb2 := hw.1
        rw [ab_cv_c K (ab_lt ho hb2)]
        have hset := ab_arr_set (K := K) (D := D) (D' := (D.1, ab_uL D.2.1 o j.toNatClampNeg x, D.2.2)) (x := .inl (kca K 101, n, .inr (.inl (vp_updL (D.2.1 o) j.toNatClampNeg x)))) hsh (by simp [ab_ce1, ab_uL_o]) (fun a h => ⟨rfl, ab_uL_n _ _ _ h, rfl⟩)
        exact va_last hx hb (hE.k1 101 (by decide) (by decide)) hw.2 (ab_wd_D K sh D) hS o 0 (ab_wd_at hsh) rfl hin hd (fun H1 locs1 hP1 hD1 hS1 => G ls H1 locs1 hl ⟨hb2, hset ▸ hP1⟩ hS1)
    · cases h2
  · cases h2
theorem ab_w_aaload {sh : abZ} {pc len : Nat} {lv : abL} {st : List Value} {D : abD} {S : abS} (hx : p.tables.exec = Jvm.exec) (hb : c.code = cc) (hown : s.vm.findClass own = some m.cls) (hts : ∀ w ∈ ab_tb, w.before args s = true) (hE : ab_E K s s.heap) (hd : decode cc pc = .ok (.aaload, len)) (hs : ab_g len 1 (match st with | .int j :: .ref o :: r => (match sh[o]? with | some (t, n) => if j < 0 ∨ n ≤ j.toNatClampNeg ∨ ¬ (103 ≤ t ∧ t < 106) then none else (match D.2.2 o j.toNatClampNeg with | z + 1 => if z < 1000000 then some (pc + 1, lv, .ref z :: r, D) else none | 0 => none) | none => none) | _ => none) = some S) (G : ab_G K p l e R s m args below meth c cells slots Q nL sh S) : ab_G K p l e R s m args below meth c cells slots Q nL sh (pc, lv, st, D) := by
  obtain ⟨rfl, h2⟩ := ab_g_s hs
  split at h2
  · rename_i j o r
    split at h2
    · rename_i t n hsh
      split at h2
      · cases h2
      · rename_i hin
        split at h2
        · rename_i z hz
          split at h2
          · rename_i hz2
            obtain rfl := Option.some.inj h2
            intro ls H locs hl hw hS
            have hG := G ls H locs hl hw hS
            simp only [List.map_cons] at hG
            rw [ab_cv_c K hz2] at hG
            show W p l e R s m args below meth c H locs cells slots Q (F0 m pc ls (.int j :: ab_cv K (.ref o) :: r.map (ab_cv K)))
            have ho : o < sh.length := (List.getElem?_eq_some_iff.mp hsh).1
            have hb2 := hw.1
            rw [ab_cv_c K (ab_lt ho hb2)]
            have ht : 103 ≤ t ∧ t < 106 := by
              by_cases q : 103 ≤ t ∧ t < 106
              · exact q
              · exact absurd (Or.inr (Or.inr q)) hin
            have hat := ab_wd_at (K := K) (D := D) hsh
            have he : ab_ce1 K D o t n = .inl (kca K t, n, .inr (.inr (.inr (.inr (fun k => ab_ro K (D.2.2 o k)))))) := by
              unfold ab_ce1
              rw [if_neg (by omega), if_neg (by omega), if_neg (by omega)]
            rw [he] at hat
            have hty : ∃ C, ab_aty t = .object C := by
              have : t = 103 ∨ t = 104 ∨ t = 105 := by omega
              rcases this with h | h | h <;> subst h <;> exact ⟨_, rfl⟩
            obtain ⟨C, hC⟩ := hty
            have hk := hE.k1 t (by omega) ht.2
            rw [hC] at hk
            refine va_aldq hx hb hk hw.2 o 0 hat rfl (fun q => hin (q.elim Or.inl (fun q => Or.inr (Or.inl q)))) hd ?_
            have e2 : va_rf (ab_ro K (D.2.2 o j.toNatClampNeg)) = .ref (kb K + z) := by rw [hz]; rfl
            rw [e2]
            exact hG
          · cases h2
        · cases h2
    · cases h2
  · cases h2
theorem ab_w_aastore {sh : abZ} {pc len : Nat} {lv : abL} {st : List Value} {D : abD} {S : abS} (hx : p.tables.exec = Jvm.exec) (hb : c.code = cc) (hown : s.vm.findClass own = some m.cls) (hts : ∀ w ∈ ab_tb, w.before args s = true) (hE : ab_E K s s.heap) (hd : decode cc pc = .ok (.aastore, len)) (hs : ab_g len 1 (match st with | .ref v :: .int j :: .ref o :: r => (match sh[o]?, sh[v]? with | some (t, n), some (t2, _) => if j < 0 ∨ n ≤ j.toNatClampNeg ∨ ¬ ((t = 103 ∧ t2 = 9) ∨ (t = 104 ∧ t2 = 10) ∨ (t = 105 ∧ t2 = 3)) then none else some (pc + 1, lv, r, D.1, D.2.1, ab_uR D.2.2 o j.toNatClampNeg (v + 1)) | _, _ => none) | _ => none) = some S) (G : ab_G K p l e R s m args below meth c cells slots Q nL sh S) : ab_G K p l e R s m args below meth c cells slots Q nL sh (pc, lv, st, D) := by
  obtain ⟨rfl, h2⟩ := ab_g_s hs
  split at h2
  · rename_i v j o r
    split at h2
    · rename_i t n t2 n2 hsh hsv
      split at h2
      · cases h2
      · rename_i hin
        obtain rfl := Option.some.inj h2
        intro ls H locs hl hw hS
        show W p l e R s m args below meth c H locs cells slots Q (F0 m pc ls (ab_cv K (.ref v) :: .int j :: ab_cv K (.ref o) :: r.map (ab_cv K)))
        have ho : o < sh.length := (List.getElem?_eq_some_iff.mp hsh).1
        have hv0 : v < sh.length := (List.getElem?_eq_some_iff.mp hsv).1
        have hb2 := hw.1
        rw [ab_cv_c K (ab_lt ho hb2), ab_cv_c K (ab_lt hv0 hb2)]
        have ht : (t = 103 ∧ t2 = 9) ∨ (t = 104 ∧ t2 = 10) ∨ (t = 105 ∧ t2 = 3) := by
          by_cases q : (t = 103 ∧ t2 = 9) ∨ (t = 104 ∧ t2 = 10) ∨ (t = 105 ∧ t2 = 3)
          · exact q
          · exact absurd (Or.inr (Or.inr q)) hin
        have hq : ∃ q : vw_C, ab_cl[t2]? = some q ∧ ab_aty t = .object q.1 := by
          rcases ht with ⟨rfl, rfl⟩ | ⟨rfl, rfl⟩ | ⟨rfl, rfl⟩
          · exact ⟨_, rfl, rfl⟩
          · exact ⟨_, rfl, rfl⟩
          · exact ⟨_, rfl, rfl⟩
        obtain ⟨q, hq1, hq2⟩ := hq
        have hat := ab_wd_at (K := K) (D := D) hsh
        have he : ∀ D0 : abD, ab_ce1 K D0 o t n = .inl (kca K t, n, .inr (.inr (.inr (.inr (fun k => ab_ro K (D0.2.2 o k)))))) := by
          intro D0
          unfold ab_ce1
          rw [if_neg (by omega), if_neg (by omega), if_neg (by omega)]
        rw [he] at hat
        have hav := ab_wd_at (K := K) (D := D) hsv
        simp only [ab_ce1, if_pos (show t2 < 13 by omega)] at hav
        have hk := hE.k1 t (by omega) (by omega)
        rw [hq2] at hk
        have hset := ab_arr_set (K := K) (D := D) (D' := (D.1, D.2.1, ab_uR D.2.2 o j.toNatClampNeg (v + 1))) (x := .inl (kca K t, n, .inr (.inr (.inr (.inr (va_up (fun k => ab_ro K (D.2.2 o k)) j.toNatClampNeg (some (kb K + v)))))))) hsh (by
            rw [he]
            have e8 : (fun k => ab_ro K ((ab_uR D.2.2 o j.toNatClampNeg (v + 1)) o k)) = va_up (fun k => ab_ro K (D.2.2 o k)) j.toNatClampNeg (some (kb K + v)) := by
              funext k
              rw [ab_uR_o]
              unfold va_up
              by_cases hk : k = j.toNatClampNeg
              · rw [if_pos hk]
                simp [hk, ab_ro]
              · simp [hk]
            rw [e8]) (fun a h => ⟨rfl, rfl, ab_uR_n _ _ _ h⟩)
        exact va_astq hx hb hk hw.2 (ab_wd_D K sh D) hS o 0 v t2 hat rfl hav hq1 (fun q => hin (q.elim Or.inl (fun q => Or.inr (Or.inl q)))) hd (fun H1 locs1 hP1 hD1 hS1 => G ls H1 locs1 hl ⟨hb2, hset ▸ hP1⟩ hS1)
    · cases h2
  · cases h2
theorem ab_w_len {sh : abZ} {pc len : Nat} {lv : abL} {st : List Value} {D : abD} {S : abS} (hx : p.tables.exec = Jvm.exec) (hb : c.code = cc) (hown : s.vm.findClass own = some m.cls) (hts : ∀ w ∈ ab_tb, w.before args s = true) (hE : ab_E K s s.heap) (hd : decode cc pc = .ok (.arraylength, len)) (hs : ab_g len 1 (match st with | .ref o :: r => (match ab_len (kX K) sh o with | some n => some (pc + 1, lv, .int (Int32.ofNat n) :: r, D) | none => none) | _ => none) = some S) (G : ab_G K p l e R s m args below meth c cells slots Q nL sh S) : ab_G K p l e R s m args below meth c cells slots Q nL sh (pc, lv, st, D) := by
  obtain ⟨rfl, h2⟩ := ab_g_s hs
  split at h2
  · rename_i o r
    split at h2
    · rename_i n hz
      obtain rfl := Option.some.inj h2
      intro ls H locs hl hw hS
      have hG := G ls H locs hl hw hS
      show W p l e R s m args below meth c H locs cells slots Q (F0 m pc ls (ab_cv K (.ref o) :: r.map (ab_cv K)))
      unfold ab_len at hz
      split at hz
      · rename_i ho
        subst ho
        obtain rfl := Option.some.inj hz
        rw [ab_cv_r K (by decide)]
        exact va_slen hx hb (b := ab_ad K 3000001) (show va_X (ks K) (kX K).1 (kX K).2 s s.heap from hE.2.1.2.2.2.2.2) (Nat.lt_of_lt_of_le hE.2.2.2.1 hE.2.2.2.2) (Nat.not_le.mpr hE.2.2.2.1) hS hd hG
      · split at hz
        · split at hz
          · obtain rfl := Option.some.inj hz
            rename_i ho1 ho2
            obtain ⟨e1, hlt⟩ := ab_ad_v K o ho1 ho2
            rw [e1]
            have hT := (hE.2.1.1 (o - 2000000) hlt).2.2.2
            clear e1 hlt
            generalize o - 2000000 = k at hT hG ⊢
            exact va_tlen hx hb hT hS rfl hd hG
          · cases hz
        · split at hz
          · rename_i t n2 hsh
            split at hz
            · rename_i ht
              obtain rfl := Option.some.inj hz
              have ho : o < sh.length := (List.getElem?_eq_some_iff.mp hsh).1
              have hb2 := hw.1
              rw [ab_cv_c K (ab_lt ho hb2)]
              have he : ∃ x : vp_A, ab_ce1 K D o t n2 = .inl (kca K t, x) ∧ x.1 = n2 := by
                unfold ab_ce1
                rw [if_neg (by omega)]
                split
                · exact ⟨_, rfl, rfl⟩
                · split
                  · exact ⟨_, rfl, rfl⟩
                  · exact ⟨_, rfl, rfl⟩
              obtain ⟨x, hx1, hx2⟩ := he
              have hat := ab_wd_at (K := K) (D := D) hsh
              rw [hx1] at hat
              exact va_alen hx hb (hE.k1 t ht.1 ht.2) hw.2 o 0 hat rfl (by rw [hx2]) hd hG
            · cases hz
          · cases hz
    · cases h2
  · cases h2
theorem ab_w_ldc {sh : abZ} {pc len ix : Nat} {lv : abL} {st : List Value} {D : abD} {S : abS} {a : List Nat} (hx : p.tables.exec = Jvm.exec) (hb : c.code = cc) (hown : s.vm.findClass own = some m.cls) (hts : ∀ w ∈ ab_tb, w.before args s = true) (hE : ab_E K s s.heap) (hd : decode cc pc = .ok (.ldc ix, len)) (hs : ab_g len 2 (match a with | [0, g, v, _] => some (pc + 2, lv, .int (ab_i32 g v) :: st, D) | [1, j, _] => if j < 32 then some (pc + 2, lv, .ref (1000000 + j) :: st, D) else none | _ => none) = some S) (ha : ab_aok own (.ldc ix) a = true) (G : ab_G K p l e R s m args below meth c cells slots Q nL sh S) : ab_G K p l e R s m args below meth c cells slots Q nL sh (pc, lv, st, D) := by
  obtain ⟨rfl, h2⟩ := ab_g_s hs
  split at h2
  · rename_i g v pl
    obtain rfl := Option.some.inj h2
    have h0 : lw_tbl[pl]? = some (.constant own ix (ab_i32 g v)) := of_decide_eq_true (show decide _ = true from ha)
    exact fun ls H locs hl hw hS => lv_ldc hx hb hown (hts _ (ab_tb_of h0 rfl)) hd (G ls H locs hl hw hS)
  · rename_i j pl
    split at h2
    · rename_i hj
      obtain rfl := Option.some.inj h2
      have h0 : lw_tbl[pl]? = some (.stringRef own ix (ab_str.getD j "")) := of_decide_eq_true (show decide _ = true from ha)
      intro ls H locs hl hw hS
      have hG := G ls H locs hl hw hS
      simp only [List.map_cons] at hG
      have e1 : ab_cv K (.ref (1000000 + j)) = .ref (kK K j) := by
        rw [ab_cv_r K (by omega), ab_ad, if_neg (by omega), if_pos (by omega), show 1000000 + j - 1000000 = j by omega]
      rw [e1] at hG
      · exact va_ldcS hx hb hown (hE.1.2.2.1 own ix j pl hj h0) hd hG
    · cases h2
  · cases h2
theorem ab_w_ldc_w {sh : abZ} {pc len ix : Nat} {lv : abL} {st : List Value} {D : abD} {S : abS} {a : List Nat} (hx : p.tables.exec = Jvm.exec) (hb : c.code = cc) (hown : s.vm.findClass own = some m.cls) (hts : ∀ w ∈ ab_tb, w.before args s = true) (hE : ab_E K s s.heap) (hd : decode cc pc = .ok (.ldc_w ix, len)) (hs : ab_g len 3 (match a with | [0, g, v, _] => some (pc + 3, lv, .int (ab_i32 g v) :: st, D) | [1, j, _] => if j < 32 then some (pc + 3, lv, .ref (1000000 + j) :: st, D) else none | _ => none) = some S) (ha : ab_aok own (.ldc_w ix) a = true) (G : ab_G K p l e R s m args below meth c cells slots Q nL sh S) : ab_G K p l e R s m args below meth c cells slots Q nL sh (pc, lv, st, D) := by
  obtain ⟨rfl, h2⟩ := ab_g_s hs
  split at h2
  · rename_i g v pl
    obtain rfl := Option.some.inj h2
    have h0 : lw_tbl[pl]? = some (.constant own ix (ab_i32 g v)) := of_decide_eq_true (show decide _ = true from ha)
    exact fun ls H locs hl hw hS => lv_ldcw hx hb hown (hts _ (ab_tb_of h0 rfl)) hd (G ls H locs hl hw hS)
  · rename_i j pl
    split at h2
    · rename_i hj
      obtain rfl := Option.some.inj h2
      have h0 : lw_tbl[pl]? = some (.stringRef own ix (ab_str.getD j "")) := of_decide_eq_true (show decide _ = true from ha)
      intro ls H locs hl hw hS
      have hG := G ls H locs hl hw hS
      simp only [List.map_cons] at hG
      have e1 : ab_cv K (.ref (1000000 + j)) = .ref (kK K j) := by
        rw [ab_cv_r K (by omega), ab_ad, if_neg (by omega), if_pos (by omega), show 1000000 + j - 1000000 = j by omega]
      rw [e1] at hG
      · have hZ := hE.1.2.2.1 own ix j pl hj h0
        intro T hT X
        obtain ⟨t, a1, b1⟩ := hG T hT X
        exact ⟨t, X.ldcStringW hx hown (text := ab_str.getD j "") (a := kK K j) hZ.1 hZ.2 (g := F0 m pc ls (st.map (ab_cv K))) rfl (by rw [hb]; exact hd) t a1, b1⟩
    · cases h2
  · cases h2
theorem ab_w_ldc2 {sh : abZ} {pc len ix : Nat} {lv : abL} {st : List Value} {D : abD} {S : abS} {a : List Nat} (hx : p.tables.exec = Jvm.exec) (hb : c.code = cc) (hown : s.vm.findClass own = some m.cls) (hts : ∀ w ∈ ab_tb, w.before args s = true) (hE : ab_E K s s.heap) (hd : decode cc pc = .ok (.ldc2_w ix, len)) (hs : ab_g len 3 (match a with | [g, v, _] => some (pc + 3, lv, .long (ab_i64 g v) :: st, D) | _ => none) = some S) (ha : ab_aok own (.ldc2_w ix) a = true) (G : ab_G K p l e R s m args below meth c cells slots Q nL sh S) : ab_G K p l e R s m args below meth c cells slots Q nL sh (pc, lv, st, D) := by
  obtain ⟨rfl, h2⟩ := ab_g_s hs
  split at h2
  · rename_i g v pl
    obtain rfl := Option.some.inj h2
    have h0 : lw_tbl[pl]? = some (.constantLong own ix (ab_i64 g v)) := of_decide_eq_true (show decide _ = true from ha)
    exact fun ls H locs hl hw hS => lv_ldc2 hx hb hown (hts _ (ab_tb_of h0 rfl)) hd (G ls H locs hl hw hS)
  · cases h2
theorem ab_w_gets {sh : abZ} {pc len ix : Nat} {lv : abL} {st : List Value} {D : abD} {S : abS} {a : List Nat} (hx : p.tables.exec = Jvm.exec) (hb : c.code = cc) (hown : s.vm.findClass own = some m.cls) (hts : ∀ w ∈ ab_tb, w.before args s = true) (hE : ab_E K s s.heap) (hd : decode cc pc = .ok (.getstatic ix, len)) (hs : ab_g len 3 (match a with | [0, _] => some (pc + 3, lv, .ref 3000000 :: st, D) | [1, _] => some (pc + 3, lv, .int 1 :: st, D) | [2, _] => some (pc + 3, lv, .ref 3000002 :: st, D) | [3, _] => some (pc + 3, lv, .ref 3000000 :: st, D) | _ => none) = some S) (ha : ab_aok own (.getstatic ix) a = true) (G : ab_G K p l e R s m args below meth c cells slots Q nL sh S) : ab_G K p l e R s m args below meth c cells slots Q nL sh (pc, lv, st, D) := by
  obtain ⟨rfl, h2⟩ := ab_g_s hs
  split at h2
  · rename_i pl
    obtain rfl := Option.some.inj h2
    have h0 : lw_tbl[pl]? = some (.fieldLink own ix "SignTurn" "WEIGHTS" "[I") := of_decide_eq_true (show decide _ = true from ha)
    exact fun ls H locs hl hw hS => va_gets hx hb hE.2.1.2.1 hS hown (hts _ (ab_tb_of h0 rfl)) (fun _ h9 => h9) hd (G ls H locs hl hw hS)
  · rename_i pl
    obtain rfl := Option.some.inj h2
    have h0 : lw_tbl[pl]? = some (.fieldLink own ix "java/lang/String" "COMPACT_STRINGS" "Z") := of_decide_eq_true (show decide _ = true from ha)
    exact fun ls H locs hl hw hS => va_gets hx hb hE.2.1.2.2.2.1 hS hown (hts _ (ab_tb_of h0 rfl)) (fun _ h9 => h9) hd (G ls H locs hl hw hS)
  · rename_i pl
    obtain rfl := Option.some.inj h2
    have h0 : lw_tbl[pl]? = some (.fieldLink own ix "jdk/internal/util/Preconditions" "SIOOBE_FORMATTER" "Ljava/util/function/BiFunction;") := of_decide_eq_true (show decide _ = true from ha)
    exact fun ls H locs hl hw hS => va_gets hx hb hE.2.1.2.2.2.2.1 hS hown (hts _ (ab_tb_of h0 rfl)) (fun _ h9 => h9) hd (G ls H locs hl hw hS)
  · rename_i pl
    obtain rfl := Option.some.inj h2
    have h0 : lw_tbl[pl]? = some (.fieldLinkNest own ix "SignTurn" "WEIGHTS" "[I" "SignTurn") := of_decide_eq_true (show decide _ = true from ha)
    exact fun ls H locs hl hw hS => va_getsN hx hb hE.2.1.2.1 hS hown (va_Nw.use rfl (hE.1.2.2.2.1 _ (List.mem_of_getElem? h0) rfl)) (fun _ h9 => h9) hd (G ls H locs hl hw hS)
  · cases h2
end AB2
