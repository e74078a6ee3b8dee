/-! Rows of cells: fields, arrays, constants. -/
def ab_tb : List Cond := lw_tbl.filter goodWord
theorem ab_tb_of {pl : Nat} {w : Cond} (h : lw_tbl[pl]? = some w) (hg : goodWord w = true) : w ∈ ab_tb := List.mem_filter.mpr ⟨List.mem_of_getElem? h, hg⟩
def ab_wsOk (q : vw_C) : Bool := (u_ws q.1 q.2.1 q.2.2).all (fun w => decide (w ∈ lw_tbl) && goodWord w)
theorem ab_cl_ws : ab_cl.all ab_wsOk = true := by decide +kernel
theorem ab_cl_in {ci : Nat} {q : vw_C} (h : ab_cl[ci]? = some q) : ∀ w ∈ u_ws q.1 q.2.1 q.2.2, w ∈ ab_tb := by
  intro w hw
  have h1 := List.all_eq_true.mp (List.all_eq_true.mp ab_cl_ws q (List.mem_of_getElem? h)) w hw
  simp only [Bool.and_eq_true, decide_eq_true_eq] at h1
  exact List.mem_filter.mpr ⟨h1.1, h1.2⟩
theorem ab_cl_lt {ci : Nat} {q : vw_C} (h : ab_cl[ci]? = some q) : ci < 13 := (List.getElem?_eq_some_iff.mp h).1
theorem ab_fok_s {own : String} {ix ci k pl : Nat} (h : ab_fok own ix ci k pl = true) : ∃ q, ab_cl[ci]? = some q ∧ k < q.2.2 ∧ lw_tbl[pl]? = some (.fieldLink own ix (q.2.1 k).1 (q.2.1 k).2.1 (q.2.1 k).2.2.1) := by
  unfold ab_fok at h
  split at h
  · rename_i q hq
    simp only [Bool.and_eq_true, decide_eq_true_eq, ab_at] at h
    exact ⟨q, hq, h.1, h.2⟩
  · cases h
/-- types of the fields, by their kinds -/
def ab_ftOk (q : vw_C) (ty : Nat → FieldType) (ks : List Nat) : Bool := (List.range q.2.2).all (fun k => decide (parseFieldDescriptor (q.2.1 k).2.2.1 = some (ty k)) && decide ((q.2.1 k).1 = q.1) && (match ks.getD k 0 with | 0 => decide (ty k = .int ∧ (q.2.1 k).2.2.2 = false) | 1 => decide (ty k = .long ∧ (q.2.1 k).2.2.2 = false) | 2 => refKind (ty k) && (q.2.1 k).2.2.2 | _ => decide (ty k = .boolean ∧ (q.2.1 k).2.2.2 = false))) && (List.range q.2.2).all (fun a => (List.range q.2.2).all (fun b => a == b || decide ((q.2.1 a).2.1 ≠ (q.2.1 b).2.1)))
theorem ab_ft : ((ab_cl.zip ab_tyf).zip ab_fk).all (fun z => ab_ftOk z.1.1 z.1.2 z.2) = true := by decide +kernel
theorem ab_ft_at {ci : Nat} {q : vw_C} (h : ab_cl[ci]? = some q) : ∃ ty : Nat → FieldType, (∀ k, k < q.2.2 → parseFieldDescriptor (q.2.1 k).2.2.1 = some (ty k)) ∧ (∀ a, a < q.2.2 → ∀ b, b < q.2.2 → a ≠ b → (q.2.1 a).2.1 ≠ (q.2.1 b).2.1) ∧ ∀ k, k < q.2.2 → (q.2.1 k).1 = q.1 ∧ (ab_kd ci k = 0 → ty k = .int ∧ (q.2.1 k).2.2.2 = false) ∧ (ab_kd ci k = 1 → ty k = .long ∧ (q.2.1 k).2.2.2 = false) ∧ (ab_kd ci k = 2 → refKind (ty k) = true ∧ (q.2.1 k).2.2.2 = true) ∧ (ab_kd ci k = 3 → ty k = .boolean ∧ (q.2.1 k).2.2.2 = false) := by
  have hc := ab_cl_lt h
  have h1 : ab_tyf[ci]? = some (ab_tyf.getD ci tyX0) := by
    have : ci < ab_tyf.length := hc
    simp [this]
  have h2 : ab_fk[ci]? = some (ab_fk.getD ci []) := by
    have : ci < ab_fk.length := hc
    simp [this]
  have h3 : ((ab_cl.zip ab_tyf).zip ab_fk)[ci]? = some ((q, ab_tyf.getD ci tyX0), ab_fk.getD ci []) := by
    rw [List.getElem?_zip_eq_some]
    exact ⟨by rw [List.getElem?_zip_eq_some]; exact ⟨h, h1⟩, h2⟩
  have h4 := List.all_eq_true.mp ab_ft _ (List.mem_of_getElem? h3)
  unfold ab_ftOk at h4
  rw [Bool.and_eq_true] at h4
  obtain ⟨h5, h6⟩ := h4
  refine ⟨ab_tyf.getD ci tyX0, fun k hk => ?_, fun a ha b hb hne => ?_, fun k hk => ?_⟩
  · have := List.all_eq_true.mp h5 k (List.mem_range.mpr hk)
    simp only [Bool.and_eq_true, decide_eq_true_eq] at this
    exact this.1.1
  · have := List.all_eq_true.mp (List.all_eq_true.mp h6 a (List.mem_range.mpr ha)) b (List.mem_range.mpr hb)
    simp only [Bool.or_eq_true, beq_iff_eq, decide_eq_true_eq] at this
    rcases this with h | h
    · exact absurd h hne
    · exact h
  · have h7 := List.all_eq_true.mp h5 k (List.mem_range.mpr hk)
    simp only [Bool.and_eq_true, decide_eq_true_eq] at h7
    obtain ⟨⟨-, h8⟩, h9⟩ := h7
    refine ⟨h8, fun g => ?_, fun g => ?_, fun g => ?_, fun g => ?_⟩ <;> (unfold ab_kd at g; rw [g] at h9; simpa using h9)
theorem ab_own_ok : (ab_cl.zip ab_own).all (fun z => decide (z.1.1 = z.2)) = true := by decide +kernel
theorem ab_own_cl {ci : Nat} {q : vw_C} (h : ab_cl[ci]? = some q) : q.1 = ab_own.getD ci "" := by
  have hc := ab_cl_lt h
  have h2 : ab_own[ci]? = some (ab_own.getD ci "") := by
    have : ci < ab_own.length := Nat.lt_of_lt_of_le hc (by decide)
    simp [this]
  have h3 : (ab_cl.zip ab_own)[ci]? = some (q, ab_own.getD ci "") := by
    rw [List.getElem?_zip_eq_some]
    exact ⟨h, h2⟩
  exact of_decide_eq_true (List.all_eq_true.mp ab_own_ok _ (List.mem_of_getElem? h3))
theorem ab_E.k1 {K : abK} {U : State} {H : Heap} (h : ab_E K U H) (t : Nat) (a : 100 ≤ t) (b : t < 106) : va_K (kD K) ab_cl [(kca K t, ab_aty t)] U :=
  ⟨h.1.1.1, fun k q hk => by
    cases k with
    | zero => cases hk; exact h.1.2.1 t a b
    | succ k => simp at hk⟩
theorem ab_lt {o n : Nat} (h : o < n) (h2 : n ≤ 1000) : o < 1000000 := Nat.lt_of_lt_of_le h (Nat.le_trans h2 (by decide))
theorem ab_ad_s (K : abK) (o : Nat) (h : 1000000 ≤ o ∧ o < 1000032) : ab_cv K (.ref o) = .ref (kK K (o - 1000000)) ∧ ab_cv K (.ref (o + 1000000)) = .ref (kV K (o - 1000000)) ∧ o - 1000000 < 32 := by
  refine ⟨?_, ?_, by omega⟩
  · rw [ab_cv_r K (by omega), ab_ad, if_neg (by omega), if_pos (by omega)]
  · rw [ab_cv_r K (by omega), ab_ad, if_neg (by omega), if_neg (by omega), if_pos (by omega), show o + 1000000 - 2000000 = o - 1000000 by omega]
theorem ab_ad_v (K : abK) (o : Nat) (h : 2000000 ≤ o) (h2 : o < 2000032) : ab_cv K (.ref o) = .ref (kV K (o - 2000000)) ∧ o - 2000000 < 32 := by
  refine ⟨?_, by omega⟩
  rw [ab_cv_r K (by omega), ab_ad, if_neg (by omega), if_neg (by omega), if_pos (by omega)]
section AB1
variable {K : abK} {p : Program} {l : Launch} {e : Env} {R : Room} {s : State} {m : MethodId} {args : Array Value} {below : List Frame} {meth : Method} {c : Code} {cells slots : Nat} {Q : State → Prop} {cc : ByteArray} {nL : Nat} {own : String}
theorem ab_w_get {sh : abZ} {pc len ix : Nat} {lv : abL} {st : List Value} {D : abD} {S : abS} {a : List Nat} (hx : p.tables.exec = Jvm.exec) (hb : c.code = cc) (hown : s.vm.findClass own = some m.cls) (hts : ∀ w ∈ ab_tb, w.before args s = true) (hE : ab_E K s s.heap) (hd : decode cc pc = .ok (.getfield ix, len)) (ha : ab_aok own (.getfield ix) a = true) (hs : ab_g len 3 (match st with | .ref o :: r => (match ab_get sh D a o with | some v => some (pc + 3, lv, v :: r, D) | none => none) | _ => none) = some S) (G : ab_G K p l e R s m args below meth c cells slots Q nL sh S) : ab_G K p l e R s m args below meth c cells slots Q nL sh (pc, lv, st, D) := by
  obtain ⟨rfl, h2⟩ := ab_g_s hs
  split at h2
  · rename_i o r
    split at h2
    · rename_i v hg
      obtain rfl := Option.some.inj h2
      intro ls H locs hl hw hS
      have hG := G ls H locs hl hw hS
      simp only [List.map_cons] at hG ⊢
      unfold ab_get at hg
      split at hg
      · rename_i ci k pl
        split at hg
        · rename_i t n hsh
          split at hg
          · rename_i hc
            obtain ⟨rfl, hk⟩ := hc
            obtain ⟨q, hq1, hq2, hq3⟩ := ab_fok_s (ix := ix) (pl := pl) (show ab_fok own ix t k pl = true from ha)
            have ht := ab_cl_lt hq1
            have hat := ab_wd_at (K := K) (D := D) hsh
            simp only [ab_ce1, if_pos ht] at hat
            have ho : o < sh.length := (List.getElem?_eq_some_iff.mp hsh).1
            have hb2 := hw.1
            have hv : ab_cv K v = ab_fv K D t o k := by
              unfold ab_fv
              split at hg
              · rename_i hkd; rw [hkd]; obtain rfl := Option.some.inj hg; rfl
              · rename_i hkd
                rw [hkd]
                split at hg
                · cases hg
                · rename_i r2 hr2
                  split at hg
                  · obtain rfl := Option.some.inj hg
                    rw [hr2, ab_cv_c K (by assumption)]
                    rfl
                  · cases hg
              · obtain rfl := Option.some.inj hg
                split
                · contradiction
                · contradiction
                · rfl
            show W p l e R s m args below meth c H locs cells slots Q (F0 m pc ls (ab_cv K (.ref o) :: r.map (ab_cv K)))
            rw [ab_cv_c K (ab_lt ho hb2)]
            refine va_get (D := kD K) (ci := t) (v := ab_cv K v) (C := q.1) (T := q.2.1) (N := q.2.2) hx hb hts (ab_cl_in hq1) hown hE.1.1 hw.2 o hat hq1 k hq2 (hts _ (ab_tb_of hq3 rfl)) (fun _ h9 => h9) ?_ hd hG
            rw [List.getElem?_map, List.getElem?_range hk, hv]
            rfl
          · cases hg
        · cases hg
      · rename_i j pl
        split at hg
        · rename_i ho
          have h0 : lw_tbl[pl]? = some (.fieldLink own ix "java/lang/String" (if j = 0 then "value" else "coder") (if j = 0 then "[B" else "B")) := of_decide_eq_true (show decide _ = true from ha)
          have hw1 := hts _ (ab_tb_of h0 rfl)
          obtain ⟨e1, e2, hlt⟩ := ab_ad_s K o ho
          have hK := hE.2.1.1 (o - 1000000) hlt
          show W p l e R s m args below meth c H locs cells slots Q (F0 m pc ls (ab_cv K (.ref o) :: r.map (ab_cv K)))
          rw [e1]
          split at hg
          · rename_i hj
            obtain rfl := Option.some.inj hg
            subst hj
            rw [e2] at hG
            exact vk_getf hx hb hK.2.2.1 hS hown hw1 (fun _ h9 => h9) hd hG
          · rename_i hj
            obtain rfl := Option.some.inj hg
            rw [if_neg hj, if_neg hj] at hw1
            exact vk_getf hx hb hK.2.1 hS hown hw1 (fun _ h9 => h9) hd hG
        · cases hg
      · cases hg
    · cases h2
  · cases h2
theorem ab_uI_o (f : Nat → Nat → Int32) (o k : Nat) (v : Int32) : ab_uI f o k v o = upd (f o) k v := by simp [ab_uI]
theorem ab_uI_n (f : Nat → Nat → Int32) {o a : Nat} (k : Nat) (v : Int32) (h : a ≠ o) : ab_uI f o k v a = f a := by simp [ab_uI, h]
theorem ab_uL_o (f : Nat → Nat → Int64) (o k : Nat) (v : Int64) : ab_uL f o k v o = vp_updL (f o) k v := by simp [ab_uL]
theorem ab_uL_n (f : Nat → Nat → Int64) {o a : Nat} (k : Nat) (v : Int64) (h : a ≠ o) : ab_uL f o k v a = f a := by simp [ab_uL, h]
theorem ab_uR_o (f : Nat → Nat → Nat) (o k : Nat) (v : Nat) : ab_uR f o k v o = fun j => if j = k then v else f o j := by simp [ab_uR]
theorem ab_uR_n (f : Nat → Nat → Nat) {o a : Nat} (k : Nat) (v : Nat) (h : a ≠ o) : ab_uR f o k v a = f a := by simp [ab_uR, h]
/-- a field's change in the list of an object's fields -/
theorem ab_fs_set {K : abK} {D D' : abD} {t o n k : Nat} {v : Value} (h1 : ab_fv K D' t o k = v) (h2 : ∀ j, j ≠ k → ab_fv K D' t o j = ab_fv K D t o j) : ((List.range n).map (ab_fv K D t o)).set k v = (List.range n).map (ab_fv K D' t o) := by
  apply List.ext_getElem?
  intro i
  by_cases hi : i = k
  · subst hi
    by_cases hl : i < n
    · rw [List.getElem?_set_self (by simpa using hl), List.getElem?_map, List.getElem?_range hl, Option.map_some, h1]
    · rw [List.getElem?_eq_none (by simp; omega), List.getElem?_eq_none (by simp; omega)]
  · rw [List.getElem?_set_ne (Ne.symm hi), List.getElem?_map, List.getElem?_map]
    by_cases hl : i < n
    · rw [List.getElem?_range hl, Option.map_some, Option.map_some, h2 i hi]
    · rw [List.getElem?_eq_none (by simp; omega)]
      rfl
theorem ab_put_wd {sh : abZ} {D D' : abD} {t o n k : Nat} {v : Value} (hsh : sh[o]? = some (t, n)) (ht : t < 13) (h1 : ab_fv K D' t o k = v) (h2 : ∀ j, j ≠ k → ab_fv K D' t o j = ab_fv K D t o j) (h3 : ∀ a, a ≠ o → D'.1 a = D.1 a ∧ D'.2.1 a = D.2.1 a ∧ D'.2.2 a = D.2.2 a) : (ab_wd K sh D).set o (kb K + o, .inr (t, ((List.range n).map (ab_fv K D t o)).set k v)) = ab_wd K sh D' := by
  refine ab_wd_set (List.getElem?_eq_some_iff.mp hsh).1 ?_ (fun a ha => ab_ce_other (h3 a ha).1 (h3 a ha).2.1 (h3 a ha).2.2)
  rw [ab_fs_set h1 h2]
  simp only [ab_ce, hsh, ab_ce1, if_pos ht]
theorem ab_w_put {sh : abZ} {pc len ix ini : Nat} {lv : abL} {st : List Value} {D : abD} {S : abS} {a : List Nat} (hx : p.tables.exec = Jvm.exec) (hb : c.code = cc) (hown : s.vm.findClass own = some m.cls) (hts : ∀ w ∈ ab_tb, w.before args s = true) (hE : ab_E K s s.heap) (hini : ini < 13 → meth.name = "<init>" ∧ own = ab_own.getD ini "") (hd : decode cc pc = .ok (.putfield ix, len)) (ha : ab_aok own (.putfield ix) a = true) (hs : ab_g len 3 (match st with | v :: .ref o :: r => (match ab_put ini sh D a o v with | some D' => some (pc + 3, lv, r, D') | none => none) | _ => none) = some S) (G : ab_G K p l e R s m args below meth c cells slots Q nL sh S) : ab_G K p l e R s m args below meth c cells slots Q nL sh (pc, lv, st, D) := by
  obtain ⟨rfl, h2⟩ := ab_g_s hs
  split at h2
  · rename_i v o r
    split at h2
    · rename_i D' hg
      obtain rfl := Option.some.inj h2
      intro ls H locs hl hw hS
      unfold ab_put at hg
      split at hg
      · rename_i ci k pl
        split at hg
        · rename_i t n hsh
          split at hg
          · rename_i hc
            obtain ⟨rfl, hk⟩ := hc
            obtain ⟨q, hq1, hq2, hq3⟩ := ab_fok_s (ix := ix) (pl := pl) (show ab_fok own ix t k pl = true from ha)
            have ht := ab_cl_lt hq1
            have hat := ab_wd_at (K := K) (D := D) hsh
            simp only [ab_ce1, if_pos ht] at hat
            have ho : o < sh.length := (List.getElem?_eq_some_iff.mp hsh).1
            have hb2 := hw.1
            obtain ⟨ty, hty, hnm, hft⟩ := ab_ft_at hq1
            obtain ⟨hdc, hk0, hk1, hk2, hk3⟩ := hft k hq2
            have hlen : k < ((List.range n).map (ab_fv K D t o)).length := by simpa using hk
            have hadr : ab_cv K (.ref o) = .ref (kb K + o) := ab_cv_c K (ab_lt ho hb2)
            split at hg
            · rename_i x
              split at hg
              · rename_i hkd
                obtain rfl := Option.some.inj hg
                show W p l e R s m args below meth c H locs cells slots Q (F0 m pc ls (.int x :: ab_cv K (.ref o) :: r.map (ab_cv K)))
                rw [hadr]
                have hne : ∀ j, j ≠ k → ab_fv K (ab_uI D.1 o k x, D.2) t o j = ab_fv K D t o j := by
                  intro j hj
                  simp only [ab_fv, ab_uI_o]
                  split
                  · rfl
                  · rfl
                  · simp [upd, hj]
                have heq : ab_fv K (ab_uI D.1 o k x, D.2) t o k = .int x := by
                  have hkk : ab_kd t k = 0 ∨ ab_kd t k = 3 := by rcases hkd with h | h; exact Or.inl h; exact Or.inr h.1
                  rcases hkk with h | h <;> simp [ab_fv, h, ab_uI_o, upd]
                have hset := ab_put_wd (K := K) (D := D) (D' := (ab_uI D.1 o k x, D.2)) hsh ht heq hne (fun a h => ⟨ab_uI_n _ _ _ h, rfl, rfl⟩)
                rcases hkd with hkd | ⟨hkd, hx01⟩
                · refine va_put (D := kD K) (ci := t) (v := .int x) (ty := .int) (C := q.1) (T := q.2.1) (N := q.2.2) hx hb hts (ab_cl_in hq1) ty hty hnm hown hE.1.1 hw.2 (ab_wd_D K sh D) hS o hat hq1 k hq2 (hts _ (ab_tb_of hq3 rfl)) (fun _ h9 => h9) (hk0 hkd).2 (by rw [hty k hq2, (hk0 hkd).1]) rfl rfl hlen hd (fun H1 locs1 hP1 hD1 hS1 => G ls H1 locs1 hl ⟨hb2, hset ▸ hP1⟩ hS1)
                · refine va_put (D := kD K) (ci := t) (v := .int x) (ty := .boolean) (C := q.1) (T := q.2.1) (N := q.2.2) hx hb hts (ab_cl_in hq1) ty hty hnm hown hE.1.1 hw.2 (ab_wd_D K sh D) hS o hat hq1 k hq2 (hts _ (ab_tb_of hq3 rfl)) (fun _ h9 => h9) (hk3 hkd).2 (by rw [hty k hq2, (hk3 hkd).1]) (by rcases hx01 with h | h <;> subst h <;> rfl) (by rcases hx01 with h | h <;> subst h <;> rfl) hlen hd (fun H1 locs1 hP1 hD1 hS1 => G ls H1 locs1 hl ⟨hb2, hset ▸ hP1⟩ hS1)
              · cases hg
            · rename_i x
              split at hg
              · rename_i hkd
                obtain rfl := Option.some.inj hg
                show W p l e R s m args below meth c H locs cells slots Q (F0 m pc ls (.long x :: ab_cv K (.ref o) :: r.map (ab_cv K)))
                rw [hadr]
                have hne : ∀ j, j ≠ k → ab_fv K (D.1, ab_uL D.2.1 o k x, D.2.2) t o j = ab_fv K D t o j := by
                  intro j hj
                  simp only [ab_fv, ab_uL_o]
                  split
                  · simp [vp_updL, hj]
                  · rfl
                  · rfl
                have heq : ab_fv K (D.1, ab_uL D.2.1 o k x, D.2.2) t o k = .long x := by simp [ab_fv, hkd, ab_uL_o, vp_updL]
                have hset := ab_put_wd (K := K) (D := D) (D' := (D.1, ab_uL D.2.1 o k x, D.2.2)) hsh ht heq hne (fun a h => ⟨rfl, ab_uL_n _ _ _ h, rfl⟩)
                exact va_put (D := kD K) (ci := t) (v := .long x) (ty := .long) (C := q.1) (T := q.2.1) (N := q.2.2) hx hb hts (ab_cl_in hq1) ty hty hnm hown hE.1.1 hw.2 (ab_wd_D K sh D) hS o hat hq1 k hq2 (hts _ (ab_tb_of hq3 rfl)) (fun _ h9 => h9) (hk1 hkd).2 (by rw [hty k hq2, (hk1 hkd).1]) rfl rfl hlen hd (fun H1 locs1 hP1 hD1 hS1 => G ls H1 locs1 hl ⟨hb2, hset ▸ hP1⟩ hS1)
              · cases hg
            · rename_i r2
              split at hg
              · rename_i hkd
                obtain ⟨hkd, hin, hr2⟩ := hkd
                obtain rfl := Option.some.inj hg
                show W p l e R s m args below meth c H locs cells slots Q (F0 m pc ls (ab_cv K (.ref r2) :: ab_cv K (.ref o) :: r.map (ab_cv K)))
                rw [hadr, ab_cv_c K hr2]
                have hne : ∀ j, j ≠ k → ab_fv K (D.1, D.2.1, ab_uR D.2.2 o k (r2 + 1)) t o j = ab_fv K D t o j := by
                  intro j hj
                  simp only [ab_fv, ab_uR_o]
                  split
                  · rfl
                  · simp [hj]
                  · rfl
                have heq : ab_fv K (D.1, D.2.1, ab_uR D.2.2 o k (r2 + 1)) t o k = .ref (kb K + r2) := by simp [ab_fv, hkd, ab_uR_o, ab_rv]
                have hset := ab_put_wd (K := K) (D := D) (D' := (D.1, D.2.1, ab_uR D.2.2 o k (r2 + 1))) hsh ht heq hne (fun a h => ⟨rfl, rfl, ab_uR_n _ _ _ h⟩)
                have hnar : narrow (ty k) (.ref (kb K + r2)) = .ref (kb K + r2) := by
                  have := (hk2 hkd).1
                  cases hty2 : ty k <;> rw [hty2] at this <;> first | rfl | (simp [refKind] at this)
                have hfit : fits (ty k) (.ref (kb K + r2)) = true := by
                  have := (hk2 hkd).1
                  cases hty2 : ty k <;> rw [hty2] at this <;> first | rfl | (simp [refKind] at this)
                have hnm2 := hini (by omega)
                have how : (q.2.1 k).1 = own := by
                  rw [hdc, hnm2.2, hin]
                  exact ab_own_cl hq1
                exact va_putF (D := kD K) (ci := t) (v := .ref (kb K + r2)) (ty := ty k) (C := q.1) (T := q.2.1) (N := q.2.2) hx hb hts (ab_cl_in hq1) ty hty hnm hown hE.1.1 hw.2 (ab_wd_D K sh D) hS o hat hq1 k hq2 (hts _ (ab_tb_of hq3 rfl)) (fun _ h9 => h9) (hk2 hkd).2 hnm2.1 how (hty k hq2) hnar hfit hlen hd (fun H1 locs1 hP1 hD1 hS1 => G ls H1 locs1 hl ⟨hb2, hset ▸ hP1⟩ hS1)
              · cases hg
            · cases hg
          · cases hg
        · cases hg
      · cases hg
    · cases h2
  · cases h2
/-- one array's change -/
theorem ab_arr_set {sh : abZ} {D D' : abD} {t o n : Nat} {x : va_E} (hsh : sh[o]? = some (t, n)) (h1 : ab_ce1 K D' o t n = x) (h3 : ∀ a, a ≠ o → D'.1 a = D.1 a ∧ D'.2.1 a = D.2.1 a ∧ D'.2.2 a = D.2.2 a) : (ab_wd K sh D).set o (kb K + o, x) = ab_wd K sh D' := by
  refine ab_wd_set (List.getElem?_eq_some_iff.mp hsh).1 ?_ (fun a ha => ab_ce_other (h3 a ha).1 (h3 a ha).2.1 (h3 a ha).2.2)
  simp only [ab_ce, hsh, h1]
theorem ab_w_iaload {sh : abZ} {pc len : Nat} {lv : abL} {st : List Value} {D : abD} {S : abS} (hx : p.tables.exec = Jvm.exec) (hb : c.code = cc) (hE : ab_E K s s.heap) (hd : decode cc pc = .ok (.iaload, len)) (hs : ab_g len 1 (match st with | .int j :: .ref o :: r => (match ab_ai (kX K) sh D o with | some z => if j < 0 ∨ z.1 ≤ j.toNatClampNeg then none else some (pc + 1, lv, .int (z.2 j.toNatClampNeg) :: r, D) | none => none) | _ => none) = some S) (G : ab_G K p l e R s m args below meth c cells slots Q nL sh S) : ab_G K p l e R s m args below meth c cells slots Q nL sh (pc, lv, st, D) := by
  obtain ⟨rfl, h2⟩ := ab_g_s hs
  split at h2
  · rename_i j o r
    split at h2
    · rename_i z hz
      split at h2
      · cases h2
      · rename_i hin
        obtain rfl := Option.some.inj h2
        intro ls H locs hl hw hS
        have hG := G ls H locs hl hw hS
        show W p l e R s m args below meth c H locs cells slots Q (F0 m pc ls (.int j :: ab_cv K (.ref o) :: r.map (ab_cv K)))
        unfold ab_ai at hz
        split at hz
        · rename_i ho
          subst ho
          obtain rfl := Option.some.inj hz
          rw [ab_cv_r K (by decide)]
          exact va_ti hx hb (t := ab_ad K 3000000) (show va_T .int (kw K) 7 (fun j => .int (ab_wt.getD j 0)) (ab_A K) s s.heap from hE.2.1.2.2.1) hS hin rfl hd hG
        · split at hz
          · rename_i ho
            subst ho
            obtain rfl := Option.some.inj hz
            rw [ab_cv_r K (by decide)]
            exact va_sld hx hb (b := ab_ad K 3000001) (show va_X (ks K) (kX K).1 (kX K).2 s s.heap from hE.2.1.2.2.2.2.2) (Nat.lt_of_lt_of_le hE.2.2.2.1 hE.2.2.2.2) (Nat.not_le.mpr hE.2.2.2.1) hS hin hd hG
          · split at hz
            · rename_i n hsh
              obtain rfl := Option.some.inj hz
              have ho : o < sh.length := (List.getElem?_eq_some_iff.mp hsh).1
              have hb2 := hw.1
              rw [ab_cv_c K (ab_lt ho hb2)]
              exact va_iald hx hb (hE.k1 100 (by decide) (by decide)) hw.2 o 0 (ab_wd_at hsh) rfl hin hd hG
            · cases hz
    · cases h2
  · cases h2
theorem ab_w_baload {sh : abZ} {pc len : Nat} {lv : abL} {st : List Value} {D : abD} {S : abS} (hx : p.tables.exec = Jvm.exec) (hb : c.code = cc) (hE : ab_E K s s.heap) (hd : decode cc pc = .ok (.baload, len)) (hs : ab_g len 1 (match st with | .int j :: .ref o :: r => (match ab_ab sh D o with | some z => if j < 0 ∨ z.1 ≤ j.toNatClampNeg then none else some (pc + 1, lv, .int (z.2 j.toNatClampNeg) :: r, D) | none => none) | _ => none) = some S) (G : ab_G K p l e R s m args below meth c cells slots Q nL sh S) : ab_G K p l e R s m args below meth c cells slots Q nL sh (pc, lv, st, D) := by
  obtain ⟨rfl, h2⟩ := ab_g_s hs
  split at h2
  · rename_i j o r
    split at h2
    · rename_i z hz
      split at h2
      · cases h2
      · rename_i hin
        obtain rfl := Option.some.inj h2
        intro ls H locs hl hw hS
        have hG := G ls H locs hl hw hS
        show W p l e R s m args below meth c H locs cells slots Q (F0 m pc ls (.int j :: ab_cv K (.ref o) :: r.map (ab_cv K)))
        unfold ab_ab at hz
        split at hz
        · rename_i ho
          split at hz
          · rename_i ho2
            obtain rfl := Option.some.inj hz
            obtain ⟨e1, hlt⟩ := ab_ad_v K o ho ho2
            rw [e1]
            have hT := (hE.2.1.1 (o - 2000000) hlt).2.2.2
            dsimp only [List.map_cons, ab_cv] at hG
            dsimp only at hin
            clear e1 hlt
            generalize o - 2000000 = k at hT hG hin ⊢
            exact va_tb hx hb hT hS hin rfl hd hG
          · cases hz
        · split at hz
          · rename_i n hsh
            obtain rfl := Option.some.inj hz
            have ho : o < sh.length := (List.getElem?_eq_some_iff.mp hsh).1
            have hb2 := hw.1
            rw [ab_cv_c K (ab_lt ho hb2)]
            exact va_zald hx hb (hE.k1 102 (by decide) (by decide)) hw.2 o 0 (ab_wd_at hsh) rfl hin hd hG
          · cases hz
    · cases h2
  · cases h2
end AB1
