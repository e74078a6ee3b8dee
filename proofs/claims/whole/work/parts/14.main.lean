/-! The step of the proof for calls, ends and makings; then all of it. -/
theorem ab_good {q : abM} (hc : .code q.1 q.2.1 q.2.2.1 q.2.2.2.1 ∈ ab_tb) : GoodIn ab_tb (ab_ws q) := by
  intro w hw
  rcases List.mem_cons.mp hw with h | h
  · subst h
    exact ⟨hc, Or.inl rfl⟩
  · exact ⟨h, good_of_word (List.mem_filter.mp h).2⟩
theorem ab_blind (K : abK) (sh : abZ) (D : abD) (as : List Value) : FrameBlind (ab_Pc K sh D as) := by
  intro a U g mk h
  obtain ⟨h0, h1, h2, h3⟩ := h
  exact ⟨h0, h1, ab_E.same (s := U) rfl h2, h3⟩
/-- the words of a method that is called -/
theorem ab_mok_s {q : abM} {z : Nat × Nat × Nat × Nat × Nat} (h : ab_mok2 q z = true) : (lw_tbl[z.2.2.1]? = some (if z.1 = 1 then .static q.1 else .instanceMethod q.1)) ∧ (z.1 = 0 → lw_tbl[z.2.2.2.1]? = some (.selects q.1.cls q.1 q.1)) ∧ lw_tbl[z.2.2.2.2]? = some (.initialized q.1.cls) ∧ q.1.cls = ab_own1 q ∧ (z.1 = 2 → q.1.name = "<init>" ∧ q.2.2.2.1 = none) ∧ (q.1.cls ≠ "java/lang/invoke/MethodHandle" ∧ q.1.cls ≠ "java/lang/invoke/VarHandle") ∧ plainFor q.1 = true ∧ q.2.2.1 ≤ 40 := by
  unfold ab_mok2 at h
  simp only [Bool.and_eq_true, ab_at, decide_eq_true_eq] at h
  obtain ⟨⟨⟨⟨⟨⟨⟨⟨h2, h3⟩, h4⟩, h5⟩, h6⟩, h7⟩, h8⟩, h9⟩, h10⟩ := h
  refine ⟨h2, fun e => ?_, h4, h5, fun e => ?_, ⟨h7, h8⟩, h9, h10⟩
  · rw [if_pos e] at h3
    exact of_decide_eq_true h3
  · rw [if_pos e] at h6
    simpa using h6
theorem ab_b1 {b : Nat} (h1 : ¬ b < 1000000) (h2 : b < 1000032) : b - 1000000 < 32 := by omega
theorem ab_own_13 : ab_own.getD 13 "" ≠ RX0 := by decide
/-- a contract out of a walk, for a name that no entry stands for -/
theorem ab_ofW {l : Launch} {y : MethodName} {ws ws' : List Cond} {rm : Room} {Pc : Array Value → State → Prop} {Qc : Array Value → State → Outcome → State → Prop} {mc ms : Nat} {free : Addr → Prop} {cc : ByteArray} {maxL : Nat} {ret : Option FieldType}
    (hy : plainFor y = true) (hw : ws = Cond.code y cc maxL ret :: ws')
    (body : ∀ p e s m args below meth c s₁, BodyLoose p l y (headSpec ws rm) cc maxL ret e s m args below meth c s₁ → c.maxLocals = maxL → Pc args s →
      W p l e (headSpec ws rm).room s m args below meth c s.heap [] 0 0 (MQ below Qc args s mc ms free) (entryFrame m args maxL)) : Met l y ws rm Pc Qc mc ms free := by
  refine MetFree.of_bodySF (code := cc) (maxLocals := maxL) (ret := ret) hy ?_ ?_
  · intro args s m h hn
    obtain ⟨meth, c, h1, h2, h3, h4, h5, h6, -, -⟩ := Cond.code_spec hn (atoms_spec (ws := ws) h _ (by rw [hw]; exact List.mem_cons_self))
    exact ⟨meth, c, h1, h2, h3, h4, h5, h6⟩
  · intro p e s m args below meth c s₁ B hml hP _
    have hh0 : s₁.heap = s.heap := by rw [B.state]; rfl
    obtain ⟨t, a1, o, b1, b2, b3⟩ := body p e s m args below meth c s₁ B hml hP s₁ hh0 (Stand.of_body B)
    exact ⟨t, o, a1, b1, b2, ⟨b3.1, b3.2⟩⟩
section AB4
variable {K : abK} {p : Program} {l : Launch} {e : Env} {R : Room} {s : State} {m : MethodId} {args : Array Value} {below : List Frame} {meth : Method} {c : Code} {cells slots : Nat} {Q : State → Prop} {cc : ByteArray} {nL : Nat} {own : String}
/-- behind a call -/
theorem ab_cont {H : Heap} {locs : List Loc} {pc mc ms : Nat} {ls : Array Slot} {st0 rest : List Value} {a : Array Value} {v : Option Value} {sh : abZ} {D : abD} {lv : abL} (hr : va_Run p l e R s m args below meth c H locs cells slots mc ms (F0 m pc ls st0) (rest.map (ab_cv K)) (ab_Qc K v sh D a) (ab_A K)) (hS : va_S (ab_A K) s.heap H locs) (hl : lv_has ls nL (ab_cl2 K lv)) (G : ab_G K p l e R s m args below meth c (cells + mc) (slots + ms) Q nL sh (pc + 3, lv, v.toList ++ rest, D)) : W p l e R s m args below meth c H locs cells slots Q (F0 m pc ls st0) := by
  intro T hT X
  obtain ⟨vv, s0, t, T', L, h0, X', hL, e1, e2, ⟨hv, hw, hz, hk⟩, step⟩ := hr T hT X
  rw [h0] at hz hk
  have hvv : vv = v.map (ab_cv K) := Outcome.returned.inj hv
  have hS' : va_S (ab_A K) s.heap T'.heap (locs ++ L) := ⟨Nat.le_trans hS.1 (by rw [e1]; exact hz), fun q h1 h2 => by rw [e1, hk q (Nat.lt_of_lt_of_le h1 hS.1) h2]; exact hS.2.1 q h1 h2, fun q hq => by
    rcases List.mem_append.mp hq with h | h
    · exact hS.2.2 q h
    · exact hL q h⟩
  obtain ⟨t2, a1, b1⟩ := G ls T'.heap (locs ++ L) hl (by rw [e1]; exact hw) hS' T' rfl X'
  refine ⟨t2, step t2 ?_, b1⟩
  have ee : vv.toList ++ rest.map (ab_cv K) = (v.toList ++ rest).map (ab_cv K) := by
    rw [hvv, List.map_append]
    cases v <;> rfl
  show Steps p.tables e below (T'.setTop { (F0 m pc ls st0) with pc := pc + 3, stack := vv.toList ++ rest.map (ab_cv K) }) t2
  rw [ee]
  exact a1
/-- a call -/
theorem ab_w_call {sh sh2 : abZ} {pc len kd M ix' : Nat} {a : List Nat} {i : Instr} {lv : abL} {st as rest : List Value} {D D2 : abD} {v : Option Value} {d : Nat} {q2 : abM} {pl : Nat}
    (hx : p.tables.exec = Jvm.exec) (hb : c.code = cc) (hml : c.maxLocals = nL) (hown : s.vm.findClass own = some m.cls) (hts : ∀ w ∈ ab_tb, w.before args s = true) (hE : ab_E K s s.heap) (hR : d + 2 ≤ R.frames ∧ 64 * (d + 2) ≤ R.locals)
    (hd : decode cc pc = .ok (i, 3)) (ha : ab_aok own i a = true) (hc : ab_call kd M sh st = some (M, as, rest))
    (hk : (kd = 0 ∧ (∃ ix, i = .invokevirtual ix) ∧ a = [0, M, pl]) ∨ (kd = 1 ∧ (∃ ix, i = .invokestatic ix) ∧ (a = [1, M, pl] ∨ a = [4, M, pl])) ∨ (kd = 2 ∧ (∃ ix, i = .invokespecial ix) ∧ (a = [2, M, pl] ∨ a = [5, M, pl])))
    (hq : ab_ms[M]? = some q2) (h13 : q2.2.2.2.2.1 ≠ 13) (hM : Met l q2.1 (ab_ws q2) (ab_rm d (sh2.length - sh.length) (ab_nS sh2 - ab_nS sh)) (ab_Pc K sh D as) (ab_Qc K v sh2 D2) (sh2.length - sh.length) (ab_nS sh2 - ab_nS sh) (ab_A K))
    (hsz : s.heap.size + cells = kb K + sh.length) (hcl : cells + (sh2.length - sh.length) ≤ R.cells ∧ slots + (ab_nS sh2 - ab_nS sh) ≤ R.slots)
    (G : ab_G K p l e R s m args below meth c (cells + (sh2.length - sh.length)) (slots + (ab_nS sh2 - ab_nS sh)) Q nL sh2 (pc + 3, lv, v.toList ++ rest, D2)) : ab_G K p l e R s m args below meth c cells slots Q nL sh (pc, lv, st, D) := by
  intro ls H locs hl hw hS
  refine ab_sz (fun hsize => ?_)
  have hkb : kb K ≤ H.size := Nat.le_trans hE.2.2.2.2 hS.1
  have hsz2 : H.size = kb K + sh.length := Nat.le_antisymm (by omega) (hw.sz hkb)
  have hmp0 : (ab_mp.getD M (9, 0, 0, 0, 0)).1 = kd ∧ ab_na.getD M 0 ≤ st.length := by
    unfold ab_call at hc
    split at hc
    · cases hc
    · rename_i hn
      constructor
      · by_cases z : (ab_mp.getD M (9, 0, 0, 0, 0)).1 = kd
        · exact z
        · exact absurd (Or.inr z) hn
      · omega
  have h9 : kd ≠ 9 := by rcases hk with h | h | h <;> omega
  have hmok := ab_mok_s (ab_mp_at hq hmp0.1 h9)
  obtain ⟨g2, g3, g4, g5, g6, g7, g8, g9⟩ := hmok
  rw [hmp0.1] at g2 g3 g6
  have hcode : Cond.code q2.1 q2.2.1 q2.2.2.1 q2.2.2.2.1 ∈ ab_tb := ab_code_at hq h13
  have hgood := ab_good hcode
  have hini2 : (Cond.initialized q2.1.cls).before args s = true := hts _ (ab_tb_of g4 rfl)
  have hdsc : q2.1.cls ≠ "java/lang/invoke/MethodHandle" ∧ q2.1.cls ≠ "java/lang/invoke/VarHandle" ∧ (parseMethodDescriptor q2.1.desc).map (fun d => d.parameters.length) = some (ab_na.getD M 0) := ⟨g7.1, g7.2, ab_na_at hq⟩
  have hroom : (ab_rm d (sh2.length - sh.length) (ab_nS sh2 - ab_nS sh)).frames + 1 ≤ R.frames ∧ 8 + (q2.2.2.1 + 11) + (ab_rm d (sh2.length - sh.length) (ab_nS sh2 - ab_nS sh)).locals ≤ R.locals := by
    constructor
    · exact hR.1
    · show 8 + (q2.2.2.1 + 11) + 64 * (d + 1) ≤ R.locals
      omega
  have hpre : ∀ U : State, U.heap = H → s.WarmedH U.vm → ab_Pc K sh D as (as.map (ab_cv K)).toArray U := by
    intro U hU hWm
    refine ⟨rfl, by rw [hU]; exact hsz2, ?_, by rw [hU]; exact hw⟩
    have h1 := ab_E.kept hS.1 (fun x hx1 hx2 => hS.2.1 x hx1 hx2) hE
    rw [hU]
    exact ab_E.warm hWm h1
  have hfix : CallFix p m c cc nL s args ab_tb own := ⟨hx, hb, hml, hown, hts⟩
  have hsum := fun r => ab_sum_cv (K := K) hE.2.2.1 r
  rcases hk with ⟨rfl, ⟨ix, rfl⟩, rfl⟩ | ⟨rfl, ⟨ix, rfl⟩, hk⟩ | ⟨rfl, ⟨ix, rfl⟩, hk⟩
  · unfold ab_call at hc
    split at hc
    · cases hc
    · rw [if_neg (by decide)] at hc
      split at hc
      · rename_i b r hdr
        split at hc
        · rename_i hcond
          have hc2 := Option.some.inj hc
          have eas : as = .ref b :: (st.take (ab_na.getD M 0)).reverse := by have := congrArg (fun z => z.2.1) hc2; exact this.symm
          have ers : rest = r := by have := congrArg (fun z => z.2.2) hc2; exact this.symm
          have hst : st = (st.take (ab_na.getD M 0)) ++ .ref b :: r := by rw [← hdr, List.take_append_drop]
          have hlk : lw_tbl[pl]? = some (.methodLink own ix q2.1) := by
            have h1 : ab_mlk own ix M pl = true := ha
            unfold ab_mlk at h1
            rw [hq] at h1
            exact of_decide_eq_true h1
          have hrcv : ab_rcv sh M b = true := by rcases hcond.2.2 with h | h; exact absurd h (by decide); exact h
          have hb3 := hw.1
          have hadr : b ≠ 3000002 ∧ ∃ cell : Cell, H[ab_ad K b]? = some cell ∧ cell.vm.isStatics = false ∧ s.vm.findClass q2.1.cls = some cell.cls := by
            unfold ab_rcv at hrcv
            rw [hq] at hrcv
            dsimp only at hrcv
            split at hrcv
            · rename_i hb1
              split at hrcv
              · rename_i t n hsh
                simp only [Bool.and_eq_true, beq_iff_eq, decide_eq_true_eq] at hrcv
                refine ⟨Nat.ne_of_lt (Nat.lt_trans hb1 (by decide)), ?_⟩
                have hcl : ∃ qc, ab_cl[t]? = some qc := ⟨_, List.getElem?_eq_getElem (l := ab_cl) (show t < ab_cl.length from hrcv.2)⟩
                obtain ⟨qc, hqc⟩ := hcl
                have hat := ab_wd_at (K := K) (D := D) hsh
                simp only [ab_ce1, if_pos hrcv.2] at hat
                have := va_recv hE.1.1 hw.2 hqc hat
                rw [ab_own_cl hqc, hrcv.1] at this
                rw [g5, ab_ad, if_pos hb1]
                exact this
              · cases hrcv
            · rename_i hb1
              simp only [Bool.and_eq_true, beq_iff_eq, decide_eq_true_eq] at hrcv
              refine ⟨Nat.ne_of_lt (Nat.lt_trans hrcv.1 (by decide)), ?_⟩
              have : ∃ cell : Cell, H[kK K (b - 1000000)]? = some cell ∧ cell.vm.isStatics = false ∧ s.vm.findClass "java/lang/String" = some cell.cls := by
                obtain ⟨cell, h1, h2, h3, -⟩ := (hE.2.1.1 (b - 1000000) (ab_b1 hb1 hrcv.1)).1.kept hS.2.1
                exact ⟨cell, h1, h2, h3⟩
              rw [ab_ad, if_neg hb1, if_pos (Nat.lt_trans hrcv.1 (by decide)), g5, ab_own1, hrcv.2]
              exact this
          obtain ⟨hb4, hcell⟩ := hadr
          have eas2 : as.map (ab_cv K) = .ref (ab_ad K b) :: ((st.take (ab_na.getD M 0)).reverse).map (ab_cv K) := by rw [eas, List.map_cons, ab_cv_r K hb4]
          have hcw : CallW R s args own q2.1.cls ix q2.1 q2.2.1 q2.2.2.1 q2.2.2.2.1 (ab_ws q2) (ab_rm d (sh2.length - sh.length) (ab_nS sh2 - ab_nS sh)) (sh2.length - sh.length) (ab_nS sh2 - ab_nS sh) (ab_na.getD M 0) := ⟨callB_of _ hts hgood rfl rfl rfl hini2 (hts _ (ab_tb_of hlk rfl)) hdsc hroom, hts _ (ab_tb_of g2 rfl), hts _ (ab_tb_of (g3 rfl) rfl)⟩
          have hrun := va_runV (p := p) (l := l) (e := e) (R := R) (below := below) (meth := meth) (locs := locs) (cells := cells) (slots := slots) (b := ab_ad K b) (As := ((st.take (ab_na.getD M 0)).reverse).map (ab_cv K)) (rest := r.map (ab_cv K)) (g := F0 m pc ls (st.map (ab_cv K))) hfix hM hcw ⟨ab_blind K sh D as, hcell, fun U hU hWm => by rw [← eas2]; exact hpre U hU hWm⟩ rfl (by rw [List.length_map, List.length_reverse, List.length_take]; exact Nat.min_eq_left hmp0.2) hl.1 (by
              show st.map (ab_cv K) = _
              rw [List.map_reverse, List.reverse_reverse]
              conv => lhs; rw [hst]
              rw [List.map_append, List.map_cons, ab_cv_r K hb4]) (by
              refine lv_room ?_
              rw [hsum]
              exact hcond.1) hd hcl
          rw [← ers] at hrun
          exact ab_cont hrun hS hl G
        · cases hc
      · cases hc
  · have h1 : lw_tbl[pl]? = some (.methodLink own ix q2.1) ∨ lw_tbl[pl]? = some (.methodLinkNest own ix q2.1 "SignTurn") := by
      rcases hk with rfl | rfl
      · left
        have h1 : ab_mlk own ix M pl = true := ha
        unfold ab_mlk at h1
        rw [hq] at h1
        exact of_decide_eq_true h1
      · right
        have h1 : ab_mln own ix M pl = true := ha
        unfold ab_mln at h1
        rw [hq] at h1
        exact of_decide_eq_true h1
    unfold ab_call at hc
    split at hc
    · cases hc
    · rw [if_pos rfl] at hc
      split at hc
      · rename_i hcond
        have hc2 := Option.some.inj hc
        have eas : as = (st.take (ab_na.getD M 0)).reverse := by have := congrArg (fun z => z.2.1) hc2; exact this.symm
        have ers : rest = st.drop (ab_na.getD M 0) := by have := congrArg (fun z => z.2.2) hc2; exact this.symm
        have hst : st.map (ab_cv K) = (as.map (ab_cv K)).reverse ++ rest.map (ab_cv K) := by
          rw [eas, ers, List.map_reverse, List.reverse_reverse, ← List.map_append, List.take_append_drop]
        have hlen : (as.map (ab_cv K)).length = ab_na.getD M 0 := by rw [eas]; rw [List.length_map, List.length_reverse, List.length_take]; exact Nat.min_eq_left hmp0.2
        have hrm : 2 * (F0 m pc ls (st.map (ab_cv K))).monitorRoom + ((rest.map (ab_cv K)).map fun v => v.category).sum ≤ 8 := by
          refine lv_room ?_
          rw [hsum, ers]
          exact hcond
        rw [if_pos rfl] at g2
        rcases h1 with hlk | hlk
        · exact ab_cont (va_runS (g := F0 m pc ls (st.map (ab_cv K))) hfix hM ⟨callB_of _ hts hgood rfl rfl rfl hini2 (hts _ (ab_tb_of hlk rfl)) hdsc hroom, hts _ (ab_tb_of g2 rfl)⟩ ⟨ab_blind K sh D as, hpre⟩ rfl hlen hl.1 hst hrm hd hcl) hS hl G
        · exact ab_cont (va_runSN (g := F0 m pc ls (st.map (ab_cv K))) hfix hM ⟨va_cnB _ hts hgood rfl rfl rfl (hE.1.2.2.2.1 _ (List.mem_of_getElem? hlk) rfl) hini2 hdsc hroom, hts _ (ab_tb_of g2 rfl), trivial⟩ ⟨ab_blind K sh D as, hpre⟩ rfl hlen hl.1 hst hrm hd hcl) hS hl G
      · cases hc
  · have h1 : lw_tbl[pl]? = some (.methodLink own ix q2.1) ∨ lw_tbl[pl]? = some (.methodLinkNest own ix q2.1 "SignTurn") := by
      rcases hk with rfl | rfl
      · left
        have h1 : ab_mlk own ix M pl = true := ha
        unfold ab_mlk at h1
        rw [hq] at h1
        exact of_decide_eq_true h1
      · right
        have h1 : ab_mln own ix M pl = true := ha
        unfold ab_mln at h1
        rw [hq] at h1
        exact of_decide_eq_true h1
    obtain ⟨hnm, hrt⟩ := g6 rfl
    unfold ab_call at hc
    split at hc
    · cases hc
    · rw [if_neg (by decide)] at hc
      split at hc
      · rename_i b r hdr
        split at hc
        · rename_i hcond
          have hc2 := Option.some.inj hc
          have eas : as = .ref b :: (st.take (ab_na.getD M 0)).reverse := by have := congrArg (fun z => z.2.1) hc2; exact this.symm
          have ers : rest = r := by have := congrArg (fun z => z.2.2) hc2; exact this.symm
          have hst : st = (st.take (ab_na.getD M 0)) ++ .ref b :: r := by rw [← hdr, List.take_append_drop]
          have hb4 : b ≠ 3000002 := Nat.ne_of_lt (Nat.lt_trans hcond.2.1 (by decide))
          have eas2 : as.map (ab_cv K) = .ref (ab_ad K b) :: ((st.take (ab_na.getD M 0)).reverse).map (ab_cv K) := by rw [eas, List.map_cons, ab_cv_r K hb4]
          have hst2 : st.map (ab_cv K) = (((st.take (ab_na.getD M 0)).reverse).map (ab_cv K)).reverse ++ .ref (ab_ad K b) :: rest.map (ab_cv K) := by
            rw [List.map_reverse, List.reverse_reverse, ers]
            conv => lhs; rw [hst]
            rw [List.map_append, List.map_cons, ab_cv_r K hb4]
          have hlen : (((st.take (ab_na.getD M 0)).reverse).map (ab_cv K)).length = ab_na.getD M 0 := by rw [List.length_map, List.length_reverse, List.length_take]; exact Nat.min_eq_left hmp0.2
          have hrm : 2 * (F0 m pc ls (st.map (ab_cv K))).monitorRoom + ((rest.map (ab_cv K)).map fun v => v.category).sum ≤ 8 := by
            refine lv_room ?_
            rw [hsum, ers]
            exact hcond.1
          rw [if_neg (by decide)] at g2
          have hcode2 : Cond.code q2.1 q2.2.1 q2.2.2.1 none :: ab_tb = ab_ws q2 := by rw [ab_ws, hrt]
          rcases h1 with hlk | hlk
          · exact ab_cont (va_runI (b := ab_ad K b) (g := F0 m pc ls (st.map (ab_cv K))) hfix hM (cwI _ hts hgood hcode2.symm rfl rfl hini2 (hts _ (ab_tb_of hlk rfl)) (hts _ (ab_tb_of g2 rfl)) hnm hdsc hroom) ⟨ab_blind K sh D as, fun U hU hWm => by rw [← eas2]; exact hpre U hU hWm⟩ rfl hlen hl.1 hst2 hrm hd hcl) hS hl G
          · exact ab_cont (va_runIN (b := ab_ad K b) (g := F0 m pc ls (st.map (ab_cv K))) hfix hM ⟨va_cnB _ hts hgood hcode2.symm rfl rfl (hE.1.2.2.2.1 _ (List.mem_of_getElem? hlk) rfl) hini2 hdsc hroom, hnm, hts _ (ab_tb_of g2 rfl)⟩ ⟨ab_blind K sh D as, fun U hU hWm => by rw [← eas2]; exact hpre U hU hWm⟩ rfl hlen hl.1 hst2 hrm hd hcl) hS hl G
        · cases hc
      · cases hc
end AB4
