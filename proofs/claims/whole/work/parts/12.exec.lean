/-! What the small machine answers, the machine answers. -/
def ab_nS (sh : abZ) : Nat := (sh.map fun z => z.2).sum
theorem ab_nS_app (sh : abZ) (z : Nat × Nat) : ab_nS (sh ++ [z]) = ab_nS sh + z.2 := by simp [ab_nS]
def ab_rm (d k n : Nat) : Room := { frames := d + 1, cells := k, slots := n, locals := 64 * (d + 1) }
def ab_ws (q : abM) : List Cond := .code q.1 q.2.1 q.2.2.1 q.2.2.2.1 :: ab_tb
def ab_Pc (K : abK) (sh : abZ) (D : abD) (as : List Value) : Array Value → State → Prop := va_Pc (as.map (ab_cv K)) (fun U => U.heap.size = kb K + sh.length ∧ ab_E K U U.heap ∧ ab_W K sh D U.heap)
def ab_Qc (K : abK) (v : Option Value) (sh : abZ) (D : abD) : Array Value → State → Outcome → State → Prop := fun _ st oc t => oc = .returned (v.map (ab_cv K)) ∧ ab_W K sh D t.heap ∧ va_F (ab_A K) st t
def ab_own1 (q : abM) : String := ab_own.getD q.2.2.2.2.1 ""
/-- all that a frame's rows ask of it -/
def ab_C (K : abK) (p : Program) (R : Room) (s : State) (m : MethodId) (args : Array Value) (meth : Method) (c : Code) (q : abM) (ini : Nat) : Prop :=
  (p.tables.exec = Jvm.exec ∧ c.code = q.2.1 ∧ c.maxLocals = q.2.2.1 ∧ s.vm.findClass (ab_own1 q) = some m.cls) ∧ (∀ w ∈ ab_tb, w.before args s = true) ∧ ab_E K s s.heap ∧ (ini < 13 → meth.name = "<init>" ∧ ab_own1 q = ab_own.getD ini "")
theorem ab_sz {p : Program} {l : Launch} {e : Env} {R : Room} {s : State} {m : MethodId} {args : Array Value} {below : List Frame} {meth : Method} {c : Code} {H : Heap} {locs : List Loc} {cells slots : Nat} {Q : State → Prop} {g : JFrame} (h : H.size ≤ s.heap.size + cells → W p l e R s m args below meth c H locs cells slots Q g) : W p l e R s m args below meth c H locs cells slots Q g :=
  fun T hT X => h (by rw [← hT]; exact X.heapSize) T hT X
theorem ab_st0_sh {X : abX} {nL ini : Nat} {rt : Option FieldType} {sh : abZ} {i : Instr} {len : Nat} {a : List Nat} {pc : Nat} {lv : abL} {st : List Value} {D : abD} {z : abZ × abS} (h : ab_nx sh (ab_st0 X nL ini sh i len a pc lv st D) = some (.inl z)) : z.1 = sh ∧ ab_st0 X nL ini sh i len a pc lv st D = some z.2 := by
  unfold ab_nx at h
  split at h
  · rename_i S hS
    have := Sum.inl.inj (Option.some.inj h)
    rw [← this]
    exact ⟨rfl, hS⟩
  · cases h
/-- the four kinds of what one instruction does -/
def ab_kinds (X : abX) (nL ini : Nat) (rt : Option FieldType) (sh : abZ) (i : Instr) (len : Nat) (a : List Nat) (pc : Nat) (lv : abL) (st : List Value) (D : abD) (o : abN) : Prop :=
  (∃ S, o = .inl (sh, S) ∧ ab_st0 X nL ini sh i len a pc lv st D = some S) ∨
  (∃ kd M pl c, o = .inr (.inl c) ∧ len = 3 ∧ ab_call kd M sh st = some c ∧ ((kd = 0 ∧ (∃ ix, i = .invokevirtual ix) ∧ a = [0, M, pl]) ∨ (kd = 1 ∧ (∃ ix, i = .invokestatic ix) ∧ (a = [1, M, pl] ∨ a = [4, M, pl])) ∨ (kd = 2 ∧ (∃ ix, i = .invokespecial ix) ∧ (a = [2, M, pl] ∨ a = [5, M, pl])))) ∨
  (len = 1 ∧ ((i = .ireturn ∧ ∃ x ty, o = .inr (.inr (some (.int x))) ∧ st = [.int x] ∧ rt = some ty ∧ narrow ty (.int x) = .int x) ∨ (i = .lreturn ∧ rt = some .long ∧ ∃ x, o = .inr (.inr (some (.long x))) ∧ st = [.long x]) ∨ (i = .return_ ∧ rt = none ∧ o = .inr (.inr none) ∧ st = []))) ∨
  (sh.length < 1000 ∧ ((∃ ix ci pl q, i = .new ix ∧ len = 3 ∧ a = [ci, pl] ∧ ab_cl[ci]? = some q ∧ o = .inl (sh ++ [(ci, q.2.2)], pc + 3, lv, .ref sh.length :: st, ab_nD D sh.length)) ∨
    (∃ t n r, i = .newarray t ∧ len = 2 ∧ ab_tag t ≠ 99 ∧ st = .int n :: r ∧ ¬ n < 0 ∧ n.toNatClampNeg ≤ 10000 ∧ o = .inl (sh ++ [(ab_tag t, n.toNatClampNeg)], pc + 2, lv, .ref sh.length :: r, ab_nD D sh.length)) ∨
    (∃ ix t pl n r, i = .anewarray ix ∧ len = 3 ∧ a = [t, pl] ∧ (103 ≤ t ∧ t < 106) ∧ st = .int n :: r ∧ ¬ n < 0 ∧ n.toNatClampNeg ≤ 10000 ∧ o = .inl (sh ++ [(t, n.toNatClampNeg)], pc + 3, lv, .ref sh.length :: r, ab_nD D sh.length))))
theorem ab_nx_s {sh : abZ} {r : Option abS} {o : abN} (h : ab_nx sh r = some o) : ∃ S, o = .inl (sh, S) ∧ r = some S := by
  unfold ab_nx at h
  split at h
  · rename_i S
    exact ⟨S, (Option.some.inj h).symm, rfl⟩
  · cases h
theorem ab_cN_s {r : Option (Nat × List Value × List Value)} {o : abN} (h : ab_cN r = some o) : ∃ c, o = .inr (.inl c) ∧ r = some c := by
  unfold ab_cN at h
  split at h
  · rename_i c
    exact ⟨c, (Option.some.inj h).symm, rfl⟩
  · cases h
theorem ab_st1_k {X : abX} {nL ini : Nat} {rt : Option FieldType} {sh : abZ} {i : Instr} {len : Nat} {a : List Nat} {pc : Nat} {lv : abL} {st : List Value} {D : abD} {o : abN} (h : ab_st1 X nL ini rt sh i len a pc lv st D = some o) : ab_kinds X nL ini rt sh i len a pc lv st D o := by
  unfold ab_st1 at h
  split at h
  · split at h
    · split at h
      · obtain ⟨c, h1, h2⟩ := ab_cN_s h
        exact Or.inr (Or.inl ⟨0, _, _, c, h1, by assumption, h2, Or.inl ⟨rfl, ⟨_, rfl⟩, rfl⟩⟩)
      · cases h
    · cases h
  · split at h
    · split at h
      · obtain ⟨c, h1, h2⟩ := ab_cN_s h
        exact Or.inr (Or.inl ⟨1, _, _, c, h1, by assumption, h2, Or.inr (Or.inl ⟨rfl, ⟨_, rfl⟩, Or.inl rfl⟩)⟩)
      · cases h
    · split at h
      · obtain ⟨c, h1, h2⟩ := ab_cN_s h
        exact Or.inr (Or.inl ⟨1, _, _, c, h1, by assumption, h2, Or.inr (Or.inl ⟨rfl, ⟨_, rfl⟩, Or.inr rfl⟩)⟩)
      · cases h
    · obtain ⟨S, h1, h2⟩ := ab_nx_s h
      exact Or.inl ⟨S, h1, h2⟩
  · split at h
    · split at h
      · obtain ⟨c, h1, h2⟩ := ab_cN_s h
        exact Or.inr (Or.inl ⟨2, _, _, c, h1, by assumption, h2, Or.inr (Or.inr ⟨rfl, ⟨_, rfl⟩, Or.inl rfl⟩)⟩)
      · cases h
    · split at h
      · obtain ⟨c, h1, h2⟩ := ab_cN_s h
        exact Or.inr (Or.inl ⟨2, _, _, c, h1, by assumption, h2, Or.inr (Or.inr ⟨rfl, ⟨_, rfl⟩, Or.inr rfl⟩)⟩)
      · cases h
    · obtain ⟨S, h1, h2⟩ := ab_nx_s h
      exact Or.inl ⟨S, h1, h2⟩
  · split at h
    · rename_i hl
      split at h
      · rename_i v
        refine Or.inr (Or.inr (Or.inl ⟨hl, Or.inl ⟨rfl, v, ?_⟩⟩))
        split at h
        · exact ⟨_, (Option.some.inj h).symm, rfl, rfl, rfl⟩
        · split at h
          · rename_i hv
            refine ⟨_, (Option.some.inj h).symm, rfl, rfl, ?_⟩
            rcases hv with hv | hv <;> subst hv <;> rfl
          · cases h
        · split at h
          · exact ⟨_, (Option.some.inj h).symm, rfl, rfl, by assumption⟩
          · cases h
        · split at h
          · exact ⟨_, (Option.some.inj h).symm, rfl, rfl, by assumption⟩
          · cases h
        · cases h
      · cases h
    · cases h
  · split at h
    · rename_i hl
      split at h
      · exact Or.inr (Or.inr (Or.inl ⟨hl.1, Or.inr (Or.inl ⟨rfl, hl.2, _, (Option.some.inj h).symm, rfl⟩)⟩))
      · cases h
    · cases h
  · split at h
    · rename_i hl
      split at h
      · exact Or.inr (Or.inr (Or.inl ⟨hl.1, Or.inr (Or.inr ⟨rfl, hl.2, (Option.some.inj h).symm, rfl⟩)⟩))
      · cases h
    · cases h
  · split at h
    · split at h
      · rename_i q hq
        split at h
        · rename_i hl
          exact Or.inr (Or.inr (Or.inr ⟨hl.2, Or.inl ⟨_, _, _, q, rfl, hl.1, rfl, hq, (Option.some.inj h).symm⟩⟩))
        · cases h
      · cases h
    · cases h
  · split at h
    · rename_i hl
      split at h
      · split at h
        · cases h
        · rename_i hn
          exact Or.inr (Or.inr (Or.inr ⟨hl.2.1, Or.inr (Or.inl ⟨_, _, _, rfl, hl.1, hl.2.2, rfl, fun z => hn (Or.inl z), by omega, (Option.some.inj h).symm⟩)⟩))
      · cases h
    · cases h
  · split at h
    · split at h
      · rename_i hl
        split at h
        · split at h
          · cases h
          · rename_i hn
            exact Or.inr (Or.inr (Or.inr ⟨hl.2.1, Or.inr (Or.inr ⟨_, _, _, _, _, rfl, hl.1, rfl, hl.2.2, rfl, fun z => hn (Or.inl z), by omega, (Option.some.inj h).symm⟩)⟩))
        · cases h
      · cases h
    · cases h
  · obtain ⟨S, h1, h2⟩ := ab_nx_s h
    exact Or.inl ⟨S, h1, h2⟩
/-- cells are made, never taken -/
theorem ab_grow (X : abX) : ∀ n d M pc lv st sh D v sh' D', ab_ex X n d M pc lv st sh D = some (v, sh', D') → sh.length ≤ sh'.length ∧ ab_nS sh ≤ ab_nS sh' := by
  intro n
  induction n with
  | zero => intro d M pc lv st sh D v sh' D' h; cases h
  | succ n ih =>
    intro d M pc lv st sh D v sh' D' h
    rw [ab_ex_s] at h
    unfold ab_F at h
    split at h
    · cases h
    · rename_i q hq
      split at h
      · cases h
      · rename_i z hz
        generalize ho : ab_st1 X q.2.2.1 (ab_ini.getD M 99) q.2.2.2.1 sh z.2.1 z.2.2.1 z.2.2.2 pc lv st D = o at h
        cases o with
        | none => cases h
        | some o =>
          rcases ab_st1_k ho with ⟨S, rfl, -⟩ | ⟨kd, M2, pl, c, rfl, -⟩ | ⟨-, hr⟩ | ⟨-, ha⟩
          · exact ih _ _ _ _ _ _ _ _ _ _ h
          · unfold ab_nxt at h
            dsimp only at h
            split at h
            · cases h
            · split at h
              · cases h
              · split at h
                · cases h
                · split at h
                  · cases h
                  · rename_i w hw
                    obtain ⟨w1, w2, w3⟩ := w
                    have h1 := ih _ _ _ _ _ _ _ _ _ _ hw
                    have h2 := ih _ _ _ _ _ _ _ _ _ _ h
                    exact ⟨Nat.le_trans h1.1 h2.1, Nat.le_trans h1.2 h2.2⟩
          · rcases hr with ⟨-, x, ty, rfl, -⟩ | ⟨-, -, x, rfl, -⟩ | ⟨-, -, rfl, -⟩ <;> (have h1 := Option.some.inj h; cases h1; exact ⟨Nat.le_refl _, Nat.le_refl _⟩)
          · have key : ∀ (z : Nat × Nat) (S : abS), o = .inl (sh ++ [z], S) → sh.length ≤ sh'.length ∧ ab_nS sh ≤ ab_nS sh' := by
              intro z S e
              subst e
              have h1 := ih _ _ _ _ _ _ _ _ _ _ h
              rw [ab_nS_app] at h1
              simp only [List.length_append, List.length_cons, List.length_nil] at h1
              exact ⟨by omega, by omega⟩
            rcases ha with ⟨_, _, _, _, _, _, _, _, e⟩ | ⟨_, _, _, _, _, _, _, _, _, e⟩ | ⟨_, _, _, _, _, _, _, _, _, _, _, _, e⟩ <;> exact key _ _ e
theorem ab_msk_has {K : abK} {ls : Array Slot} {nL pc : Nat} {lv : abL} {mk : List (Nat × List Nat)} (h : lv_has ls nL (ab_cl2 K lv)) : lv_has ls nL (ab_cl2 K (ab_msk mk pc lv)) := by
  refine ⟨h.1, h.2.1, fun q hq => ?_⟩
  obtain ⟨w, hw, rfl⟩ := List.mem_map.mp hq
  unfold ab_msk at hw
  split at hw
  · obtain ⟨k, -, hk⟩ := List.mem_filterMap.mp hw
    cases hl : ab_lk lv k with
    | none => rw [hl] at hk; cases hk
    | some v =>
      rw [hl] at hk
      obtain rfl := Option.some.inj hk
      exact ab_lk_at h hl
  · exact h.2.2 _ (List.mem_map.mpr ⟨w, hw, rfl⟩)
theorem ab_args_cv {K : abK} (hf : kf K = .null ∨ ∃ a, kf K = .ref a) : ∀ (as : List Value) (i : Nat), lv_args i (as.map (ab_cv K)) = ab_cl2 K (lv_args i as)
  | [], _ => rfl
  | v :: vs, i => by
    simp only [List.map_cons, lv_args, ab_cv_cat hf, ab_cl2]
    congr 1
    exact ab_args_cv hf vs _
theorem ab_sl_len {K : abK} (hf : kf K = .null ∨ ∃ a, kf K = .ref a) : ∀ (as : List Value), (lg_sl (as.map (ab_cv K))).length = ab_w as
  | [] => rfl
  | v :: vs => by
    have ih := ab_sl_len hf vs
    simp only [lg_sl, ab_w, List.map_cons, List.flatMap_cons, List.length_append, List.sum_cons, ab_cv_cat hf] at ih ⊢
    rw [ih]
    rcases lv_cat v with h | h <;> simp [h]
