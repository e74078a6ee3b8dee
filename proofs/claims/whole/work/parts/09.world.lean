/-! What the machine's cells are in the heap. K: classes, array classes, where the cells begin, String constants and their bytes, WEIGHTS, the script and its ints, the formatter. -/
abbrev abK : Type := va_G × (Nat → ClassId) × Nat × (Nat → Nat) × (Nat → Nat) × Nat × Nat × abX × Value
abbrev kD (K : abK) : va_G := K.1
abbrev kca (K : abK) : Nat → ClassId := K.2.1
abbrev kb (K : abK) : Nat := K.2.2.1
abbrev kK (K : abK) : Nat → Nat := K.2.2.2.1
abbrev kV (K : abK) : Nat → Nat := K.2.2.2.2.1
abbrev kw (K : abK) : Nat := K.2.2.2.2.2.1
abbrev ks (K : abK) : Nat := K.2.2.2.2.2.2.1
abbrev kX (K : abK) : abX := K.2.2.2.2.2.2.2.1
abbrev kf (K : abK) : Value := K.2.2.2.2.2.2.2.2
def ab_A (K : abK) : Nat → Prop := fun q => kb K ≤ q
def ab_ad (K : abK) (r : Nat) : Nat := if r < 1000000 then kb K + r else if r < 2000000 then kK K (r - 1000000) else if r < 3000000 then kV K (r - 2000000) else if r = 3000000 then kw K else ks K
def ab_cv (K : abK) (v : Value) : Value := match v with
  | .ref r => if r = 3000002 then kf K else .ref (ab_ad K r)
  | v => v
theorem ab_cv_i (K : abK) (x : Int32) : ab_cv K (.int x) = .int x := rfl
theorem ab_cv_l (K : abK) (x : Int64) : ab_cv K (.long x) = .long x := rfl
theorem ab_cv_r (K : abK) {r : Nat} (h : r ≠ 3000002) : ab_cv K (.ref r) = .ref (ab_ad K r) := by simp [ab_cv, h]
theorem ab_cv_c (K : abK) {r : Nat} (h : r < 1000000) : ab_cv K (.ref r) = .ref (kb K + r) := by
  rw [ab_cv_r K (by omega), ab_ad, if_pos h]
def ab_cl2 (K : abK) (lv : abL) : List (Nat × Value) := lv.map (fun q => (q.1, ab_cv K q.2))
def ab_rv (K : abK) (r : Nat) : Value := match r with | 0 => .null | r + 1 => .ref (kb K + r)
def ab_ro (K : abK) (r : Nat) : Option Nat := match r with | 0 => none | r + 1 => some (kb K + r)
def ab_fv (K : abK) (D : abD) (ci o k : Nat) : Value := match ab_kd ci k with | 1 => .long (D.2.1 o k) | 2 => ab_rv K (D.2.2 o k) | _ => .int (D.1 o k)
def ab_ce1 (K : abK) (D : abD) (o t n : Nat) : va_E :=
  if t < 13 then .inr (t, (List.range n).map (ab_fv K D t o)) else if t = 101 then .inl (kca K t, n, .inr (.inl (D.2.1 o))) else if t = 100 ∨ t = 102 then .inl (kca K t, n, .inl (D.1 o)) else .inl (kca K t, n, .inr (.inr (.inr (.inr (fun k => ab_ro K (D.2.2 o k))))))
def ab_ce (K : abK) (sh : abZ) (D : abD) (o : Nat) : va_E := match sh[o]? with | some z => ab_ce1 K D o z.1 z.2 | none => .inr (0, [])
def ab_wd (K : abK) (sh : abZ) (D : abD) : va_W := (List.range sh.length).map (fun o => (kb K + o, ab_ce K sh D o))
def ab_aty (t : Nat) : FieldType := if t = 100 then .int else if t = 101 then .long else if t = 102 then .boolean else if t = 103 then .object RX9 else if t = 104 then .object RX10 else .object RX3
def ab_W (K : abK) (sh : abZ) (D : abD) (H : Heap) : Prop := sh.length ≤ 1000 ∧ va_P (kD K) ab_cl (ab_wd K sh D) H
def ab_nst (w : Cond) : Bool := match w with | .methodLinkNest .. => true | .fieldLinkNest .. => true | _ => false
/-- what stays as it is -/
def ab_E (K : abK) (U : State) (H : Heap) : Prop :=
  (va_K (kD K) ab_cl [] U ∧ (∀ t, 100 ≤ t → t < 106 → ArrOfT U (kca K t) (ab_aty t) ∧ va_RA U (kca K t) (ab_aty t)) ∧
  (∀ (own : String) (ix j pl : Nat), j < 32 → lw_tbl[pl]? = some (.stringRef own ix (ab_str.getD j "")) → vk_R own ix (ab_str.getD j "") (kK K j) U) ∧
  (∀ w ∈ lw_tbl, ab_nst w = true → va_Nw w U) ∧ (∀ t, 103 ≤ t → t < 106 → va_AO (ab_atn t) U)) ∧
  ((∀ i : Nat, i < 32 → va_O "java/lang/String" (kK K i) (ab_A K) U H ∧ va_OF "java/lang/String" "coder" "B" (.int 0) (kK K i) (ab_A K) U H ∧ va_OF "java/lang/String" "value" "[B" (.ref (kV K i)) (kK K i) (ab_A K) U H ∧ va_T .byte (kV K i) (ab_sl.getD i 0) (fun j => .int ((ab_sb.getD i []).getD j 0)) (ab_A K) U H) ∧ va_Z "SignTurn" "WEIGHTS" "[I" (.ref (kw K)) (ab_A K) U H ∧ va_T .int (kw K) 7 (fun j => .int (ab_wt.getD j 0)) (ab_A K) U H ∧
  va_Z "java/lang/String" "COMPACT_STRINGS" "Z" (.int 1) (ab_A K) U H ∧ va_Z "jdk/internal/util/Preconditions" "SIOOBE_FORMATTER" "Ljava/util/function/BiFunction;" (kf K) (ab_A K) U H ∧ va_X (ks K) (kX K).1 (kX K).2 U H) ∧
  (kf K = .null ∨ ∃ a, kf K = .ref a) ∧ ks K < kb K ∧ kb K ≤ H.size
theorem ab_E.warm {K : abK} {s U : State} {H : Heap} (hW : s.WarmedH U.vm) (h : ab_E K s H) : ab_E K U H := by
  obtain ⟨⟨h1, h2, h3, h4, h5⟩, ⟨g1, g2, g3, g4, g5, g6⟩, f⟩ := h
  have ha := hW.alike
  refine ⟨⟨va_K.moved ha h1, fun t a b => ⟨arrOfT_moved ha (h2 t a b).1, (h2 t a b).2.moved ha⟩, fun own ix j pl a b => vk_R.warm hW (h3 own ix j pl a b), fun w hw hn => ?_, fun t a b => va_AO.moved ha (h5 t a b)⟩, ⟨fun i hi => ⟨va_O.moved ha (g1 i hi).1, va_OF.moved ha (g1 i hi).2.1, va_OF.moved ha (g1 i hi).2.2.1, va_T.moved ha (g1 i hi).2.2.2⟩, va_Z.moved ha g2, va_T.moved ha g3, va_Z.moved ha g4, va_Z.moved ha g5, va_X.moved ha g6⟩, f⟩
  have hz := h4 w hw hn
  cases w <;> first | (simp [ab_nst] at hn; done) | exact va_Nw.warmM hW hz | exact va_Nw.warmF hW hz
theorem ab_E.same {K : abK} {s U : State} {H : Heap} (hv : U.vm = s.vm) (h : ab_E K s H) : ab_E K U H := by
  obtain ⟨⟨h1, h2, h3, h4, h5⟩, ⟨g1, g2, g3, g4, g5, g6⟩, f⟩ := h
  have ha : s.vm.Alike U.vm := by rw [hv]; exact Vm.Alike.refl _
  refine ⟨⟨va_K.moved ha h1, fun t a b => ⟨arrOfT_moved ha (h2 t a b).1, (h2 t a b).2.moved ha⟩, fun own ix j pl a b => vk_R.same hv (h3 own ix j pl a b), fun w hw hn => ?_, fun t a b => va_AO.moved ha (h5 t a b)⟩, ⟨fun i hi => ⟨va_O.moved ha (g1 i hi).1, va_OF.moved ha (g1 i hi).2.1, va_OF.moved ha (g1 i hi).2.2.1, va_T.moved ha (g1 i hi).2.2.2⟩, va_Z.moved ha g2, va_T.moved ha g3, va_Z.moved ha g4, va_Z.moved ha g5, va_X.moved ha g6⟩, f⟩
  have hz := h4 w hw hn
  cases w <;> first | (simp [ab_nst] at hn; done) | exact va_Nw.same rfl hv.symm hz
theorem ab_E.kept {K : abK} {U : State} {H H1 : Heap} (hz : H.size ≤ H1.size) (hq : ∀ a : Nat, a < H.size → ¬ ab_A K a → H1[a]? = H[a]?) (h : ab_E K U H) : ab_E K U H1 := by
  obtain ⟨h1, ⟨g1, g2, g3, g4, g5, g6⟩, f1, f2, f3⟩ := h
  exact ⟨h1, ⟨fun i hi => ⟨(g1 i hi).1.kept hq, (g1 i hi).2.1.kept hq, (g1 i hi).2.2.1.kept hq, (g1 i hi).2.2.2.kept hq⟩, g2.kept hq, g3.kept hq, g4.kept hq, g5.kept hq, g6.kept (hq _ (Nat.lt_of_lt_of_le f2 f3) (Nat.not_le.mpr f2))⟩, f1, f2, Nat.le_trans f3 hz⟩
theorem ab_wd_len (K : abK) (sh : abZ) (D : abD) : (ab_wd K sh D).length = sh.length := by simp [ab_wd]
theorem ab_wd_at {K : abK} {sh : abZ} {D : abD} {o : Nat} {z : Nat × Nat} (h : sh[o]? = some z) : (ab_wd K sh D)[o]? = some (kb K + o, ab_ce1 K D o z.1 z.2) := by
  have hl : o < sh.length := (List.getElem?_eq_some_iff.mp h).1
  unfold ab_wd
  rw [List.getElem?_map, List.getElem?_range hl]
  simp only [Option.map_some, ab_ce, h]
theorem ab_wd_lt {K : abK} {sh : abZ} {D : abD} {o : Nat} {q : Nat × va_E} (h : (ab_wd K sh D)[o]? = some q) : o < sh.length ∧ q = (kb K + o, ab_ce K sh D o) := by
  have hl : o < (ab_wd K sh D).length := (List.getElem?_eq_some_iff.mp h).1
  rw [ab_wd_len] at hl
  refine ⟨hl, ?_⟩
  simp [ab_wd, hl] at h
  exact h.symm
theorem ab_wd_D (K : abK) (sh : abZ) (D : abD) : va_D (ab_A K) (ab_wd K sh D) := by
  refine ⟨fun i j x y hi hj hxy => ?_, fun k q hk => ?_⟩
  · rw [(ab_wd_lt hi).2, (ab_wd_lt hj).2] at hxy
    have : kb K + i = kb K + j := hxy
    omega
  · rw [(ab_wd_lt hk).2]
    exact Nat.le_add_right _ _
theorem ab_wd_set {K : abK} {sh : abZ} {D D' : abD} {o : Nat} {e : va_E} (ho : o < sh.length) (h1 : ab_ce K sh D' o = e) (h2 : ∀ a, a ≠ o → ab_ce K sh D' a = ab_ce K sh D a) : (ab_wd K sh D).set o (kb K + o, e) = ab_wd K sh D' := by
  apply List.ext_getElem?
  intro i
  by_cases hi : i = o
  · subst hi
    rw [List.getElem?_set_self (by rw [ab_wd_len]; exact ho)]
    simp [ab_wd, ho, h1]
  · rw [List.getElem?_set_ne (Ne.symm hi)]
    by_cases hl : i < sh.length
    · simp [ab_wd, hl, h2 i hi]
    · simp [ab_wd, hl]
theorem ab_wd_push {K : abK} {sh : abZ} {D D' : abD} {z : Nat × Nat} {e : va_E} (h1 : ab_ce1 K D' sh.length z.1 z.2 = e) (h2 : ∀ a, a < sh.length → ab_ce K (sh ++ [z]) D' a = ab_ce K sh D a) : ab_wd K sh D ++ [(kb K + sh.length, e)] = ab_wd K (sh ++ [z]) D' := by
  apply List.ext_getElem?
  intro i
  by_cases hl : i < sh.length
  · rw [List.getElem?_append_left (by rw [ab_wd_len]; exact hl)]
    have hl2 : i < (sh ++ [z]).length := by simp; omega
    simp only [ab_wd, List.getElem?_map, List.getElem?_range hl, List.getElem?_range hl2, Option.map_some, h2 i hl]
  · rw [List.getElem?_append_right (by rw [ab_wd_len]; omega), ab_wd_len]
    by_cases he : i = sh.length
    · subst he
      have hl2 : sh.length < (sh ++ [z]).length := by simp
      simp [ab_wd, hl2, ab_ce, h1]
    · rw [List.getElem?_eq_none (by simp; omega), List.getElem?_eq_none (by rw [ab_wd_len]; simp; omega)]
theorem ab_ce_other {K : abK} {sh : abZ} {D D' : abD} {o : Nat} (h1 : D'.1 o = D.1 o) (h2 : D'.2.1 o = D.2.1 o) (h3 : D'.2.2 o = D.2.2 o) : ab_ce K sh D' o = ab_ce K sh D o := by
  have h4 : ∀ t k, ab_fv K D' t o k = ab_fv K D t o k := by intro t k; simp only [ab_fv, h1, h2, h3]
  have h5 : ∀ t, ab_fv K D' t o = ab_fv K D t o := fun t => funext (h4 t)
  simp only [ab_ce, ab_ce1, h1, h2, h3, h5]
theorem ab_W.sz {K : abK} {sh : abZ} {D : abD} {H : Heap} (h : ab_W K sh D H) (hb : kb K ≤ H.size) : kb K + sh.length ≤ H.size := by
  by_cases h0 : sh.length = 0
  · rw [h0]; exact hb
  · have hl : sh.length - 1 < sh.length := by omega
    have h1 : (ab_wd K sh D)[sh.length - 1]? = some (kb K + (sh.length - 1), ab_ce K sh D (sh.length - 1)) := by simp [ab_wd, hl]
    have h2 := (h.2 _ _ h1).lt
    have h3 : kb K + (sh.length - 1) < H.size := h2
    omega
