/-! Each instruction of the small machine is the machine's own. -/
theorem ab_g_s {len k : Nat} {r : Option abS} {S : abS} (h : ab_g len k r = some S) : len = k ∧ r = some S := by
  unfold ab_g at h
  split at h
  · exact ⟨by assumption, h⟩
  · cases h
theorem ab_q_i2 {f : Int32 → Int32 → Int32} {pc : Nat} {lv : abL} {st : List Value} {D : abD} {S : abS} {len : Nat} (hs : ab_g len 1 (ab_i2 pc lv st D f) = some S) : len = 1 ∧ ∃ x y r, st = .int y :: .int x :: r ∧ S = (pc + 1, lv, .int (f x y) :: r, D) := by
  obtain ⟨h1, h2⟩ := ab_g_s hs
  unfold ab_i2 at h2
  split at h2
  · exact ⟨h1, _, _, _, rfl, (Option.some.inj h2).symm⟩
  · cases h2
theorem ab_q_l2 {f : Int64 → Int64 → Int64} {pc : Nat} {lv : abL} {st : List Value} {D : abD} {S : abS} {len : Nat} (hs : ab_g len 1 (ab_l2 pc lv st D f) = some S) : len = 1 ∧ ∃ x y r, st = .long y :: .long x :: r ∧ S = (pc + 1, lv, .long (f x y) :: r, D) := by
  obtain ⟨h1, h2⟩ := ab_g_s hs
  unfold ab_l2 at h2
  split at h2
  · exact ⟨h1, _, _, _, rfl, (Option.some.inj h2).symm⟩
  · cases h2
theorem ab_q_li {f : Int64 → Int32 → Int64} {pc : Nat} {lv : abL} {st : List Value} {D : abD} {S : abS} {len : Nat} (hs : ab_g len 1 (ab_li pc lv st D f) = some S) : len = 1 ∧ ∃ x y r, st = .int y :: .long x :: r ∧ S = (pc + 1, lv, .long (f x y) :: r, D) := by
  obtain ⟨h1, h2⟩ := ab_g_s hs
  unfold ab_li at h2
  split at h2
  · exact ⟨h1, _, _, _, rfl, (Option.some.inj h2).symm⟩
  · cases h2
theorem ab_q_i1 {f : Int32 → Value} {pc : Nat} {lv : abL} {st : List Value} {D : abD} {S : abS} {len : Nat} (hs : ab_g len 1 (ab_i1 pc lv st D f) = some S) : len = 1 ∧ ∃ x r, st = .int x :: r ∧ S = (pc + 1, lv, f x :: r, D) := by
  obtain ⟨h1, h2⟩ := ab_g_s hs
  unfold ab_i1 at h2
  split at h2
  · exact ⟨h1, _, _, rfl, (Option.some.inj h2).symm⟩
  · cases h2
theorem ab_q_l1 {f : Int64 → Value} {pc : Nat} {lv : abL} {st : List Value} {D : abD} {S : abS} {len : Nat} (hs : ab_g len 1 (ab_l1 pc lv st D f) = some S) : len = 1 ∧ ∃ x r, st = .long x :: r ∧ S = (pc + 1, lv, f x :: r, D) := by
  obtain ⟨h1, h2⟩ := ab_g_s hs
  unfold ab_l1 at h2
  split at h2
  · exact ⟨h1, _, _, rfl, (Option.some.inj h2).symm⟩
  · cases h2
theorem ab_lk_mem {lv : abL} {i : Nat} {v : Value} (h : ab_lk lv i = some v) : (i, v) ∈ lv := by
  unfold ab_lk at h
  cases hf : lv.find? (fun q => q.1 == i) with
  | none => rw [hf] at h; cases h
  | some q =>
    rw [hf] at h
    have h1 := List.find?_some hf
    have h2 := List.mem_of_find?_eq_some hf
    simp at h1 h
    rw [← h1, ← h]
    exact h2
theorem ab_lk_at {K : abK} {ls : Array Slot} {nL : Nat} {lv : abL} {i : Nat} {v : Value} (hl : lv_has ls nL (ab_cl2 K lv)) (h : ab_lk lv i = some v) : ls[i]? = some (.val (ab_cv K v)) :=
  hl.2.2 (i, ab_cv K v) (List.mem_map.mpr ⟨(i, v), ab_lk_mem h, rfl⟩)
theorem ab_cv_cat {K : abK} (hf : kf K = .null ∨ ∃ a, kf K = .ref a) (v : Value) : (ab_cv K v).category = v.category := by
  cases v with
  | ref r =>
    unfold ab_cv
    dsimp only
    split
    · rcases hf with h | ⟨a, h⟩ <;> rw [h] <;> rfl
    · rfl
  | _ => rfl
theorem ab_cv_ref {K : abK} (hf : kf K = .null ∨ ∃ a, kf K = .ref a) (r : Nat) : ab_cv K (.ref r) = .null ∨ ∃ a, ab_cv K (.ref r) = .ref a := by
  by_cases h : r = 3000002
  · rcases hf with g | ⟨a, g⟩
    · exact Or.inl (by simp [ab_cv, h, g])
    · exact Or.inr ⟨a, by simp [ab_cv, h, g]⟩
  · exact Or.inr ⟨_, ab_cv_r K h⟩
theorem ab_s1_cv {K : abK} (hf : kf K = .null ∨ ∃ a, kf K = .ref a) (lv : abL) (i : Nat) (v : Value) : (i, ab_cv K v) :: (ab_cl2 K lv).filter (fun q => !(q.1 == i) && !(q.1 + 1 == i && q.2.category == 2)) = ab_cl2 K (ab_s1 lv i v) := by
  unfold ab_cl2 ab_s1
  rw [List.map_cons, List.filter_map]
  congr 1
  congr 1
  congr 1
  funext q
  simp only [Function.comp, ab_cv_cat hf]
theorem ab_s2_cv {K : abK} (hf : kf K = .null ∨ ∃ a, kf K = .ref a) (lv : abL) (i : Nat) (v : Value) : (i, ab_cv K v) :: (ab_cl2 K lv).filter (fun q => !(q.1 == i) && (!(q.1 == i + 1) && !(q.1 + 1 == i && q.2.category == 2))) = ab_cl2 K (ab_s2 lv i v) := by
  unfold ab_cl2 ab_s2
  rw [List.map_cons, List.filter_map]
  congr 1
  congr 1
  congr 1
  funext q
  simp only [Function.comp, ab_cv_cat hf]
theorem ab_lk_ix {lv : abL} {i : Nat} {v : Value} (h : ab_lk lv i = some v) : ∃ k : Nat, lv[k]? = some (i, v) := List.getElem?_of_mem (ab_lk_mem h)
theorem ab_q_ldi {n : Nat} {lv : abL} {st : List Value} {D : abD} {i : Nat} {S : abS} (h2 : ab_ldi n lv st D i = some S) : ∃ x, ab_lk lv i = some (.int x) ∧ S = (n, lv, .int x :: st, D) := by
  unfold ab_ldi at h2
  split at h2
  · exact ⟨_, by assumption, (Option.some.inj h2).symm⟩
  · cases h2
theorem ab_q_ldl {n : Nat} {lv : abL} {st : List Value} {D : abD} {i : Nat} {S : abS} (h2 : ab_ldl n lv st D i = some S) : ∃ x, ab_lk lv i = some (.long x) ∧ S = (n, lv, .long x :: st, D) := by
  unfold ab_ldl at h2
  split at h2
  · exact ⟨_, by assumption, (Option.some.inj h2).symm⟩
  · cases h2
theorem ab_q_lda {n : Nat} {lv : abL} {st : List Value} {D : abD} {i : Nat} {S : abS} (h2 : ab_lda n lv st D i = some S) : ∃ x, ab_lk lv i = some (.ref x) ∧ S = (n, lv, .ref x :: st, D) := by
  unfold ab_lda at h2
  split at h2
  · exact ⟨_, by assumption, (Option.some.inj h2).symm⟩
  · cases h2
theorem ab_q_sti {n nL : Nat} {lv : abL} {st : List Value} {D : abD} {i : Nat} {S : abS} (h2 : ab_sti n nL lv st D i = some S) : ∃ x r, st = .int x :: r ∧ i < nL ∧ S = (n, ab_s1 lv i (.int x), r, D) := by
  unfold ab_sti at h2
  split at h2
  · split at h2
    · exact ⟨_, _, rfl, by assumption, (Option.some.inj h2).symm⟩
    · cases h2
  · cases h2
theorem ab_q_stl {n nL : Nat} {lv : abL} {st : List Value} {D : abD} {i : Nat} {S : abS} (h2 : ab_stl n nL lv st D i = some S) : ∃ x r, st = .long x :: r ∧ i + 1 < nL ∧ S = (n, ab_s2 lv i (.long x), r, D) := by
  unfold ab_stl at h2
  split at h2
  · split at h2
    · exact ⟨_, _, rfl, by assumption, (Option.some.inj h2).symm⟩
    · cases h2
  · cases h2
theorem ab_q_sta {n nL : Nat} {lv : abL} {st : List Value} {D : abD} {i : Nat} {S : abS} (h2 : ab_sta n nL lv st D i = some S) : ∃ x r, st = .ref x :: r ∧ (i < nL ∧ x < 3000000) ∧ S = (n, ab_s1 lv i (.ref x), r, D) := by
  unfold ab_sta at h2
  split at h2
  · split at h2
    · exact ⟨_, _, rfl, by assumption, (Option.some.inj h2).symm⟩
    · cases h2
  · cases h2
theorem ab_q_go {pc : Nat} {off : Int} {lv : abL} {st : List Value} {D : abD} {S : abS} (h : ab_go pc off lv st D = some S) : (pc : Int) + off = ((((pc : Int) + off).toNat : Nat) : Int) ∧ S = (((pc : Int) + off).toNat, lv, st, D) := by
  unfold ab_go at h
  split at h
  · exact ⟨(Int.toNat_of_nonneg (by assumption)).symm, (Option.some.inj h).symm⟩
  · cases h
section AB0
variable {K : abK} {p : Program} {l : Launch} {e : Env} {R : Room} {s : State} {m : MethodId} {args : Array Value} {below : List Frame} {meth : Method} {c : Code} {cells slots : Nat} {Q : State → Prop} {cc : ByteArray} {nL : Nat}
/-- the goal at a state of the small machine -/
def ab_G (K : abK) (p : Program) (l : Launch) (e : Env) (R : Room) (s : State) (m : MethodId) (args : Array Value) (below : List Frame) (meth : Method) (c : Code) (cells slots : Nat) (Q : State → Prop) (nL : Nat) (sh : abZ) (S : abS) : Prop :=
  ∀ (ls : Array Slot) (H : Heap) (locs : List Loc), lv_has ls nL (ab_cl2 K S.2.1) → ab_W K sh S.2.2.2 H → va_S (ab_A K) s.heap H locs → W p l e R s m args below meth c H locs cells slots Q (F0 m S.1 ls (S.2.2.1.map (ab_cv K)))
theorem ab_w_iadd {sh : abZ} {pc len : Nat} {lv : abL} {st : List Value} {D : abD} {S : abS}  (hx : p.tables.exec = Jvm.exec) (hb : c.code = cc) (hd : decode cc pc = .ok (.iadd, len)) (hs : ab_g len 1 (ab_i2 pc lv st D (fun x y => x + y)) = some S) (G : ab_G K p l e R s m args below meth c cells slots Q nL sh S) : ab_G K p l e R s m args below meth c cells slots Q nL sh (pc, lv, st, D) := by
  obtain ⟨rfl, x, y, r, rfl, rfl⟩ := ab_q_i2 hs
  exact fun ls H locs hl hw hS => lv_iadd hx hb hd (G ls H locs hl hw hS)
theorem ab_w_isub {sh : abZ} {pc len : Nat} {lv : abL} {st : List Value} {D : abD} {S : abS}  (hx : p.tables.exec = Jvm.exec) (hb : c.code = cc) (hd : decode cc pc = .ok (.isub, len)) (hs : ab_g len 1 (ab_i2 pc lv st D (fun x y => x - y)) = some S) (G : ab_G K p l e R s m args below meth c cells slots Q nL sh S) : ab_G K p l e R s m args below meth c cells slots Q nL sh (pc, lv, st, D) := by
  obtain ⟨rfl, x, y, r, rfl, rfl⟩ := ab_q_i2 hs
  exact fun ls H locs hl hw hS => lv_isub hx hb hd (G ls H locs hl hw hS)
theorem ab_w_imul {sh : abZ} {pc len : Nat} {lv : abL} {st : List Value} {D : abD} {S : abS}  (hx : p.tables.exec = Jvm.exec) (hb : c.code = cc) (hd : decode cc pc = .ok (.imul, len)) (hs : ab_g len 1 (ab_i2 pc lv st D (fun x y => x * y)) = some S) (G : ab_G K p l e R s m args below meth c cells slots Q nL sh S) : ab_G K p l e R s m args below meth c cells slots Q nL sh (pc, lv, st, D) := by
  obtain ⟨rfl, x, y, r, rfl, rfl⟩ := ab_q_i2 hs
  exact fun ls H locs hl hw hS => lv_imul hx hb hd (G ls H locs hl hw hS)
theorem ab_w_iand {sh : abZ} {pc len : Nat} {lv : abL} {st : List Value} {D : abD} {S : abS}  (hx : p.tables.exec = Jvm.exec) (hb : c.code = cc) (hd : decode cc pc = .ok (.iand, len)) (hs : ab_g len 1 (ab_i2 pc lv st D (fun x y => x &&& y)) = some S) (G : ab_G K p l e R s m args below meth c cells slots Q nL sh S) : ab_G K p l e R s m args below meth c cells slots Q nL sh (pc, lv, st, D) := by
  obtain ⟨rfl, x, y, r, rfl, rfl⟩ := ab_q_i2 hs
  exact fun ls H locs hl hw hS => lv_iand hx hb hd (G ls H locs hl hw hS)
theorem ab_w_ior {sh : abZ} {pc len : Nat} {lv : abL} {st : List Value} {D : abD} {S : abS}  (hx : p.tables.exec = Jvm.exec) (hb : c.code = cc) (hd : decode cc pc = .ok (.ior, len)) (hs : ab_g len 1 (ab_i2 pc lv st D (fun x y => x ||| y)) = some S) (G : ab_G K p l e R s m args below meth c cells slots Q nL sh S) : ab_G K p l e R s m args below meth c cells slots Q nL sh (pc, lv, st, D) := by
  obtain ⟨rfl, x, y, r, rfl, rfl⟩ := ab_q_i2 hs
  exact fun ls H locs hl hw hS => lv_ior hx hb hd (G ls H locs hl hw hS)
theorem ab_w_ixor {sh : abZ} {pc len : Nat} {lv : abL} {st : List Value} {D : abD} {S : abS}  (hx : p.tables.exec = Jvm.exec) (hb : c.code = cc) (hd : decode cc pc = .ok (.ixor, len)) (hs : ab_g len 1 (ab_i2 pc lv st D (fun x y => x ^^^ y)) = some S) (G : ab_G K p l e R s m args below meth c cells slots Q nL sh S) : ab_G K p l e R s m args below meth c cells slots Q nL sh (pc, lv, st, D) := by
  obtain ⟨rfl, x, y, r, rfl, rfl⟩ := ab_q_i2 hs
  exact fun ls H locs hl hw hS => lv_ixor hx hb hd (G ls H locs hl hw hS)
theorem ab_w_ishl {sh : abZ} {pc len : Nat} {lv : abL} {st : List Value} {D : abD} {S : abS}  (hx : p.tables.exec = Jvm.exec) (hb : c.code = cc) (hd : decode cc pc = .ok (.ishl, len)) (hs : ab_g len 1 (ab_i2 pc lv st D (fun x y => x <<< (y &&& 31))) = some S) (G : ab_G K p l e R s m args below meth c cells slots Q nL sh S) : ab_G K p l e R s m args below meth c cells slots Q nL sh (pc, lv, st, D) := by
  obtain ⟨rfl, x, y, r, rfl, rfl⟩ := ab_q_i2 hs
  exact fun ls H locs hl hw hS => lv_ishl hx hb hd (G ls H locs hl hw hS)
theorem ab_w_ishr {sh : abZ} {pc len : Nat} {lv : abL} {st : List Value} {D : abD} {S : abS}  (hx : p.tables.exec = Jvm.exec) (hb : c.code = cc) (hd : decode cc pc = .ok (.ishr, len)) (hs : ab_g len 1 (ab_i2 pc lv st D (fun x y => x >>> (y &&& 31))) = some S) (G : ab_G K p l e R s m args below meth c cells slots Q nL sh S) : ab_G K p l e R s m args below meth c cells slots Q nL sh (pc, lv, st, D) := by
  obtain ⟨rfl, x, y, r, rfl, rfl⟩ := ab_q_i2 hs
  exact fun ls H locs hl hw hS => lv_ishr hx hb hd (G ls H locs hl hw hS)
theorem ab_w_iushr {sh : abZ} {pc len : Nat} {lv : abL} {st : List Value} {D : abD} {S : abS}  (hx : p.tables.exec = Jvm.exec) (hb : c.code = cc) (hd : decode cc pc = .ok (.iushr, len)) (hs : ab_g len 1 (ab_i2 pc lv st D (fun x y => (x.toUInt32 >>> (y.toUInt32 &&& Int32.toUInt32 31)).toInt32)) = some S) (G : ab_G K p l e R s m args below meth c cells slots Q nL sh S) : ab_G K p l e R s m args below meth c cells slots Q nL sh (pc, lv, st, D) := by
  obtain ⟨rfl, x, y, r, rfl, rfl⟩ := ab_q_i2 hs
  exact fun ls H locs hl hw hS => lv_iushr hx hb hd rfl (G ls H locs hl hw hS)
theorem ab_w_ladd {sh : abZ} {pc len : Nat} {lv : abL} {st : List Value} {D : abD} {S : abS}  (hx : p.tables.exec = Jvm.exec) (hb : c.code = cc) (hd : decode cc pc = .ok (.ladd, len)) (hs : ab_g len 1 (ab_l2 pc lv st D (fun x y => x + y)) = some S) (G : ab_G K p l e R s m args below meth c cells slots Q nL sh S) : ab_G K p l e R s m args below meth c cells slots Q nL sh (pc, lv, st, D) := by
  obtain ⟨rfl, x, y, r, rfl, rfl⟩ := ab_q_l2 hs
  exact fun ls H locs hl hw hS => lv_ladd hx hb hd (G ls H locs hl hw hS)
theorem ab_w_lsub {sh : abZ} {pc len : Nat} {lv : abL} {st : List Value} {D : abD} {S : abS}  (hx : p.tables.exec = Jvm.exec) (hb : c.code = cc) (hd : decode cc pc = .ok (.lsub, len)) (hs : ab_g len 1 (ab_l2 pc lv st D (fun x y => x - y)) = some S) (G : ab_G K p l e R s m args below meth c cells slots Q nL sh S) : ab_G K p l e R s m args below meth c cells slots Q nL sh (pc, lv, st, D) := by
  obtain ⟨rfl, x, y, r, rfl, rfl⟩ := ab_q_l2 hs
  exact fun ls H locs hl hw hS => lv_lsub hx hb hd (G ls H locs hl hw hS)
theorem ab_w_lmul {sh : abZ} {pc len : Nat} {lv : abL} {st : List Value} {D : abD} {S : abS}  (hx : p.tables.exec = Jvm.exec) (hb : c.code = cc) (hd : decode cc pc = .ok (.lmul, len)) (hs : ab_g len 1 (ab_l2 pc lv st D (fun x y => x * y)) = some S) (G : ab_G K p l e R s m args below meth c cells slots Q nL sh S) : ab_G K p l e R s m args below meth c cells slots Q nL sh (pc, lv, st, D) := by
  obtain ⟨rfl, x, y, r, rfl, rfl⟩ := ab_q_l2 hs
  exact fun ls H locs hl hw hS => lv_lmul hx hb hd (G ls H locs hl hw hS)
theorem ab_w_land {sh : abZ} {pc len : Nat} {lv : abL} {st : List Value} {D : abD} {S : abS}  (hx : p.tables.exec = Jvm.exec) (hb : c.code = cc) (hd : decode cc pc = .ok (.land, len)) (hs : ab_g len 1 (ab_l2 pc lv st D (fun x y => x &&& y)) = some S) (G : ab_G K p l e R s m args below meth c cells slots Q nL sh S) : ab_G K p l e R s m args below meth c cells slots Q nL sh (pc, lv, st, D) := by
  obtain ⟨rfl, x, y, r, rfl, rfl⟩ := ab_q_l2 hs
  exact fun ls H locs hl hw hS => lv_land hx hb hd (G ls H locs hl hw hS)
theorem ab_w_lor {sh : abZ} {pc len : Nat} {lv : abL} {st : List Value} {D : abD} {S : abS}  (hx : p.tables.exec = Jvm.exec) (hb : c.code = cc) (hd : decode cc pc = .ok (.lor, len)) (hs : ab_g len 1 (ab_l2 pc lv st D (fun x y => x ||| y)) = some S) (G : ab_G K p l e R s m args below meth c cells slots Q nL sh S) : ab_G K p l e R s m args below meth c cells slots Q nL sh (pc, lv, st, D) := by
  obtain ⟨rfl, x, y, r, rfl, rfl⟩ := ab_q_l2 hs
  exact fun ls H locs hl hw hS => lv_lor hx hb hd (G ls H locs hl hw hS)
theorem ab_w_lshl {sh : abZ} {pc len : Nat} {lv : abL} {st : List Value} {D : abD} {S : abS}  (hx : p.tables.exec = Jvm.exec) (hb : c.code = cc) (hd : decode cc pc = .ok (.lshl, len)) (hs : ab_g len 1 (ab_li pc lv st D (fun x y => x <<< (y.toInt64 &&& 63))) = some S) (G : ab_G K p l e R s m args below meth c cells slots Q nL sh S) : ab_G K p l e R s m args below meth c cells slots Q nL sh (pc, lv, st, D) := by
  obtain ⟨rfl, x, y, r, rfl, rfl⟩ := ab_q_li hs
  exact fun ls H locs hl hw hS => lv_lshl hx hb hd rfl (G ls H locs hl hw hS)
theorem ab_w_lshr {sh : abZ} {pc len : Nat} {lv : abL} {st : List Value} {D : abD} {S : abS}  (hx : p.tables.exec = Jvm.exec) (hb : c.code = cc) (hd : decode cc pc = .ok (.lshr, len)) (hs : ab_g len 1 (ab_li pc lv st D (fun x y => x >>> (y.toInt64 &&& 63))) = some S) (G : ab_G K p l e R s m args below meth c cells slots Q nL sh S) : ab_G K p l e R s m args below meth c cells slots Q nL sh (pc, lv, st, D) := by
  obtain ⟨rfl, x, y, r, rfl, rfl⟩ := ab_q_li hs
  exact fun ls H locs hl hw hS => lv_lshr hx hb hd rfl (G ls H locs hl hw hS)
theorem ab_w_lneg {sh : abZ} {pc len : Nat} {lv : abL} {st : List Value} {D : abD} {S : abS}  (hx : p.tables.exec = Jvm.exec) (hb : c.code = cc) (hd : decode cc pc = .ok (.lneg, len)) (hs : ab_g len 1 (ab_l1 pc lv st D (fun x => .long (-x))) = some S) (G : ab_G K p l e R s m args below meth c cells slots Q nL sh S) : ab_G K p l e R s m args below meth c cells slots Q nL sh (pc, lv, st, D) := by
  obtain ⟨rfl, x, r, rfl, rfl⟩ := ab_q_l1 hs
  exact fun ls H locs hl hw hS => lv_lneg hx hb hd (G ls H locs hl hw hS)
theorem ab_w_i2l {sh : abZ} {pc len : Nat} {lv : abL} {st : List Value} {D : abD} {S : abS}  (hx : p.tables.exec = Jvm.exec) (hb : c.code = cc) (hd : decode cc pc = .ok (.i2l, len)) (hs : ab_g len 1 (ab_i1 pc lv st D (fun x => .long x.toInt64)) = some S) (G : ab_G K p l e R s m args below meth c cells slots Q nL sh S) : ab_G K p l e R s m args below meth c cells slots Q nL sh (pc, lv, st, D) := by
  obtain ⟨rfl, x, r, rfl, rfl⟩ := ab_q_i1 hs
  exact fun ls H locs hl hw hS => lv_i2l hx hb hd rfl (G ls H locs hl hw hS)
theorem ab_w_i2b {sh : abZ} {pc len : Nat} {lv : abL} {st : List Value} {D : abD} {S : abS}  (hx : p.tables.exec = Jvm.exec) (hb : c.code = cc) (hd : decode cc pc = .ok (.i2b, len)) (hs : ab_g len 1 (ab_i1 pc lv st D (fun x => .int x.toInt8.toInt32)) = some S) (G : ab_G K p l e R s m args below meth c cells slots Q nL sh S) : ab_G K p l e R s m args below meth c cells slots Q nL sh (pc, lv, st, D) := by
  obtain ⟨rfl, x, r, rfl, rfl⟩ := ab_q_i1 hs
  exact fun ls H locs hl hw hS => lv_i2b hx hb hd rfl (G ls H locs hl hw hS)
theorem ab_w_i2s {sh : abZ} {pc len : Nat} {lv : abL} {st : List Value} {D : abD} {S : abS}  (hx : p.tables.exec = Jvm.exec) (hb : c.code = cc) (hd : decode cc pc = .ok (.i2s, len)) (hs : ab_g len 1 (ab_i1 pc lv st D (fun x => .int x.toInt16.toInt32)) = some S) (G : ab_G K p l e R s m args below meth c cells slots Q nL sh S) : ab_G K p l e R s m args below meth c cells slots Q nL sh (pc, lv, st, D) := by
  obtain ⟨rfl, x, r, rfl, rfl⟩ := ab_q_i1 hs
  exact fun ls H locs hl hw hS => lv_i2s hx hb hd rfl (G ls H locs hl hw hS)
theorem ab_w_i2c {sh : abZ} {pc len : Nat} {lv : abL} {st : List Value} {D : abD} {S : abS}  (hx : p.tables.exec = Jvm.exec) (hb : c.code = cc) (hd : decode cc pc = .ok (.i2c, len)) (hs : ab_g len 1 (ab_i1 pc lv st D (fun x => .int (x.toUInt32 % 65536).toInt32)) = some S) (G : ab_G K p l e R s m args below meth c cells slots Q nL sh S) : ab_G K p l e R s m args below meth c cells slots Q nL sh (pc, lv, st, D) := by
  obtain ⟨rfl, x, r, rfl, rfl⟩ := ab_q_i1 hs
  exact fun ls H locs hl hw hS => lv_i2c hx hb hd rfl (G ls H locs hl hw hS)
theorem ab_w_l2i {sh : abZ} {pc len : Nat} {lv : abL} {st : List Value} {D : abD} {S : abS}  (hx : p.tables.exec = Jvm.exec) (hb : c.code = cc) (hd : decode cc pc = .ok (.l2i, len)) (hs : ab_g len 1 (ab_l1 pc lv st D (fun x => .int x.toInt32)) = some S) (G : ab_G K p l e R s m args below meth c cells slots Q nL sh S) : ab_G K p l e R s m args below meth c cells slots Q nL sh (pc, lv, st, D) := by
  obtain ⟨rfl, x, r, rfl, rfl⟩ := ab_q_l1 hs
  exact fun ls H locs hl hw hS => lv_l2i hx hb hd rfl (G ls H locs hl hw hS)
theorem ab_w_iconst {sh : abZ} {pc len : Nat} {lv : abL} {st : List Value} {D : abD} {S : abS} {n : Int} (hx : p.tables.exec = Jvm.exec) (hb : c.code = cc) (hd : decode cc pc = .ok (.iconst n, len)) (hs : ab_g len 1 (some (pc + 1, lv, .int (Int32.ofInt n) :: st, D)) = some S) (G : ab_G K p l e R s m args below meth c cells slots Q nL sh S) : ab_G K p l e R s m args below meth c cells slots Q nL sh (pc, lv, st, D) := by
  obtain ⟨rfl, h2⟩ := ab_g_s hs
  obtain rfl := Option.some.inj h2
  exact fun ls H locs hl hw hS => lv_iconst hx hb hd rfl (G ls H locs hl hw hS)
theorem ab_w_bipush {sh : abZ} {pc len : Nat} {lv : abL} {st : List Value} {D : abD} {S : abS} {n : Int} (hx : p.tables.exec = Jvm.exec) (hb : c.code = cc) (hd : decode cc pc = .ok (.bipush n, len)) (hs : ab_g len 2 (some (pc + 2, lv, .int (Int8.ofInt n).toInt32 :: st, D)) = some S) (G : ab_G K p l e R s m args below meth c cells slots Q nL sh S) : ab_G K p l e R s m args below meth c cells slots Q nL sh (pc, lv, st, D) := by
  obtain ⟨rfl, h2⟩ := ab_g_s hs
  obtain rfl := Option.some.inj h2
  exact fun ls H locs hl hw hS => lv_bipush hx hb hd rfl (G ls H locs hl hw hS)
theorem ab_w_sipush {sh : abZ} {pc len : Nat} {lv : abL} {st : List Value} {D : abD} {S : abS} {n : Int} (hx : p.tables.exec = Jvm.exec) (hb : c.code = cc) (hd : decode cc pc = .ok (.sipush n, len)) (hs : ab_g len 3 (some (pc + 3, lv, .int (Int16.ofInt n).toInt32 :: st, D)) = some S) (G : ab_G K p l e R s m args below meth c cells slots Q nL sh S) : ab_G K p l e R s m args below meth c cells slots Q nL sh (pc, lv, st, D) := by
  obtain ⟨rfl, h2⟩ := ab_g_s hs
  obtain rfl := Option.some.inj h2
  exact fun ls H locs hl hw hS => lv_sipush hx hb hd rfl (G ls H locs hl hw hS)
theorem ab_w_lconst {sh : abZ} {pc len : Nat} {lv : abL} {st : List Value} {D : abD} {S : abS} {n : Fin 2} (hx : p.tables.exec = Jvm.exec) (hb : c.code = cc) (hd : decode cc pc = .ok (.lconst n, len)) (hs : ab_g len 1 (some (pc + 1, lv, .long (Int64.ofNat (n : Nat)) :: st, D)) = some S) (G : ab_G K p l e R s m args below meth c cells slots Q nL sh S) : ab_G K p l e R s m args below meth c cells slots Q nL sh (pc, lv, st, D) := by
  obtain ⟨rfl, h2⟩ := ab_g_s hs
  obtain rfl := Option.some.inj h2
  exact fun ls H locs hl hw hS => lv_lconst hx hb hd rfl (G ls H locs hl hw hS)
theorem ab_w_iload_n {sh : abZ} {pc len : Nat} {lv : abL} {st : List Value} {D : abD} {S : abS} {k : Fin 4} (hx : p.tables.exec = Jvm.exec) (hb : c.code = cc) (hd : decode cc pc = .ok (.iload_n k, len)) (hs : ab_g len 1 (ab_ldi (pc + 1) lv st D k) = some S) (G : ab_G K p l e R s m args below meth c cells slots Q nL sh S) : ab_G K p l e R s m args below meth c cells slots Q nL sh (pc, lv, st, D) := by
  obtain ⟨rfl, h2⟩ := ab_g_s hs
  obtain ⟨x, hk, rfl⟩ := ab_q_ldi h2
  exact fun ls H locs hl hw hS => lv_iload_n hx hb hd rfl (ab_lk_at hl hk) (G ls H locs hl hw hS)
theorem ab_w_iload {sh : abZ} {pc len : Nat} {lv : abL} {st : List Value} {D : abD} {S : abS} {k : Nat} (hx : p.tables.exec = Jvm.exec) (hb : c.code = cc) (hd : decode cc pc = .ok (.iload k, len)) (hs : ab_g len 2 (ab_ldi (pc + 2) lv st D k) = some S) (G : ab_G K p l e R s m args below meth c cells slots Q nL sh S) : ab_G K p l e R s m args below meth c cells slots Q nL sh (pc, lv, st, D) := by
  obtain ⟨rfl, h2⟩ := ab_g_s hs
  obtain ⟨x, hk, rfl⟩ := ab_q_ldi h2
  exact fun ls H locs hl hw hS => lv_iload hx hb hd (ab_lk_at hl hk) (G ls H locs hl hw hS)
theorem ab_w_lload_n {sh : abZ} {pc len : Nat} {lv : abL} {st : List Value} {D : abD} {S : abS} {k : Fin 4} (hx : p.tables.exec = Jvm.exec) (hb : c.code = cc) (hd : decode cc pc = .ok (.lload_n k, len)) (hs : ab_g len 1 (ab_ldl (pc + 1) lv st D k) = some S) (G : ab_G K p l e R s m args below meth c cells slots Q nL sh S) : ab_G K p l e R s m args below meth c cells slots Q nL sh (pc, lv, st, D) := by
  obtain ⟨rfl, h2⟩ := ab_g_s hs
  obtain ⟨x, hk, rfl⟩ := ab_q_ldl h2
  exact fun ls H locs hl hw hS => lv_lload_n hx hb hd rfl (ab_lk_at hl hk) (G ls H locs hl hw hS)
theorem ab_w_lload {sh : abZ} {pc len : Nat} {lv : abL} {st : List Value} {D : abD} {S : abS} {k : Nat} (hx : p.tables.exec = Jvm.exec) (hb : c.code = cc) (hd : decode cc pc = .ok (.lload k, len)) (hs : ab_g len 2 (ab_ldl (pc + 2) lv st D k) = some S) (G : ab_G K p l e R s m args below meth c cells slots Q nL sh S) : ab_G K p l e R s m args below meth c cells slots Q nL sh (pc, lv, st, D) := by
  obtain ⟨rfl, h2⟩ := ab_g_s hs
  obtain ⟨x, hk, rfl⟩ := ab_q_ldl h2
  exact fun ls H locs hl hw hS => lv_lload hx hb hd (ab_lk_at hl hk) (G ls H locs hl hw hS)
theorem ab_w_aload_n {sh : abZ} {pc len : Nat} {lv : abL} {st : List Value} {D : abD} {S : abS} {k : Fin 4} (hx : p.tables.exec = Jvm.exec) (hb : c.code = cc) (hf : kf K = .null ∨ ∃ a, kf K = .ref a) (hd : decode cc pc = .ok (.aload_n k, len)) (hs : ab_g len 1 (ab_lda (pc + 1) lv st D k) = some S) (G : ab_G K p l e R s m args below meth c cells slots Q nL sh S) : ab_G K p l e R s m args below meth c cells slots Q nL sh (pc, lv, st, D) := by
  obtain ⟨rfl, h2⟩ := ab_g_s hs
  obtain ⟨x, hk, rfl⟩ := ab_q_lda h2
  intro ls H locs hl hw hS
  have hv := ab_lk_at hl hk
  have hG := G ls H locs hl hw hS
  simp only [List.map_cons] at hG
  rcases ab_cv_ref hf x with h | ⟨a, h⟩
  · rw [h] at hv hG; exact lv_aload_nN hx hb hd rfl hv hG
  · rw [h] at hv hG; exact lv_aload_n hx hb hd rfl hv hG
theorem ab_w_aload {sh : abZ} {pc len : Nat} {lv : abL} {st : List Value} {D : abD} {S : abS} {k : Nat} (hx : p.tables.exec = Jvm.exec) (hb : c.code = cc) (hf : kf K = .null ∨ ∃ a, kf K = .ref a) (hd : decode cc pc = .ok (.aload k, len)) (hs : ab_g len 2 (ab_lda (pc + 2) lv st D k) = some S) (G : ab_G K p l e R s m args below meth c cells slots Q nL sh S) : ab_G K p l e R s m args below meth c cells slots Q nL sh (pc, lv, st, D) := by
  obtain ⟨rfl, h2⟩ := ab_g_s hs
  obtain ⟨x, hk, rfl⟩ := ab_q_lda h2
  intro ls H locs hl hw hS
  have hv := ab_lk_at hl hk
  have hG := G ls H locs hl hw hS
  simp only [List.map_cons] at hG
  rcases ab_cv_ref hf x with h | ⟨a, h⟩
  · rw [h] at hv hG; exact lv_aloadN hx hb hd hv hG
  · rw [h] at hv hG; exact lv_aload hx hb hd hv hG
theorem ab_w_istore_n {sh : abZ} {pc len : Nat} {lv : abL} {st : List Value} {D : abD} {S : abS} {k : Fin 4} (hx : p.tables.exec = Jvm.exec) (hb : c.code = cc) (hf : kf K = .null ∨ ∃ a, kf K = .ref a) (hd : decode cc pc = .ok (.istore_n k, len)) (hs : ab_g len 1 (ab_sti (pc + 1) nL lv st D k) = some S) (G : ab_G K p l e R s m args below meth c cells slots Q nL sh S) : ab_G K p l e R s m args below meth c cells slots Q nL sh (pc, lv, st, D) := by
  obtain ⟨rfl, h2⟩ := ab_g_s hs
  obtain ⟨x, r, rfl, hn, rfl⟩ := ab_q_sti h2
  exact fun ls H locs hl hw hS => lv_istore_n hx hb hd rfl hl hn (ab_s1_cv hf lv k (.int x)) (fun ls2 h2 => G ls2 H locs h2 hw hS)
theorem ab_w_istore {sh : abZ} {pc len : Nat} {lv : abL} {st : List Value} {D : abD} {S : abS} {k : Nat} (hx : p.tables.exec = Jvm.exec) (hb : c.code = cc) (hf : kf K = .null ∨ ∃ a, kf K = .ref a) (hd : decode cc pc = .ok (.istore k, len)) (hs : ab_g len 2 (ab_sti (pc + 2) nL lv st D k) = some S) (G : ab_G K p l e R s m args below meth c cells slots Q nL sh S) : ab_G K p l e R s m args below meth c cells slots Q nL sh (pc, lv, st, D) := by
  obtain ⟨rfl, h2⟩ := ab_g_s hs
  obtain ⟨x, r, rfl, hn, rfl⟩ := ab_q_sti h2
  exact fun ls H locs hl hw hS => lv_istore hx hb hd hl hn (ab_s1_cv hf lv k (.int x)) (fun ls2 h2 => G ls2 H locs h2 hw hS)
theorem ab_w_lstore_n {sh : abZ} {pc len : Nat} {lv : abL} {st : List Value} {D : abD} {S : abS} {k : Fin 4} (hx : p.tables.exec = Jvm.exec) (hb : c.code = cc) (hf : kf K = .null ∨ ∃ a, kf K = .ref a) (hd : decode cc pc = .ok (.lstore_n k, len)) (hs : ab_g len 1 (ab_stl (pc + 1) nL lv st D k) = some S) (G : ab_G K p l e R s m args below meth c cells slots Q nL sh S) : ab_G K p l e R s m args below meth c cells slots Q nL sh (pc, lv, st, D) := by
  obtain ⟨rfl, h2⟩ := ab_g_s hs
  obtain ⟨x, r, rfl, hn, rfl⟩ := ab_q_stl h2
  exact fun ls H locs hl hw hS => lv_lstore_n hx hb hd rfl hl hn (ab_s2_cv hf lv k (.long x)) (fun ls2 h2 => G ls2 H locs h2 hw hS)
theorem ab_w_lstore {sh : abZ} {pc len : Nat} {lv : abL} {st : List Value} {D : abD} {S : abS} {k : Nat} (hx : p.tables.exec = Jvm.exec) (hb : c.code = cc) (hf : kf K = .null ∨ ∃ a, kf K = .ref a) (hd : decode cc pc = .ok (.lstore k, len)) (hs : ab_g len 2 (ab_stl (pc + 2) nL lv st D k) = some S) (G : ab_G K p l e R s m args below meth c cells slots Q nL sh S) : ab_G K p l e R s m args below meth c cells slots Q nL sh (pc, lv, st, D) := by
  obtain ⟨rfl, h2⟩ := ab_g_s hs
  obtain ⟨x, r, rfl, hn, rfl⟩ := ab_q_stl h2
  exact fun ls H locs hl hw hS => lv_lstore hx hb hd hl hn (ab_s2_cv hf lv k (.long x)) (fun ls2 h2 => G ls2 H locs h2 hw hS)
theorem ab_w_astore_n {sh : abZ} {pc len : Nat} {lv : abL} {st : List Value} {D : abD} {S : abS} {k : Fin 4} (hx : p.tables.exec = Jvm.exec) (hb : c.code = cc) (hf : kf K = .null ∨ ∃ a, kf K = .ref a) (hd : decode cc pc = .ok (.astore_n k, len)) (hs : ab_g len 1 (ab_sta (pc + 1) nL lv st D k) = some S) (G : ab_G K p l e R s m args below meth c cells slots Q nL sh S) : ab_G K p l e R s m args below meth c cells slots Q nL sh (pc, lv, st, D) := by
  obtain ⟨rfl, h2⟩ := ab_g_s hs
  obtain ⟨x, r, rfl, hn, rfl⟩ := ab_q_sta h2
  intro ls H locs hl hw hS
  have e9 := ab_s1_cv hf lv k (.ref x)
  rw [ab_cv_r K (Nat.ne_of_lt (Nat.lt_trans hn.2 (by decide)))] at e9
  show W p l e R s m args below meth c H locs cells slots Q (F0 m pc ls (ab_cv K (.ref x) :: r.map (ab_cv K)))
  rw [ab_cv_r K (Nat.ne_of_lt (Nat.lt_trans hn.2 (by decide)))]
  exact lv_astore_n hx hb hd rfl hl hn.1 e9 (fun ls2 h2 => G ls2 H locs h2 hw hS)
theorem ab_w_astore {sh : abZ} {pc len : Nat} {lv : abL} {st : List Value} {D : abD} {S : abS} {k : Nat} (hx : p.tables.exec = Jvm.exec) (hb : c.code = cc) (hf : kf K = .null ∨ ∃ a, kf K = .ref a) (hd : decode cc pc = .ok (.astore k, len)) (hs : ab_g len 2 (ab_sta (pc + 2) nL lv st D k) = some S) (G : ab_G K p l e R s m args below meth c cells slots Q nL sh S) : ab_G K p l e R s m args below meth c cells slots Q nL sh (pc, lv, st, D) := by
  obtain ⟨rfl, h2⟩ := ab_g_s hs
  obtain ⟨x, r, rfl, hn, rfl⟩ := ab_q_sta h2
  intro ls H locs hl hw hS
  have e9 := ab_s1_cv hf lv k (.ref x)
  rw [ab_cv_r K (Nat.ne_of_lt (Nat.lt_trans hn.2 (by decide)))] at e9
  show W p l e R s m args below meth c H locs cells slots Q (F0 m pc ls (ab_cv K (.ref x) :: r.map (ab_cv K)))
  rw [ab_cv_r K (Nat.ne_of_lt (Nat.lt_trans hn.2 (by decide)))]
  exact lv_astore hx hb hd hl hn.1 e9 (fun ls2 h2 => G ls2 H locs h2 hw hS)
theorem ab_w_iinc {sh : abZ} {pc len : Nat} {lv : abL} {st : List Value} {D : abD} {S : abS} {k : Nat} {n : Int} (hx : p.tables.exec = Jvm.exec) (hb : c.code = cc) (hf : kf K = .null ∨ ∃ a, kf K = .ref a) (hd : decode cc pc = .ok (.iinc k n, len)) (hs : ab_g len 3 (match ab_lk lv k with | some (.int x) => if k < nL then some (pc + 3, ab_s1 lv k (.int (x + Int32.ofInt n)), st, D) else none | _ => none) = some S) (G : ab_G K p l e R s m args below meth c cells slots Q nL sh S) : ab_G K p l e R s m args below meth c cells slots Q nL sh (pc, lv, st, D) := by
  obtain ⟨rfl, h2⟩ := ab_g_s hs
  split at h2
  · rename_i x hk
    split at h2
    · obtain rfl := Option.some.inj h2
      obtain ⟨j, hj⟩ := ab_lk_ix hk
      intro ls H locs hl hw hS
      exact lv_iinc (k := j) hx hb hd hl (by rw [ab_cl2, List.getElem?_map, hj]; rfl) rfl (by assumption) (ab_s1_cv hf lv k (.int (x + Int32.ofInt n))) (fun ls2 h2 => G ls2 H locs h2 hw hS)
    · cases h2
  · cases h2
theorem ab_w_idiv {sh : abZ} {pc len : Nat} {lv : abL} {st : List Value} {D : abD} {S : abS}  (hx : p.tables.exec = Jvm.exec) (hb : c.code = cc) (hd : decode cc pc = .ok (.idiv, len)) (hs : ab_g len 1 (match st with | .int y :: .int x :: r => if y = 0 then none else some (pc + 1, lv, .int (x / y) :: r, D) | _ => none) = some S) (G : ab_G K p l e R s m args below meth c cells slots Q nL sh S) : ab_G K p l e R s m args below meth c cells slots Q nL sh (pc, lv, st, D) := by
  obtain ⟨rfl, h2⟩ := ab_g_s hs
  split at h2
  · split at h2
    · cases h2
    · obtain rfl := Option.some.inj h2
      exact fun ls H locs hl hw hS => lv_idiv hx hb hd (by assumption) (G ls H locs hl hw hS)
  · cases h2
theorem ab_w_irem {sh : abZ} {pc len : Nat} {lv : abL} {st : List Value} {D : abD} {S : abS}  (hx : p.tables.exec = Jvm.exec) (hb : c.code = cc) (hd : decode cc pc = .ok (.irem, len)) (hs : ab_g len 1 (match st with | .int y :: .int x :: r => if y = 0 then none else some (pc + 1, lv, .int (x - x / y * y) :: r, D) | _ => none) = some S) (G : ab_G K p l e R s m args below meth c cells slots Q nL sh S) : ab_G K p l e R s m args below meth c cells slots Q nL sh (pc, lv, st, D) := by
  obtain ⟨rfl, h2⟩ := ab_g_s hs
  split at h2
  · split at h2
    · cases h2
    · obtain rfl := Option.some.inj h2
      exact fun ls H locs hl hw hS => lv_irem hx hb hd (by assumption) (G ls H locs hl hw hS)
  · cases h2
theorem ab_w_ldiv {sh : abZ} {pc len : Nat} {lv : abL} {st : List Value} {D : abD} {S : abS}  (hx : p.tables.exec = Jvm.exec) (hb : c.code = cc) (hd : decode cc pc = .ok (.ldiv, len)) (hs : ab_g len 1 (match st with | .long y :: .long x :: r => if y = 0 then none else some (pc + 1, lv, .long (x / y) :: r, D) | _ => none) = some S) (G : ab_G K p l e R s m args below meth c cells slots Q nL sh S) : ab_G K p l e R s m args below meth c cells slots Q nL sh (pc, lv, st, D) := by
  obtain ⟨rfl, h2⟩ := ab_g_s hs
  split at h2
  · split at h2
    · cases h2
    · obtain rfl := Option.some.inj h2
      exact fun ls H locs hl hw hS => lv_ldiv hx hb hd (by assumption) (G ls H locs hl hw hS)
  · cases h2
theorem ab_w_lrem {sh : abZ} {pc len : Nat} {lv : abL} {st : List Value} {D : abD} {S : abS}  (hx : p.tables.exec = Jvm.exec) (hb : c.code = cc) (hd : decode cc pc = .ok (.lrem, len)) (hs : ab_g len 1 (match st with | .long y :: .long x :: r => if y = 0 then none else some (pc + 1, lv, .long (x - x / y * y) :: r, D) | _ => none) = some S) (G : ab_G K p l e R s m args below meth c cells slots Q nL sh S) : ab_G K p l e R s m args below meth c cells slots Q nL sh (pc, lv, st, D) := by
  obtain ⟨rfl, h2⟩ := ab_g_s hs
  split at h2
  · split at h2
    · cases h2
    · obtain rfl := Option.some.inj h2
      exact fun ls H locs hl hw hS => lv_lrem hx hb hd (by assumption) (G ls H locs hl hw hS)
  · cases h2
theorem ab_w_lcmp {sh : abZ} {pc len : Nat} {lv : abL} {st : List Value} {D : abD} {S : abS}  (hx : p.tables.exec = Jvm.exec) (hb : c.code = cc) (hd : decode cc pc = .ok (.lcmp, len)) (hs : ab_g len 1 (match st with | .long y :: .long x :: r => some (pc + 1, lv, .int (lg_cmp x y) :: r, D) | _ => none) = some S) (G : ab_G K p l e R s m args below meth c cells slots Q nL sh S) : ab_G K p l e R s m args below meth c cells slots Q nL sh (pc, lv, st, D) := by
  obtain ⟨rfl, h2⟩ := ab_g_s hs
  split at h2
  · obtain rfl := Option.some.inj h2
    exact fun ls H locs hl hw hS => W.lcmp hx hb hd (G ls H locs hl hw hS)
  · cases h2
theorem ab_w_dup {sh : abZ} {pc len : Nat} {lv : abL} {st : List Value} {D : abD} {S : abS}  (hx : p.tables.exec = Jvm.exec) (hb : c.code = cc) (hf : kf K = .null ∨ ∃ a, kf K = .ref a) (hd : decode cc pc = .ok (.dup, len)) (hs : ab_g len 1 (match st with | v :: r => if v.category = 1 then some (pc + 1, lv, v :: v :: r, D) else none | _ => none) = some S) (G : ab_G K p l e R s m args below meth c cells slots Q nL sh S) : ab_G K p l e R s m args below meth c cells slots Q nL sh (pc, lv, st, D) := by
  obtain ⟨rfl, h2⟩ := ab_g_s hs
  split at h2
  · split at h2
    · obtain rfl := Option.some.inj h2
      exact fun ls H locs hl hw hS => lv_dup hx hb hd (by rw [ab_cv_cat hf]; assumption) (G ls H locs hl hw hS)
    · cases h2
  · cases h2
theorem ab_w_pop {sh : abZ} {pc len : Nat} {lv : abL} {st : List Value} {D : abD} {S : abS}  (hx : p.tables.exec = Jvm.exec) (hb : c.code = cc) (hf : kf K = .null ∨ ∃ a, kf K = .ref a) (hd : decode cc pc = .ok (.pop, len)) (hs : ab_g len 1 (match st with | v :: r => if v.category = 1 then some (pc + 1, lv, r, D) else none | _ => none) = some S) (G : ab_G K p l e R s m args below meth c cells slots Q nL sh S) : ab_G K p l e R s m args below meth c cells slots Q nL sh (pc, lv, st, D) := by
  obtain ⟨rfl, h2⟩ := ab_g_s hs
  split at h2
  · split at h2
    · obtain rfl := Option.some.inj h2
      exact fun ls H locs hl hw hS => lv_pop hx hb hd (by rw [ab_cv_cat hf]; assumption) (G ls H locs hl hw hS)
    · cases h2
  · cases h2
theorem ab_w_dup2 {sh : abZ} {pc len : Nat} {lv : abL} {st : List Value} {D : abD} {S : abS}  (hx : p.tables.exec = Jvm.exec) (hb : c.code = cc) (hf : kf K = .null ∨ ∃ a, kf K = .ref a) (hd : decode cc pc = .ok (.dup2, len)) (hs : ab_g len 1 (match st with | v :: r => if v.category = 2 then some (pc + 1, lv, v :: v :: r, D) else (match r with | w :: r2 => if w.category = 1 then some (pc + 1, lv, v :: w :: v :: w :: r2, D) else none | [] => none) | _ => none) = some S) (G : ab_G K p l e R s m args below meth c cells slots Q nL sh S) : ab_G K p l e R s m args below meth c cells slots Q nL sh (pc, lv, st, D) := by
  obtain ⟨rfl, h2⟩ := ab_g_s hs
  split at h2
  · rename_i v r
    split at h2
    · obtain rfl := Option.some.inj h2
      exact fun ls H locs hl hw hS => lv_dup2_2 hx hb hd (by rw [ab_cv_cat hf]; assumption) (G ls H locs hl hw hS)
    · rename_i hc
      have hv : v.category = 1 := by rcases lv_cat v with h | h; exact h; exact absurd h hc
      split at h2
      · split at h2
        · obtain rfl := Option.some.inj h2
          exact fun ls H locs hl hw hS => lv_dup2_11 hx hb hd (by rw [ab_cv_cat hf]; exact hv) (by rw [ab_cv_cat hf]; assumption) (G ls H locs hl hw hS)
        · cases h2
      · cases h2
  · cases h2
theorem ab_w_if {sh : abZ} {pc len : Nat} {lv : abL} {st : List Value} {D : abD} {S : abS} {cd : Jvm.ClassFile.Cond} {off : Int} (hx : p.tables.exec = Jvm.exec) (hb : c.code = cc) (hd : decode cc pc = .ok (.ifCond cd off, len)) (hs : ab_g len 3 (match st with | .int x :: r => if 0 ≤ (pc : Int) + off then ab_if cd x 0 (some (((pc : Int) + off).toNat, lv, r, D)) (some (pc + 3, lv, r, D)) else none | _ => none) = some S) (G : ab_G K p l e R s m args below meth c cells slots Q nL sh S) : ab_G K p l e R s m args below meth c cells slots Q nL sh (pc, lv, st, D) := by
  obtain ⟨rfl, h2⟩ := ab_g_s hs
  split at h2
  · split at h2
    · rename_i h0
      have ht := (Int.toNat_of_nonneg h0).symm
      intro ls H locs hl hw hS
      cases cd with
      | eq => exact lv_if_eq hx hb hd ht (fun q => by simp only [ab_if] at h2; rw [if_pos q] at h2; obtain rfl := Option.some.inj h2; exact G ls H locs hl hw hS) (fun q => by simp only [ab_if] at h2; rw [if_neg q] at h2; obtain rfl := Option.some.inj h2; exact G ls H locs hl hw hS)
      | ne => exact lv_if_ne hx hb hd ht (fun q => by simp only [ab_if] at h2; rw [if_neg q] at h2; obtain rfl := Option.some.inj h2; exact G ls H locs hl hw hS) (fun q => by simp only [ab_if] at h2; rw [if_pos q] at h2; obtain rfl := Option.some.inj h2; exact G ls H locs hl hw hS)
      | lt => exact lv_if_lt hx hb hd ht (fun q => by simp only [ab_if] at h2; rw [if_pos q] at h2; obtain rfl := Option.some.inj h2; exact G ls H locs hl hw hS) (fun q => by simp only [ab_if] at h2; rw [if_neg q] at h2; obtain rfl := Option.some.inj h2; exact G ls H locs hl hw hS)
      | ge => exact lv_if_ge hx hb hd ht (fun q => by simp only [ab_if] at h2; rw [if_pos q] at h2; obtain rfl := Option.some.inj h2; exact G ls H locs hl hw hS) (fun q => by simp only [ab_if] at h2; rw [if_neg q] at h2; obtain rfl := Option.some.inj h2; exact G ls H locs hl hw hS)
      | gt => exact lv_if_gt hx hb hd ht (fun q => by simp only [ab_if] at h2; rw [if_pos q] at h2; obtain rfl := Option.some.inj h2; exact G ls H locs hl hw hS) (fun q => by simp only [ab_if] at h2; rw [if_neg q] at h2; obtain rfl := Option.some.inj h2; exact G ls H locs hl hw hS)
      | le => exact lv_if_le hx hb hd ht (fun q => by simp only [ab_if] at h2; rw [if_pos q] at h2; obtain rfl := Option.some.inj h2; exact G ls H locs hl hw hS) (fun q => by simp only [ab_if] at h2; rw [if_neg q] at h2; obtain rfl := Option.some.inj h2; exact G ls H locs hl hw hS)
    · cases h2
  · cases h2
theorem ab_w_icmp {sh : abZ} {pc len : Nat} {lv : abL} {st : List Value} {D : abD} {S : abS} {cd : Jvm.ClassFile.Cond} {off : Int} (hx : p.tables.exec = Jvm.exec) (hb : c.code = cc) (hd : decode cc pc = .ok (.if_icmp cd off, len)) (hs : ab_g len 3 (match st with | .int y :: .int x :: r => if 0 ≤ (pc : Int) + off then ab_if cd x y (some (((pc : Int) + off).toNat, lv, r, D)) (some (pc + 3, lv, r, D)) else none | _ => none) = some S) (G : ab_G K p l e R s m args below meth c cells slots Q nL sh S) : ab_G K p l e R s m args below meth c cells slots Q nL sh (pc, lv, st, D) := by
  obtain ⟨rfl, h2⟩ := ab_g_s hs
  split at h2
  · split at h2
    · rename_i h0
      have ht := (Int.toNat_of_nonneg h0).symm
      intro ls H locs hl hw hS
      cases cd with
      | eq => exact lv_icmp_eq hx hb hd ht (fun q => by simp only [ab_if] at h2; rw [if_pos q] at h2; obtain rfl := Option.some.inj h2; exact G ls H locs hl hw hS) (fun q => by simp only [ab_if] at h2; rw [if_neg q] at h2; obtain rfl := Option.some.inj h2; exact G ls H locs hl hw hS)
      | ne => exact lv_icmp_ne hx hb hd ht (fun q => by simp only [ab_if] at h2; rw [if_neg q] at h2; obtain rfl := Option.some.inj h2; exact G ls H locs hl hw hS) (fun q => by simp only [ab_if] at h2; rw [if_pos q] at h2; obtain rfl := Option.some.inj h2; exact G ls H locs hl hw hS)
      | lt => exact lv_icmp_lt hx hb hd ht (fun q => by simp only [ab_if] at h2; rw [if_pos q] at h2; obtain rfl := Option.some.inj h2; exact G ls H locs hl hw hS) (fun q => by simp only [ab_if] at h2; rw [if_neg q] at h2; obtain rfl := Option.some.inj h2; exact G ls H locs hl hw hS)
      | ge => exact lv_icmp_ge hx hb hd ht (fun q => by simp only [ab_if] at h2; rw [if_pos q] at h2; obtain rfl := Option.some.inj h2; exact G ls H locs hl hw hS) (fun q => by simp only [ab_if] at h2; rw [if_neg q] at h2; obtain rfl := Option.some.inj h2; exact G ls H locs hl hw hS)
      | gt => exact lv_icmp_gt hx hb hd ht (fun q => by simp only [ab_if] at h2; rw [if_pos q] at h2; obtain rfl := Option.some.inj h2; exact G ls H locs hl hw hS) (fun q => by simp only [ab_if] at h2; rw [if_neg q] at h2; obtain rfl := Option.some.inj h2; exact G ls H locs hl hw hS)
      | le => exact lv_icmp_le hx hb hd ht (fun q => by simp only [ab_if] at h2; rw [if_pos q] at h2; obtain rfl := Option.some.inj h2; exact G ls H locs hl hw hS) (fun q => by simp only [ab_if] at h2; rw [if_neg q] at h2; obtain rfl := Option.some.inj h2; exact G ls H locs hl hw hS)
    · cases h2
  · cases h2
theorem ab_w_goto {sh : abZ} {pc len : Nat} {lv : abL} {st : List Value} {D : abD} {S : abS} {off : Int} (hx : p.tables.exec = Jvm.exec) (hb : c.code = cc) (hd : decode cc pc = .ok (.goto off, len)) (hs : ab_g len 3 (ab_go pc off lv st D) = some S) (G : ab_G K p l e R s m args below meth c cells slots Q nL sh S) : ab_G K p l e R s m args below meth c cells slots Q nL sh (pc, lv, st, D) := by
  obtain ⟨rfl, h2⟩ := ab_g_s hs
  obtain ⟨ht, rfl⟩ := ab_q_go h2
  exact fun ls H locs hl hw hS => lv_goto hx hb hd ht (G ls H locs hl hw hS)
theorem ab_w_table {sh : abZ} {pc len : Nat} {lv : abL} {st : List Value} {D : abD} {S : abS} {d lo hi : Int} {offs : Array Int} (hx : p.tables.exec = Jvm.exec) (hb : c.code = cc) (hd : decode cc pc = .ok (.tableswitch d lo hi offs, len)) (hs : (match st with | .int x :: r => if x.toInt < lo ∨ hi < x.toInt then ab_go pc d lv r D else (match offs[(x.toInt - lo).toNat]? with | some off => ab_go pc off lv r D | none => none) | _ => none) = some S) (G : ab_G K p l e R s m args below meth c cells slots Q nL sh S) : ab_G K p l e R s m args below meth c cells slots Q nL sh (pc, lv, st, D) := by
  split at hs
  · split at hs
    · obtain ⟨ht, rfl⟩ := ab_q_go hs
      exact fun ls H locs hl hw hS => lv_tableOut hx hb hd (by assumption) ht (G ls H locs hl hw hS)
    · rename_i hn
      split at hs
      · obtain ⟨ht, rfl⟩ := ab_q_go hs
        exact fun ls H locs hl hw hS => lv_tableIn hx hb hd (fun q => hn (Or.inl q)) (fun q => hn (Or.inr q)) (by assumption) ht (G ls H locs hl hw hS)
      · cases hs
  · cases hs
theorem ab_w_lookup {sh : abZ} {pc len : Nat} {lv : abL} {st : List Value} {D : abD} {S : abS} {d : Int} {ps : Array (Int × Int)} (hx : p.tables.exec = Jvm.exec) (hb : c.code = cc) (hd : decode cc pc = .ok (.lookupswitch d ps, len)) (hs : (match st with | .int x :: r => if (ps.toList.zip (ps.toList.drop 1)).all (fun (a, next) => a.1 < next.1) = true then ab_go pc (Op.lookupswitch.offset ps.toList d x.toInt) lv r D else none | _ => none) = some S) (G : ab_G K p l e R s m args below meth c cells slots Q nL sh S) : ab_G K p l e R s m args below meth c cells slots Q nL sh (pc, lv, st, D) := by
  split at hs
  · split at hs
    · obtain ⟨ht, rfl⟩ := ab_q_go hs
      exact fun ls H locs hl hw hS => lv_lookup hx hb hd (by assumption) rfl ht (G ls H locs hl hw hS)
    · cases hs
  · cases hs
end AB0
