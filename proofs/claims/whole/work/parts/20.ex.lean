/-! Runs of the small machine, goal first. -/
abbrev abR : Type := Option Value × abZ × abD
def ab_Ex (X : abX) (d M pc : Nat) (lv : abL) (st : List Value) (sh : abZ) (D : abD) (R : abR → Prop) : Prop := ∃ n r, ab_ex X n d M pc lv st sh D = some r ∧ R r
/-- ab_nxt asks nothing of the method: any will do -/
def ab_q0 : abM := (yX0_init, cX0_init, 0, none, 0, [])
section EX
variable {X : abX} {d M pc : Nat} {lv : abL} {st : List Value} {sh : abZ} {D : abD} {R : abR → Prop}
theorem ab_Ex.blk {k pc' : Nat} {lv' : abL} {st' : List Value} {sh' : abZ} {D' : abD} (h : ∀ n, ab_ex X (n + k) d M pc lv st sh D = ab_ex X n d M pc' lv' st' sh' D') (g : ab_Ex X d M pc' lv' st' sh' D' R) : ab_Ex X d M pc lv st sh D R := by
  obtain ⟨n, r, h1, h2⟩ := g
  exact ⟨n + k, r, (h n).trans h1, h2⟩
theorem ab_Ex.ret {r : abR} (h : ∀ n, ab_ex X (n + 1) d M pc lv st sh D = some r) (hR : R r) : ab_Ex X d M pc lv st sh D R := ⟨1, r, h 0, hR⟩
theorem ab_Ex.nx {sh' : abZ} {S : abS} {o : Nat → Option abN} (h : ∀ n, ab_ex X (n + 1) d M pc lv st sh D = ab_nxt (ab_ex X n) ab_q0 d M pc lv sh D (o n)) (ho : ∀ n, o n = some (.inl (sh', S))) (g : ab_Ex X d M S.1 (ab_msk (ab_mks.getD M []) S.1 S.2.1) S.2.2.1 sh' S.2.2.2 R) : ab_Ex X d M pc lv st sh D R := by
  obtain ⟨n, r, h1, h2⟩ := g
  refine ⟨n + 1, r, ?_, h2⟩
  rw [h n, ho n]
  exact h1
/-- an instruction that asks -/
theorem ab_Ex.grd {S : abS} {c : Prop} [hc0 : Decidable c] (h : ∀ n, ab_ex X (n + 1) d M pc lv st sh D = ab_nxt (ab_ex X n) ab_q0 d M pc lv sh D (ab_nx sh (if c then none else some S))) (hc : ¬ c) (g : ab_Ex X d M S.1 (ab_msk (ab_mks.getD M []) S.1 S.2.1) S.2.2.1 sh S.2.2.2 R) : ab_Ex X d M pc lv st sh D R :=
  ab_Ex.nx h (fun _ => by rw [if_neg hc]; rfl) g
theorem ab_Ex.grp {S : abS} {c : Prop} [hc0 : Decidable c] (h : ∀ n, ab_ex X (n + 1) d M pc lv st sh D = ab_nxt (ab_ex X n) ab_q0 d M pc lv sh D (ab_nx sh (if c then some S else none))) (hc : c) (g : ab_Ex X d M S.1 (ab_msk (ab_mks.getD M []) S.1 S.2.1) S.2.2.1 sh S.2.2.2 R) : ab_Ex X d M pc lv st sh D R :=
  ab_Ex.nx h (fun _ => by rw [if_pos hc]; rfl) g
/-- a branch -/
theorem ab_Ex.ifc {SA SB : abS} {c : Prop} [hc0 : Decidable c] (h : ∀ n, ab_ex X (n + 1) d M pc lv st sh D = ab_nxt (ab_ex X n) ab_q0 d M pc lv sh D (ab_nx sh (if c then some SA else some SB))) (ga : c → ab_Ex X d M SA.1 (ab_msk (ab_mks.getD M []) SA.1 SA.2.1) SA.2.2.1 sh SA.2.2.2 R) (gb : ¬ c → ab_Ex X d M SB.1 (ab_msk (ab_mks.getD M []) SB.1 SB.2.1) SB.2.2.1 sh SB.2.2.2 R) : ab_Ex X d M pc lv st sh D R := by
  by_cases hc : c
  · exact ab_Ex.nx h (fun _ => by rw [if_pos hc]; rfl) (ga hc)
  · exact ab_Ex.nx h (fun _ => by rw [if_neg hc]; rfl) (gb hc)
/-- a call -/
theorem ab_Ex.call {q2 : abM} {M2 : Nat} {as rest : List Value} {R1 : abR → Prop} (h : ∀ n, ab_ex X (n + 1) (d + 1) M pc lv st sh D = ab_nxt (ab_ex X n) ab_q0 (d + 1) M pc lv sh D (some (.inr (.inl (M2, as, rest))))) (hq2 : ab_ms[M2]? = some q2) (hw : ¬ q2.2.2.1 < ab_w as) (g1 : ab_Ex X d M2 0 (lv_args 0 as) [] sh D R1) (g2 : ∀ r, R1 r → ab_Ex X (d + 1) M (pc + 3) (ab_msk (ab_mks.getD M []) (pc + 3) lv) (r.1.toList ++ rest) r.2.1 r.2.2 R) : ab_Ex X (d + 1) M pc lv st sh D R := by
  obtain ⟨n1, r1, h1, h2⟩ := g1
  obtain ⟨n2, r2, h3, h4⟩ := g2 r1 h2
  refine ⟨max n1 n2 + 1, r2, ?_, h4⟩
  rw [h]
  unfold ab_nxt
  dsimp only
  rw [hq2]
  dsimp only
  rw [if_neg hw, ab_mono X (Nat.le_max_left n1 n2) h1]
  exact ab_mono X (Nat.le_max_right n1 n2) h3
theorem ab_Ex.tsw {S : abS} {c : Prop} [hc0 : Decidable c] {o2 : Option abS} (h : ∀ n, ab_ex X (n + 1) d M pc lv st sh D = ab_nxt (ab_ex X n) ab_q0 d M pc lv sh D (ab_nx sh (if c then some S else o2))) (hc : c) (g : ab_Ex X d M S.1 (ab_msk (ab_mks.getD M []) S.1 S.2.1) S.2.2.1 sh S.2.2.2 R) : ab_Ex X d M pc lv st sh D R :=
  ab_Ex.nx h (fun _ => by rw [if_pos hc]; rfl) g
theorem ab_Ex.lsw {S : abS} {ps : List (Int × Int)} {dd off : Int} {x : Int32} {lv' : abL} {r : List Value} (h : ∀ n, ab_ex X (n + 1) d M pc lv st sh D = ab_nxt (ab_ex X n) ab_q0 d M pc lv sh D (ab_nx sh (ab_go pc (Op.lookupswitch.offset ps dd x.toInt) lv' r D))) (ho : Op.lookupswitch.offset ps dd x.toInt = off) (hg : ab_go pc off lv' r D = some S) (g : ab_Ex X d M S.1 (ab_msk (ab_mks.getD M []) S.1 S.2.1) S.2.2.1 sh S.2.2.2 R) : ab_Ex X d M pc lv st sh D R :=
  ab_Ex.nx h (fun _ => by rw [ho, hg]; rfl) g
theorem ab_Ex.mono {R' : abR → Prop} (h : ab_Ex X d M pc lv st sh D R) (hR : ∀ r, R r → R' r) : ab_Ex X d M pc lv st sh D R' := by
  obtain ⟨n, r, h1, h2⟩ := h
  exact ⟨n, r, h1, hR r h2⟩
end EX
/-- what changes: ints and longs -/
abbrev abJ : Type := (Nat → Nat → Int32) × (Nat → Nat → Int64)
def ab_wI (h : abJ) (o k : Nat) (v : Int32) : abJ := (ab_uI h.1 o k v, h.2)
def ab_wL (h : abJ) (o k : Nat) (v : Int64) : abJ := (h.1, ab_uL h.2 o k v)
def ab_rd {α : Type} (h : abJ) (o m : Nat) (j : Int32) (k : Int32 → Option α) : Option α := if j < 0 ∨ m ≤ j.toNatClampNeg then none else k (h.1 o j.toNatClampNeg)
def ab_rdL {α : Type} (h : abJ) (o m : Nat) (j : Int32) (k : Int64 → Option α) : Option α := if j < 0 ∨ m ≤ j.toNatClampNeg then none else k (h.2 o j.toNatClampNeg)
def ab_ask {α : Type} (c : Prop) [Decidable c] (k : Option α) : Option α := if c then none else k
theorem ab_rd_s {α : Type} {h : abJ} {o m : Nat} {j : Int32} {k : Int32 → Option α} {z : α} (hf : ab_rd h o m j k = some z) : ¬ (j < 0 ∨ m ≤ j.toNatClampNeg) ∧ k (h.1 o j.toNatClampNeg) = some z := by
  unfold ab_rd at hf
  split at hf
  · cases hf
  · exact ⟨by assumption, hf⟩
theorem ab_rdL_s {α : Type} {h : abJ} {o m : Nat} {j : Int32} {k : Int64 → Option α} {z : α} (hf : ab_rdL h o m j k = some z) : ¬ (j < 0 ∨ m ≤ j.toNatClampNeg) ∧ k (h.2 o j.toNatClampNeg) = some z := by
  unfold ab_rdL at hf
  split at hf
  · cases hf
  · exact ⟨by assumption, hf⟩
theorem ab_ask_s {α : Type} {c : Prop} [Decidable c] {k : Option α} {z : α} (hf : ab_ask c k = some z) : ¬ c ∧ k = some z := by
  unfold ab_ask at hf
  split at hf
  · cases hf
  · exact ⟨by assumption, hf⟩
theorem ab_bind_s {α β : Type} {a : Option α} {k : α → Option β} {z : β} (h : a.bind k = some z) : ∃ r, a = some r ∧ k r = some z := by
  cases a with
  | none => cases h
  | some r => exact ⟨r, rfl, h⟩
