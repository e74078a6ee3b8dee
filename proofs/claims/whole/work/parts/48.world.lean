/-! All that is: the moor, the stand, what can be undone, images, the tape, the fault, trays. -/
abbrev ImT : Type := Option (MoT × StT)
abbrev TrT : Type := Option (Nat × Nat × (Nat → Int64))
abbrev AbT : Type := MoT × StT × List StT × (Nat → ImT) × (Nat × (Nat → Nat)) × (Int32 × Int32) × (Nat → TrT)
def aM (A : AbT) : MoT := A.1
def aS (A : AbT) : StT := A.2.1
def aU (A : AbT) : List StT := A.2.2.1
def aI (A : AbT) : Nat → ImT := A.2.2.2.1
def aT (A : AbT) : Nat × (Nat → Nat) := A.2.2.2.2.1
def aF (A : AbT) : Int32 × Int32 := A.2.2.2.2.2.1
def aY (A : AbT) : Nat → TrT := A.2.2.2.2.2.2
def s00 : StT := (0, 0, 0, 0)
def WF (A : AbT) : Prop := MO (aM A) ∧ SO (aM A) (aS A) ∧ ((aU A).length ≤ 10 ∧ ∀ i, i < (aU A).length → SO (aM A) ((aU A).getD i s00)) ∧ (∀ i x, i < 2 → aI A i = some x → MO x.1 ∧ SO x.1 x.2) ∧ ((aT A).1 ≤ 900 ∧ ∀ k, k < (aT A).1 → (aT A).2 k < 256) ∧ (∀ j t, j < 4 → aY A j = some t → t.1 ≤ 3 ∧ t.2.1 ≤ 40)
def cI (x : ImT) (i : Nat) (h : abJ) : Prop := match x with
  | none => h.1 (54 + 5 * i) 0 = nI 0
  | some x => cM x.1 (54 + 5 * i) h ∧ cS x.2 (58 + 5 * i) h
def cY (t : TrT) (j : Nat) (h : abJ) : Prop := match t with
  | none => h.1 (44 + 2 * j) 0 = nI 1
  | some t => h.1 (44 + 2 * j) 0 = nI 0 ∧ h.1 (44 + 2 * j) 1 = nI t.1 ∧ h.1 (44 + 2 * j) 2 = nI t.2.1 ∧ ∀ k, k < t.2.1 → h.2 (45 + 2 * j) k = t.2.2 k
def RC (A : AbT) (h : abJ) : Prop := cM (aM A) 1 h ∧ cS (aS A) 12 h ∧ cK (aM A) h ∧ rdy (aM A) (sF (aS A)) h ∧ (h.1 16 6 = nI (aU A).length ∧ ∀ i, i < (aU A).length → cS ((aU A).getD i s00) (20 + i) h ∧ rdy (aM A) (sF ((aU A).getD i s00)) h) ∧ (∀ i, i < 2 → cI (aI A i) i h) ∧ (h.1 9 4 = nI (aT A).1 ∧ ∀ k, k < (aT A).1 → h.1 11 k = nI ((aT A).2 k)) ∧ (h.1 9 10 = (aF A).1 ∧ h.1 9 11 = (aF A).2) ∧ ∀ j, j < 4 → cY (aY A j) j h
def rI (x : ImT) (i : Nat) (h : abJ) : Prop := match x with
  | none => h.1 66 i = nI 0
  | some x => h.1 66 i = nI 1 ∧ rM x.1 (fun k => h.1 65 (1034 * (i + 1) + k)) ∧ rS x.2 (fun k => h.1 65 (1034 * (i + 1) + (33 + k)))
def rY (t : TrT) (j : Nat) (h : abJ) : Prop := match t with
  | none => h.1 85 j = -nI 1
  | some t => h.1 85 j = nI t.1 ∧ h.1 86 j = nI t.2.1 ∧ ∀ k, k < t.2.1 → h.2 87 (40 * j + k) = t.2.2 k
def RR (A : AbT) (h : abJ) : Prop := rM (aM A) (h.1 65) ∧ rS (aS A) (fun k => h.1 65 (33 + k)) ∧ (h.1 65 42 = nI (aU A).length ∧ ∀ i, i < (aU A).length → rS ((aU A).getD i s00) (fun k => h.1 65 (43 + 9 * i + k))) ∧ (∀ i, i < 2 → rI (aI A i) i h) ∧ (h.1 64 5 = nI (aT A).1 ∧ ∀ k, k < (aT A).1 → h.1 67 k = nI ((aT A).2 k)) ∧ (h.1 64 13 = (aF A).1 ∧ h.1 64 14 = (aF A).2) ∧ ∀ j, j < 4 → rY (aY A j) j h
/-- the cells that count -/
def CC : List Nat := [1, 2, 3, 4, 9, 11, 12, 13, 14, 16, 20, 21, 22, 23, 24, 25, 26, 27, 28, 29, 44, 46, 48, 50, 54, 55, 56, 57, 58, 59, 60, 61, 62, 63]
theorem RC_eq {A : AbT} {h h' : abJ} (hW : WF A) (hR : RC A h) (e1 : ∀ o, o ∈ CC → h'.1 o = h.1 o) (e2 : ∀ o, o = 45 ∨ o = 47 ∨ o = 49 ∨ o = 51 → h'.2 o = h.2 o) : RC A h' := by
  obtain ⟨r1, r2, r3, r4, r5, r6, r7, r8, r9⟩ := hR
  have c1 := e1 1 (by decide)
  have c2 := e1 2 (by decide)
  have c3 := e1 3 (by decide)
  have c4 := e1 4 (by decide)
  have c9 := e1 9 (by decide)
  have c11 := e1 11 (by decide)
  have c12 := e1 12 (by decide)
  have c13 := e1 13 (by decide)
  have c14 := e1 14 (by decide)
  have c16 := e1 16 (by decide)
  refine ⟨?_, ?_, ?_, ?_, ⟨?_, fun i hi => ⟨?_, ?_⟩⟩, fun i hi => ?_, ⟨?_, fun k hk => ?_⟩, ⟨?_, ?_⟩, fun j hj => ?_⟩
  · unfold cM; rw [c1, show 1 + 1 = 2 from rfl, show 1 + 2 = 3 from rfl, show 1 + 3 = 4 from rfl, c2, c3, c4]; exact r1
  · unfold cS; rw [c12]; exact r2
  · unfold cK rdy; rw [c13, c14]; exact r3
  · unfold rdy; rw [c14]; exact r4
  · rw [c16]; exact r5.1
  · have hl := hW.2.2.1.1
    have : 20 + i ∈ CC := by
      have cs : i = 0 ∨ i = 1 ∨ i = 2 ∨ i = 3 ∨ i = 4 ∨ i = 5 ∨ i = 6 ∨ i = 7 ∨ i = 8 ∨ i = 9 := by omega
      rcases cs with e | e | e | e | e | e | e | e | e | e <;> subst e <;> decide
    unfold cS; rw [e1 _ this]; exact (r5.2 i hi).1
  · unfold rdy; rw [c14]; exact (r5.2 i hi).2
  · have := r6 i hi
    have cs : i = 0 ∨ i = 1 := by omega
    unfold cI cM cS at this ⊢
    rcases cs with e | e <;> subst e
    · rw [e1 54 (by decide), e1 (54 + 5 * 0 + 1) (by decide), e1 (54 + 5 * 0 + 2) (by decide), e1 (54 + 5 * 0 + 3) (by decide), e1 (58 + 5 * 0) (by decide)]; exact this
    · rw [e1 (54 + 5 * 1) (by decide), e1 (54 + 5 * 1 + 1) (by decide), e1 (54 + 5 * 1 + 2) (by decide), e1 (54 + 5 * 1 + 3) (by decide), e1 (58 + 5 * 1) (by decide)]; exact this
  · rw [c9]; exact r7.1
  · rw [c11]; exact r7.2 k hk
  · rw [c9]; exact r8.1
  · rw [c9]; exact r8.2
  · have := r9 j hj
    have cs : j = 0 ∨ j = 1 ∨ j = 2 ∨ j = 3 := by omega
    unfold cY at this ⊢
    rcases cs with e | e | e | e <;> subst e <;> rw [e1 _ (by decide), e2 _ (by decide)] <;> exact this
theorem RR_eq {A : AbT} {h h' : abJ} (hR : RR A h) (e1 : ∀ o, o = 65 ∨ o = 66 ∨ o = 67 ∨ o = 85 ∨ o = 86 → h'.1 o = h.1 o) (e2 : ∀ k, k = 5 ∨ k = 13 ∨ k = 14 → h'.1 64 k = h.1 64 k) (e3 : h'.2 87 = h.2 87) : RR A h' := by
  obtain ⟨r1, r2, r3, r4, r5, r6, r7⟩ := hR
  have c65 := e1 65 (by simp)
  have c66 := e1 66 (by simp)
  have c67 := e1 67 (by simp)
  have c85 := e1 85 (by simp)
  have c86 := e1 86 (by simp)
  refine ⟨?_, ?_, ⟨?_, fun i hi => ?_⟩, fun i hi => ?_, ⟨?_, fun k hk => ?_⟩, ⟨?_, ?_⟩, fun j hj => ?_⟩
  · rw [c65]; exact r1
  · rw [c65]; exact r2
  · rw [c65]; exact r3.1
  · rw [c65]; exact r3.2 i hi
  · have := r4 i hi
    unfold rI at this ⊢
    rw [c65, c66]; exact this
  · rw [e2 5 (by simp)]; exact r5.1
  · rw [c67]; exact r5.2 k hk
  · rw [e2 13 (by simp)]; exact r6.1
  · rw [e2 14 (by simp)]; exact r6.2
  · have := r7 j hj
    unfold rY at this ⊢
    rw [c85, c86, e3]; exact this
def abv (h h' : abJ) : Prop := ∀ o, 64 ≤ o → h'.1 o = h.1 o ∧ h'.2 o = h.2 o
def blw (h h' : abJ) : Prop := ∀ o, o < 64 → h'.1 o = h.1 o ∧ h'.2 o = h.2 o
theorem abv_fr {S T : List Nat} {h h' : abJ} (a : fr S T h h') (hS : ∀ o, o ∈ S → o < 64) (hT : ∀ o, o ∈ T → o < 64) : abv h h' := fun o ho => ⟨a.1 o (fun q => by have := hS o q; omega), a.2 o (fun q => by have := hT o q; omega)⟩
theorem blw_fr {K S T : List Nat} {h h' : abJ} (a : frR K S T h h') (hS : ∀ o, o ∈ S → 64 < o) (hT : ∀ o, o ∈ T → 64 < o) : blw h h' := fun o ho => ⟨a.1 o (fun q => by have := hS o q; omega) (by omega), a.2.2 o (fun q => by have := hT o q; omega)⟩
theorem RC_blw {A : AbT} {h h' : abJ} (hW : WF A) (hR : RC A h) (b : blw h h') : RC A h' := by
  have hC : ∀ o, o ∈ CC → o < 64 := by decide
  exact RC_eq hW hR (fun o ho => (b o (hC o ho)).1) (fun o ho => (b o (by omega)).2)
theorem RR_abv {A : AbT} {h h' : abJ} (hR : RR A h) (b : abv h h') : RR A h' := RR_eq hR (fun o ho => (b o (by omega)).1) (fun k _ => by rw [(b 64 (by omega)).1]) (b 87 (by omega)).2
/-- a call of the class, of the reference: its answer, all that is then -/
def cOK {α : Type} (o : Option (α × abJ)) (h : abJ) (A' : AbT) (V : α → Prop) : Prop := Ok o (fun r => V r.1 ∧ RC A' r.2 ∧ abv h r.2)
def rOK {α : Type} (o : Option (α × abJ)) (h : abJ) (A' : AbT) (V : α → Prop) : Prop := Ok o (fun r => V r.1 ∧ RR A' r.2 ∧ blw h r.2)
/-- scratch cells of the class, of the reference -/
def sc0 : List Nat := [17, 18, 30, 31, 32, 33, 34, 35, 36, 38, 37, 39, 40, 42]
theorem RC_sc {A : AbT} {h h' : abJ} (hW : WF A) (hR : RC A h) (a : fr sc0 [41] h h') : RC A h' ∧ abv h h' := by
  have hC : ∀ o, o ∈ CC → o ∉ sc0 := by decide
  exact ⟨RC_eq hW hR (fun o ho => a.1 o (hC o ho)) (fun o ho => a.2 o (by simp; omega)), abv_fr a (by decide) (by decide)⟩
def sc1 : List Nat := [68, 69, 70, 71, 72, 73, 74, 75, 76, 77, 78, 79, 82, 83, 84]
def sk1 : List Nat := [0, 6, 7, 8, 9, 10, 11, 12, 18, 19, 22, 23, 26, 27]
theorem RR_sc {A : AbT} {h h' : abJ} (hR : RR A h) (a : frR sk1 sc1 [80, 81] h h') : RR A h' ∧ blw h h' := by
  refine ⟨RR_eq hR (fun o ho => a.1 o ?_ (by omega)) (fun k hk => a.2.1 k ?_) (a.2.2 87 (by decide)), blw_fr a (by decide) (by decide)⟩
  · rcases ho with e | e | e | e | e <;> subst e <;> decide
  · rcases hk with e | e | e <;> subst e <;> decide
