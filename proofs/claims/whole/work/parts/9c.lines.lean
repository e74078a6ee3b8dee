/-! moor: lines. What is told so far: lines, homes, roads, leads, arms, walker, fog, turns, sticks (where their codes begin, how many). -/
abbrev DrT : Type := Nat × Nat × (Nat → Nat) × (Nat → Nat → Nat) × Nat × Nat × Nat × Option (Nat × Nat) × Option (Nat × Nat)
def dN (x : DrT) : Nat := x.1
def dH (x : DrT) : Nat := x.2.1
def dR (x : DrT) : Nat → Nat := x.2.2.1
def dL (x : DrT) : Nat → Nat → Nat := x.2.2.2.1
def dA (x : DrT) : Nat := x.2.2.2.2.1
def dW (x : DrT) : Nat := x.2.2.2.2.2.1
def dF (x : DrT) : Nat := x.2.2.2.2.2.2.1
def dT (x : DrT) : Option (Nat × Nat) := x.2.2.2.2.2.2.2.1
def dK (x : DrT) : Option (Nat × Nat) := x.2.2.2.2.2.2.2.2
def dr0 : DrT := (0, 0, fun _ => 0, fun _ _ => 0, 0, 0, 0, none, none)
def cLw (c : Option (Nat × Nat)) (a b : Int32) : Prop := match c with
  | none => a = nI 0 ∧ b = nI 0
  | some y => a = nI y.1 ∧ b = nI (y.1 + y.2)
def rLw (c : Option (Nat × Nat)) (g : Nat → Int32) (j : Nat) : Prop := match c with
  | none => g (3 + j) = nI 0
  | some y => g (3 + j) = nI 1 ∧ g (5 + j) = nI y.1 ∧ g (7 + j) = nI y.2
/-- the class's draft, the reference's -/
def DC (P : Nat) (x : DrT) (h : abJ) : Prop := h.1 5 0 = nI P ∧ h.1 5 1 = nI (dN x) ∧ h.1 5 2 = nI (dH x) ∧ (∀ p, p < 6 → h.1 6 p = nI (dR x p)) ∧ (∀ p r, p < 6 → r < dR x p → h.1 7 (p * 3 + r) = nI (dL x p r)) ∧ cLw (dT x) (h.1 5 3) (h.1 5 4) ∧ cLw (dK x) (h.1 5 5) (h.1 5 6) ∧ h.1 10 0 = nI (dW x) ∧ h.1 10 1 = nI (dA x) ∧ h.1 10 2 = nI (dF x) ∧ h.1 10 3 = nI 0
def DQ (P : Nat) (x : DrT) (h : abJ) : Prop := h.1 68 0 = nI (dN x) ∧ h.1 68 1 = nI P ∧ h.1 68 2 = nI (dH x) ∧ (∀ p, p < 6 → h.1 68 (9 + p) = nI (dR x p)) ∧ (∀ p r, p < 6 → r < dR x p → h.1 68 (15 + 3 * p + r) = nI (dL x p r)) ∧ rLw (dT x) (h.1 68) 0 ∧ rLw (dK x) (h.1 68) 1 ∧ h.1 68 33 = nI (dW x) ∧ (∀ p, p < 6 → h.1 68 (34 + p) = nI (dg (dA x) p)) ∧ h.1 68 40 = nI (dF x) ∧ h.1 68 41 = nI 0 ∧ h.1 68 42 = nI 0
/-- what holds of what is told -/
def DO (P : Nat) (x : DrT) : Prop := 1 ≤ P ∧ P ≤ 6 ∧ dH x < 2 ^ P ∧ (∀ p, dR x p ≤ 3) ∧ (∀ p, P ≤ p → dR x p = 0) ∧ (∀ p r, dL x p r < P) ∧ (∀ p, dg (dA x) p < max 1 (dR x p)) ∧ dW x < P ∧ dF x < 10
/-- one line, without its end -/
def lnR (K N V : Nat → Nat) (P : Nat) (s : PsT) (x : DrT) : PsT × DrT :=
  let s1 := pN N s
  let s2 := pT K N V 0 P (if s1.1 = none ∧ K s1.2.1 = 23 ∧ V s1.2.1 < P ∧ dR x (V s1.2.1) = 3 then pF K 3 s1 else s1)
  let s3 := pT K N V 0 P s2
  (s3, if s3.1 = none then (dN x, dH x, ups (dR x) (V s1.2.1) (dR x (V s1.2.1) + 1), (fun p r => if p = V s1.2.1 ∧ r = dR x (V s1.2.1) then V s2.2.1 else dL x p r), dA x, dW x, dF x, dT x, dK x) else x)
def lnA (K N V : Nat → Nat) (P : Nat) (s : PsT) (x : DrT) : PsT × DrT :=
  let s1 := pN N s
  let s2 := pT K N V 0 P s1
  let s3 := pT K N V 0 (dR x (V s1.2.1)) s2
  (s3, if s3.1 = none then (dN x, dH x, dR x, dL x, pt (dA x) (V s1.2.1) (V s2.2.1), dW x, dF x, dT x, dK x) else x)
def lnH (K N V : Nat → Nat) (P : Nat) (s : PsT) (x : DrT) : PsT × DrT :=
  let s1 := pN N s
  let s2 := pT K N V 0 P s1
  (s2, if s2.1 = none then (dN x, dH x ||| 2 ^ V s1.2.1, dR x, dL x, dA x, dW x, dF x, dT x, dK x) else x)
def lnW (K N V : Nat → Nat) (P : Nat) (s : PsT) (x : DrT) : PsT × DrT :=
  let s1 := pN N s
  let s2 := pT K N V 0 P s1
  (s2, if s2.1 = none then (dN x, dH x, dR x, dL x, dA x, V s1.2.1, dF x, dT x, dK x) else x)
def lnF (K N V : Nat → Nat) (s : PsT) (x : DrT) : PsT × DrT :=
  let s1 := pN N s
  let s2 := pT K N V 0 10 s1
  (s2, if s2.1 = none then (dN x, dH x, dR x, dL x, dA x, dW x, V s1.2.1, dT x, dK x) else x)
def lnT (K N V : Nat → Nat) (s : PsT) (x : DrT) : PsT × DrT :=
  let s2 := pE K N 31 (pN N s)
  let s3 := (pLv K N V 6).1 s2
  (s3, if s3.1 = none then (dN x, dH x, dR x, dL x, dA x, dW x, dF x, some (s.2.2.length, s3.2.2.length - s.2.2.length), dK x) else x)
def lnK (K N V : Nat → Nat) (s : PsT) (x : DrT) : PsT × DrT :=
  let s2 := pE K N 31 (pN N s)
  let s3 := (pLv K N V 6).2.1 s2
  (s3, if s3.1 = none then (dN x, dH x, dR x, dL x, dA x, dW x, dF x, dT x, some (s.2.2.length, s3.2.2.length - s.2.2.length)) else x)
def ln1 (K N V : Nat → Nat) (P : Nat) (s : PsT) (x : DrT) : PsT × DrT :=
  if K s.2.1 = 2 then lnR K N V P s x else if K s.2.1 = 3 then lnA K N V P s x else if K s.2.1 = 4 then lnH K N V P s x
  else if K s.2.1 = 5 then lnW K N V P s x else if K s.2.1 = 6 then lnF K N V s x else if K s.2.1 = 7 then lnT K N V s x
  else if K s.2.1 = 8 then lnK K N V s x else (pF K 2 s, x)
/-- its end -/
def lnE (K N : Nat → Nat) (y : PsT × DrT) : PsT × DrT := (pE K N 30 y.1, (dN y.2 + 1, y.2.2))
/-- all lines -/
def lns (K N V : Nat → Nat) (P : Nat) : Nat → PsT × DrT → PsT × DrT
  | 0, y => y
  | k + 1, y => if y.1.1 = none then (if K y.1.2.1 = 24 then y else lns K N V P k (lnE K N (ln1 K N V P y.1 y.2))) else y
/-- the whole text -/
def mrs (K N V : Nat → Nat) (a0 : Nat) : Nat × (PsT × DrT) :=
  let s1 := pE K N 1 (pE K N 0 (none, a0, []))
  let s2 := pT K N V 1 7 s1
  (V s1.2.1, lns K N V (V s1.2.1) 901 (lnE K N (s2, dr0)))
theorem dg_z (p : Nat) : dg 0 p = 0 := by unfold dg; rw [Nat.zero_div]
theorem DO_0 {P : Nat} (h1 : 1 ≤ P) (h6 : P ≤ 6) : DO P dr0 := ⟨h1, h6, Nat.pos_of_ne_zero (by simp), fun _ => Nat.zero_le _, fun _ _ => rfl, fun _ _ => h1, fun p => by show dg 0 p < max 1 0; rw [dg_z]; decide, h1, by show 0 < 10; omega⟩
theorem fL_DC {P : Nat} {x : DrT} {h h' : abJ} (hD : DC P x h) (a : fL h h') : DC P x h' := by
  unfold DC
  rw [a.1.1 5 (by decide), a.1.1 6 (by decide), a.1.1 7 (by decide), a.1.1 10 (by decide)]
  exact hD
theorem rLw_e {c : Option (Nat × Nat)} {g g' : Nat → Int32} {j : Nat} (hj : j < 2) (h : rLw c g j) (e : ∀ q, q < 133 → g' q = g q) : rLw c g' j := by
  unfold rLw at h ⊢
  cases c with
  | none => dsimp only at h ⊢; rw [e _ (by omega)]; exact h
  | some y => dsimp only at h ⊢; rw [e _ (by omega), e _ (by omega), e _ (by omega)]; exact h
theorem fQ_DQ {P : Nat} {x : DrT} {h h' : abJ} (hR : ∀ p, dR x p ≤ 3) (hD : DQ P x h) (a : fQ h h') : DQ P x h' := by
  obtain ⟨d0, d1, d2, d3, d4, d5, d6, d7, d8, d9, d10, d11⟩ := hD
  have e := a.2
  refine ⟨by rw [e _ (by omega)]; exact d0, by rw [e _ (by omega)]; exact d1, by rw [e _ (by omega)]; exact d2, fun p hp => by rw [e _ (by omega)]; exact d3 p hp, fun p r hp hr => ?_, rLw_e (by omega) d5 e, rLw_e (by omega) d6 e, by rw [e _ (by omega)]; exact d7, fun p hp => by rw [e _ (by omega)]; exact d8 p hp, by rw [e _ (by omega)]; exact d9, by rw [e _ (by omega)]; exact d10, by rw [e _ (by omega)]; exact d11⟩
  have := hR p
  rw [e _ (by omega)]; exact d4 p r hp hr
