/-! The moor as plain numbers: posts, lines, homes, roads, leads, turns, sticks. -/
abbrev MoT : Type := Nat × Nat × Nat × (Nat → Nat) × (Nat → Nat → Nat) × Option (List Nat) × Option (List Nat)
def mP (m : MoT) : Nat := m.1
def mN (m : MoT) : Nat := m.2.1
def mH (m : MoT) : Nat := m.2.2.1
def mR (m : MoT) : Nat → Nat := m.2.2.2.1
def mL (m : MoT) : Nat → Nat → Nat := m.2.2.2.2.1
def mT (m : MoT) : Option (List Nat) := m.2.2.2.2.2.1
def mK (m : MoT) : Option (List Nat) := m.2.2.2.2.2.2
/-- an arm in the number of all arms; another arm put there -/
def dg (a p : Nat) : Nat := a / 3 ^ p % 3
def pt (a p r : Nat) : Nat := a + r * 3 ^ p - dg a p * 3 ^ p
def hm (m : MoT) (p : Nat) : Bool := (mH m).testBit p
/-- rests at a post -/
def rs (m : MoT) (p : Nat) : Bool := hm m p || mR m p == 0
/-! Laws: codes as the reference has them. -/
def cl (v : Int) : Int := if 1000000 < v then 1000000 else if v < -1000000 then -1000000 else v
def bw (c : Nat) (a b : Int) : Int :=
  if c = 3003 then (if a = b then 1 else 0) else if c = 3004 then (if a < b then 1 else 0) else if c = 3005 then (if b < a then 1 else 0)
  else if c = 3007 then (if a = 1 ∧ b = 1 then 1 else 0) else if c = 3008 then (if a = 1 ∨ b = 1 then 1 else 0)
  else cl (if c = 3000 then a + b else if c = 3001 then a - b else a * b)
def e1 (w : Nat → Int) (c : Nat) (s : List Int) : List Int :=
  if c < 1000 then (c : Int) :: s else if c < 3000 then w (c - 1000) :: s
  else if c = 3006 then (match s with | a :: r => (1 - a) :: r | [] => [])
  else if c = 3009 then (match s with | b :: a :: q :: r => (if q = 1 then a else b) :: r | _ => [])
  else (match s with | b :: a :: r => bw c a b :: r | _ => [])
def ev (w : Nat → Int) : List Nat → List Int → List Int
  | [], s => s
  | c :: l, s => ev w l (e1 w c s)
/-- kinds: a truth, or a number; at most 64 stand on one another -/
def t1 (c : Nat) (s : List Bool) : Option (List Bool) :=
  if c < 1000 then (if s.length < 64 then some (false :: s) else none) else if c < 1004 then (if s.length < 64 then some (false :: s) else none)
  else if c < 3000 then none
  else if c = 3006 then (match s with | true :: r => some (true :: r) | _ => none)
  else if c = 3009 then (match s with | false :: false :: true :: r => some (false :: r) | _ => none)
  else if c < 3003 then (match s with | false :: false :: r => some (false :: r) | _ => none)
  else if c < 3006 then (match s with | false :: false :: r => some (true :: r) | _ => none)
  else if c < 3009 then (match s with | true :: true :: r => some (true :: r) | _ => none)
  else none
def ty : List Nat → List Bool → Option (List Bool)
  | [], s => some s
  | c :: l, s => (t1 c s).bind (ty l)
/-- values of their kinds -/
def vk : List Bool → List Int → Prop
  | [], [] => True
  | true :: r, v :: s => (v = 0 ∨ v = 1) ∧ vk r s
  | false :: r, v :: s => (-1000000 ≤ v ∧ v ≤ 1000000) ∧ vk r s
  | _, _ => False
def lawOK (m : MoT) : Prop := (∀ c, mT m = some c → ty c [] = some [false] ∧ 0 < c.length ∧ c.length ≤ 900) ∧ (∀ c, mK m = some c → ty c [] = some [true] ∧ 0 < c.length ∧ c.length ≤ 900)
def MO (m : MoT) : Prop := 1 ≤ mP m ∧ mP m ≤ 6 ∧ mH m < 2 ^ mP m ∧ mN m ≤ 900 ∧ (∀ p, mR m p ≤ 3) ∧ (∀ p, mP m ≤ p → mR m p = 0) ∧ (∀ p r, mL m p r < mP m) ∧ lawOK m
def wd (m : MoT) (f p a : Nat) : Nat → Int := fun k => if k = 0 then (p : Int) else if k = 1 then (a : Int) else if k = 2 then (mR m p : Int) else (f : Int)
def hd (l : List Int) : Int := match l with | [] => 0 | v :: _ => v
/-- whether a post keeps one waiting; how far its arm moves on -/
def wt (m : MoT) (f p a : Nat) : Bool := match mK m with | none => false | some c => hd (ev (wd m f p a) c []) == 1
def mv (m : MoT) (f p a : Nat) : Int := match mT m with | none => 1 | some c => hd (ev (wd m f p a) c [])
/-- where one is behind a step from a post, the post's arm then -/
def to (m : MoT) (f p a : Nat) : Nat := if wt m f p a then p else mL m p a
def ar (m : MoT) (f p a : Nat) : Nat := if wt m f p a then (a + 1) % mR m p else (((a : Int) + mv m f p a) % (mR m p : Int)).toNat
/-- the stand behind a step from a post with roads -/
def sT (m : MoT) (f s : Nat) : Nat := 6 * pt (s / 6) (s % 6) (ar m f (s % 6) (dg (s / 6) (s % 6))) + to m f (s % 6) (dg (s / 6) (s % 6))
def nx (m : MoT) (f s : Nat) : Option Nat := if rs m (s % 6) then none else some (sT m f s)
/-- arms that can be; stands that can be -/
def AV (m : MoT) (a : Nat) : Prop := ∀ p, dg a p < max 1 (mR m p)
def SV (m : MoT) (s : Nat) : Prop := s % 6 < mP m ∧ AV m (s / 6)
theorem dg_lt (a p : Nat) : dg a p < 3 := Nat.mod_lt _ (by omega)
theorem dg_le (a p : Nat) : dg a p * 3 ^ p ≤ a := by
  unfold dg
  have h1 : a / 3 ^ p % 3 ≤ a / 3 ^ p := Nat.mod_le _ _
  have h2 : a / 3 ^ p * 3 ^ p ≤ a := Nat.div_mul_le_self _ _
  exact Nat.le_trans (Nat.mul_le_mul_right _ h1) h2
theorem p3 (p : Nat) : 0 < 3 ^ p := Nat.pos_of_ne_zero (by simp)
/-- the parts of a number ahead of a place, at it, behind it -/
theorem dg_parts (a p : Nat) : a = (a / 3 ^ (p + 1)) * 3 ^ (p + 1) + dg a p * 3 ^ p + a % 3 ^ p := by
  have h1 := Nat.div_add_mod a (3 ^ p)
  have h2 := Nat.div_add_mod (a / 3 ^ p) 3
  have h3 : a / 3 ^ p / 3 = a / 3 ^ (p + 1) := by rw [Nat.div_div_eq_div_mul, Nat.pow_succ]
  unfold dg
  rw [h3] at h2
  have h4 : 3 ^ p * (a / 3 ^ p) = a / 3 ^ (p + 1) * 3 ^ (p + 1) + a / 3 ^ p % 3 * 3 ^ p := by
    conv => lhs; rw [← h2]
    rw [Nat.mul_add, Nat.pow_succ, ← Nat.mul_assoc, Nat.mul_comm (3 ^ p) 3, Nat.mul_comm (3 * 3 ^ p), Nat.mul_comm 3 (3 ^ p), Nat.mul_comm (3 ^ p) (a / 3 ^ p % 3)]
  omega
theorem pt_parts {a p r : Nat} : pt a p r = (a / 3 ^ (p + 1)) * 3 ^ (p + 1) + r * 3 ^ p + a % 3 ^ p := by
  have h := dg_parts a p
  unfold pt
  have h2 := dg_le a p
  omega
theorem pt_same {a p r : Nat} (hr : r < 3) : dg (pt a p r) p = r := by
  rw [pt_parts]
  unfold dg
  have h0 := p3 p
  have h1 : a % 3 ^ p < 3 ^ p := Nat.mod_lt _ h0
  have e : a / 3 ^ (p + 1) * 3 ^ (p + 1) + r * 3 ^ p + a % 3 ^ p = a % 3 ^ p + 3 ^ p * (a / 3 ^ (p + 1) * 3 + r) := by
    rw [Nat.pow_succ, Nat.mul_add, Nat.mul_comm (3 ^ p) r, Nat.mul_comm (3 ^ p) (a / (3 ^ p * 3) * 3), Nat.mul_assoc, Nat.mul_comm 3 (3 ^ p)]
    omega
  rw [e, Nat.add_mul_div_left _ _ h0, Nat.div_eq_of_lt h1, Nat.zero_add]
  omega
theorem dg_mod (a p q : Nat) (h : p < q) : dg (a % 3 ^ q) p = dg a p := by
  unfold dg
  have e : 3 ^ q = 3 ^ p * (3 * 3 ^ (q - p - 1)) := by
    rw [← Nat.pow_succ', ← Nat.pow_add]; congr 1; omega
  rw [e, Nat.mod_mul_right_div_self, Nat.mod_mul_right_mod]
theorem dg_div (a p q : Nat) : dg a (q + p) = dg (a / 3 ^ q) p := by
  unfold dg
  rw [Nat.div_div_eq_div_mul, Nat.pow_add]
theorem pt_other {a p r q : Nat} (hr : r < 3) (h : q ≠ p) : dg (pt a p r) q = dg a q := by
  have h0 := p3 p
  have h1 : a % 3 ^ p < 3 ^ p := Nat.mod_lt _ h0
  rcases Nat.lt_or_gt_of_ne h with hq | hq
  · -- below: the rest is the same
    have e : pt a p r % 3 ^ p = a % 3 ^ p := by
      rw [pt_parts, Nat.pow_succ, ← Nat.mul_assoc, Nat.mul_right_comm, ← Nat.add_mul, Nat.mul_add_mod_self_right, Nat.mod_eq_of_lt h1]
    rw [← dg_mod (pt a p r) q p hq, e, dg_mod a q p hq]
  · have e : pt a p r / 3 ^ (p + 1) = a / 3 ^ (p + 1) := by
      rw [pt_parts]
      have h2 : r * 3 ^ p + a % 3 ^ p < 3 ^ (p + 1) := by
        rw [Nat.pow_succ]
        have : r * 3 ^ p ≤ 2 * 3 ^ p := Nat.mul_le_mul_right _ (by omega)
        omega
      rw [Nat.add_assoc, Nat.mul_comm (a / 3 ^ (p + 1)), Nat.mul_add_div (p3 _), Nat.div_eq_of_lt h2]
      omega
    obtain ⟨k, rfl⟩ : ∃ k, q = (p + 1) + k := ⟨q - (p + 1), by omega⟩
    rw [dg_div, e, ← dg_div]
/-- arms that can be stay below -/
theorem AV_lt {m : MoT} (h : MO m) {a : Nat} (v : AV m a) : a < 3 ^ mP m := by
  obtain ⟨_, _, _, _, _, hz, _⟩ := h
  have key : ∀ n, ∀ b : Nat, b < 3 ^ n → (∀ p, dg b p = 0) → b = 0 := by
    intro n
    induction n with
    | zero => intro b hb _; simp at hb; exact hb
    | succ n ih =>
      intro b hb hd0
      have h0 : b % 3 = 0 := by have := hd0 0; unfold dg at this; simpa using this
      have h1 : b / 3 = 0 := by
        refine ih (b / 3) ?_ (fun p => ?_)
        · rw [Nat.pow_succ] at hb; omega
        · have := hd0 (1 + p); rw [dg_div] at this; simpa using this
      omega
  have h1 : a / 3 ^ mP m = 0 := by
    refine key (a / 3 ^ mP m + 1) _ ?_ ?_
    · exact Nat.lt_of_lt_of_le (Nat.lt_pow_self (by omega)) (Nat.pow_le_pow_right (by omega) (Nat.le_succ _))
    · intro p
      rw [← dg_div]
      have := v (mP m + p)
      rw [hz (mP m + p) (by omega)] at this
      omega
  exact (Nat.div_eq_zero_iff_lt (p3 _)).mp h1
theorem MO_729 {m : MoT} (h : MO m) : 3 ^ mP m ≤ 729 := by
  have := h.2.1
  calc 3 ^ mP m ≤ 3 ^ 6 := Nat.pow_le_pow_right (by omega) this
    _ = 729 := by decide
theorem SV_lt {m : MoT} (h : MO m) {s : Nat} (v : SV m s) : s < 4374 := by
  have h1 := AV_lt h v.2
  have h2 := MO_729 h
  omega
theorem ar_lt {m : MoT} {f p a : Nat} (h : 0 < mR m p) : ar m f p a < mR m p := by
  unfold ar
  split
  · exact Nat.mod_lt _ h
  · have h1 : (0 : Int) < mR m p := by omega
    have h2 := Int.emod_lt_of_pos ((a : Int) + mv m f p a) h1
    have h3 := Int.emod_nonneg ((a : Int) + mv m f p a) (Int.ne_of_gt h1)
    omega
theorem AV_pt {m : MoT} (h : MO m) {a p r : Nat} (v : AV m a) (hr : r < max 1 (mR m p)) : AV m (pt a p r) := by
  intro q
  have h3 := h.2.2.2.2.1 p
  by_cases e : q = p
  · subst e; rw [pt_same (by omega)]; exact hr
  · rw [pt_other (by omega) e]; exact v q
theorem to_lt {m : MoT} (h : MO m) {f p a : Nat} (hp : p < mP m) : to m f p a < mP m := by
  unfold to
  split
  · exact hp
  · exact h.2.2.2.2.2.2.1 p a
theorem sT_SV {m : MoT} (h : MO m) {f s : Nat} (v : SV m s) (hr : 0 < mR m (s % 6)) : SV m (sT m f s) := by
  have h1 := to_lt h (f := f) (a := dg (s / 6) (s % 6)) v.1
  have h2 := ar_lt (m := m) (f := f) (a := dg (s / 6) (s % 6)) hr
  have h6 := h.2.1
  unfold sT
  generalize hx : to m f (s % 6) (dg (s / 6) (s % 6)) = x at *
  generalize hy : ar m f (s % 6) (dg (s / 6) (s % 6)) = y at *
  constructor
  · show (6 * pt (s / 6) (s % 6) y + x) % 6 < mP m
    omega
  · show AV m ((6 * pt (s / 6) (s % 6) y + x) / 6)
    have e : (6 * pt (s / 6) (s % 6) y + x) / 6 = pt (s / 6) (s % 6) y := by omega
    rw [e]
    exact AV_pt h v.2 (by omega)
theorem nx_SV {m : MoT} (h : MO m) {f s t : Nat} (v : SV m s) (e : nx m f s = some t) : SV m t := by
  unfold nx at e
  split at e
  · cases e
  · rename_i hr
    obtain rfl := Option.some.inj e
    refine sT_SV h v ?_
    simp [rs] at hr
    omega
