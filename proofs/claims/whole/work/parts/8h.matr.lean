/-! chance, mean: the rows at first. -/
def cnb (B p : Nat) : Nat := sg (fun i => if B.testBit i = true then 1 else 0) p
theorem cnb_s (B p : Nat) : cnb B (p + 1) = cnb B p + (if B.testBit p = true then 1 else 0) := rfl
theorem cnb_m {B : Nat} : ∀ {k p : Nat}, cnb B p ≤ cnb B (p + k)
  | 0, p => Nat.le_refl _
  | k + 1, p => by
    have := cnb_m (B := B) (k := k) (p := p)
    rw [show p + (k + 1) = p + k + 1 by omega, cnb_s]
    omega
theorem cnb_le {B p q : Nat} (h : p ≤ q) : cnb B p ≤ cnb B q := by
  have := cnb_m (B := B) (k := q - p) (p := p)
  rwa [show p + (q - p) = q by omega] at this
theorem cnb_b {B : Nat} : ∀ p, cnb B p ≤ p
  | 0 => Nat.le_refl _
  | p + 1 => by rw [cnb_s]; have := cnb_b (B := B) p; split <;> omega
theorem al_m {B q : Nat} : ∀ {k p : Nat}, q ∈ al B k p ↔ (p ≤ q ∧ q < p + k ∧ B.testBit q = true)
  | 0, p => ⟨fun h => (by cases h), fun h => (by omega)⟩
  | k + 1, p => by
    rw [al]
    by_cases c : B.testBit p = true
    · rw [if_pos c, List.mem_cons, al_m]
      constructor
      · rintro (e | ⟨a, b, d⟩)
        · subst e; exact ⟨Nat.le_refl _, by omega, c⟩
        · exact ⟨by omega, by omega, d⟩
      · rintro ⟨a, b, d⟩
        by_cases e : q = p
        · exact Or.inl e
        · exact Or.inr ⟨by omega, by omega, d⟩
    · rw [if_neg c, al_m]
      constructor
      · rintro ⟨a, b, d⟩; exact ⟨by omega, by omega, d⟩
      · rintro ⟨a, b, d⟩
        have : q ≠ p := fun e => c (by rw [← e]; exact d)
        exact ⟨by omega, by omega, d⟩
theorem al_l {B : Nat} : ∀ {k p : Nat}, (al B k p).length + cnb B p = cnb B (p + k)
  | 0, p => by rw [al]; simp
  | k + 1, p => by
    have ih := al_l (B := B) (k := k) (p := p + 1)
    rw [cnb_s] at ih
    rw [al, show p + (k + 1) = p + 1 + k by omega]
    by_cases c : B.testBit p = true
    · rw [if_pos c] at ih ⊢; rw [List.length_cons]; omega
    · rw [if_neg c] at ih ⊢; omega
theorem al_g {B q : Nat} : ∀ {k p : Nat}, q ∈ al B k p → (al B k p).getD (cnb B q - cnb B p) 0 = q
  | 0, p, h => by cases h
  | k + 1, p, h => by
    have hq := al_m.mp h
    rw [al] at h ⊢
    by_cases c : B.testBit p = true
    · rw [if_pos c] at h ⊢
      by_cases e : q = p
      · subst e; rw [Nat.sub_self]; rfl
      · have h2 := al_g ((List.mem_cons.mp h).resolve_left e)
        have h3 := cnb_le (B := B) (show p + 1 ≤ q by omega)
        rw [cnb_s, if_pos c] at h2 h3
        rw [show cnb B q - cnb B p = (cnb B q - (cnb B p + 1)) + 1 by omega]
        exact h2
    · rw [if_neg c] at h ⊢
      have h2 := al_g h
      rw [cnb_s, if_neg c] at h2
      exact h2
theorem al_n {B : Nat} : ∀ {k p : Nat}, (al B k p).Nodup
  | 0, p => List.nodup_nil
  | k + 1, p => by
    rw [al]
    by_cases c : B.testBit p = true
    · rw [if_pos c]
      refine List.nodup_cons.mpr ⟨fun q => ?_, al_n⟩
      have := al_m.mp q
      omega
    · rw [if_neg c]; exact al_n
/-- the unknown posts -/
def aL (B : Nat) : List Nat := al B 6 0
theorem aL_m {B q : Nat} : q ∈ aL B ↔ (q < 6 ∧ B.testBit q = true) := by
  unfold aL
  rw [al_m]
  exact ⟨fun h => ⟨by omega, h.2.2⟩, fun h => ⟨Nat.zero_le _, by omega, h.2⟩⟩
theorem aL_n {B : Nat} : (aL B).Nodup := al_n
theorem aL_l (B : Nat) : (aL B).length = cnb B 6 := by
  have := al_l (B := B) (k := 6) (p := 0)
  rw [show cnb B 0 = 0 from rfl] at this
  exact this
theorem aL_g {B q : Nat} (h : q ∈ aL B) : (aL B).getD (cnb B q) 0 = q ∧ cnb B q < (aL B).length := by
  have h1 := al_g (show q ∈ al B 6 0 from h)
  rw [show cnb B 0 = 0 from rfl, Nat.sub_zero] at h1
  have h2 := aL_m.mp h
  have h3 := cnb_le (B := B) (show q + 1 ≤ 6 by omega)
  rw [cnb_s, if_pos h2.2] at h3
  exact ⟨h1, by rw [aL_l]; omega⟩
theorem aL_i {B r : Nat} (h : r < (aL B).length) : cnb B ((aL B).getD r 0) = r ∧ (aL B).getD r 0 ∈ aL B := by
  have hm := gd_mem h
  have hg := aL_g hm
  exact ⟨gd_inj al_n hg.2 h hg.1, hm⟩
/-- roads to a post -/
def rto (m : MoT) (p q n : Nat) : Nat := sg (fun r => if mL m p r = q then 1 else 0) n
theorem rto_s (m : MoT) (p q n : Nat) : rto m p q (n + 1) = rto m p q n + (if mL m p n = q then 1 else 0) := rfl
theorem rto_b (m : MoT) (p q : Nat) : ∀ n, rto m p q n ≤ n
  | 0 => Nat.le_refl _
  | n + 1 => by rw [rto_s]; have := rto_b m p q n; split <;> omega
def mE (m : MoT) (B p q : Nat) : Int := if q < 6 ∧ B.testBit q = true then (if p = q then (mR m p : Int) else 0) - (rto m p q (mR m p) : Int) else 0
def M0 (m : MoT) (B : Nat) (b w : Nat → Int) : Nat → Nat → Int := fun p q => if q < 6 then mE m B p q else if q = 6 then b p else if q = 7 then sL (mE m B p) (aL B) else sL (fun j => mE m B p j * w j) (aL B)
theorem sL_a {f g : Nat → Int} : ∀ {A : List Nat}, sL (fun j => f j + g j) A = sL f A + sL g A
  | [] => by simp [sL]
  | a :: A => by rw [sL, sL, sL, sL_a]; omega
theorem sL_d {v : Nat → Int} {x : Nat} : ∀ {A : List Nat}, A.Nodup → sL (fun j => (if x = j then 1 else 0) * v j) A = if x ∈ A then v x else 0
  | [], _ => by simp [sL]
  | a :: A, hn => by
    have hn2 := List.nodup_cons.mp hn
    rw [sL, sL_d hn2.2]
    by_cases e : x = a
    · subst e
      rw [if_pos rfl, if_neg hn2.1, if_pos (by simp)]; omega
    · rw [if_neg e]
      by_cases c : x ∈ A
      · rw [if_pos c, if_pos (by simp [c])]; omega
      · rw [if_neg c, if_neg (by simp [c, e])]; omega
/-- what the roads of a post weigh -/
def wsm (m : MoT) (A : List Nat) (v : Nat → Int) (p : Nat) : Nat → Int
  | 0 => 0
  | n + 1 => wsm m A v p n + (if mL m p n ∈ A then v (mL m p n) else 0)
theorem sL_r {m : MoT} {A : List Nat} {v : Nat → Int} {p : Nat} (hn : A.Nodup) : ∀ n, sL (fun j => (rto m p j n : Int) * v j) A = wsm m A v p n
  | 0 => by
    have : ∀ B : List Nat, sL (fun j => (rto m p j 0 : Int) * v j) B = 0 := by
      intro B
      induction B with
      | nil => rfl
      | cons a B ih => rw [sL, ih]; show ((0 : Nat) : Int) * v a + 0 = 0; omega
    rw [this]; rfl
  | n + 1 => by
    have : sL (fun j => (rto m p j (n + 1) : Int) * v j) A = sL (fun j => (rto m p j n : Int) * v j + (if mL m p n = j then 1 else 0) * v j) A := by
      refine sL_c (fun j _ => ?_)
      rw [rto_s]
      by_cases e : mL m p n = j
      · rw [if_pos e, if_pos e]; grind
      · rw [if_neg e, if_neg e]; grind
    rw [this, sL_a, sL_r hn n, sL_d hn]; rfl
theorem mE_sum {m : MoT} {B p : Nat} {v : Nat → Int} (hp : p ∈ aL B) : sL (fun j => mE m B p j * v j) (aL B) = (mR m p : Int) * v p - wsm m (aL B) v p (mR m p) := by
  have : sL (fun j => mE m B p j * v j) (aL B) = sL (fun j => (mR m p : Int) * ((if p = j then 1 else 0) * v j) - 1 * ((rto m p j (mR m p) : Int) * v j)) (aL B) := by
    refine sL_c (fun j hj => ?_)
    have := aL_m.mp hj
    unfold mE
    rw [if_pos ⟨this.1, this.2⟩]
    by_cases e : p = j
    · rw [if_pos e, if_pos e]; grind
    · rw [if_neg e, if_neg e]; grind
  rw [this, sL_l, sL_d aL_n, sL_r aL_n, if_pos hp]; omega
theorem wsm_1 {m : MoT} {A : List Nat} {p : Nat} : ∀ n, wsm m A (fun _ => 1) p n ≤ n
  | 0 => by simp [wsm]
  | n + 1 => by rw [wsm]; have := wsm_1 (m := m) (A := A) (p := p) n; split <;> omega
/-- weights by ranks -/
def wt4 (k : Nat → Nat) (p : Nat) : Int := 16384 - 4 ^ (7 - k p)
theorem p4' : ∀ n < 8, (1 : Int) ≤ 4 ^ n ∧ (4 : Int) ^ n ≤ 16384 ∧ (1 ≤ n → (4 : Int) ≤ 4 ^ n) := by decide
theorem p4m' : ∀ n < 8, ∀ k < 8, k < n → (4 : Int) * 4 ^ k ≤ 4 ^ n := by decide
/-- some road leads nearer -/
def rkd (m : MoT) (A : List Nat) (k : Nat → Nat) : Prop := ∀ p, p ∈ A → 1 ≤ k p ∧ k p ≤ 6 ∧ ∃ r, r < mR m p ∧ (mL m p r ∈ A → k (mL m p r) < k p)
theorem wsm_b {m : MoT} {A : List Nat} {k : Nat → Nat} {p : Nat} (hk : rkd m A k) : ∀ n, wsm m A (wt4 k) p n ≤ 16380 * n
  | 0 => by simp [wsm]
  | n + 1 => by
    have ih := wsm_b (p := p) hk n
    rw [wsm]
    by_cases c : mL m p n ∈ A
    · obtain ⟨a, b, _⟩ := hk _ c
      have := (p4' (7 - k (mL m p n)) (by omega)).2.2 (by omega)
      rw [if_pos c]
      unfold wt4 at ih ⊢
      omega
    · rw [if_neg c]; omega
theorem wsm_s {m : MoT} {A : List Nat} {k : Nat → Nat} {p r : Nat} (hk : rkd m A k) (hp : p ∈ A) (hr : mL m p r ∈ A → k (mL m p r) < k p) : ∀ n, r < n → wsm m A (wt4 k) p n + 4 * 4 ^ (7 - k p) ≤ 16380 * (n - 1 : Nat) + 16384
  | 0, h => by omega
  | n + 1, h => by
    obtain ⟨a, b, _⟩ := hk p hp
    rw [wsm]
    by_cases e : r = n
    · subst e
      have ih := wsm_b (p := p) hk r
      have h4 := p4m' (8 - k p) (by omega) (7 - k p) (by omega) (by omega)
      have h5 := p4' (8 - k p) (by omega)
      by_cases c : mL m p r ∈ A
      · obtain ⟨a2, b2, _⟩ := hk _ c
        have h6 := hr c
        have h7 : (4 : Int) * 4 ^ (7 - k p) ≤ 4 ^ (7 - k (mL m p r)) := p4m' (7 - k (mL m p r)) (by omega) (7 - k p) (by omega) (by omega)
        rw [if_pos c]
        unfold wt4 at ih ⊢
        omega
      · rw [if_neg c]; omega
    · have ih := wsm_s hk hp hr n (by omega)
      by_cases c : mL m p n ∈ A
      · obtain ⟨a2, b2, _⟩ := hk _ c
        have := (p4' (7 - k (mL m p n)) (by omega)).2.2 (by omega)
        rw [if_pos c]
        unfold wt4 at ih ⊢
        omega
      · rw [if_neg c]; omega
theorem wt4_p {m : MoT} {A : List Nat} {k : Nat → Nat} {p : Nat} (hO : MO m) (hk : rkd m A k) (hp : p ∈ A) : 0 < wt4 k p ∧ 0 < (mR m p : Int) * wt4 k p - wsm m A (wt4 k) p (mR m p) := by
  obtain ⟨a, b, r, c, d⟩ := hk p hp
  have h3 := hO.2.2.2.2.1 p
  have h4 := p4' (7 - k p) (by omega)
  have h5 := p4m' 7 (by omega) (7 - k p) (by omega) (by omega)
  have h6 := wsm_s hk hp d (mR m p) c
  have h7 : (4 : Int) ≤ 4 ^ (7 - k p) := h4.2.2 (by omega)
  have e7 : (4 : Int) ^ 7 = 16384 := by decide
  rw [e7] at h5
  refine ⟨by unfold wt4; omega, ?_⟩
  unfold wt4 at *
  have cs : mR m p = 1 ∨ mR m p = 2 ∨ mR m p = 3 := by omega
  rcases cs with e | e | e <;> rw [e] at h6 ⊢ <;> generalize wsm m A _ p _ = x at * <;> generalize (4 : Int) ^ (7 - k p) = y at * <;> omega
/-- some post isn't among them -/
theorem rkd_x {m : MoT} {A : List Nat} {k : Nat → Nat} (hO : MO m) (hk : rkd m A k) : ∀ n p, p ∈ A → k p ≤ n → ∃ x, x < 6 ∧ x ∉ A := by
  intro n
  induction n with
  | zero => intro p hp hn; have := (hk p hp).1; omega
  | succ n ih =>
    intro p hp hn
    obtain ⟨_, _, r, c, d⟩ := hk p hp
    by_cases e : mL m p r ∈ A
    · exact ih _ e (by have := d e; omega)
    · exact ⟨_, by have := hO.2.2.2.2.2.2.1 p r; have := hO.2.1; omega, e⟩
theorem flt5 : ∀ x < 6, ((List.range 6).filter (fun y => decide (y ≠ x))).length = 5 := by decide
theorem EI_0 {m : MoT} {B : Nat} {b : Nat → Int} {k : Nat → Nat} (hO : MO m) (hk : rkd m (aL B) k) (hb : ∀ p, p ∈ aL B → 0 ≤ b p ∧ b p ≤ 3) : EI 5 1 (M0 m B b (wt4 k)) (wt4 k) (aL B) [] (aL B) ∧ (aL B).length ≤ 5 := by
  have hl : (aL B).length ≤ 5 := by
    by_cases c : aL B = []
    · rw [c]; exact Nat.zero_le _
    · obtain ⟨p, hp⟩ := List.exists_mem_of_ne_nil _ c
      obtain ⟨x, hx, hxA⟩ := rkd_x hO hk _ p hp (Nat.le_refl _)
      rw [← flt5 x hx]
      refine List.Nodup.length_le_of_subset al_n (fun y hy => ?_)
      rw [List.mem_filter, List.mem_range]
      exact ⟨(aL_m.mp hy).1, decide_eq_true (fun e => hxA (by rw [← e]; exact hy))⟩
  refine ⟨⟨⟨by omega, by simp⟩, ⟨DU_1, DR_1⟩, ⟨hl, by simp⟩, fun i hi j hj hij => ?_, ⟨fun i hi => (by cases hi), fun i _ j hj => (by cases hj)⟩, fun i hi => ?_, fun i hi => ?_, fun i => (by simp), ⟨aL_n, fun i hi => (by cases hi), aL_n⟩, fun i hi j hj hjA => ?_, fun i hi => (wt4_p hO hk hi).1⟩, hl⟩
  · have h1 := aL_m.mp hj
    unfold M0 mE
    rw [if_pos h1.1, if_pos ⟨h1.1, h1.2⟩, if_neg (fun e => hij e.symm)]
    omega
  · have h1 := aL_m.mp hi
    have e7 : M0 m B b (wt4 k) i 7 = sL (mE m B i) (aL B) := rfl
    have e8 : M0 m B b (wt4 k) i 8 = sL (fun j => mE m B i j * wt4 k j) (aL B) := rfl
    have e6 : M0 m B b (wt4 k) i 6 = b i := rfl
    have em : ∀ j, j ∈ aL B → mE m B i j = M0 m B b (wt4 k) i j := fun j hj => by unfold M0; rw [if_pos (aL_m.mp hj).1]
    have hbi := hb i hi
    rw [e7, e8, e6]
    refine ⟨sL_c em, sL_c (fun j hj => by rw [em j hj]), ?_, ?_, hbi.1, by simpa using hbi.2⟩
    · have : sL (mE m B i) (aL B) = sL (fun j => mE m B i j * (fun _ => 1) j) (aL B) := sL_c (fun j _ => by show _ = mE m B i j * 1; omega)
      rw [this, mE_sum hi]
      have := wsm_1 (m := m) (A := aL B) (p := i) (mR m i)
      show 0 ≤ (mR m i : Int) * 1 - _
      omega
    · rw [mE_sum hi]
      exact (wt4_p hO hk hi).2
  · have h1 := aL_m.mp hi
    have h3 := hO.2.2.2.2.1 i
    unfold M0 mE
    rw [if_pos h1.1, if_pos ⟨h1.1, h1.2⟩, if_pos rfl]
    omega
  · unfold M0 mE
    rw [if_pos hj, if_neg (fun e => hjA (aL_m.mpr e))]
