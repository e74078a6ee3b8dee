/-! chance, mean: sets that are closed. -/
def lvl (st : (Nat → Prop) → Nat → Prop) : Nat → Nat → Prop
  | 0 => fun _ => False
  | n + 1 => st (lvl st n)
def mon (st : (Nat → Prop) → Nat → Prop) : Prop := (∀ X Y : Nat → Prop, (∀ p, X p → Y p) → ∀ p, st X p → st Y p) ∧ ∀ X p, st X p → p < 6
theorem lvl_s {st : (Nat → Prop) → Nat → Prop} (hm : mon st) : ∀ n p, lvl st n p → lvl st (n + 1) p
  | 0, _, h => h.elim
  | n + 1, p, h => hm.1 _ _ (lvl_s hm n) p h
theorem lvl_b {st : (Nat → Prop) → Nat → Prop} (hm : mon st) : ∀ n p, lvl st n p → p < 6
  | 0, _, h => h.elim
  | _ + 1, p, h => hm.2 _ p h
noncomputable def lvB (st : (Nat → Prop) → Nat → Prop) (n : Nat) : Nat := fgb (fun p => @decide (lvl st n p) (Classical.propDecidable _)) 6 0 0
theorem lvB_t {st : (Nat → Prop) → Nat → Prop} (hm : mon st) {n p : Nat} : (lvB st n).testBit p = true ↔ lvl st n p := by
  unfold lvB
  rw [fgb_t, Nat.zero_testBit]
  constructor
  · rintro (h | ⟨_, _, h⟩)
    · cases h
    · exact @of_decide_eq_true _ (Classical.propDecidable _) h
  · intro h
    exact Or.inr ⟨Nat.zero_le _, by have := lvl_b hm n p h; omega, @decide_eq_true _ (Classical.propDecidable _) h⟩
theorem lvB_lt {st : (Nat → Prop) → Nat → Prop} {n : Nat} : lvB st n < 64 := fgb_lt (by omega) (by omega)
theorem lvl_6 {st : (Nat → Prop) → Nat → Prop} (hm : mon st) : ∀ n p, lvl st n p → lvl st 6 p := by
  have key : ∀ n, (∃ j, j < n ∧ ∀ p, lvl st (j + 1) p → lvl st j p) ∨ n ≤ pc6 (lvB st n) := by
    intro n
    induction n with
    | zero => exact Or.inr (Nat.zero_le _)
    | succ n ih =>
      rcases ih with ⟨j, hj, e⟩ | h
      · exact Or.inl ⟨j, by omega, e⟩
      · rcases pc6_mo (F := lvB st n) (G := lvB st (n + 1)) lvB_lt lvB_lt (fun p q => (lvB_t hm).mpr (lvl_s hm n p ((lvB_t hm).mp q))) with e | e
        · exact Or.inl ⟨n, by omega, fun p q => (lvB_t hm).mp (by rw [e]; exact (lvB_t hm).mpr q)⟩
        · exact Or.inr (by omega)
  have up : ∀ k n p, lvl st n p → lvl st (n + k) p := by
    intro k
    induction k with
    | zero => intro n p h; exact h
    | succ k ih => intro n p h; exact lvl_s hm _ p (ih n p h)
  intro n p h
  rcases key 7 with ⟨j, hj, e⟩ | h7
  · have dn : ∀ k p, lvl st (j + k) p → lvl st j p := by
      intro k
      induction k with
      | zero => intro p h; exact h
      | succ k ih => intro p h; exact e p (hm.1 _ _ ih p h)
    have h1 : lvl st j p := by
      by_cases c : n ≤ j
      · have := up (j - n) n p h
        rwa [show n + (j - n) = j by omega] at this
      · exact dn (n - j) p (by rw [show j + (n - j) = n by omega]; exact h)
    have := up (6 - j) j p h1
    rwa [show j + (6 - j) = 6 by omega] at this
  · have := pc6_le (lvB st 7)
    omega
def isL (st : (Nat → Prop) → Nat → Prop) (F : Nat) : Prop := F < 64 ∧ ∀ p, F.testBit p = true ↔ lvl st 6 p
def bs (F : Nat) : Nat → Prop := fun p => F.testBit p = true
/-- sound so far -/
def snd (st : (Nat → Prop) → Nat → Prop) (F : Nat) : Prop := F < 64 ∧ ∀ p, F.testBit p = true → lvl st 6 p
theorem isL_u {st : (Nat → Prop) → Nat → Prop} {F G : Nat} (h1 : isL st F) (h2 : isL st G) : F = G := by
  refine Nat.eq_of_testBit_eq (fun p => ?_)
  have := (h1.2 p).trans (h2.2 p).symm
  cases hF : F.testBit p <;> cases hG : G.testBit p <;> simp_all
theorem snd_a {st : (Nat → Prop) → Nat → Prop} {F q : Nat} (hm : mon st) (h : snd st F) (hq : st (bs F) q) : snd st (F ||| 2 ^ q) := by
  have h6 := hm.2 _ _ hq
  refine ⟨or64 h.1 h6, fun p hp => ?_⟩
  rw [Nat.testBit_or, Nat.testBit_two_pow, Bool.or_eq_true, decide_eq_true_iff] at hp
  rcases hp with w | w
  · exact h.2 p w
  · rw [← w]
    exact lvl_6 hm 7 q (hm.1 _ _ h.2 q hq)
theorem or_l {F q p : Nat} (h : F.testBit p = true) : (F ||| 2 ^ q).testBit p = true := by rw [Nat.testBit_or, h]; rfl
theorem or_r {F q : Nat} : (F ||| 2 ^ q).testBit q = true := by rw [Nat.testBit_or, Nat.testBit_two_pow, decide_eq_true rfl, Bool.or_true]
theorem isL_c {st : (Nat → Prop) → Nat → Prop} {F : Nat} (hm : mon st) (h : snd st F) (hc : ∀ p, st (bs F) p → F.testBit p = true) : isL st F := by
  have : ∀ n p, lvl st n p → F.testBit p = true := by
    intro n
    induction n with
    | zero => intro p h; exact h.elim
    | succ n ih => intro p h; exact hc p (hm.1 _ _ ih p h)
  exact ⟨h.1, fun p => ⟨h.2 p, this 6 p⟩⟩
theorem shl1 {p : Nat} (h : p < 31) : ((1 : Int32) <<< (nI p &&& 31)) = nI (2 ^ p) := b_shl h
/-- those of some posts from which roads lead into a goal -/
def stL (m : MoT) (G S : Nat → Bool) (X : Nat → Prop) (p : Nat) : Prop := p < mP m ∧ S p = true ∧ ∃ r, r < mR m p ∧ (G (mL m p r) = true ∨ X (mL m p r))
theorem stL_m {m : MoT} {G S : Nat → Bool} (hO : MO m) : mon (stL m G S) := by
  have h6 := hO.2.1
  refine ⟨fun X Y h p => ?_, fun X p h => by have := h.1; omega⟩
  rintro ⟨h1, h2, r, h3, h4⟩
  exact ⟨h1, h2, r, h3, h4.imp id (h _)⟩
theorem c_lead30 {m : MoT} {g s p F0 : Nat} {y : Int32} {h : abJ} {K : Int32 → Int32 → Int32 → Int32 → Int32 → Option Int32} {out : Option Int32} (hO : MO m) (hM : cM m 1 h) (hp : p < mP m) (hg : g < 64) (hs : s < 64) (hK : ∀ F, snd (stL m g.testBit s.testBit) F → (∀ q, F0.testBit q = true → F.testBit q = true) → (∀ q, q < p + 1 → stL m g.testBit s.testBit (bs F0) q → F.testBit q = true) → K (nI g) (nI s) (nI F) y (nI (p + 1)) = out) : ∀ (j N r F : Nat), r + j = mR m p → j < N → snd (stL m g.testBit s.testBit) F → (∀ q, F0.testBit q = true → F.testBit q = true) → (∀ q, q < p → stL m g.testBit s.testBit (bs F0) q → F.testBit q = true) → (∀ r', r' < r → (g.testBit (mL m p r') = true ∨ F0.testBit (mL m p r') = true) → F.testBit p = true) → fX4_leadInto_L30 h K N (nI g) (nI s) (nI F) y (nI p) (nI r) = out := by
  have h6 := hO.2.1
  have h3 := hO.2.2.2.2.1 p
  intro j
  induction j with
  | zero =>
    intro N r F hr hN hF h0 h1 h2
    obtain ⟨N, rfl⟩ : ∃ n0, N = n0 + 1 := ⟨N - 1, by omega⟩
    have fin : (s.testBit p = true → ∀ q, q < p + 1 → stL m g.testBit s.testBit (bs F0) q → F.testBit q = true) := by
      intro _ q hq hst
      by_cases e : q = p
      · subst e
        obtain ⟨_, _, r', w1, w2⟩ := hst
        exact h2 r' (by omega) w2
      · exact h1 q (by omega) hst
    rw [fX4_leadInto_L30, c_isIn h (by omega) (by omega), ab_bindS]
    unfold fX4_leadInto_J86
    rw [nI_1]
    cases c : s.testBit p with
    | false =>
      rw [if_pos (by decide)]
      refine hK F hF h0 (fun q hq hst => ?_)
      by_cases e : q = p
      · subst e; have := hst.2.1; rw [c] at this; cases this
      · exact h1 q (by omega) hst
    | true =>
      rw [if_neg (by decide), c_roadsOf hO hM (by omega), ab_bindS, if_pos (by rw [nI_leI (by omega) (by omega)]; omega)]
      exact hK F hF h0 (fin c)
  | succ j ih =>
    intro N r F hr hN hF h0 h1 h2
    obtain ⟨N, rfl⟩ : ∃ n0, N = n0 + 1 := ⟨N - 1, by omega⟩
    have hl := hO.2.2.2.2.2.2.1 p r
    rw [fX4_leadInto_L30, c_isIn h (by omega) (by omega), ab_bindS]
    cases c : s.testBit p with
    | false =>
      rw [if_pos (by decide)]
      unfold fX4_leadInto_J86
      rw [nI_1]
      refine hK F hF h0 (fun q hq hst => ?_)
      by_cases e : q = p
      · subst e; have := hst.2.1; rw [c] at this; cases this
      · exact h1 q (by omega) hst
    | true =>
      have hgF : g ||| F < 64 := Nat.or_lt_two_pow (n := 6) hg hF.1
      rw [if_neg (by decide), c_roadsOf hO hM (by omega), ab_bindS, if_neg (by rw [nI_leI (by omega) (by omega)]; omega), c_leadsTo hO hM (by omega) (by omega), ab_bindS, b_or, c_isIn h (by omega) (by omega), ab_bindS]
      unfold fX4_leadInto_J80
      rw [nI_1, shl1 (by omega), b_or]
      cases c2 : (g ||| F).testBit (mL m p r) with
      | false =>
        rw [if_pos (by decide)]
        rw [Nat.testBit_or, Bool.or_eq_false_iff] at c2
        refine ih N (r + 1) F (by omega) (by omega) hF h0 h1 (fun r' hr' hx => ?_)
        by_cases e : r' = r
        · subst e
          rcases hx with w | w
          · rw [c2.1] at w; cases w
          · have := h0 _ w; rw [c2.2] at this; cases this
        · exact h2 r' (by omega) hx
      | true =>
        rw [if_neg (by decide)]
        rw [Nat.testBit_or, Bool.or_eq_true] at c2
        exact ih N (r + 1) (F ||| 2 ^ p) (by omega) (by omega) (snd_a (stL_m hO) hF ⟨hp, c, r, by omega, c2⟩) (fun q hq => or_l (h0 q hq)) (fun q hq hst => or_l (h1 q hq hst)) (fun r' _ _ => or_r)
theorem c_lead15 {m : MoT} {g s F0 t : Nat} {h : abJ} {K : Int32 → Int32 → Int32 → Int32 → Option Int32} {out : Option Int32} (hO : MO m) (hM : cM m 1 h) (hg : g < 64) (hs : s < 64) (hK : ∀ F, snd (stL m g.testBit s.testBit) F → (∀ q, stL m g.testBit s.testBit (bs F0) q → F.testBit q = true) → K (nI g) (nI s) (nI F) (nI (t + 1)) = out) : ∀ (j N p F : Nat), p + j = mP m → j < N → snd (stL m g.testBit s.testBit) F → (∀ q, F0.testBit q = true → F.testBit q = true) → (∀ q, q < p → stL m g.testBit s.testBit (bs F0) q → F.testBit q = true) → fX4_leadInto_L15 h K N (nI g) (nI s) (nI F) (nI t) (nI p) = out := by
  have h6 := hO.2.1
  intro j
  induction j with
  | zero =>
    intro N p F hp hN hF h0 h1
    obtain ⟨N, rfl⟩ : ∃ n0, N = n0 + 1 := ⟨N - 1, by omega⟩
    rw [fX4_leadInto_L15, hM.1, if_pos (by rw [nI_leI (by omega) (by omega)]; omega), nI_1]
    exact hK F hF (fun q hst => h1 q (by have := hst.1; omega) hst)
  | succ j ih =>
    intro N p F hp hN hF h0 h1
    obtain ⟨N, rfl⟩ : ∃ n0, N = n0 + 1 := ⟨N - 1, by omega⟩
    rw [fX4_leadInto_L15, hM.1, if_neg (by rw [nI_leI (by omega) (by omega)]; omega), show (0 : Int32) = nI 0 from rfl]
    refine c_lead30 (F0 := F0) hO hM (by omega) hg hs (fun F' a b c => ih N (p + 1) F' (by omega) (by omega) a b c) (mR m p) ab_N 0 F (by omega) (by have := hO.2.2.2.2.1 p; unfold ab_N; omega) hF h0 h1 (fun r' hr' => by omega)
theorem c_lead5 {m : MoT} {g s R : Nat} {h : abJ} (hO : MO m) (hM : cM m 1 h) (hg : g < 64) (hs : s < 64) (hR : isL (stL m g.testBit s.testBit) R) : ∀ (j N t F : Nat), t + j = 6 → j < N → snd (stL m g.testBit s.testBit) F → (∀ q, lvl (stL m g.testBit s.testBit) t q → F.testBit q = true) → fX4_leadInto_L5 h N (nI g) (nI s) (nI F) (nI t) = some (nI R) := by
  intro j
  induction j with
  | zero =>
    intro N t F ht hN hF h1
    obtain ⟨N, rfl⟩ : ∃ n0, N = n0 + 1 := ⟨N - 1, by omega⟩
    have e : t = 6 := by omega
    subst e
    rw [fX4_leadInto_L5, if_pos (by decide), isL_u hR ⟨hF.1, fun p => ⟨hF.2 p, h1 p⟩⟩]
  | succ j ih =>
    intro N t F ht hN hF h1
    obtain ⟨N, rfl⟩ : ∃ n0, N = n0 + 1 := ⟨N - 1, by omega⟩
    rw [fX4_leadInto_L5, if_neg (by rw [show (6 : Int32) = nI 6 from rfl, nI_leI (by omega) (by omega)]; omega), show (0 : Int32) = nI 0 from rfl]
    refine c_lead15 (F0 := F) hO hM hg hs (fun F' a b => ih N (t + 1) F' (by omega) (by omega) a (fun q hq => b q ((stL_m hO).1 _ _ h1 q hq))) (mP m) ab_N 0 F (by omega) (by have := hO.2.1; unfold ab_N; omega) hF (fun q hq => hq) (fun q hq => by omega)
theorem lvB_isL {st : (Nat → Prop) → Nat → Prop} (hm : mon st) : isL st (lvB st 6) := ⟨lvB_lt, fun _ => lvB_t hm⟩
theorem snd_0 {st : (Nat → Prop) → Nat → Prop} : snd st 0 := ⟨by omega, fun p h => by rw [Nat.zero_testBit] at h; cases h⟩
theorem c_lead {m : MoT} {g s : Nat} {h : abJ} (hO : MO m) (hM : cM m 1 h) (hg : g < 64) (hs : s < 64) : fX4_leadInto (nI g) (nI s) h = some (nI (lvB (stL m g.testBit s.testBit) 6)) := by
  unfold fX4_leadInto
  exact c_lead5 hO hM hg hs (lvB_isL (stL_m hO)) 6 ab_N 0 0 (by omega) (by unfold ab_N; omega) snd_0 (fun q h => h.elim)
/-- the reference: the goal's posts are among them -/
theorem stL_e {m : MoT} {G G' S S' : Nat → Bool} (h1 : ∀ p, p < 6 → G p = G' p) (h2 : ∀ p, p < mP m → S p = S' p) (hO : MO m) : stL m G S = stL m G' S' := by
  have h6 := hO.2.1
  funext X p
  unfold stL
  apply propext
  constructor
  · rintro ⟨a, b, r, c, d⟩
    have := hO.2.2.2.2.2.2.1 p r
    exact ⟨a, by rw [← h2 p a]; exact b, r, c, by rw [← h1 _ (by omega)]; exact d⟩
  · rintro ⟨a, b, r, c, d⟩
    have := hO.2.2.2.2.2.2.1 p r
    exact ⟨a, by rw [h2 p a]; exact b, r, c, by rw [h1 _ (by omega)]; exact d⟩
def sR (m : MoT) (e : Nat) (p : Nat) : Bool := !e.testBit p && !rs m p
theorem r_come52 {m : MoT} {g e p F0 : Nat} {y5 : Int32} {h : abJ} {K : Int32 → Int32 → Int32 → Int32 → Option Int32} {out : Option Int32} (hO : MO m) (hM : rM m (h.1 65)) (hp : p < mP m) (hg : g < 64) (hS : sR m e p = true) (hK : ∀ F, snd (stL m g.testBit (sR m e)) F → (∀ q, F0.testBit q = true → F.testBit q = true) → (∀ q, q < p + 1 → stL m g.testBit (sR m e) (bs F0) q → F.testBit q = true) → K (nI e) (nI (g ||| F)) y5 (nI (p + 1)) = out) : ∀ (j N r F : Nat), r + j = mR m p → j < N → snd (stL m g.testBit (sR m e)) F → (∀ q, F0.testBit q = true → F.testBit q = true) → (∀ q, q < p → stL m g.testBit (sR m e) (bs F0) q → F.testBit q = true) → (∀ r', r' < r → (g.testBit (mL m p r') = true ∨ F0.testBit (mL m p r') = true) → F.testBit p = true) → fX12_comesTo_L52 h K N (nI e) (nI (g ||| F)) y5 (nI p) (nI r) = out := by
  have h6 := hO.2.1
  have h3 := hO.2.2.2.2.1 p
  intro j
  induction j with
  | zero =>
    intro N r F hr hN hF h0 h1 h2
    obtain ⟨N, rfl⟩ : ∃ n0, N = n0 + 1 := ⟨N - 1, by omega⟩
    rw [fX12_comesTo_L52, show (9 : Int32) = nI 9 from rfl, nI_add, nI_clamp (by omega), ab_askP (ixN (by omega) (by omega)), hM.2.2.2.1 p (by omega), if_pos (by rw [nI_leI (by omega) (by omega)]; omega)]
    unfold fX12_comesTo_J100
    rw [nI_1]
    refine hK F hF h0 (fun q hq hst => ?_)
    by_cases e2 : q = p
    · subst e2
      obtain ⟨_, _, r', w1, w2⟩ := hst
      exact h2 r' (by omega) w2
    · exact h1 q (by omega) hst
  | succ j ih =>
    intro N r F hr hN hF h0 h1 h2
    obtain ⟨N, rfl⟩ : ∃ n0, N = n0 + 1 := ⟨N - 1, by omega⟩
    have hl := hO.2.2.2.2.2.2.1 p r
    have hgF : g ||| F < 64 := Nat.or_lt_two_pow (n := 6) hg hF.1
    rw [fX12_comesTo_L52, show (9 : Int32) = nI 9 from rfl, nI_add, nI_clamp (by omega), ab_askP (ixN (by omega) (by omega)), hM.2.2.2.1 p (by omega), if_neg (by rw [nI_leI (by omega) (by omega)]; omega), r_roadOf hM (by omega) (by omega) h3, ab_bindS, r_isIn h hgF (by omega), ab_bindS]
    unfold fX12_comesTo_J92
    rw [nI_1, shl1 (by omega), show (0 : Int32) = nI 0 from rfl, b_or, b_or, Nat.or_zero]
    cases c2 : (g ||| F).testBit (mL m p r) with
    | false =>
      rw [if_pos (by decide)]
      rw [Nat.testBit_or, Bool.or_eq_false_iff] at c2
      refine ih N (r + 1) F (by omega) (by omega) hF h0 h1 (fun r' hr' hx => ?_)
      by_cases e : r' = r
      · subst e
        rcases hx with w | w
        · rw [c2.1] at w; cases w
        · have := h0 _ w; rw [c2.2] at this; cases this
      · exact h2 r' (by omega) hx
    | true =>
      rw [if_neg (by decide)]
      rw [Nat.testBit_or, Bool.or_eq_true] at c2
      rw [Nat.or_assoc]
      exact ih N (r + 1) (F ||| 2 ^ p) (by omega) (by omega) (snd_a (stL_m hO) hF ⟨hp, hS, r, by omega, c2⟩) (fun q hq => or_l (h0 q hq)) (fun q hq hst => or_l (h1 q hq hst)) (fun r' _ _ => or_r)
theorem r_come16 {m : MoT} {g e F0 : Nat} {h : abJ} {K : Int32 → Int32 → Int32 → Option Int32} {out : Option Int32} (hO : MO m) (hM : rM m (h.1 65)) (hg : g < 64) (he : e < 64) (hF0 : F0 < 64) (hK : ∀ F, snd (stL m g.testBit (sR m e)) F → (∀ q, F0.testBit q = true → F.testBit q = true) → (∀ q, stL m g.testBit (sR m e) (bs F0) q → F.testBit q = true) → K (nI e) (nI (g ||| F)) (nI (if g ||| F = g ||| F0 then 0 else 1)) = out) : ∀ (j N p F : Nat), p + j = mP m → j < N → snd (stL m g.testBit (sR m e)) F → (∀ q, F0.testBit q = true → F.testBit q = true) → (∀ q, q < p → stL m g.testBit (sR m e) (bs F0) q → F.testBit q = true) → fX12_comesTo_L16 h K N (nI e) (nI (g ||| F)) (nI (g ||| F0)) (nI p) = out := by
  have h6 := hO.2.1
  have hgF0 : g ||| F0 < 64 := Nat.or_lt_two_pow (n := 6) hg hF0
  intro j
  induction j with
  | zero =>
    intro N p F hp hN hF h0 h1
    obtain ⟨N, rfl⟩ : ∃ n0, N = n0 + 1 := ⟨N - 1, by omega⟩
    have hgF : g ||| F < 64 := Nat.or_lt_two_pow (n := 6) hg hF.1
    have := hK F hF h0 (fun q hst => h1 q (by have := hst.1; omega) hst)
    rw [fX12_comesTo_L16, hM.2.1, if_pos (by rw [nI_leI (by omega) (by omega)]; omega)]
    unfold fX12_comesTo_J117
    by_cases c : g ||| F = g ||| F0
    · rw [if_pos c] at this
      rw [if_pos (by rw [c])]; exact this
    · rw [if_neg c] at this
      rw [if_neg (by rw [nI_eq (by omega) (by omega)]; exact c)]; exact this
  | succ j ih =>
    intro N p F hp hN hF h0 h1
    obtain ⟨N, rfl⟩ : ∃ n0, N = n0 + 1 := ⟨N - 1, by omega⟩
    have skip : sR m e p = false → fX12_comesTo_J100 h (fun y2 y3 y5 y6 => fX12_comesTo_L16 h K N y2 y3 y5 y6) (nI e) (nI (g ||| F)) (nI (g ||| F0)) (nI p) = out := by
      intro hs
      unfold fX12_comesTo_J100
      rw [nI_1]
      refine ih N (p + 1) F (by omega) (by omega) hF h0 (fun q hq hst => ?_)
      by_cases e2 : q = p
      · subst e2; have := hst.2.1; rw [hs] at this; cases this
      · exact h1 q (by omega) hst
    rw [fX12_comesTo_L16, hM.2.1, if_neg (by rw [nI_leI (by omega) (by omega)]; omega), r_isIn h he (by omega), ab_bindS, r_isRest hO hM (by omega), ab_bindS]
    cases c1 : e.testBit p with
    | true => rw [if_neg (by decide)]; exact skip (by unfold sR; rw [c1]; rfl)
    | false =>
      rw [if_pos (by decide)]
      cases c2 : rs m p with
      | true => rw [if_neg (by decide)]; exact skip (by unfold sR; rw [c1, c2]; rfl)
      | false =>
        rw [if_pos (by decide), show (0 : Int32) = nI 0 from rfl]
        refine r_come52 (F0 := F0) hO hM (by omega) hg (by unfold sR; rw [c1, c2]; rfl) (fun F' a b c => ih N (p + 1) F' (by omega) (by omega) a b c) (mR m p) ab_N 0 F (by omega) (by have := hO.2.2.2.2.1 p; unfold ab_N; omega) hF h0 h1 (fun r' hr' => by omega)
theorem r_come5 {m : MoT} {g e R : Nat} {h : abJ} (hO : MO m) (hM : rM m (h.1 65)) (hg : g < 64) (he : e < 64) (hR : isL (stL m g.testBit (sR m e)) R) (hge : ∀ p, sR m e p = true → g.testBit p = false) : ∀ (j N F : Nat), 6 ≤ pc6 F + j → j + 1 < N → snd (stL m g.testBit (sR m e)) F → fX12_comesTo_L5 h N (nI e) (nI (g ||| F)) (nI 1) = some (nI (g ||| R)) := by
  intro j
  induction j with
  | zero =>
    intro N F hj hN hF
    obtain ⟨N, rfl⟩ : ∃ n0, N = n0 + 2 := ⟨N - 2, by omega⟩
    rw [fX12_comesTo_L5, if_neg (by decide), show (0 : Int32) = nI 0 from rfl]
    refine r_come16 (F0 := F) hO hM hg he hF.1 (fun F' a b c => ?_) (mP m) ab_N 0 F (by omega) (by have := hO.2.1; unfold ab_N; omega) hF (fun q hq => hq) (fun q hq => by omega)
    have e1 : F = F' := by
      rcases pc6_mo hF.1 a.1 b with w | w
      · exact w
      · have := pc6_le F'; omega
    subst e1
    rw [if_pos rfl]
    show fX12_comesTo_L5 h (N + 1) (nI e) (nI (g ||| F)) (nI 0) = _
    rw [fX12_comesTo_L5, if_pos (by decide), isL_u hR (isL_c (stL_m hO) hF c)]
  | succ j ih =>
    intro N F hj hN hF
    obtain ⟨N, rfl⟩ : ∃ n0, N = n0 + 2 := ⟨N - 2, by omega⟩
    rw [fX12_comesTo_L5, if_neg (by decide), show (0 : Int32) = nI 0 from rfl]
    refine r_come16 (F0 := F) hO hM hg he hF.1 (fun F' a b c => ?_) (mP m) ab_N 0 F (by omega) (by have := hO.2.1; unfold ab_N; omega) hF (fun q hq => hq) (fun q hq => by omega)
    rcases pc6_mo hF.1 a.1 b with w | w
    · subst w
      rw [if_pos rfl]
      show fX12_comesTo_L5 h (N + 1) (nI e) (nI (g ||| F)) (nI 0) = _
      rw [fX12_comesTo_L5, if_pos (by decide), isL_u hR (isL_c (stL_m hO) hF c)]
    · by_cases cc : g ||| F' = g ||| F
      · rw [if_pos cc]
        show fX12_comesTo_L5 h (N + 1) (nI e) (nI (g ||| F')) (nI 0) = _
        have e1 : F' = F := by
          refine Nat.eq_of_testBit_eq (fun p => ?_)
          cases hp : F'.testBit p with
          | false =>
            cases hp2 : F.testBit p with
            | false => rfl
            | true => have := b p hp2; rw [hp] at this; cases this
          | true =>
            have l6 := a.2 p hp
            have hS : sR m e p = true := (show stL m g.testBit (sR m e) _ p from l6).2.1
            have := congrArg (fun x => x.testBit p) cc
            simp only [Nat.testBit_or, hge p hS, hp, Bool.false_or] at this
            exact this
        subst e1
        omega
      · rw [if_neg cc]
        exact ih (N + 1) F' (by omega) (by omega) a
theorem r_come {m : MoT} {g e : Nat} {h : abJ} (hO : MO m) (hM : rM m (h.1 65)) (hg : g < 64) (he : e < 64) (hge : ∀ p, sR m e p = true → g.testBit p = false) : fX12_comesTo (nI g) (nI e) h = some (nI (g ||| lvB (stL m g.testBit (sR m e)) 6)) := by
  unfold fX12_comesTo
  have := r_come5 hO hM hg he (lvB_isL (stL_m hO)) hge 6 ab_N 0 (by omega) (by unfold ab_N; omega) snd_0
  rw [Nat.or_zero] at this
  exact this
