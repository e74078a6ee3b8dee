/-! moor: what holds from line to line. -/
def pLe (n : Nat) (s s' : PsT) : Prop := s.2.1 ≤ s'.2.1 ∧ s'.2.1 ≤ n ∧ ∃ l, s'.2.2 = s.2.2 ++ l ∧ l.length + s.2.1 ≤ s'.2.1
theorem pLe_t {n : Nat} {s s1 s2 : PsT} (a : pLe n s s1) (b : pLe n s1 s2) : pLe n s s2 := by
  obtain ⟨a1, a2, l, a3, a4⟩ := a
  obtain ⟨b1, b2, l', b3, b4⟩ := b
  exact ⟨by omega, b2, l ++ l', by rw [b3, a3, List.append_assoc], by rw [List.length_append]; omega⟩
theorem pLe_l {n : Nat} {s s' : PsT} (a : pLe n s s') (h : s.2.2.length ≤ s.2.1) : s'.2.2.length ≤ s'.2.1 := by
  obtain ⟨a1, a2, l, a3, a4⟩ := a
  rw [a3, List.length_append]; omega
theorem pLe_r {n : Nat} {s : PsT} (h : s.2.1 ≤ n) : pLe n s s := ⟨Nat.le_refl _, h, [], (List.append_nil _).symm, by show 0 + _ ≤ _; omega⟩
theorem pLe_N {K N V : Nat → Nat} {n : Nat} {s : PsT} (hg : pgn K N V n) (h : s.2.1 ≤ n) (hk : K s.2.1 ≠ 24) : pLe n s (pN N s) ∧ s.2.1 < (pN N s).2.1 := by
  have := hg.1 _ h hk
  exact ⟨⟨Nat.le_of_lt this.1, this.2, [], (List.append_nil _).symm, by show 0 + s.2.1 ≤ N s.2.1; omega⟩, this.1⟩
theorem pLe_T {K N V : Nat → Nat} {n lo hx : Nat} {s : PsT} (hg : pgn K N V n) (h : s.2.1 ≤ n) (hn : (pT K N V lo hx s).1 = none) : pLe n s (pT K N V lo hx s) ∧ s.2.1 < (pT K N V lo hx s).2.1 := by
  obtain ⟨_, a2, _, _, a5⟩ := pT_n hn
  rw [a5]
  exact pLe_N hg h (by omega)
theorem pLe_E {K N V : Nat → Nat} {n k : Nat} {s : PsT} (hg : pgn K N V n) (hk : k ≠ 24) (h : s.2.1 ≤ n) (hn : (pE K N k s).1 = none) : pLe n s (pE K N k s) ∧ s.2.1 < (pE K N k s).2.1 := by
  obtain ⟨_, a2, a5⟩ := pE_n hn
  rw [a5]
  exact pLe_N hg h (by rw [a2]; exact hk)
theorem pLe_g {n : Nat} {s s' : PsT} {P : List Nat → Prop} (h : grw s s' n P) : pLe n s s' := by
  obtain ⟨a1, a2, l, a3, a4, _⟩ := h
  exact ⟨a1, a2, l, a3, a4⟩
/-- a law's place among the codes -/
def dSl (c : Option (Nat × Nat)) (l : List Nat) (b : Bool) : Prop := ∀ z, c = some z → z.1 + z.2 ≤ l.length ∧ 0 < z.2 ∧ ty ((l.drop z.1).take z.2) [] = some [b]
theorem dSl_app {c : Option (Nat × Nat)} {l l' : List Nat} {b : Bool} (h : dSl c l b) : dSl c (l ++ l') b := fun z hz => by
  obtain ⟨a1, a2, a3⟩ := h z hz
  refine ⟨by rw [List.length_append]; omega, a2, ?_⟩
  rw [List.drop_append_of_le_length (by omega), List.take_append_of_le_length (by rw [List.length_drop]; omega)]
  exact a3
theorem dSl_le {n : Nat} {s s' : PsT} {c : Option (Nat × Nat)} {b : Bool} (h : dSl c s.2.2 b) (a : pLe n s s') : dSl c s'.2.2 b := by
  obtain ⟨_, _, l, e, _⟩ := a
  rw [e]; exact dSl_app h
theorem dSl_new {l l' : List Nat} {b : Bool} (h : ty l' [] = some [b]) : dSl (some (l.length, (l ++ l').length - l.length)) (l ++ l') b := fun z hz => by
  have hz := (Option.some.inj hz).symm
  subst hz
  have e : (l ++ l').length - l.length = l'.length := by rw [List.length_append]; omega
  refine ⟨by rw [List.length_append]; dsimp only; omega, ?_, ?_⟩
  · show 0 < (l ++ l').length - l.length
    rw [e]
    cases l' with
    | nil => cases h
    | cons x y => rw [List.length_cons]; omega
  · show ty (((l ++ l').drop l.length).take ((l ++ l').length - l.length)) [] = _
    rw [e, List.drop_left, List.take_length]
    exact h
/-- what holds at the beginning of each line -/
def DI (n P : Nat) (y : PsT × DrT) : Prop := DO P y.2 ∧ y.1.2.1 ≤ n ∧ dN y.2 ≤ y.1.2.1 ∧ dSl (dT y.2) y.1.2.2 false ∧ dSl (dK y.2) y.1.2.2 true ∧ y.1.2.2.length ≤ y.1.2.1
/-- what one line leaves -/
def DJ (n P : Nat) (s : PsT) (y : PsT × DrT) : Prop := DO P y.2 ∧ s.2.1 ≤ y.1.2.1 ∧ y.1.2.1 ≤ n ∧ dN y.2 ≤ s.2.1 ∧ dSl (dT y.2) y.1.2.2 false ∧ dSl (dK y.2) y.1.2.2 true ∧ y.1.2.2.length ≤ y.1.2.1
theorem DJ_of {n P : Nat} {s s' : PsT} {x x' : DrT} (hI : DI n P (s, x)) (a : pLe n s s') (hO : DO P x') (e1 : dN x' = dN x) (e2 : dT x' = dT x) (e3 : dK x' = dK x) : DJ n P s (s', x') := ⟨hO, a.1, a.2.1, by rw [e1]; exact hI.2.2.1, by rw [e2]; exact dSl_le hI.2.2.2.1 a, by rw [e3]; exact dSl_le hI.2.2.2.2.1 a, pLe_l a hI.2.2.2.2.2⟩
theorem dJ_R {K N V : Nat → Nat} {n P : Nat} {s : PsT} {x : DrT} (hg : pgn K N V n) (hs : s.1 = none) (hk : K s.2.1 ≠ 24) (hI : DI n P (s, x)) (hn : (lnR K N V P s x).1.1 = none) : DJ n P s (lnR K N V P s x) := by
  have hO : DO P x := hI.1
  have g1 := pLe_N hg hI.2.1 hk
  have hn : (pT K N V 0 P (pT K N V 0 P (rdF K V P x (pN N s)))).1 = none := hn
  obtain ⟨n2, k2, _, v2, e2⟩ := pT_n hn
  obtain ⟨n1, k1, v1, r1, e1⟩ := rdF_n hO n2
  have e : lnR K N V P s x = (pT K N V 0 P (pT K N V 0 P (rdF K V P x (pN N s))), if (pT K N V 0 P (pT K N V 0 P (rdF K V P x (pN N s)))).1 = none then (dN x, dH x, ups (dR x) (V (pN N s).2.1) (dR x (V (pN N s).2.1) + 1), (fun p r => if p = V (pN N s).2.1 ∧ r = dR x (V (pN N s).2.1) then V (pT K N V 0 P (rdF K V P x (pN N s))).2.1 else dL x p r), dA x, dW x, dF x, dT x, dK x) else x) := rfl
  rw [e, if_pos hn]
  rw [e1] at hn n2 v2 ⊢
  have g2 := pLe_T hg g1.1.2.1 n2
  have g3 := pLe_T hg g2.1.2.1 hn
  refine DJ_of hI (pLe_t g1.1 (pLe_t g2.1 g3.1)) ?_ rfl rfl rfl
  obtain ⟨o1, o2, o3, o4, o5, o6, o7, o8, o9⟩ := hO
  refine ⟨o1, o2, o3, fun p => ?_, fun p hp => ?_, fun p r => ?_, fun p => ?_, o8, o9⟩
  · show ups (dR x) _ _ p ≤ 3
    by_cases c : p = V (pN N s).2.1
    · rw [c, ups_s]; omega
    · rw [ups_n c]; exact o4 p
  · show ups (dR x) _ _ p = 0
    rw [ups_n (by omega)]; exact o5 p hp
  · show (if p = _ ∧ r = _ then _ else _) < P
    split
    · exact v2
    · exact o6 p r
  · show dg (dA x) p < max 1 (ups (dR x) _ _ p)
    have := o7 p
    by_cases c : p = V (pN N s).2.1
    · rw [c] at this ⊢; rw [ups_s]; omega
    · rw [ups_n c]; exact this
theorem dJ_A {K N V : Nat → Nat} {n P : Nat} {s : PsT} {x : DrT} (hg : pgn K N V n) (hs : s.1 = none) (hk : K s.2.1 ≠ 24) (hI : DI n P (s, x)) (hn : (lnA K N V P s x).1.1 = none) : DJ n P s (lnA K N V P s x) := by
  have hO : DO P x := hI.1
  have g1 := pLe_N hg hI.2.1 hk
  have hn : (pT K N V 0 (dR x (V (pN N s).2.1)) (pT K N V 0 P (pN N s))).1 = none := hn
  obtain ⟨n2, k2, _, v2, e2⟩ := pT_n hn
  obtain ⟨n1, k1, _, v1, e1⟩ := pT_n n2
  have e : lnA K N V P s x = (pT K N V 0 (dR x (V (pN N s).2.1)) (pT K N V 0 P (pN N s)), if (pT K N V 0 (dR x (V (pN N s).2.1)) (pT K N V 0 P (pN N s))).1 = none then (dN x, dH x, dR x, dL x, pt (dA x) (V (pN N s).2.1) (V (pT K N V 0 P (pN N s)).2.1), dW x, dF x, dT x, dK x) else x) := rfl
  rw [e, if_pos hn]
  have g2 := pLe_T hg g1.1.2.1 n2
  have g3 := pLe_T hg g2.1.2.1 hn
  refine DJ_of hI (pLe_t g1.1 (pLe_t g2.1 g3.1)) ?_ rfl rfl rfl
  obtain ⟨o1, o2, o3, o4, o5, o6, o7, o8, o9⟩ := hO
  have h3 := o4 (V (pN N s).2.1)
  refine ⟨o1, o2, o3, o4, o5, o6, fun p => ?_, o8, o9⟩
  show dg (pt (dA x) _ _) p < max 1 (dR x p)
  by_cases c : p = V (pN N s).2.1
  · rw [c, pt_same (by omega)]; omega
  · rw [pt_other (by omega) c]; exact o7 p
theorem or_lt2 {a v P : Nat} (ha : a < 2 ^ P) (hv : v < P) : a ||| 2 ^ v < 2 ^ P := Nat.or_lt_two_pow ha (Nat.pow_lt_pow_right (by omega) hv)
theorem dJ_H {K N V : Nat → Nat} {n P : Nat} {s : PsT} {x : DrT} (hg : pgn K N V n) (hs : s.1 = none) (hk : K s.2.1 ≠ 24) (hI : DI n P (s, x)) (hn : (lnH K N V P s x).1.1 = none) : DJ n P s (lnH K N V P s x) := by
  have g1 := pLe_N hg hI.2.1 hk
  have hn : (pT K N V 0 P (pN N s)).1 = none := hn
  obtain ⟨n1, k1, _, v1, e1⟩ := pT_n hn
  have e : lnH K N V P s x = (pT K N V 0 P (pN N s), if (pT K N V 0 P (pN N s)).1 = none then (dN x, dH x ||| 2 ^ V (pN N s).2.1, dR x, dL x, dA x, dW x, dF x, dT x, dK x) else x) := rfl
  rw [e, if_pos hn]
  refine DJ_of hI (pLe_t g1.1 (pLe_T hg g1.1.2.1 hn).1) ?_ rfl rfl rfl
  obtain ⟨o1, o2, o3, o4, o5, o6, o7, o8, o9⟩ := hI.1
  exact ⟨o1, o2, or_lt2 o3 v1, o4, o5, o6, o7, o8, o9⟩
theorem dJ_W {K N V : Nat → Nat} {n P : Nat} {s : PsT} {x : DrT} (hg : pgn K N V n) (hs : s.1 = none) (hk : K s.2.1 ≠ 24) (hI : DI n P (s, x)) (hn : (lnW K N V P s x).1.1 = none) : DJ n P s (lnW K N V P s x) := by
  have g1 := pLe_N hg hI.2.1 hk
  have hn : (pT K N V 0 P (pN N s)).1 = none := hn
  obtain ⟨n1, k1, _, v1, e1⟩ := pT_n hn
  have e : lnW K N V P s x = (pT K N V 0 P (pN N s), if (pT K N V 0 P (pN N s)).1 = none then (dN x, dH x, dR x, dL x, dA x, V (pN N s).2.1, dF x, dT x, dK x) else x) := rfl
  rw [e, if_pos hn]
  refine DJ_of hI (pLe_t g1.1 (pLe_T hg g1.1.2.1 hn).1) ?_ rfl rfl rfl
  obtain ⟨o1, o2, o3, o4, o5, o6, o7, o8, o9⟩ := hI.1
  exact ⟨o1, o2, o3, o4, o5, o6, o7, v1, o9⟩
theorem dJ_F {K N V : Nat → Nat} {n P : Nat} {s : PsT} {x : DrT} (hg : pgn K N V n) (hs : s.1 = none) (hk : K s.2.1 ≠ 24) (hI : DI n P (s, x)) (hn : (lnF K N V s x).1.1 = none) : DJ n P s (lnF K N V s x) := by
  have g1 := pLe_N hg hI.2.1 hk
  have hn : (pT K N V 0 10 (pN N s)).1 = none := hn
  obtain ⟨n1, k1, _, v1, e1⟩ := pT_n hn
  have e : lnF K N V s x = (pT K N V 0 10 (pN N s), if (pT K N V 0 10 (pN N s)).1 = none then (dN x, dH x, dR x, dL x, dA x, dW x, V (pN N s).2.1, dT x, dK x) else x) := rfl
  rw [e, if_pos hn]
  refine DJ_of hI (pLe_t g1.1 (pLe_T hg g1.1.2.1 hn).1) ?_ rfl rfl rfl
  obtain ⟨o1, o2, o3, o4, o5, o6, o7, o8, o9⟩ := hI.1
  exact ⟨o1, o2, o3, o4, o5, o6, o7, o8, v1⟩
theorem dJ_T {K N V : Nat → Nat} {n P : Nat} {s : PsT} {x : DrT} (hg : pgn K N V n) (hs : s.1 = none) (hk : K s.2.1 ≠ 24) (hI : DI n P (s, x)) (hn : (lnT K N V s x).1.1 = none) : DJ n P s (lnT K N V s x) := by
  have g1 := pLe_N hg hI.2.1 hk
  have g := (gr_Lv hg 6).1
  have hn : ((pLv K N V 6).1 (pE K N 31 (pN N s))).1 = none := hn
  have n2 : (pE K N 31 (pN N s)).1 = none := Classical.byContradiction (fun w => by rw [g.1 _ w] at hn; exact w hn)
  have g2 := pLe_E hg (by omega) g1.1.2.1 n2
  have g3 := g.2 _ n2 g2.1.2.1 hn
  have e : lnT K N V s x = ((pLv K N V 6).1 (pE K N 31 (pN N s)), if ((pLv K N V 6).1 (pE K N 31 (pN N s))).1 = none then (dN x, dH x, dR x, dL x, dA x, dW x, dF x, some (s.2.2.length, ((pLv K N V 6).1 (pE K N 31 (pN N s))).2.2.length - s.2.2.length), dK x) else x) := rfl
  rw [e, if_pos hn]
  have a := pLe_t g1.1 (pLe_t g2.1 (pLe_g g3))
  obtain ⟨_, _, l, b3, _, b5⟩ := g3
  have lc : (pE K N 31 (pN N s)).2.2 = s.2.2 := by rw [(pE_n n2).2.2]; rfl
  rw [lc] at b3
  refine ⟨hI.1, a.1, a.2.1, hI.2.2.1, ?_, dSl_le hI.2.2.2.2.1 a, pLe_l a hI.2.2.2.2.2⟩
  show dSl (some (s.2.2.length, ((pLv K N V 6).1 (pE K N 31 (pN N s))).2.2.length - s.2.2.length)) ((pLv K N V 6).1 (pE K N 31 (pN N s))).2.2 false
  rw [b3]
  exact dSl_new (b5 [] (by show 0 + (3 + 5 * 6) ≤ 64; omega))
theorem dJ_K {K N V : Nat → Nat} {n P : Nat} {s : PsT} {x : DrT} (hg : pgn K N V n) (hs : s.1 = none) (hk : K s.2.1 ≠ 24) (hI : DI n P (s, x)) (hn : (lnK K N V s x).1.1 = none) : DJ n P s (lnK K N V s x) := by
  have g1 := pLe_N hg hI.2.1 hk
  have g := (gr_Lv hg 6).2.1
  have hn : ((pLv K N V 6).2.1 (pE K N 31 (pN N s))).1 = none := hn
  have n2 : (pE K N 31 (pN N s)).1 = none := Classical.byContradiction (fun w => by rw [g.1 _ w] at hn; exact w hn)
  have g2 := pLe_E hg (by omega) g1.1.2.1 n2
  have g3 := g.2 _ n2 g2.1.2.1 hn
  have e : lnK K N V s x = ((pLv K N V 6).2.1 (pE K N 31 (pN N s)), if ((pLv K N V 6).2.1 (pE K N 31 (pN N s))).1 = none then (dN x, dH x, dR x, dL x, dA x, dW x, dF x, dT x, some (s.2.2.length, ((pLv K N V 6).2.1 (pE K N 31 (pN N s))).2.2.length - s.2.2.length)) else x) := rfl
  rw [e, if_pos hn]
  have a := pLe_t g1.1 (pLe_t g2.1 (pLe_g g3))
  obtain ⟨_, _, l, b3, _, b5⟩ := g3
  have lc : (pE K N 31 (pN N s)).2.2 = s.2.2 := by rw [(pE_n n2).2.2]; rfl
  rw [lc] at b3
  refine ⟨hI.1, a.1, a.2.1, hI.2.2.1, dSl_le hI.2.2.2.1 a, ?_, pLe_l a hI.2.2.2.2.2⟩
  show dSl (some (s.2.2.length, ((pLv K N V 6).2.1 (pE K N 31 (pN N s))).2.2.length - s.2.2.length)) ((pLv K N V 6).2.1 (pE K N 31 (pN N s))).2.2 true
  rw [b3]
  exact dSl_new (b5 [] (by show 0 + (6 + 5 * 6) ≤ 64; omega))
theorem dJ_1 {K N V : Nat → Nat} {n P : Nat} {s : PsT} {x : DrT} (hg : pgn K N V n) (hs : s.1 = none) (hk : K s.2.1 ≠ 24) (hI : DI n P (s, x)) (hn : (ln1 K N V P s x).1.1 = none) : DJ n P s (ln1 K N V P s x) := by
  unfold ln1 at hn ⊢
  by_cases c2 : K s.2.1 = 2
  · rw [if_pos c2] at hn ⊢; exact dJ_R hg hs hk hI hn
  rw [if_neg c2] at hn ⊢
  by_cases c3 : K s.2.1 = 3
  · rw [if_pos c3] at hn ⊢; exact dJ_A hg hs hk hI hn
  rw [if_neg c3] at hn ⊢
  by_cases c4 : K s.2.1 = 4
  · rw [if_pos c4] at hn ⊢; exact dJ_H hg hs hk hI hn
  rw [if_neg c4] at hn ⊢
  by_cases c5 : K s.2.1 = 5
  · rw [if_pos c5] at hn ⊢; exact dJ_W hg hs hk hI hn
  rw [if_neg c5] at hn ⊢
  by_cases c6 : K s.2.1 = 6
  · rw [if_pos c6] at hn ⊢; exact dJ_F hg hs hk hI hn
  rw [if_neg c6] at hn ⊢
  by_cases c7 : K s.2.1 = 7
  · rw [if_pos c7] at hn ⊢; exact dJ_T hg hs hk hI hn
  rw [if_neg c7] at hn ⊢
  by_cases c8 : K s.2.1 = 8
  · rw [if_pos c8] at hn ⊢; exact dJ_K hg hs hk hI hn
  rw [if_neg c8] at hn
  exact (pF_n hn).elim
theorem DI_E {K N V : Nat → Nat} {n P : Nat} {s : PsT} {y : PsT × DrT} (hg : pgn K N V n) (hJ : y.1.1 = none → DJ n P s y) (hn : (lnE K N y).1.1 = none) : DI n P (lnE K N y) ∧ s.2.1 < (lnE K N y).1.2.1 := by
  have hn : (pE K N 30 y.1).1 = none := hn
  obtain ⟨o, a1, a2, a3, a4, a5, a6⟩ := hJ (pE_n hn).1
  have g := pLe_E hg (by omega) a2 hn
  refine ⟨⟨o, g.1.2.1, ?_, dSl_le a4 g.1, dSl_le a5 g.1, pLe_l g.1 a6⟩, show s.2.1 < (pE K N 30 y.1).2.1 by omega⟩
  show dN y.2 + 1 ≤ (pE K N 30 y.1).2.1
  omega
theorem DI_ln {K N V : Nat → Nat} {n P : Nat} {y : PsT × DrT} (hg : pgn K N V n) (hs : y.1.1 = none) (hk : K y.1.2.1 ≠ 24) (hI : DI n P y) (hn : (lnE K N (ln1 K N V P y.1 y.2)).1.1 = none) : DI n P (lnE K N (ln1 K N V P y.1 y.2)) ∧ y.1.2.1 < (lnE K N (ln1 K N V P y.1 y.2)).1.2.1 := DI_E hg (fun w => dJ_1 hg hs hk hI w) hn
