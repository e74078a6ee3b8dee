/-! moor: laws are read. -/
abbrev PsT : Type := Option (Nat × Nat) × Nat × List Nat
def pN (N : Nat → Nat) (s : PsT) : PsT := (s.1, N s.2.1, s.2.2)
def pF (K : Nat → Nat) (f : Nat) (s : PsT) : PsT := if s.1 = none then (some (if K s.2.1 = 25 then 1 else f, s.2.1), s.2.1, s.2.2) else s
def pC (c : Nat) (s : PsT) : PsT := if s.1 = none then (none, s.2.1, s.2.2 ++ [c]) else s
def pE (K N : Nat → Nat) (k : Nat) (s : PsT) : PsT := if s.1 = none then (if K s.2.1 = k then pN N s else pF K 2 s) else s
/-- what a word of a law is, alone -/
def lfc (k : Nat) : Option Nat := if k = 13 then some 1000 else if k = 3 then some 1001 else if k = 14 then some 1002 else if k = 6 then some 1003 else none
def pA (K N V : Nat → Nat) (op : Bool) (S0 R0 : PsT → PsT) (s : PsT) : PsT :=
  if s.1 = none then
    (if K s.2.1 = 23 then pN N (pC (V s.2.1) s) else match lfc (K s.2.1) with
      | some c => pN N (pC c s)
      | none => if K s.2.1 = 35 then (if op = true then pE K N 36 (S0 (pN N s)) else pF K 4 s)
        else if K s.2.1 = 9 then (if op = true then pC 3009 (pE K N 12 (S0 (pE K N 11 (S0 (pE K N 10 (R0 (pN N s))))))) else pF K 4 s)
        else pF K 2 s)
  else s
def plp (K N : Nat → Nat) (cd : Nat → Option Nat) (B : PsT → PsT) : Nat → PsT → PsT
  | 0, s => s
  | k + 1, s => if s.1 = none then (match cd (K s.2.1) with | some c => plp K N cd B k (pC c (B (pN N s))) | none => s) else s
def cdT (k : Nat) : Option Nat := if k = 34 then some 3002 else none
def cdS (k : Nat) : Option Nat := if k = 32 then some 3000 else if k = 33 then some 3001 else none
def cdB (k : Nat) : Option Nat := if k = 15 then some 3007 else none
def cdR (k : Nat) : Option Nat := if k = 16 then some 3008 else none
def cdC (k : Nat) : Option Nat := if k = 39 then some 3003 else if k = 40 then some 3004 else if k = 41 then some 3005 else none
def pS (K N V : Nat → Nat) (op : Bool) (S0 R0 : PsT → PsT) : PsT → PsT := fun s => plp K N cdS (fun s => plp K N cdT (pA K N V op S0 R0) 901 (pA K N V op S0 R0 s)) 901 (plp K N cdT (pA K N V op S0 R0) 901 (pA K N V op S0 R0 s))
/-- a comparison -/
def pQ (K N : Nat → Nat) (S : PsT → PsT) (s : PsT) : PsT := if s.1 = none then (match cdC (K s.2.1) with | some c => pC c (S (pN N s)) | none => pF K 2 s) else s
def pUn (K N : Nat → Nat) (op : Bool) (S R0 U0 : PsT → PsT) (s : PsT) : PsT :=
  if s.1 = none then
    (if K s.2.1 = 17 then (if op = true then pC 3006 (U0 (pN N s)) else pF K 4 s)
     else if K s.2.1 = 37 then (if op = true then pE K N 38 (R0 (pN N s)) else pF K 4 s)
     else pQ K N S (S s))
  else s
def pR (K N : Nat → Nat) (U : PsT → PsT) : PsT → PsT := fun s => plp K N cdR (fun s => plp K N cdB U 901 (U s)) 901 (plp K N cdB U 901 (U s))
/-- so many may still stand within one another: sums, truths, units -/
def pLv (K N V : Nat → Nat) : Nat → (PsT → PsT) × (PsT → PsT) × (PsT → PsT)
  | 0 => (pS K N V false id id, pR K N (pUn K N false (pS K N V false id id) id id), pUn K N false (pS K N V false id id) id id)
  | e + 1 => (pS K N V true (pLv K N V e).1 (pLv K N V e).2.1, pR K N (pUn K N true (pS K N V true (pLv K N V e).1 (pLv K N V e).2.1) (pLv K N V e).2.1 (pLv K N V e).2.2), pUn K N true (pS K N V true (pLv K N V e).1 (pLv K N V e).2.1) (pLv K N V e).2.1 (pLv K N V e).2.2)
/-- tokens end -/
def pgn (K N V : Nat → Nat) (n : Nat) : Prop := (∀ a, a ≤ n → K a ≠ 24 → a < N a ∧ N a ≤ n) ∧ ∀ a, V a < 1000
theorem ty_app {l1 l2 : List Nat} : ∀ {s : List Bool}, ty (l1 ++ l2) s = (ty l1 s).bind (ty l2) := by
  induction l1 with
  | nil => intro s; rfl
  | cons c l ih =>
    intro s
    show (t1 c s).bind (ty (l ++ l2)) = ((t1 c s).bind (ty l)).bind (ty l2)
    cases t1 c s with
    | none => rfl
    | some s' => exact ih
/-- what a reader does: what it tells is of one kind, and no longer than its text -/
def grw (s s' : PsT) (n : Nat) (P : List Nat → Prop) : Prop := s.2.1 ≤ s'.2.1 ∧ s'.2.1 ≤ n ∧ ∃ l, s'.2.2 = s.2.2 ++ l ∧ l.length + s.2.1 ≤ s'.2.1 ∧ P l
def grd (n : Nat) (b : Bool) (D : Nat) (f : PsT → PsT) : Prop := (∀ s, s.1 ≠ none → f s = s) ∧ ∀ s, s.1 = none → s.2.1 ≤ n → (f s).1 = none → grw s (f s) n (fun l => ∀ ks : List Bool, ks.length + D ≤ 64 → ty l ks = some (b :: ks))
theorem grw_t {s s1 s2 : PsT} {n : Nat} {P Q R : List Nat → Prop} (h1 : grw s s1 n P) (h2 : grw s1 s2 n Q) (h : ∀ l l', P l → Q l' → R (l ++ l')) : grw s s2 n R := by
  obtain ⟨a1, a2, l, a3, a4, a5⟩ := h1
  obtain ⟨b1, b2, l', b3, b4, b5⟩ := h2
  refine ⟨by omega, b2, l ++ l', by rw [b3, a3, List.append_assoc], by rw [List.length_append]; omega, h l l' a5 b5⟩
theorem grw_m {s s1 : PsT} {n : Nat} {P Q : List Nat → Prop} (h1 : grw s s1 n P) (h : ∀ l, P l → Q l) : grw s s1 n Q := by
  obtain ⟨a1, a2, l, a3, a4, a5⟩ := h1
  exact ⟨a1, a2, l, a3, a4, h l a5⟩
def pK (s s' : PsT) (n : Nat) : Prop := s.2.1 < s'.2.1 ∧ s'.2.1 ≤ n ∧ s'.2.2 = s.2.2
theorem pK_N {K N V : Nat → Nat} {n : Nat} {s : PsT} (hg : pgn K N V n) (ha : s.2.1 ≤ n) (hk : K s.2.1 ≠ 24) : pK s (pN N s) n := ⟨(hg.1 _ ha hk).1, (hg.1 _ ha hk).2, rfl⟩
/-- a token and a code -/
theorem grw_K {s s1 s2 : PsT} {n : Nat} {P : List Nat → Prop} (h1 : pK s s1 n) (h2 : grw s1 s2 n P) : grw s s2 n P := by
  obtain ⟨a1, a2, a3⟩ := h1
  obtain ⟨b1, b2, l', b3, b4, b5⟩ := h2
  exact ⟨by omega, b2, l', by rw [b3, a3], by omega, b5⟩
theorem grw_KC {s s1 s2 : PsT} {n c : Nat} {P Q : List Nat → Prop} (h1 : pK s s1 n) (h2 : grw s1 s2 n P) (hn : s2.1 = none) (h : ∀ l, P l → Q (l ++ [c])) : grw s (pC c s2) n Q := by
  obtain ⟨a1, a2, a3⟩ := h1
  obtain ⟨b1, b2, l', b3, b4, b5⟩ := h2
  unfold pC
  rw [if_pos hn]
  exact ⟨show _ ≤ s2.2.1 by omega, b2, l' ++ [c], by show s2.2.2 ++ [c] = _; rw [b3, a3, List.append_assoc], by rw [List.length_append, List.length_singleton]; show _ ≤ s2.2.1; omega, h l' b5⟩
theorem pC_n {c : Nat} {s : PsT} (h : (pC c s).1 = none) : s.1 = none := by
  unfold pC at h
  split at h
  · assumption
  · exact h
theorem pC_x {c : Nat} {s : PsT} (h : s.1 ≠ none) : pC c s = s := by unfold pC; rw [if_neg h]
theorem pF_n {K : Nat → Nat} {f : Nat} {s : PsT} (h : (pF K f s).1 = none) : False := by
  unfold pF at h
  split at h
  · cases h
  · contradiction
theorem pE_n {K N : Nat → Nat} {k : Nat} {s : PsT} (h : (pE K N k s).1 = none) : s.1 = none ∧ K s.2.1 = k ∧ pE K N k s = pN N s := by
  unfold pE at h ⊢
  by_cases c : s.1 = none
  · rw [if_pos c] at h ⊢
    by_cases c2 : K s.2.1 = k
    · rw [if_pos c2]; exact ⟨c, c2, rfl⟩
    · rw [if_neg c2] at h; exact (pF_n h).elim
  · rw [if_neg c] at h; contradiction
theorem pE_x {K N : Nat → Nat} {k : Nat} {s : PsT} (h : s.1 ≠ none) : pE K N k s = s := by unfold pE; rw [if_neg h]
theorem grw_E {K N V : Nat → Nat} {n k : Nat} {s s1 : PsT} {P : List Nat → Prop} (hg : pgn K N V n) (hk : k ≠ 24) (h : grw s s1 n P) (he : (pE K N k s1).1 = none) : grw s (pE K N k s1) n P := by
  obtain ⟨h1, h2, h3⟩ := pE_n he
  obtain ⟨a1, a2, l, a3, a4, a5⟩ := h
  have := hg.1 _ a2 (by rw [h2]; exact hk)
  rw [h3]
  exact ⟨show _ ≤ N s1.2.1 by omega, this.2, l, a3, show _ ≤ N s1.2.1 by omega, a5⟩
theorem lfc_b {k c : Nat} (h : lfc k = some c) : c < 1004 ∧ k ≠ 24 := by
  unfold lfc at h
  split at h
  · cases h; omega
  · split at h
    · cases h; omega
    · split at h
      · cases h; omega
      · split at h
        · cases h; omega
        · cases h
theorem ty_leaf {c : Nat} {ks : List Bool} (hc : c < 1004) (hk : ks.length < 64) : ty [c] ks = some (false :: ks) := by
  show (t1 c ks).bind (ty []) = _
  unfold t1
  by_cases h1 : c < 1000
  · rw [if_pos h1, if_pos hk]; rfl
  · rw [if_neg h1, if_pos hc, if_pos hk]; rfl
theorem gr_A {K N V : Nat → Nat} {n D : Nat} {op : Bool} {S0 R0 : PsT → PsT} (hg : pgn K N V n) (hD : 1 ≤ D) (hS : op = true → grd n false (D - 3) S0 ∧ 6 ≤ D) (hR : op = true → grd n true (D - 5 + 5) R0) : grd n false D (pA K N V op S0 R0) := by
  refine ⟨fun s hs => by unfold pA; rw [if_neg hs], fun s hs ha hn => ?_⟩
  have leaf : ∀ c, c < 1004 → K s.2.1 ≠ 24 → grw s (pN N (pC c s)) n (fun l => ∀ ks : List Bool, ks.length + D ≤ 64 → ty l ks = some (false :: ks)) := by
    intro c hc hk
    have := hg.1 _ ha hk
    unfold pC
    rw [if_pos hs]
    exact ⟨show _ ≤ N s.2.1 by omega, this.2, [c], rfl, by show 1 + _ ≤ N s.2.1; omega, fun ks hks => ty_leaf hc (by omega)⟩
  unfold pA at hn ⊢
  rw [if_pos hs] at hn ⊢
  by_cases c1 : K s.2.1 = 23
  · rw [if_pos c1]
    exact leaf _ (by have := hg.2 s.2.1; omega) (by omega)
  rw [if_neg c1] at hn ⊢
  cases e : lfc (K s.2.1) with
  | some c => exact leaf c (lfc_b e).1 (lfc_b e).2
  | none =>
    rw [e] at hn
    dsimp only at hn ⊢
    by_cases c2 : K s.2.1 = 35
    · rw [if_pos c2] at hn ⊢
      by_cases co : op = true
      · rw [if_pos co] at hn ⊢
        obtain ⟨h1, h2⟩ := hS co
        have hk := pK_N (s := s) hg ha (by omega)
        have q := pE_n hn
        exact grw_m (grw_K hk (grw_E hg (by omega) (h1.2 (pN N s) hs hk.2.1 q.1) hn)) (fun l hl ks hks => hl ks (by omega))
      · rw [if_neg co] at hn; exact (pF_n hn).elim
    · rw [if_neg c2] at hn ⊢
      by_cases c3 : K s.2.1 = 9
      · rw [if_pos c3] at hn ⊢
        by_cases co : op = true
        · rw [if_pos co] at hn ⊢
          obtain ⟨h1, h2⟩ := hS co
          have hr := hR co
          have hk := pK_N (s := s) hg ha (by omega)
          have n6 := pC_n hn
          have n5 := (pE_n n6).1
          have n4 : (pE K N 11 (S0 (pE K N 10 (R0 (pN N s))))).1 = none := Classical.byContradiction (fun w => by rw [h1.1 _ w] at n5; exact w n5)
          have n3 := (pE_n n4).1
          have n2 : (pE K N 10 (R0 (pN N s))).1 = none := Classical.byContradiction (fun w => by rw [h1.1 _ w] at n3; exact w n3)
          have n1 := (pE_n n2).1
          have g1 := grw_E hg (show 10 ≠ 24 by omega) (hr.2 (pN N s) hs hk.2.1 n1) n2
          have g2 := grw_E hg (show 11 ≠ 24 by omega) (h1.2 _ n2 g1.2.1 n3) n4
          have g3 := grw_E hg (show 12 ≠ 24 by omega) (h1.2 _ n4 g2.2.1 n5) n6
          have g12 := grw_t (R := fun l => ∀ ks : List Bool, ks.length + D ≤ 64 → ty l ks = some (false :: true :: ks)) g1 g2 (fun l l' p q ks hks => by
            rw [ty_app, p ks (by omega)]
            exact q (true :: ks) (by rw [List.length_cons]; omega))
          have g123 := grw_t (R := fun l => ∀ ks : List Bool, ks.length + D ≤ 64 → ty l ks = some (false :: false :: true :: ks)) g12 g3 (fun l l' p q ks hks => by
            rw [ty_app, p ks (by omega)]
            exact q (false :: true :: ks) (by rw [List.length_cons, List.length_cons]; omega))
          exact grw_KC hk g123 n6 (fun l p ks hks => by rw [ty_app, p ks hks]; rfl)
        · rw [if_neg co] at hn; exact (pF_n hn).elim
      · rw [if_neg c3] at hn; exact (pF_n hn).elim
/-- codes that make one of two -/
def cdk (b : Bool) (cd : Nat → Option Nat) : Prop := ∀ k c, cd k = some c → k ≠ 24 ∧ ∀ ks : List Bool, t1 c (b :: b :: ks) = some (b :: ks)
theorem gr_lp {K N V : Nat → Nat} {n D : Nat} {b : Bool} {cd : Nat → Option Nat} {B : PsT → PsT} (hg : pgn K N V n) (hc : cdk b cd) (hB : grd n b D B) : ∀ (k : Nat) (s : PsT), (s.1 ≠ none → plp K N cd B k s = s) ∧ (s.1 = none → s.2.1 ≤ n → (plp K N cd B k s).1 = none → grw s (plp K N cd B k s) n (fun l => ∀ ks : List Bool, ks.length + (D + 1) ≤ 64 → ty l (b :: ks) = some (b :: ks)))
  | 0, s => ⟨fun _ => rfl, fun _ ha _ => ⟨Nat.le_refl _, ha, [], by rw [List.append_nil]; rfl, by show 0 + _ ≤ _; exact Nat.le_of_eq (Nat.zero_add _), fun _ _ => rfl⟩⟩
  | k + 1, s => by
    refine ⟨fun h => by rw [plp, if_neg h], fun hs ha hn => ?_⟩
    rw [plp, if_pos hs] at hn ⊢
    cases e : cd (K s.2.1) with
    | none => exact ⟨Nat.le_refl _, ha, [], by rw [List.append_nil], by show 0 + _ ≤ _; exact Nat.le_of_eq (Nat.zero_add _), fun _ _ => rfl⟩
    | some c =>
      rw [e] at hn
      dsimp only at hn ⊢
      obtain ⟨hk24, ht⟩ := hc _ _ e
      have hk := pK_N (s := s) hg ha hk24
      have ih := gr_lp hg hc hB k (pC c (B (pN N s)))
      have n2 : (pC c (B (pN N s))).1 = none := Classical.byContradiction (fun w => by rw [ih.1 w] at hn; exact w hn)
      have n1 := pC_n n2
      have g1 := hB.2 (pN N s) hs hk.2.1 n1
      have g2 : grw s (pC c (B (pN N s))) n (fun l => ∀ ks : List Bool, ks.length + (D + 1) ≤ 64 → ty l (b :: ks) = some (b :: ks)) := grw_KC hk g1 n1 (fun l p ks hks => by
        rw [ty_app, p (b :: ks) (by rw [List.length_cons]; omega)]
        show (t1 c (b :: b :: ks)).bind (ty []) = _
        rw [ht ks]; rfl)
      exact grw_t g2 (ih.2 n2 g2.2.1 hn) (fun l l' p q ks hks => by rw [ty_app, p ks hks]; exact q ks hks)
theorem gr_l {K N V : Nat → Nat} {n D : Nat} {b : Bool} {cd : Nat → Option Nat} {B : PsT → PsT} (hg : pgn K N V n) (hc : cdk b cd) (hB : grd n b D B) (k : Nat) : grd n b (D + 1) (fun s => plp K N cd B k (B s)) := by
  refine ⟨fun s hs => ?_, fun s hs ha hn => ?_⟩
  · show plp K N cd B k (B s) = s
    rw [hB.1 s hs]; exact (gr_lp hg hc hB k s).1 hs
  · have lp := gr_lp hg hc hB k (B s)
    have n1 : (B s).1 = none := Classical.byContradiction (fun w => by
      have hn : (plp K N cd B k (B s)).1 = none := hn
      rw [lp.1 w] at hn; exact w hn)
    have g1 := hB.2 s hs ha n1
    exact grw_t g1 (lp.2 n1 g1.2.1 hn) (fun l l' p q ks hks => by
      rw [ty_app, p ks (by omega)]
      exact q ks (by omega))
theorem cdk_T : cdk false cdT := fun k c h => by
  unfold cdT at h
  split at h
  · cases h; exact ⟨by omega, fun _ => rfl⟩
  · cases h
theorem cdk_S : cdk false cdS := fun k c h => by
  unfold cdS at h
  split at h
  · cases h; exact ⟨by omega, fun _ => rfl⟩
  · split at h
    · cases h; exact ⟨by omega, fun _ => rfl⟩
    · cases h
theorem cdk_B : cdk true cdB := fun k c h => by
  unfold cdB at h
  split at h
  · cases h; exact ⟨by omega, fun _ => rfl⟩
  · cases h
theorem cdk_R : cdk true cdR := fun k c h => by
  unfold cdR at h
  split at h
  · cases h; exact ⟨by omega, fun _ => rfl⟩
  · cases h
theorem gr_S {K N V : Nat → Nat} {n D : Nat} {op : Bool} {S0 R0 : PsT → PsT} (hg : pgn K N V n) (hA : grd n false D (pA K N V op S0 R0)) : grd n false (D + 2) (pS K N V op S0 R0) := gr_l hg cdk_S (gr_l hg cdk_T hA 901) 901
theorem gr_R {K N V : Nat → Nat} {n D : Nat} {U : PsT → PsT} (hg : pgn K N V n) (hU : grd n true D U) : grd n true (D + 2) (pR K N U) := gr_l hg cdk_R (gr_l hg cdk_B hU 901) 901
theorem grd_m {n D D' : Nat} {b : Bool} {f : PsT → PsT} (h : grd n b D f) (hD : D ≤ D') : grd n b D' f := ⟨h.1, fun s hs ha hn => grw_m (h.2 s hs ha hn) (fun l hl ks hks => hl ks (by omega))⟩
theorem gr_U {K N V : Nat → Nat} {n D : Nat} {op : Bool} {S R0 U0 : PsT → PsT} (hg : pgn K N V n) (hS : grd n false (D - 1) S) (h1D : 1 ≤ D) (hR : op = true → grd n true D R0) (hU : op = true → grd n true D U0) : grd n true D (pUn K N op S R0 U0) := by
  refine ⟨fun s hs => by unfold pUn; rw [if_neg hs], fun s hs ha hn => ?_⟩
  unfold pUn at hn ⊢
  rw [if_pos hs] at hn ⊢
  by_cases c1 : K s.2.1 = 17
  · rw [if_pos c1] at hn ⊢
    by_cases co : op = true
    · rw [if_pos co] at hn ⊢
      have hk := pK_N (s := s) hg ha (by omega)
      have n1 := pC_n hn
      exact grw_KC hk ((hU co).2 (pN N s) hs hk.2.1 n1) n1 (fun l p ks hks => by rw [ty_app, p ks hks]; rfl)
    · rw [if_neg co] at hn; exact (pF_n hn).elim
  rw [if_neg c1] at hn ⊢
  by_cases c2 : K s.2.1 = 37
  · rw [if_pos c2] at hn ⊢
    by_cases co : op = true
    · rw [if_pos co] at hn ⊢
      have hk := pK_N (s := s) hg ha (by omega)
      exact grw_K hk (grw_E hg (by omega) ((hR co).2 (pN N s) hs hk.2.1 (pE_n hn).1) hn)
    · rw [if_neg co] at hn; exact (pF_n hn).elim
  rw [if_neg c2] at hn ⊢
  have n1 : (S s).1 = none := Classical.byContradiction (fun w => by unfold pQ at hn; rw [if_neg w] at hn; exact w hn)
  have g1 := hS.2 s hs ha n1
  unfold pQ at hn ⊢
  rw [if_pos n1] at hn ⊢
  cases e : cdC (K (S s).2.1) with
  | none => rw [e] at hn; exact (pF_n hn).elim
  | some c =>
    rw [e] at hn
    dsimp only at hn ⊢
    have hc : K (S s).2.1 ≠ 24 ∧ ∀ ks : List Bool, t1 c (false :: false :: ks) = some (true :: ks) := by
      unfold cdC at e
      split at e
      · cases e; exact ⟨by omega, fun _ => rfl⟩
      · split at e
        · cases e; exact ⟨by omega, fun _ => rfl⟩
        · split at e
          · cases e; exact ⟨by omega, fun _ => rfl⟩
          · cases e
    have hk := pK_N (s := S s) hg g1.2.1 hc.1
    have n2 := pC_n hn
    have g2 := hS.2 (pN N (S s)) n1 hk.2.1 n2
    have g3 : grw (S s) (pC c (S (pN N (S s)))) n (fun l => ∀ ks : List Bool, ks.length + D ≤ 64 → ty l (false :: ks) = some (true :: ks)) := grw_KC hk g2 n2 (fun l p ks hks => by
      rw [ty_app, p (false :: ks) (by rw [List.length_cons]; omega)]
      show (t1 c (false :: false :: ks)).bind (ty []) = _
      rw [hc.2 ks]; rfl)
    exact grw_t g1 g3 (fun l l' p q ks hks => by
      rw [ty_app, p ks (by omega)]
      exact q ks hks)
theorem gr_Lv {K N V : Nat → Nat} {n : Nat} (hg : pgn K N V n) : ∀ e, grd n false (3 + 5 * e) (pLv K N V e).1 ∧ grd n true (6 + 5 * e) (pLv K N V e).2.1 ∧ grd n true (4 + 5 * e) (pLv K N V e).2.2
  | 0 => by
    have hA : grd n false 1 (pA K N V false id id) := gr_A hg (by omega) (fun q => by cases q) (fun q => by cases q)
    have hS : grd n false 3 (pS K N V false id id) := gr_S hg hA
    have hU : grd n true 4 (pUn K N false (pS K N V false id id) id id) := gr_U hg hS (by omega) (fun q => by cases q) (fun q => by cases q)
    exact ⟨hS, gr_R hg hU, hU⟩
  | e + 1 => by
    obtain ⟨h1, h2, h3⟩ := gr_Lv hg e
    have hA : grd n false (6 + 5 * e) (pA K N V true (pLv K N V e).1 (pLv K N V e).2.1) := gr_A hg (by omega) (fun _ => ⟨grd_m h1 (by omega), by omega⟩) (fun _ => grd_m h2 (by omega))
    have hS : grd n false (8 + 5 * e) (pS K N V true (pLv K N V e).1 (pLv K N V e).2.1) := grd_m (gr_S hg hA) (by omega)
    have hU : grd n true (9 + 5 * e) (pUn K N true (pS K N V true (pLv K N V e).1 (pLv K N V e).2.1) (pLv K N V e).2.1 (pLv K N V e).2.2) := gr_U hg (grd_m hS (by omega)) (by omega) (fun _ => grd_m h2 (by omega)) (fun _ => grd_m h3 (by omega))
    exact ⟨grd_m hS (by omega), grd_m (gr_R hg hU) (by omega), grd_m hU (by omega)⟩
