/-! chance, mean: the class clears rows. -/
def cp (A : List Nat) (c : Nat) : Nat := if c < A.length then A.getD c 0 else 6
def CG (n : Nat) (g : Nat → Nat → Int) (h : abJ) : Prop := ∀ r c, r < n → c ≤ n → h.2 41 (r * 7 + c) = iL (g r c)
theorem CG_fr {n : Nat} {g : Nat → Nat → Int} {S T : List Nat} {h h' : abJ} (hg : CG n g h) (a : fr S T h h') (hT : 41 ∉ T) : CG n g h' := fun r c hr hc => by rw [a.2 41 hT]; exact hg r c hr hc
theorem c_cell {r c : Nat} (h : abJ) (hr : r < 6) (hc : c < 7) : fX4_cell (nI r) (nI c) h = some (h.2 41 (r * 7 + c)) := by
  unfold fX4_cell
  simp (disch := omega) only [ab_lits, nI_add, pk_mul, pk_sub, pk_div, nI_clamp, nI_ltI, nI_leI, ab_ixO, ab_ixN]
  rw [if_neg (by omega), if_neg (by omega), if_neg (by omega), if_pos (by omega)]
theorem c_putO {r c : Nat} {v : Int64} (h : abJ) (hr : r < 6) (hc : c < 7) : fX4_put (nI r) (nI c) v h = some (ab_wL h 41 (r * 7 + c) v) := by
  unfold fX4_put
  simp (disch := omega) only [ab_lits, nI_add, pk_mul, pk_sub, pk_div, nI_clamp, nI_ltI, nI_leI, ab_ixO, ab_ixN]
  rw [if_neg (by omega), if_neg (by omega), if_neg (by omega), if_neg (by omega)]
def gb (n : Nat) (g : Nat → Nat → Int) : Prop := ∀ r c, r < n → c ≤ n → -100000 ≤ g r c ∧ g r c ≤ 100000
theorem bd_m {a b : Int} (ha : -100000 ≤ a ∧ a ≤ 100000) (hb : -100000 ≤ b ∧ b ≤ 100000) : -10000000000 ≤ a * b ∧ a * b ≤ 10000000000 := by
  have h1 : (a * b).natAbs ≤ 10000000000 := by
    rw [Int.natAbs_mul]
    exact Nat.le_trans (Nat.mul_le_mul (show a.natAbs ≤ 100000 by omega) (show b.natAbs ≤ 100000 by omega)) (by omega)
  omega
def rwc (l : Int) (g : Nat → Nat → Int) (r k c : Nat) : Int := (g r c * g k k - g r k * g k c).tdiv l
theorem c_solve31 {n k : Nat} {l : Int} {g : Nat → Nat → Int} {h0 : abJ} {K : Int64 → Int32 → abJ → Option abJ} {Q : abJ → Prop} (hn5 : n ≤ 5) (hk : k < n) (hb : gb n g) (hl : 0 < l ∧ l ≤ 100000) (h3 : h0.1 40 3 = nI n) (hK : ∀ h, CG n (fun r c => if r = k then g r c else rwc l g r k c) h → fr [] [41] h0 h → Ok (K (iL (g k k)) (nI (k + 1)) h) Q) : ∀ (j N r : Nat) (h : abJ), r + j = n → j < N → CG n (fun r' c' => if r' < r ∧ r' ≠ k then rwc l g r' k c' else g r' c') h → fr [] [41] h0 h → Ok (fX4_solve_L31 K N (iL l) (nI k) (iL (g k k)) (nI r) h) Q := by
  intro j
  induction j with
  | zero =>
    intro N r h hr hN hg hfr
    obtain ⟨N, rfl⟩ : ∃ n0, N = n0 + 1 := ⟨N - 1, by omega⟩
    rw [fX4_solve_L31, hfr.1 40 (by simp), h3, nI_1]
    refine Ok.pos (by rw [nI_leI (by omega) (by omega)]; omega) (hK h (fun r' c' h1 h2 => ?_) hfr)
    rw [hg r' c' h1 h2]
    dsimp only
    by_cases e : r' = k
    · rw [if_neg (fun q => q.2 e), if_pos e]
    · rw [if_pos ⟨by omega, e⟩, if_neg e]
  | succ j ih =>
    intro N r h hr hN hg hfr
    obtain ⟨N, rfl⟩ : ∃ n0, N = n0 + 1 := ⟨N - 1, by omega⟩
    rw [fX4_solve_L31, hfr.1 40 (by simp), h3]
    refine Ok.neg (by rw [nI_leI (by omega) (by omega)]; omega) ?_
    unfold fX4_solve_J56
    rw [nI_1]
    by_cases e : r = k
    · refine Ok.pos (by rw [e]) (ih N (r + 1) h (by omega) (by omega) (fun r' c' h1 h2 => ?_) hfr)
      rw [hg r' c' h1 h2]
      dsimp only
      by_cases e2 : r' < r ∧ r' ≠ k
      · rw [if_pos e2, if_pos ⟨by omega, e2.2⟩]
      · rw [if_neg e2, if_neg (by omega)]
    · refine Ok.neg (by rw [nI_eq (by omega) (by omega)]; exact e) ?_
      have hrk : h.2 41 (r * 7 + k) = iL (g r k) := by rw [hg r k (by omega) (by omega)]; dsimp only; rw [if_neg (by omega)]
      unfold fX4_clearColumn
      rw [c_cell h (by omega) (by omega), ab_bindS, hrk, show (0 : Int32) = nI 0 from rfl]
      refine Ok.bind (P := fun h' => CG n (fun r' c' => if r' < r + 1 ∧ r' ≠ k then rwc l g r' k c' else g r' c') h' ∧ fr [] [41] h0 h') ?_ (fun h' hr' => ih N (r + 1) h' (by omega) (by omega) hr'.1 hr'.2)
      -- the rows ahead stay as they are: cells are compared one by one
      have gen : ∀ (j2 N2 c : Nat) (h2 : abJ), c + j2 = n + 1 → j2 < N2 → CG n (fun r' c' => if r' < r ∧ r' ≠ k then rwc l g r' k c' else if r' = r ∧ c' < c then rwc l g r k c' else g r' c') h2 → fr [] [41] h0 h2 → Ok (fX4_clearColumn_L11 N2 (nI r) (nI k) (iL (g k k)) (iL l) (iL (g r k)) (nI c) h2) (fun h' => CG n (fun r' c' => if r' < r + 1 ∧ r' ≠ k then rwc l g r' k c' else g r' c') h' ∧ fr [] [41] h0 h') := by
        intro j2
        induction j2 with
        | zero =>
          intro N2 c h2 hc hN2 hg2 hfr2
          obtain ⟨N2, rfl⟩ : ∃ n0, N2 = n0 + 1 := ⟨N2 - 1, by omega⟩
          rw [fX4_clearColumn_L11, hfr2.1 40 (by simp), h3]
          refine Ok.pos (by rw [nI_ltI (by omega) (by omega)]; omega) (Ok.some ⟨fun r' c' q1 q2 => ?_, hfr2⟩)
          rw [hg2 r' c' q1 q2]
          dsimp only
          by_cases a1 : r' < r ∧ r' ≠ k
          · rw [if_pos a1, if_pos ⟨by omega, a1.2⟩]
          · rw [if_neg a1]
            by_cases a2 : r' = r
            · subst a2
              rw [if_pos ⟨rfl, by omega⟩, if_pos ⟨by omega, e⟩]
            · rw [if_neg (fun q => a2 q.1), if_neg (by omega)]
        | succ j2 ih2 =>
          intro N2 c h2 hc hN2 hg2 hfr2
          obtain ⟨N2, rfl⟩ : ∃ n0, N2 = n0 + 1 := ⟨N2 - 1, by omega⟩
          have bl : bd l := ⟨by omega, by omega⟩
          have e1 : h2.2 41 (r * 7 + c) = iL (g r c) := by rw [hg2 r c (by omega) (by omega)]; dsimp only; rw [if_neg (by omega), if_neg (by omega)]
          have e2 : h2.2 41 (k * 7 + c) = iL (g k c) := by rw [hg2 k c hk (by omega)]; dsimp only; rw [if_neg (fun q => q.2 rfl), if_neg (fun q => e q.1.symm)]
          have m1 := bd_m (hb r c (by omega) (by omega)) (hb k k hk (by omega))
          have m2 := bd_m (hb r k (by omega) (by omega)) (hb k c hk (by omega))
          rw [fX4_clearColumn_L11, hfr2.1 40 (by simp), h3, c_cell h2 (by omega) (by omega), c_cell h2 (by omega) (by omega), ab_bindS, ab_bindS, e1, e2, iL_m, iL_m, iL_s, iL_d ⟨by omega, by omega⟩ bl]
          refine Ok.neg (by rw [nI_ltI (by omega) (by omega)]; omega) (Ok.neg (fun q => by have := (iL_0 bl).mp q; omega) (Ok.ask (fun q => by have := (iL_z bl).mp q; omega) ?_))
          rw [c_putO h2 (by omega) (by omega), ab_bindS, nI_1]
          refine ih2 N2 (c + 1) _ (by omega) (by omega) (fun r' c' q1 q2 => ?_) (fr_v hfr2 (by simp))
          by_cases e3 : r' * 7 + c' = r * 7 + c
          · have er : r' = r := by omega
            have ec : c' = c := by omega
            rw [e3, ab_v2e]
            dsimp only
            rw [if_neg (by omega), if_pos ⟨er, by omega⟩, ec]; rfl
          · rw [ab_v2k e3, hg2 r' c' q1 q2]
            dsimp only
            by_cases a1 : r' < r ∧ r' ≠ k
            · rw [if_pos a1, if_pos a1]
            · rw [if_neg a1, if_neg a1]
              by_cases er : r' = r
              · by_cases ec : c' < c
                · rw [if_pos ⟨er, ec⟩, if_pos ⟨er, by omega⟩]
                · rw [if_neg (fun q => ec q.2), if_neg (fun q => by have := q.2; omega)]
              · rw [if_neg (fun q => er q.1), if_neg (fun q => er q.1)]
      refine gen (n + 1) ab_N 0 h (by omega) (by unfold ab_N; omega) (fun r' c' q1 q2 => ?_) hfr
      rw [hg r' c' q1 q2]
      dsimp only
      by_cases a1 : r' < r ∧ r' ≠ k
      · rw [if_pos a1, if_pos a1]
      · rw [if_neg a1, if_neg a1, if_neg (by omega)]
def CX (A : List Nat) (m : Nat → Nat → Int) (h : abJ) : Prop := CG A.length (fun r c => m (A.getD r 0) (cp A c)) h
theorem gd_mem {A : List Nat} {i : Nat} (h : i < A.length) : A.getD i 0 ∈ A := by
  rw [List.getD_eq_getElem?_getD, List.getElem?_eq_getElem h]; exact List.getElem_mem h
theorem gd_inj {A : List Nat} (hn : A.Nodup) {i j : Nat} (hi : i < A.length) (hj : j < A.length) (h : A.getD i 0 = A.getD j 0) : i = j := by
  rw [List.getD_eq_getElem?_getD, List.getElem?_eq_getElem hi, List.getD_eq_getElem?_getD, List.getElem?_eq_getElem hj] at h
  have h : A[i] = A[j] := h
  rcases Nat.lt_trichotomy i j with q | q | q
  · exact absurd h (List.pairwise_iff_getElem.mp hn i j hi hj q)
  · exact q
  · exact absurd h.symm (List.pairwise_iff_getElem.mp hn j i hj hi q)
theorem drop_c {A U : List Nat} {k a : Nat} (h : A.drop k = a :: U) : k < A.length ∧ A.getD k 0 = a ∧ A.drop (k + 1) = U := by
  have hk : k < A.length := by
    refine Classical.byContradiction (fun q => ?_)
    rw [List.drop_eq_nil_of_le (by omega)] at h
    cases h
  rw [List.drop_eq_getElem_cons hk] at h
  have e := List.cons.inj h
  exact ⟨hk, by rw [List.getD_eq_getElem?_getD, List.getElem?_eq_getElem hk]; exact e.1, e.2⟩
theorem c_solve4 {A : List Nat} {w : Nat → Int} {h0 : abJ} (hA5 : A.length ≤ 5) (hA6 : ∀ i, i ∈ A → i < 6) (h3 : h0.1 40 3 = nI A.length) : ∀ (U : List Nat) (N k t : Nat) (l : Int) (m : Nat → Nat → Int) (P : List Nat) (h : abJ), A.drop k = U → k ≤ A.length → U.length < N → EI t l m w A P U → CX A m h → fr [] [41] h0 h → Ok (fX4_solve_L4 N (iL l) (nI k) h) (fun h' => CX A (eRun U l m).2 h' ∧ fr [] [41] h0 h') := by
  intro U
  induction U with
  | nil =>
    intro N k t l m P h hd hk hN hE hX hfr
    obtain ⟨N, rfl⟩ : ∃ n0, N = n0 + 1 := ⟨N - 1, by omega⟩
    have : A.length ≤ k := by
      have := congrArg List.length hd
      rw [List.length_drop, List.length_nil] at this
      omega
    rw [fX4_solve_L4, hfr.1 40 (by simp), h3]
    exact Ok.pos (by rw [nI_leI (by omega) (by omega)]; omega) (Ok.some ⟨hX, hfr⟩)
  | cons a U ih =>
    intro N k t l m P h hd hk hN hE hX hfr
    obtain ⟨N, rfl⟩ : ∃ n0, N = n0 + 1 := ⟨N - 1, by omega⟩
    rw [List.length_cons] at hN
    obtain ⟨d1, d2, d3⟩ := drop_c hd
    have hbb := EI_bb hE
    have hnd := hE.2.2.2.2.2.2.2.2.1.1
    have ht := hE.2.2.1.1
    rw [List.length_cons] at ht
    obtain ⟨t, rfl⟩ : ∃ t0, t = t0 + 1 := ⟨t - 1, by omega⟩
    have haA : a ∈ A := by rw [← d2]; exact gd_mem d1
    have hpv := (EI_b hE haA).1
    have hb : gb A.length (fun r c => m (A.getD r 0) (cp A c)) := fun r c hr hc => by
      have q := hbb.2 _ (gd_mem hr)
      show -100000 ≤ m (A.getD r 0) (cp A c) ∧ m (A.getD r 0) (cp A c) ≤ 100000
      unfold cp
      by_cases e : c < A.length
      · rw [if_pos e]; have := q.1 _ (gd_mem e); omega
      · rw [if_neg e]; have := q.2; omega
    have ecp : cp A k = a := by unfold cp; rw [if_pos d1, d2]
    have hpk : h.2 41 (k * 7 + k) = iL (m a a) := by rw [hX k k d1 (by omega)]; dsimp only; rw [d2, ecp]
    have hpb : bd (m a a) := by have := (hbb.2 a haA).1 a haA; exact ⟨by omega, by omega⟩
    rw [fX4_solve_L4, hfr.1 40 (by simp), h3, c_cell h (by omega) (by omega), ab_bindS, hpk]
    refine Ok.neg (by rw [nI_leI (by omega) (by omega)]; omega) (Ok.neg (fun q => by have := (iL_0 hpb).mp q; omega) ?_)
    have key := c_solve31 (n := A.length) (k := k) (l := l) (g := fun r c => m (A.getD r 0) (cp A c)) (h0 := h0) (K := fun y1 y3 h => fX4_solve_L4 N y1 y3 h) (Q := fun h' => CX A (eRun (a :: U) l m).2 h' ∧ fr [] [41] h0 h') hA5 d1 hb ⟨hbb.1.1, by omega⟩ h3 (fun h1 hg1 hf1 => ?_) A.length ab_N 0 h (by omega) (by unfold ab_N; omega) (fun r' c' q1 q2 => ?_) hfr
    · rw [d2, ecp] at key; exact key
    · show Ok (fX4_solve_L4 N (iL (m (A.getD k 0) (cp A k))) (nI (k + 1)) h1) _
      rw [d2, ecp, eRun]
      refine ih N (k + 1) t (m a a) (elm l a m) (a :: P) h1 d3 (by omega) (by omega) (EI_s hE hA6) (fun r c hr hc => ?_) hf1
      rw [hg1 r c hr hc]
      dsimp only
      refine congrArg iL ?_
      unfold elm rwc
      by_cases e : r = k
      · rw [if_pos e, e, d2, if_pos rfl]
      · rw [if_neg e, if_neg (fun q => e (gd_inj hnd hr d1 (by rw [d2]; exact q)))]
        dsimp only
        rw [d2, ecp]
    · rw [hX r' c' q1 q2]
      dsimp only
      rw [if_neg (fun q => by have := q.1; omega)]
theorem eRun_EI {A : List Nat} {w : Nat → Int} (hA6 : ∀ i, i ∈ A → i < 6) : ∀ (U : List Nat) (t : Nat) (l : Int) (m : Nat → Nat → Int) (P : List Nat), EI t l m w A P U → ∃ t' P', EI t' (eRun U l m).1 (eRun U l m).2 w A P' [] := by
  intro U
  induction U with
  | nil => intro t l m P h; exact ⟨t, P, h⟩
  | cons a U ih =>
    intro t l m P h
    have ht := h.2.2.1.1
    rw [List.length_cons] at ht
    obtain ⟨t, rfl⟩ : ∃ t0, t = t0 + 1 := ⟨t - 1, by omega⟩
    exact ih t _ _ _ (EI_s h hA6)
/-- at the end -/
theorem eRun_e {A P U : List Nat} {w : Nat → Int} {t : Nat} {l : Int} {m : Nat → Nat → Int} (hA6 : ∀ i, i ∈ A → i < 6) (h : EI t l m w A P U) {i : Nat} (hi : i ∈ A) : (eRun U l m).2 i i = (eRun U l m).1 ∧ 0 < (eRun U l m).1 ∧ (eRun U l m).1 ≤ 243 ∧ 0 ≤ (eRun U l m).2 i 6 ∧ (eRun U l m).2 i 6 ≤ 23328 := by
  obtain ⟨t', P', h'⟩ := eRun_EI hA6 U t l m P h
  obtain ⟨b1, b2⟩ := EI_bb h'
  have b3 := (b2 i hi).2
  obtain ⟨h1, h2, h3, h4, h5, h6, h7, h8, h9, h10, h11⟩ := h'
  have : i ∈ P' := by
    rcases (h8 i).mp hi with q | q
    · exact q
    · cases q
  exact ⟨h5.1 i this, b1.1, b1.2, b3.1, b3.2⟩
