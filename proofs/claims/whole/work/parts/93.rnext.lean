/-! moor: the class knows tokens; the reference's tokens. -/
theorem beh_b {T : Nat → Nat} {n a : Nat} (ha : a < n) : a < behP T n a ∧ behP T n a ≤ n := by
  unfold behP
  rw [if_pos ha]
  split
  · rename_i c
    have h1 := rnE_b (P := isS) (T := T) (k := n - (a + 1)) (b := a + 1)
    rw [show n - a = (n - (a + 1)) + 1 by omega, rnE, if_pos c]
    omega
  · split
    · rename_i c
      have h1 := rnE_b (P := isD) (T := T) (k := n - (a + 1)) (b := a + 1)
      rw [show n - a = (n - (a + 1)) + 1 by omega, rnE, if_pos c]
      omega
    · omega
theorem ck_3 {T : Nat → Nat} {n a : Nat} (h : kdP T n a ≠ 23 ∧ kdP T n a ≠ 24 ∧ kdP T n a ≠ 25) : a < n ∧ isD (T a) = false := by
  unfold kdP at h
  by_cases ca : a < n
  · refine ⟨ca, ?_⟩
    rw [if_pos ca] at h
    by_cases cs : isS (T a) = true
    · unfold isS at cs
      rw [decide_eq_true_iff] at cs
      unfold isD
      exact decide_eq_false (by omega)
    · rw [if_neg cs] at h
      cases cd : isD (T a) with
      | false => rfl
      | true =>
        rw [cd, if_pos rfl] at h
        split at h <;> omega
  · rw [if_neg ca] at h; omega
theorem c_is {T : Nat → Nat} {n a j : Nat} {h : abJ} (hT : TP T n 11 h) (hC : TC T n a h) (hj : j < 31) (h1 : 1 ≤ j) : fX6_is (1000000 + j) h = some (bI (decide (kdP T n a = kc j))) := by
  have hn := hT.1
  have hl := sl_89 j (by omega)
  have kj : kc j ≠ 23 ∧ kc j ≠ 24 ∧ kc j ≠ 25 := by rcases kc_w j hj h1 with w | w <;> omega
  unfold fX6_is
  rw [hC.2.2.2.1, c_len h, ab_bindS, hC.2.2.1, hC.2.1]
  by_cases c3 : kdP T n a ≠ 23 ∧ kdP T n a ≠ 24 ∧ kdP T n a ≠ 25
  · obtain ⟨ha, hd⟩ := ck_3 c3
    have hb := beh_b (T := T) ha
    have ec : ck (kdP T n a) = 3 := by unfold ck; rw [if_neg (by omega), if_neg (by omega), if_neg (by omega)]
    rw [ec, if_pos (show nI 3 = 3 from rfl), pk_sub (by omega)]
    have kw := kd_w (T := T) (n := n) (a := a) hj h1
    by_cases cl : behP T n a - a = ab_sl.getD j 0
    · rw [if_pos (by rw [cl])]
      have key : ∀ (k N i : Nat), i + k = ab_sl.getD j 0 → k < N → (∀ i', i' < i → T (a + i') = stc j i') → fX6_is_L28 (1000000 + j) h N (nI i) = some (bI (decide (kdP T n a = kc j))) := by
        intro k
        induction k with
        | zero =>
          intro N i hi hN hm
          obtain ⟨N, rfl⟩ : ∃ n0, N = n0 + 1 := ⟨N - 1, by omega⟩
          rw [fX6_is_L28, c_len h, ab_bindS, if_pos (by rw [nI_leI (by omega) (by omega)]; omega), decide_eq_true (kw.mpr ⟨ha, hd, c3.2.2, cl, fun i' hi' => hm i' (by omega)⟩)]; rfl
        | succ k ih =>
          intro N i hi hN hm
          obtain ⟨N, rfl⟩ : ∃ n0, N = n0 + 1 := ⟨N - 1, by omega⟩
          obtain ⟨t1, t2⟩ := hT.2 (a + i) (by omega)
          have hs : stc j i < 2 ^ 31 := by
            have : ∀ j < 31, ∀ i < ab_sl.getD j 0, stc j i < 256 := by decide
            have := this j hj i (by omega)
            omega
          rw [fX6_is_L28, c_len h, ab_bindS, if_neg (by rw [nI_leI (by omega) (by omega)]; omega), hC.2.1, nI_add, if_neg (by rw [show (900 : Int32) = nI 900 from rfl, nI_leI (by omega) (by omega)]; omega), nI_clamp (by omega), ab_askP (ixN (by omega) (by omega)), c_chr h (by omega) (by omega), ab_bindS, t1, nI_1]
          by_cases e : T (a + i) = stc j i
          · rw [if_pos (by rw [e])]
            refine ih N (i + 1) (by omega) (by omega) (fun i' hi' => ?_)
            by_cases e2 : i' = i
            · rw [e2]; exact e
            · exact hm i' (by omega)
          · rw [if_neg (by rw [nI_eq (by omega) hs]; exact e), decide_eq_false (fun q => e ((kw.mp q).2.2.2.2 i (by omega)))]; rfl
      exact key (ab_sl.getD j 0) ab_N 0 (by omega) (by unfold ab_N; omega) (fun i' hi' => by omega)
    · rw [if_neg (by rw [nI_eq (by omega) (by omega)]; exact cl), decide_eq_false (fun q => cl (kw.mp q).2.2.2.1)]; rfl
  · have ec : ck (kdP T n a) ≠ 3 ∧ ck (kdP T n a) < 3 := by
      unfold ck
      split
      · omega
      · split
        · omega
        · split <;> omega
    rw [if_neg (by rw [show (3 : Int32) = nI 3 from rfl, nI_eq (by omega) (by omega)]; exact ec.1), decide_eq_false (fun q => c3 (by rw [q]; exact kj))]; rfl
/-- the reference -/
def TR (T : Nat → Nat) (n a : Nat) (h : abJ) : Prop := h.1 64 8 = nI n ∧ h.1 64 6 = nI a ∧ h.1 64 7 = nI (behP T n a) ∧ h.1 64 9 = nI (kdP T n a) ∧ (kdP T n a = 23 → h.1 64 10 = nI (nvl T a (behP T n a - a)))
def fN (h h' : abJ) : Prop := frR [6, 7, 9, 10] [] [] h h'
theorem TP_fN {T : Nat → Nat} {n : Nat} {h h' : abJ} (hT : TP T n 67 h) (a : fN h h') : TP T n 67 h' := ⟨hT.1, fun k hk => by rw [a.1 67 (by simp) (by decide)]; exact hT.2 k hk⟩
theorem r_see {T : Nat → Nat} {n k : Nat} {h : abJ} (hT : TP T n 67 h) (h8 : h.1 64 8 = nI n) (hk : k < 2 ^ 31) : fX12_see (nI k) h = some (if k < n then nI (T k) else -1) := by
  have hn := hT.1
  unfold fX12_see
  rw [h8]
  by_cases c : k < n
  · rw [if_neg (by rw [nI_leI (by omega) (by omega)]; omega), if_pos c, nI_clamp (by omega), ab_askP (ixN (by omega) (by omega)), (hT.2 k c).1]
  · rw [if_pos (by rw [nI_leI (by omega) (by omega)]; omega), if_neg c]
theorem r_small {T : Nat → Nat} {n k : Nat} {h : abJ} (hT : TP T n 67 h) : fX12_isSmall (if k < n then nI (T k) else -1) h = some (bI (decide (k < n) && isS (T k))) := by
  unfold fX12_isSmall
  by_cases c : k < n
  · have t2 := (hT.2 k c).2
    rw [if_pos c, decide_eq_true c, Bool.true_and]
    unfold isS
    by_cases c1 : T k < 97
    · rw [if_pos (by rw [show (97 : Int32) = nI 97 from rfl, nI_ltI (by omega) (by omega)]; exact c1), decide_eq_false (by omega)]; rfl
    · rw [if_neg (by rw [show (97 : Int32) = nI 97 from rfl, nI_ltI (by omega) (by omega)]; exact c1)]
      by_cases c2 : 122 < T k
      · rw [if_pos (by rw [show (122 : Int32) = nI 122 from rfl, nI_ltI (by omega) (by omega)]; exact c2), decide_eq_false (by omega)]; rfl
      · rw [if_neg (by rw [show (122 : Int32) = nI 122 from rfl, nI_ltI (by omega) (by omega)]; exact c2), decide_eq_true (by omega)]; rfl
  · rw [if_neg c, decide_eq_false c, if_pos (by decide)]; rfl
theorem r_digit {T : Nat → Nat} {n k : Nat} {h : abJ} (hT : TP T n 67 h) : fX12_isDigit (if k < n then nI (T k) else -1) h = some (bI (decide (k < n) && isD (T k))) := by
  unfold fX12_isDigit
  by_cases c : k < n
  · have t2 := (hT.2 k c).2
    rw [if_pos c, decide_eq_true c, Bool.true_and]
    unfold isD
    by_cases c1 : T k < 48
    · rw [if_pos (by rw [show (48 : Int32) = nI 48 from rfl, nI_ltI (by omega) (by omega)]; exact c1), decide_eq_false (by omega)]; rfl
    · rw [if_neg (by rw [show (48 : Int32) = nI 48 from rfl, nI_ltI (by omega) (by omega)]; exact c1)]
      by_cases c2 : 57 < T k
      · rw [if_pos (by rw [show (57 : Int32) = nI 57 from rfl, nI_ltI (by omega) (by omega)]; exact c2), decide_eq_false (by omega)]; rfl
      · rw [if_neg (by rw [show (57 : Int32) = nI 57 from rfl, nI_ltI (by omega) (by omega)]; exact c2), decide_eq_true (by omega)]; rfl
  · rw [if_neg c, decide_eq_false c, if_pos (by decide)]; rfl
/-- the reference's row of words -/
def kspec : List (List Nat) → Nat → Bool
  | [], k => decide (k = 89)
  | x :: xs, k => (List.range x.length).all (fun i => decide (stc 31 (k + i) = x.getD i 0) && decide (stc 31 (k + i) ≠ 32)) && decide (stc 31 (k + x.length) = 32) && decide (k + x.length < 89) && kspec xs (k + x.length + 1)
theorem kspec_1 : kspec kwt 1 = true := by decide
theorem s31 : ab_sl.getD 31 0 = 89 := by decide
theorem s31b : ∀ i < 89, stc 31 i < 256 := by decide
theorem r_chr {i : Nat} (h : abJ) (hi : i < 89) : fJ0_charAt_5068e 1000031 (nI i) h = some (nI (stc 31 i)) := c_chr (j := 31) h (by omega) (by rw [s31]; exact hi)
theorem r_key97 {h : abJ} {K : Int32 → Int32 → Option Int32} {y L : Nat} : ∀ (k N i : Nat), i + k = L → L < 89 → k < N → (∀ q, i ≤ q → q < L → stc 31 q ≠ 32) → stc 31 L = 32 → fX12_keyAt_L97 h K N (nI y) (nI i) = K (nI (y + 1)) (nI (L + 1)) := by
  intro k
  induction k with
  | zero =>
    intro N i hi hL hN hm h32
    obtain ⟨N, rfl⟩ : ∃ n0, N = n0 + 1 := ⟨N - 1, by omega⟩
    have e : i = L := by omega
    subst e
    rw [fX12_keyAt_L97, r_chr h hL, ab_bindS, if_pos (by rw [h32]; rfl), nI_1, nI_1]
  | succ k ih =>
    intro N i hi hL hN hm h32
    obtain ⟨N, rfl⟩ : ∃ n0, N = n0 + 1 := ⟨N - 1, by omega⟩
    have := s31b i (by omega)
    rw [fX12_keyAt_L97, r_chr h (by omega), ab_bindS, if_neg (by rw [show (32 : Int32) = nI 32 from rfl, nI_eq (by omega) (by omega)]; exact hm i (Nat.le_refl _) (by omega)), nI_1]
    exact ih N (i + 1) (by omega) hL (by omega) (fun q h1 h2 => hm q (by omega) h2) h32
theorem r_key15 {T : Nat → Nat} {n a b : Nat} {h : abJ} {K : Int32 → Int32 → Option Int32} {y p : Nat} {x : List Nat} (hT : TP T n 67 h) (h6 : h.1 64 6 = nI a) (h7 : h.1 64 7 = nI b) (hab : a ≤ b) (hb : b ≤ n) (hx : ∀ i, i < x.length → stc 31 (p + i) = x.getD i 0 ∧ stc 31 (p + i) ≠ 32) (h32 : stc 31 (p + x.length) = 32) (hL : p + x.length < 89) : ∀ (k N i : Nat), i + k = x.length → k < N → (∀ i', i' < i → a + i' < b ∧ T (a + i') = x.getD i' 0) → fX12_keyAt_L15 h K N (nI y) (nI p) (nI i) = if txt T a (b - a) = x then some (nI y) else K (nI (y + 1)) (nI (p + x.length + 1)) := by
  have hn := hT.1
  have skip : fX12_keyAt_L97 h K ab_N (nI y) (nI p) = K (nI (y + 1)) (nI (p + x.length + 1)) := r_key97 x.length ab_N p rfl hL (by unfold ab_N; omega) (fun q h1 h2 => by have := (hx (q - p) (by omega)).2; rwa [show p + (q - p) = q by omega] at this) h32
  intro k
  induction k with
  | zero =>
    intro N i hi hN hm
    obtain ⟨N, rfl⟩ : ∃ n0, N = n0 + 1 := ⟨N - 1, by omega⟩
    have e : i = x.length := by omega
    subst e
    rw [fX12_keyAt_L15, nI_add, r_chr h hL, ab_bindS, if_pos (by rw [h32]; rfl)]
    unfold fX12_keyAt_J69
    rw [nI_add, r_chr h hL, ab_bindS, if_pos (by rw [h32]; rfl), h6, h7, nI_add, skip]
    by_cases c : a + x.length = b
    · rw [if_pos (by rw [c]), if_pos]
      refine lst_e (by rw [txt_l]; omega) (fun i hi => ?_)
      rw [txt_l] at hi
      rw [txt_g hi]; exact (hm i (by omega)).2
    · rw [if_neg (by rw [nI_eq (by omega) (by omega)]; exact c), if_neg]
      intro q
      have := congrArg List.length q
      rw [txt_l] at this
      omega
  | succ k ih =>
    intro N i hi hN hm
    obtain ⟨N, rfl⟩ : ∃ n0, N = n0 + 1 := ⟨N - 1, by omega⟩
    obtain ⟨x1, x2⟩ := hx i (by omega)
    have hsb := s31b (p + i) (by omega)
    have n32 : ¬ nI (stc 31 (p + i)) = 32 := by rw [show (32 : Int32) = nI 32 from rfl, nI_eq (by omega) (by omega)]; exact x2
    have j69 : txt T a (b - a) ≠ x → fX12_keyAt_J69 h K (nI y) (nI p) (nI i) = K (nI (y + 1)) (nI (p + x.length + 1)) := by
      intro _
      unfold fX12_keyAt_J69
      rw [nI_add, r_chr h (by omega), ab_bindS, if_neg n32, skip]
    rw [fX12_keyAt_L15, nI_add, r_chr h (by omega), ab_bindS, if_neg n32, h6, h7, nI_add, ab_bindS]
    by_cases c : b ≤ a + i
    · have ne : txt T a (b - a) ≠ x := fun q => by
        have := congrArg List.length q
        rw [txt_l] at this
        omega
      rw [if_pos (by rw [nI_leI (by omega) (by omega)]; exact c), j69 ne, if_neg ne]
    · obtain ⟨t1, t2⟩ := hT.2 (a + i) (by omega)
      rw [if_neg (by rw [nI_leI (by omega) (by omega)]; exact c), nI_clamp (by omega), ab_askP (ixN (by omega) (by omega)), t1, nI_1]
      by_cases e : T (a + i) = stc 31 (p + i)
      · rw [if_pos (by rw [e])]
        refine ih N (i + 1) (by omega) (by omega) (fun i' hi' => ?_)
        by_cases e2 : i' = i
        · subst e2; exact ⟨by omega, by rw [e]; exact x1⟩
        · exact hm i' (by omega)
      · have ne : txt T a (b - a) ≠ x := fun q => by
          have h1 := txt_g (T := T) (a := a) (k := b - a) (i := i) (by omega)
          rw [q, ← x1] at h1
          exact e h1.symm
        rw [if_neg (by rw [nI_eq (by omega) (by omega)]; exact e), j69 ne, if_neg ne]
theorem r_key4 {T : Nat → Nat} {n a b : Nat} {h : abJ} (hT : TP T n 67 h) (h6 : h.1 64 6 = nI a) (h7 : h.1 64 7 = nI b) (hab : a ≤ b) (hb : b ≤ n) : ∀ (xs : List (List Nat)) (N y p : Nat), kspec xs p = true → xs.length < N → fX12_keyAt_L4 h N (nI y) (nI p) = some (nI (kwf (txt T a (b - a)) 22 xs y)) := by
  intro xs
  induction xs with
  | nil =>
    intro N y p hs hN
    obtain ⟨N, rfl⟩ : ∃ n0, N = n0 + 1 := ⟨N - 1, by omega⟩
    have e : p = 89 := of_decide_eq_true hs
    rw [fX12_keyAt_L4, show fJ0_length_8abf5 1000031 h = some (nI 89) from c_len (j := 31) h, ab_bindS, if_pos (by rw [e]; decide)]; rfl
  | cons x xs ih =>
    intro N y p hs hN
    obtain ⟨N, rfl⟩ : ∃ n0, N = n0 + 1 := ⟨N - 1, by omega⟩
    rw [List.length_cons] at hN
    rw [kspec] at hs
    simp only [Bool.and_eq_true, decide_eq_true_iff] at hs
    obtain ⟨⟨⟨s1, s2⟩, s3⟩, s4⟩ := hs
    have hx : ∀ i, i < x.length → stc 31 (p + i) = x.getD i 0 ∧ stc 31 (p + i) ≠ 32 := fun i hi => by
      have := List.all_eq_true.mp s1 i (List.mem_range.mpr hi)
      simp only [Bool.and_eq_true, decide_eq_true_iff] at this
      exact this
    rw [fX12_keyAt_L4, show fJ0_length_8abf5 1000031 h = some (nI 89) from c_len (j := 31) h, ab_bindS, if_neg (by rw [nI_leI (by omega) (by omega)]; omega), show (0 : Int32) = nI 0 from rfl, r_key15 (x := x) hT h6 h7 hab hb hx s2 s3 x.length ab_N 0 (by omega) (by unfold ab_N; omega) (fun i' hi' => by omega), kwf]
    by_cases c : txt T a (b - a) = x
    · rw [if_pos c, if_pos c]
    · rw [if_neg c, if_neg c]
      exact ih N (y + 1) (p + x.length + 1) s4 (by omega)
theorem r_keyAt {T : Nat → Nat} {n a b : Nat} {h : abJ} (hT : TP T n 67 h) (h6 : h.1 64 6 = nI a) (h7 : h.1 64 7 = nI b) (hab : a ≤ b) (hb : b ≤ n) : fX12_keyAt h = some (nI (kwf (txt T a (b - a)) 22 kwt 0)) := by
  unfold fX12_keyAt
  exact r_key4 hT h6 h7 hab hb kwt ab_N 0 1 kspec_1 (by rw [kwt_n.2]; unfold ab_N; omega)
