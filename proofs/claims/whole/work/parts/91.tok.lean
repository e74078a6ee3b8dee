/-! moor: strings, tokens. -/
def sbN : List (List Nat) := ab_sb.map (fun l => l.map (fun x => x.toNatClampNeg))
def stc (j i : Nat) : Nat := (sbN.getD j []).getD i 0
theorem st_ok : ∀ j < 32, ∀ i < ab_sl.getD j 0, (((((ab_sb.getD j []).getD i 0) &&& 255) : Int32).toUInt32 % 65536).toInt32 = nI (stc j i) ∧ narrow .char (.int (nI (stc j i))) = .int (nI (stc j i)) ∧ ab_sl.getD j 0 ≤ 89 := by decide +kernel
theorem sl_89 : ∀ j < 32, ab_sl.getD j 0 ≤ 89 := by decide
theorem c_chr {j i : Nat} (h : abJ) (hj : j < 32) (hi : i < ab_sl.getD j 0) : fJ0_charAt_5068e (1000000 + j) (nI i) h = some (nI (stc j i)) := by
  obtain ⟨e1, e2, e3⟩ := st_ok j hj i hi
  unfold fJ0_charAt_5068e fJ0_isLatin1_aae02
  rw [ab_bindS, if_neg (by decide)]
  unfold fJ1_charAt_3b067 fJ0_checkIndex_df160 fJ3_checkIndex_8e157
  rw [show 1000000 + j + 1000000 - 2000000 = j by omega, show Int32.ofNat (ab_sl.getD j 0) = nI (ab_sl.getD j 0) from rfl, if_neg (by rw [show (0 : Int32) = nI 0 from rfl, nI_ltI (by omega) (by omega)]; omega), if_pos (by rw [nI_ltI (by omega) (by omega)]; exact hi), nI_clamp (by omega), e1]
  simp only [ab_bindS]
  rw [ab_askP (ixN hi (by omega)), ab_askP (fun q => q e2), ab_bindS, ab_askP (fun q => q e2)]
theorem c_len {j : Nat} (h : abJ) : fJ0_length_8abf5 (1000000 + j) h = some (nI (ab_sl.getD j 0)) := by
  unfold fJ0_length_8abf5 fJ0_coder_7d493
  rw [ab_bindS, show 1000000 + j + 1000000 - 2000000 = j by omega]
  have : ∀ x : Int32, x >>> ((0 : Int32) &&& 31) = x := fun x => by
    rw [show ((0 : Int32) &&& 31) = 0 by decide]
    exact Int32.shiftRight_zero
  rw [this]; rfl
def isS (c : Nat) : Bool := decide (97 ≤ c ∧ c ≤ 122)
def isD (c : Nat) : Bool := decide (48 ≤ c ∧ c ≤ 57)
def isB (c : Nat) : Bool := decide (c = 32 ∨ c = 10)
/-- where a run of some ends -/
def rnE (P : Nat → Bool) (T : Nat → Nat) : Nat → Nat → Nat
  | 0, b => b
  | k + 1, b => if P (T b) = true then rnE P T k (b + 1) else b
theorem rnE_b {P : Nat → Bool} {T : Nat → Nat} : ∀ {k b : Nat}, b ≤ rnE P T k b ∧ rnE P T k b ≤ b + k
  | 0, b => ⟨Nat.le_refl _, Nat.le_refl _⟩
  | k + 1, b => by
    rw [rnE]
    split
    · have := rnE_b (P := P) (T := T) (k := k) (b := b + 1)
      omega
    · omega
theorem rnE_i {P : Nat → Bool} {T : Nat → Nat} : ∀ {k b i : Nat}, b ≤ i → i < rnE P T k b → P (T i) = true
  | 0, b, i, h1, h2 => by rw [rnE] at h2; omega
  | k + 1, b, i, h1, h2 => by
    rw [rnE] at h2
    by_cases c : P (T b) = true
    · rw [if_pos c] at h2
      by_cases e : i = b
      · rw [e]; exact c
      · exact rnE_i (by omega) h2
    · rw [if_neg c] at h2; omega
theorem rnE_o {P : Nat → Bool} {T : Nat → Nat} : ∀ {k b : Nat}, rnE P T k b < b + k → P (T (rnE P T k b)) = false
  | 0, b, h => by rw [rnE] at h; omega
  | k + 1, b, h => by
    rw [rnE] at h ⊢
    by_cases c : P (T b) = true
    · rw [if_pos c] at h ⊢; exact rnE_o (by omega)
    · rw [if_neg c]; simpa using c
/-- a row of letters; digits as a number -/
def txt (T : Nat → Nat) (a k : Nat) : List Nat := (List.range k).map (fun i => T (a + i))
def nvl (T : Nat → Nat) (a : Nat) : Nat → Nat
  | 0 => 0
  | k + 1 => 10 * nvl T a k + (T (a + k) - 48)
def kwt : List (List Nat) := [1, 2, 4, 5, 6, 7, 8, 9, 30, 15, 24, 25, 26, 11, 12, 22, 23, 16].map (fun j => sbN.getD j [])
def sgt : List (List Nat) := [3, 10, 28, 29, 27, 13, 14, 17, 18, 19, 20, 21].map (fun j => sbN.getD j [])
/-- the place of a word in a table -/
def kwf (w : List Nat) (z : Nat) : List (List Nat) → Nat → Nat
  | [], _ => z
  | x :: xs, i => if w = x then i else kwf w z xs (i + 1)
def atP (T : Nat → Nat) (n b : Nat) : Nat := rnE isB T (n - b) b
def behP (T : Nat → Nat) (n a : Nat) : Nat := if a < n then (if isS (T a) = true then rnE isS T (n - a) a else if isD (T a) = true then rnE isD T (n - a) a else a + 1) else a
def kdP (T : Nat → Nat) (n a : Nat) : Nat := if a < n then (if isS (T a) = true then kwf (txt T a (behP T n a - a)) 22 kwt 0 else if isD (T a) = true then (if behP T n a - a ≤ 3 then 23 else 25) else kwf (txt T a 1) 25 sgt 30) else 24
theorem kwf_b {w : List Nat} {z : Nat} : ∀ {xs : List (List Nat)} {i : Nat}, kwf w z xs i = z ∨ (i ≤ kwf w z xs i ∧ kwf w z xs i < i + xs.length)
  | [], i => Or.inl rfl
  | x :: xs, i => by
    rw [kwf]
    split
    · exact Or.inr ⟨Nat.le_refl _, by rw [List.length_cons]; omega⟩
    · rcases kwf_b (w := w) (z := z) (xs := xs) (i := i + 1) with h | h
      · exact Or.inl h
      · exact Or.inr ⟨by omega, by rw [List.length_cons]; omega⟩
theorem kwf_i {w : List Nat} {z : Nat} : ∀ {xs : List (List Nat)} {i j : Nat}, xs.Nodup → j < xs.length → (z < i ∨ i + xs.length ≤ z) → (kwf w z xs i = i + j ↔ w = xs.getD j [])
  | [], i, j, _, h, _ => absurd h (Nat.not_lt_zero _)
  | x :: xs, i, j, hn, h, hz => by
    have hn2 := List.nodup_cons.mp hn
    rw [List.length_cons] at h hz
    rw [kwf]
    by_cases c : w = x
    · rw [if_pos c]
      cases j with
      | zero => exact iff_of_true rfl c
      | succ j =>
        refine iff_of_false (by omega) (fun q => hn2.1 ?_)
        rw [← c, q]
        show xs.getD j [] ∈ xs
        rw [List.getD_eq_getElem?_getD, List.getElem?_eq_getElem (show j < xs.length by omega)]
        exact List.getElem_mem _
    · rw [if_neg c]
      cases j with
      | zero =>
        refine iff_of_false (fun q => ?_) c
        rcases kwf_b (w := w) (z := z) (xs := xs) (i := i + 1) with u | u <;> omega
      | succ j =>
        have := kwf_i (w := w) (z := z) (xs := xs) (i := i + 1) (j := j) hn2.2 (by omega) (by omega)
        rw [show i + (j + 1) = i + 1 + j by omega]
        exact this
theorem kwt_n : kwt.Nodup ∧ kwt.length = 18 := by decide
theorem sgt_n : sgt.Nodup ∧ sgt.length = 12 := by decide
/-- the kind that a string of the class has -/
def kcs : List Nat := [99, 0, 1, 30, 2, 3, 4, 5, 6, 7, 31, 13, 14, 35, 36, 9, 17, 37, 38, 39, 40, 41, 15, 16, 10, 11, 12, 34, 32, 33, 8]
def kc (j : Nat) : Nat := kcs.getD j 0
theorem kc_w : ∀ j < 31, 1 ≤ j → (kc j < 18 ∧ kwt.getD (kc j) [] = sbN.getD j [] ∧ (sbN.getD j []).length = ab_sl.getD j 0 ∧ isS (stc j 0) = true) ∨ (30 ≤ kc j ∧ kc j < 42 ∧ sgt.getD (kc j - 30) [] = sbN.getD j [] ∧ ab_sl.getD j 0 = 1 ∧ (sbN.getD j []).length = 1 ∧ isS (stc j 0) = false) := by decide
theorem txt_l {T : Nat → Nat} {a k : Nat} : (txt T a k).length = k := by unfold txt; rw [List.length_map, List.length_range]
theorem txt_g {T : Nat → Nat} {a k i : Nat} (hi : i < k) : (txt T a k).getD i 0 = T (a + i) := by
  unfold txt
  rw [List.getD_eq_getElem?_getD, List.getElem?_map, List.getElem?_range hi]; rfl
theorem lst_e {x y : List Nat} (h1 : x.length = y.length) (h2 : ∀ i, i < x.length → x.getD i 0 = y.getD i 0) : x = y := by
  apply List.ext_getElem h1
  intro i q1 q2
  have := h2 i q1
  rw [List.getD_eq_getElem?_getD, List.getElem?_eq_getElem q1, List.getD_eq_getElem?_getD, List.getElem?_eq_getElem q2] at this
  exact this
theorem kd_w {T : Nat → Nat} {n a j : Nat} (hj : j < 31) (h1 : 1 ≤ j) : (kdP T n a = kc j) ↔ (a < n ∧ isD (T a) = false ∧ kdP T n a ≠ 25 ∧ behP T n a - a = ab_sl.getD j 0 ∧ ∀ i, i < ab_sl.getD j 0 → T (a + i) = stc j i) := by
  have e0 : kc j < 42 ∧ kc j ≠ 22 ∧ kc j ≠ 23 ∧ kc j ≠ 24 ∧ kc j ≠ 25 := by rcases kc_w j hj h1 with w | w <;> omega
  by_cases ca : a < n
  · by_cases cs : isS (T a) = true
    · have eb : behP T n a = rnE isS T (n - a) a := by unfold behP; rw [if_pos ca, if_pos cs]
      have ek : kdP T n a = kwf (txt T a (behP T n a - a)) 22 kwt 0 := by unfold kdP; rw [if_pos ca, if_pos cs]
      have nd : isD (T a) = false := by
        unfold isS at cs
        rw [decide_eq_true_iff] at cs
        unfold isD
        exact decide_eq_false (by omega)
      have b1 := kwf_b (w := txt T a (behP T n a - a)) (z := 22) (xs := kwt) (i := 0)
      rw [kwt_n.2] at b1
      rcases kc_w j hj h1 with ⟨w1, w2, w3, w4⟩ | ⟨w1, w2, w3, w4, w5, w6⟩
      · have key := kwf_i (w := txt T a (behP T n a - a)) (z := 22) (i := 0) (j := kc j) kwt_n.1 (by rw [kwt_n.2]; exact w1) (Or.inr (by rw [kwt_n.2]; omega))
        rw [Nat.zero_add] at key
        rw [ek, key, w2]
        constructor
        · intro e
          have el := congrArg List.length e
          rw [txt_l, w3] at el
          refine ⟨ca, nd, by omega, el, fun i hi => ?_⟩
          rw [← txt_g (T := T) (a := a) (show i < behP T n a - a by omega), e]; rfl
        · rintro ⟨_, _, _, el, hc⟩
          refine lst_e (by rw [txt_l, w3]; exact el) (fun i hi => ?_)
          rw [txt_l] at hi
          rw [txt_g hi]; exact hc i (by omega)
      · refine iff_of_false (by rw [ek]; omega) (fun q => ?_)
        have := q.2.2.2.2 0 (by omega)
        rw [Nat.add_zero] at this
        rw [this, w6] at cs; cases cs
    · by_cases cd : isD (T a) = true
      · refine iff_of_false ?_ (fun q => by have := q.2.1; rw [cd] at this; cases this)
        unfold kdP
        rw [if_pos ca, if_neg cs, if_pos cd]
        split <;> omega
      · have eb : behP T n a = a + 1 := by unfold behP; rw [if_pos ca, if_neg cs, if_neg cd]
        have ek : kdP T n a = kwf (txt T a 1) 25 sgt 30 := by unfold kdP; rw [if_pos ca, if_neg cs, if_neg cd]
        have b1 := kwf_b (w := txt T a 1) (z := 25) (xs := sgt) (i := 30)
        rw [sgt_n.2] at b1
        rcases kc_w j hj h1 with ⟨w1, w2, w3, w4⟩ | ⟨w1, w2, w3, w4, w5, w6⟩
        · refine iff_of_false (by rw [ek]; omega) (fun q => ?_)
          have hl : 0 < ab_sl.getD j 0 := by rw [eb] at q; have := q.2.2.2.1; omega
          have := q.2.2.2.2 0 hl
          rw [Nat.add_zero] at this
          rw [this] at cs
          exact cs w4
        · have key := kwf_i (w := txt T a 1) (z := 25) (i := 30) (j := kc j - 30) sgt_n.1 (by rw [sgt_n.2]; omega) (Or.inl (by omega))
          rw [show 30 + (kc j - 30) = kc j by omega] at key
          rw [ek, key, w3, eb]
          constructor
          · intro e
            have hk : kwf (txt T a 1) 25 sgt 30 = kc j := key.mpr (by rw [w3]; exact e)
            refine ⟨ca, by simpa using cd, by rw [hk]; omega, by omega, fun i hi => ?_⟩
            rw [w4] at hi
            rw [← txt_g (T := T) (a := a) (show i < 1 by omega), e]; rfl
          · rintro ⟨_, _, _, _, hc⟩
            refine lst_e (by rw [txt_l, w5]) (fun i hi => ?_)
            rw [txt_l] at hi
            rw [txt_g hi]; exact hc i (by omega)
  · refine iff_of_false ?_ (fun q => ca q.1)
    unfold kdP
    rw [if_neg ca]
    omega
