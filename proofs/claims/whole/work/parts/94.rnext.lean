/-! moor: the reference goes to the next token. -/
theorem fN_w {h h' : abJ} (a : fN h h') {k : Nat} {v : Int32} (hk : k = 6 ∨ k = 7 ∨ k = 9 ∨ k = 10) : fN h (ab_wI h' 64 k v) := frR_64 a (by simp; omega)
theorem fN_8 {h h' : abJ} (a : fN h h') : h'.1 64 8 = h.1 64 8 := a.2.1 8 (by decide)
theorem r_nx89 {T : Nat → Nat} {n a E : Nat} {h0 : abJ} (hT : TP T n 67 h0) (h8 : h0.1 64 8 = nI n) (ha : a ≤ E) (hEn : E ≤ n) : ∀ (k N p : Nat) (h : abJ), p + k = n → k < N → rnE isS T k p = E → h.1 64 7 = nI p → h.1 64 6 = nI a → fN h0 h → Ok (fX12_next_L89 N h) (fun h' => h'.1 64 7 = nI E ∧ h'.1 64 6 = nI a ∧ h'.1 64 9 = nI (kwf (txt T a (E - a)) 22 kwt 0) ∧ fN h0 h') := by
  have hn := hT.1
  intro k
  have fin : ∀ (p : Nat) (h : abJ), p = E → h.1 64 7 = nI p → h.1 64 6 = nI a → fN h0 h → Ok ((fX12_keyAt h).bind (fun r26 => some (ab_wI h 64 9 r26))) (fun h' => h'.1 64 7 = nI E ∧ h'.1 64 6 = nI a ∧ h'.1 64 9 = nI (kwf (txt T a (E - a)) 22 kwt 0) ∧ fN h0 h') := by
    intro p h hE h7 h6 hf
    subst hE
    rw [r_keyAt (TP_fN hT hf) h6 h7 ha hEn, ab_bindS]
    exact Ok.some ⟨by rw [ab_w1k (by decide)]; exact h7, by rw [ab_w1k (by decide)]; exact h6, ab_w1e .., fN_w hf (by simp)⟩
  induction k with
  | zero =>
    intro N p h hp hN hE h7 h6 hf
    obtain ⟨N, rfl⟩ : ∃ n0, N = n0 + 1 := ⟨N - 1, by omega⟩
    have hT1 := TP_fN hT hf
    rw [fX12_next_L89, h7, r_see hT1 (by rw [fN_8 hf]; exact h8) (by omega), ab_bindS, r_small hT1, ab_bindS, decide_eq_false (by omega), Bool.false_and]
    exact Ok.pos (by decide) (fin p h hE h7 h6 hf)
  | succ k ih =>
    intro N p h hp hN hE h7 h6 hf
    obtain ⟨N, rfl⟩ : ∃ n0, N = n0 + 1 := ⟨N - 1, by omega⟩
    have hT1 := TP_fN hT hf
    rw [rnE] at hE
    rw [fX12_next_L89, h7, r_see hT1 (by rw [fN_8 hf]; exact h8) (by omega), ab_bindS, r_small hT1, ab_bindS, decide_eq_true (by omega), Bool.true_and, nI_1]
    cases c : isS (T p) with
    | false =>
      rw [c, if_neg (by decide)] at hE
      exact Ok.pos (by decide) (fin p h hE h7 h6 hf)
    | true =>
      rw [c, if_pos rfl] at hE
      exact Ok.neg (by decide) (ih N (p + 1) _ (by omega) (by omega) hE (ab_w1e ..) (by rw [ab_w1k (by decide)]; exact h6) (fN_w hf (by simp)))
theorem r_nx146 {T : Nat → Nat} {n a E : Nat} {h0 : abJ} (hT : TP T n 67 h0) (h8 : h0.1 64 8 = nI n) : ∀ (k N p : Nat) (h : abJ), p + k = n → k < N → a ≤ p → rnE isD T k p = E → h.1 64 7 = nI p → h.1 64 6 = nI a → h.1 64 10 = nI (nvl T a (min 3 (p - a))) → fN h0 h → Ok (fX12_next_L146 N h) (fun h' => h'.1 64 7 = nI E ∧ h'.1 64 6 = nI a ∧ h'.1 64 9 = nI (if E - a ≤ 3 then 23 else 25) ∧ h'.1 64 10 = nI (nvl T a (min 3 (E - a))) ∧ fN h0 h') := by
  have hn := hT.1
  intro k
  have fin : ∀ (p : Nat) (h : abJ), a ≤ p → p ≤ n → p = E → h.1 64 7 = nI p → h.1 64 6 = nI a → h.1 64 10 = nI (nvl T a (min 3 (p - a))) → fN h0 h → Ok (if nI p - nI a ≤ 3 then some (ab_wI h 64 9 23) else some (ab_wI h 64 9 25)) (fun h' => h'.1 64 7 = nI E ∧ h'.1 64 6 = nI a ∧ h'.1 64 9 = nI (if E - a ≤ 3 then 23 else 25) ∧ h'.1 64 10 = nI (nvl T a (min 3 (E - a))) ∧ fN h0 h') := by
    intro p h ha hp hE h7 h6 h10 hf
    subst hE
    rw [pk_sub ha]
    by_cases c : p - a ≤ 3
    · rw [if_pos c]
      exact Ok.pos (by rw [show (3 : Int32) = nI 3 from rfl, nI_leI (by omega) (by omega)]; exact c) (Ok.some ⟨by rw [ab_w1k (by decide)]; exact h7, by rw [ab_w1k (by decide)]; exact h6, by rw [ab_w1e]; rfl, by rw [ab_w1k (by decide)]; exact h10, fN_w hf (by simp)⟩)
    · rw [if_neg c]
      exact Ok.neg (by rw [show (3 : Int32) = nI 3 from rfl, nI_leI (by omega) (by omega)]; exact c) (Ok.some ⟨by rw [ab_w1k (by decide)]; exact h7, by rw [ab_w1k (by decide)]; exact h6, by rw [ab_w1e]; rfl, by rw [ab_w1k (by decide)]; exact h10, fN_w hf (by simp)⟩)
  induction k with
  | zero =>
    intro N p h hp hN ha hE h7 h6 h10 hf
    obtain ⟨N, rfl⟩ : ∃ n0, N = n0 + 1 := ⟨N - 1, by omega⟩
    have hT1 := TP_fN hT hf
    rw [fX12_next_L146, h7, r_see hT1 (by rw [fN_8 hf]; exact h8) (by omega), ab_bindS, r_digit hT1, ab_bindS, decide_eq_false (by omega), Bool.false_and, h6]
    exact Ok.pos (by decide) (fin p h ha (by omega) hE h7 h6 h10 hf)
  | succ k ih =>
    intro N p h hp hN ha hE h7 h6 h10 hf
    obtain ⟨N, rfl⟩ : ∃ n0, N = n0 + 1 := ⟨N - 1, by omega⟩
    have hT1 := TP_fN hT hf
    obtain ⟨t1, t2⟩ := hT1.2 p (by omega)
    rw [rnE] at hE
    rw [fX12_next_L146, h7, r_see hT1 (by rw [fN_8 hf]; exact h8) (by omega), ab_bindS, r_digit hT1, ab_bindS, decide_eq_true (by omega), Bool.true_and, h6, ab_bindS, if_pos (show p < n by omega)]
    cases c : isD (T p) with
    | false =>
      rw [c, if_neg (by decide)] at hE
      exact Ok.pos (by decide) (fin p h ha (by omega) hE h7 h6 h10 hf)
    | true =>
      rw [c, if_pos rfl] at hE
      have cd : 48 ≤ T p ∧ T p ≤ 57 := by unfold isD at c; exact of_decide_eq_true c
      refine Ok.neg (by decide) ?_
      rw [pk_sub ha]
      unfold fX12_next_J196
      by_cases c3 : 3 ≤ p - a
      · rw [h7, nI_1]
        refine Ok.pos (by rw [show (3 : Int32) = nI 3 from rfl, nI_leI (by omega) (by omega)]; exact c3) (ih N (p + 1) _ (by omega) (by omega) (by omega) hE (ab_w1e ..) (by rw [ab_w1k (by decide)]; exact h6) ?_ (fN_w hf (by simp)))
        rw [ab_w1k (by decide), h10, show min 3 (p - a) = 3 by omega, show min 3 (p + 1 - a) = 3 by omega]
      · have en : 10 * h.1 64 10 + nI (T p) - 48 = nI (nvl T a (min 3 (p + 1 - a))) := by
          rw [h10, show min 3 (p + 1 - a) = (p - a) + 1 by omega, show min 3 (p - a) = p - a by omega, nvl_s, show a + (p - a) = p by omega, show (10 : Int32) = nI 10 from rfl, show (48 : Int32) = nI 48 from rfl, pk_mul, nI_add, pk_sub (by omega)]
          exact congrArg nI (by omega)
        rw [en, ab_w1k (show 7 ≠ 10 by decide), h7, nI_1]
        refine Ok.neg (by rw [show (3 : Int32) = nI 3 from rfl, nI_leI (by omega) (by omega)]; exact c3) (ih N (p + 1) _ (by omega) (by omega) (by omega) hE (ab_w1e ..) (by rw [ab_w1k (by decide), ab_w1k (by decide)]; exact h6) ?_ (fN_w (fN_w hf (by simp)) (by simp)))
        rw [ab_w1k (by decide), ab_w1e]
theorem stc0_d : ∀ i < 12, ∀ j < 12, stc 0 i = stc 0 j → i = j := by decide
theorem r_nx254 {T : Nat → Nat} {n a : Nat} {h0 : abJ} (hT : TP T n 67 h0) (h8 : h0.1 64 8 = nI n) (ha : a < n) (h6 : h0.1 64 6 = nI a) : ∀ (k N i : Nat) (h : abJ), i + k = 12 → k < N → h.1 64 9 = nI (match sgx (T a) i 0 with | none => 25 | some j => 30 + j) → (∀ q, q ≠ 9 → h.1 64 q = h0.1 64 q) → fN h0 h → Ok (fX12_next_L254 N (nI i) h) (fun h' => h'.1 64 9 = nI (match sgx (T a) 12 0 with | none => 25 | some j => 30 + j) ∧ (∀ q, q ≠ 9 → h'.1 64 q = h0.1 64 q) ∧ fN h0 h') := by
  have hn := hT.1
  have sgs : ∀ (k i : Nat), i + k < 12 → (sgx (T a) (k + 1) i = if sgx (T a) k i = none then (if stc 0 (i + k) = T a then some (i + k) else none) else sgx (T a) k i) := by
    intro k
    induction k with
    | zero =>
      intro i _
      show (if stc 0 i = T a then some i else sgx (T a) 0 (i + 1)) = if sgx (T a) 0 i = none then (if stc 0 (i + 0) = T a then some (i + 0) else none) else sgx (T a) 0 i
      rw [if_pos (show sgx (T a) 0 i = none from rfl)]; rfl
    | succ k ih =>
      intro i hi
      have e1 : sgx (T a) (k + 1 + 1) i = if stc 0 i = T a then some i else sgx (T a) (k + 1) (i + 1) := rfl
      have e2 : sgx (T a) (k + 1) i = if stc 0 i = T a then some i else sgx (T a) k (i + 1) := rfl
      rw [e1, e2]
      by_cases c : stc 0 i = T a
      · rw [if_pos c, if_pos c, if_neg (fun q => by cases q)]
      · rw [if_neg c, if_neg c, ih (i + 1) (by omega), show i + 1 + k = i + (k + 1) by omega]
  intro k
  induction k with
  | zero =>
    intro N i h hi hN h9 hq hf
    obtain ⟨N, rfl⟩ : ∃ n0, N = n0 + 1 := ⟨N - 1, by omega⟩
    have e : i = 12 := by omega
    subst e
    rw [fX12_next_L254, show fJ0_length_8abf5 1000000 h = some (nI 12) from c_len (j := 0) h, ab_bindS]
    exact Ok.pos (Int32.le_refl _) (Ok.some ⟨h9, hq, hf⟩)
  | succ k ih =>
    intro N i h hi hN h9 hq hf
    obtain ⟨N, rfl⟩ : ∃ n0, N = n0 + 1 := ⟨N - 1, by omega⟩
    have hT1 := TP_fN hT hf
    have t2 := (hT.2 a ha).2
    have s2 := (sb0 i (by omega)).2.1
    rw [fX12_next_L254, show fJ0_length_8abf5 1000000 h = some (nI 12) from c_len (j := 0) h, ab_bindS, hq 6 (by decide), h6, r_see hT1 (by rw [fN_8 hf]; exact h8) (by omega), ab_bindS, if_pos ha, show fJ0_charAt_5068e 1000000 (nI i) h = some (nI (stc 0 i)) from c_chr (j := 0) h (by omega) (by show i < 12; omega), ab_bindS]
    refine Ok.neg (by rw [nI_leI (by omega) (by omega)]; omega) ?_
    unfold fX12_next_J288
    rw [nI_1]
    have sg := sgs i 0 (by omega)
    rw [Nat.zero_add] at sg
    by_cases e : T a = stc 0 i
    · refine Ok.pos (by rw [e]) (ih N (i + 1) _ (by omega) (by omega) ?_ (fun q w => by rw [ab_w1k w]; exact hq q w) (fN_w hf (by simp)))
      have none0 : ∀ k, k ≤ i → sgx (T a) k 0 = none := by
        intro k
        induction k with
        | zero => intro _; rfl
        | succ k ih2 =>
          intro hk
          have := sgs k 0 (by omega)
          rw [Nat.zero_add] at this
          rw [this, if_pos (ih2 (by omega)), if_neg (fun w => by have := stc0_d k (by omega) i (by omega) (w.trans e); omega)]
      rw [ab_w1e, sg, if_pos (none0 i (Nat.le_refl _)), if_pos e.symm, show (30 : Int32) = nI 30 from rfl, nI_add]
    · refine Ok.neg (by rw [nI_eq (by omega) (by omega)]; exact e) (ih N (i + 1) h (by omega) (by omega) ?_ hq hf)
      rw [h9, sg]
      cases q : sgx (T a) i 0 with
      | none => rw [if_pos rfl, if_neg (fun w => e w.symm)]
      | some j => rw [if_neg (fun w => by cases w)]
theorem r_next {T : Nat → Nat} {n b : Nat} {h : abJ} (hT : TP T n 67 h) (h8 : h.1 64 8 = nI n) (h7 : h.1 64 7 = nI b) (hb : b ≤ n) : Ok (fX12_next h) (fun h' => TR T n (atP T n b) h' ∧ fN h h') := by
  have hn := hT.1
  have hab := rnE_b (P := isB) (T := T) (k := n - b) (b := b)
  have fin : ∀ (a : Nat) (h1 : abJ), a ≤ n → h1.1 64 6 = nI a → fN h h1 → Ok (if ((ab_wI h1 64 7 (h1.1 64 6)).1 64 6) < ((ab_wI h1 64 7 (h1.1 64 6)).1 64 8) then (fX12_see ((ab_wI h1 64 7 (h1.1 64 6)).1 64 6) (ab_wI h1 64 7 (h1.1 64 6))).bind (fun r6 => (fX12_isSmall r6 (ab_wI h1 64 7 (h1.1 64 6))).bind (fun r7 => if r7 = 0 then (fX12_see ((ab_wI h1 64 7 (h1.1 64 6)).1 64 6) (ab_wI h1 64 7 (h1.1 64 6))).bind (fun r9 => (fX12_isDigit r9 (ab_wI h1 64 7 (h1.1 64 6))).bind (fun r10 => if r10 = 0 then fX12_next_L254 ab_N 0 (ab_wI (ab_wI (ab_wI h1 64 7 (h1.1 64 6)) 64 7 (((ab_wI h1 64 7 (h1.1 64 6)).1 64 7) + 1)) 64 9 25) else fX12_next_L146 ab_N (ab_wI (ab_wI h1 64 7 (h1.1 64 6)) 64 10 0))) else fX12_next_L89 ab_N (ab_wI h1 64 7 (h1.1 64 6)))) else some (ab_wI (ab_wI h1 64 7 (h1.1 64 6)) 64 9 24)) (fun h' => TR T n a h' ∧ fN h h') := by
    intro a h1 ha h6 hf
    rw [h6]
    generalize eg : ab_wI h1 64 7 (nI a) = h2
    have g7 : h2.1 64 7 = nI a := by rw [← eg, ab_w1e]
    have g6 : h2.1 64 6 = nI a := by rw [← eg, ab_w1k (by decide)]; exact h6
    have f2 : fN h h2 := by rw [← eg]; exact fN_w hf (by simp)
    have g8 : h2.1 64 8 = nI n := by rw [fN_8 f2]; exact h8
    have hT2 := TP_fN hT f2
    rw [g6, g7, g8, r_see hT2 g8 (by omega), ab_bindS, r_small hT2, ab_bindS, ab_bindS, r_digit hT2, ab_bindS, nI_1]
    by_cases c : a < n
    · refine Ok.pos (by rw [nI_ltI (by omega) (by omega)]; exact c) ?_
      have hbb := beh_b (T := T) c
      rw [decide_eq_true c, Bool.true_and, Bool.true_and]
      cases cs : isS (T a) with
      | true =>
        refine Ok.neg (by decide) ?_
        have eb : behP T n a = rnE isS T (n - a) a := by unfold behP; rw [if_pos c, if_pos cs]
        have ek : kdP T n a = kwf (txt T a (behP T n a - a)) 22 kwt 0 := by unfold kdP; rw [if_pos c, if_pos cs]
        have b1 := kwf_b (w := txt T a (behP T n a - a)) (z := 22) (xs := kwt) (i := 0)
        rw [kwt_n.2, ← ek] at b1
        refine (r_nx89 (a := a) (E := behP T n a) (h0 := h2) hT2 g8 (by omega) hbb.2 (n - a) ab_N a h2 (by omega) (by unfold ab_N; omega) eb.symm g7 g6 (frR_r _ _ _ _)).mono (fun h' hr => ⟨⟨?_, hr.2.1, hr.1, ?_, fun q => by omega⟩, frR_t f2 hr.2.2.2⟩)
        · rw [fN_8 hr.2.2.2]; exact g8
        · rw [hr.2.2.1, ek]
      | false =>
        refine Ok.pos (by decide) ?_
        cases cd : isD (T a) with
        | true =>
          refine Ok.neg (by decide) ?_
          have eb : behP T n a = rnE isD T (n - a) a := by unfold behP; rw [if_pos c, cs, if_neg (by decide), cd, if_pos rfl]
          have ek : kdP T n a = if behP T n a - a ≤ 3 then 23 else 25 := by unfold kdP; rw [if_pos c, cs, if_neg (by decide), cd, if_pos rfl]
          refine (r_nx146 (a := a) (E := behP T n a) (h0 := h2) hT2 g8 (n - a) ab_N a _ (by omega) (by unfold ab_N; omega) (Nat.le_refl _) eb.symm (by rw [ab_w1k (by decide)]; exact g7) (by rw [ab_w1k (by decide)]; exact g6) (by rw [ab_w1e, Nat.sub_self]; rfl) (fN_w (frR_r _ _ _ _) (by simp))).mono (fun h' hr => ⟨⟨?_, hr.2.1, hr.1, ?_, fun q => ?_⟩, frR_t f2 hr.2.2.2.2⟩)
          · rw [fN_8 hr.2.2.2.2]; exact g8
          · rw [hr.2.2.1, ek]
          · rw [hr.2.2.2.1]
            rw [ek] at q
            have : behP T n a - a ≤ 3 := by
              refine Classical.byContradiction (fun w => ?_)
              rw [if_neg w] at q; cases q
            rw [show min 3 (behP T n a - a) = behP T n a - a by omega]
        | false =>
          refine Ok.pos (by decide) ?_
          have eb : behP T n a = a + 1 := by unfold behP; rw [if_pos c, cs, if_neg (by decide), cd, if_neg (by decide)]
          have ek : kdP T n a = match sgx (T a) 12 0 with | none => 25 | some j => 30 + j := by
            unfold kdP
            rw [if_pos c, cs, if_neg (by decide), cd, if_neg (by decide)]
            exact sgx_k (k := 12) (i := 0) (by omega)
          have f3 : fN h2 (ab_wI (ab_wI h2 64 7 (nI (a + 1))) 64 9 25) := fN_w (fN_w (frR_r _ _ _ _) (by simp)) (by simp)
          refine (r_nx254 (a := a) (h0 := ab_wI (ab_wI h2 64 7 (nI (a + 1))) 64 9 25) (TP_fN hT2 f3) (by rw [fN_8 f3]; exact g8) c (by rw [ab_w1k (by decide), ab_w1k (by decide)]; exact g6) 12 ab_N 0 _ (by omega) (by unfold ab_N; omega) (by rw [ab_w1e]; rfl) (fun q _ => rfl) (frR_r _ _ _ _)).mono (fun h' hr => ⟨⟨?_, ?_, ?_, ?_, fun q => ?_⟩, frR_t f2 (frR_t f3 hr.2.2)⟩)
          · rw [fN_8 hr.2.2, fN_8 f3]; exact g8
          · rw [hr.2.1 6 (by decide), ab_w1k (by decide), ab_w1k (by decide)]; exact g6
          · rw [hr.2.1 7 (by decide), ab_w1k (by decide), ab_w1e, eb]
          · rw [hr.1, ek]
          · rw [ek] at q
            cases w : sgx (T a) 12 0 with
            | none => rw [w] at q; cases q
            | some j =>
              rw [w] at q
              have q : 30 + j = 23 := q
              omega
    · have e : a = n := by omega
      have ek : kdP T n a = 24 := by unfold kdP; rw [if_neg c]
      have eb : behP T n a = a := by unfold behP; rw [if_neg c]
      refine Ok.neg (by rw [nI_ltI (by omega) (by omega)]; exact c) (Ok.some ⟨⟨?_, ?_, ?_, ?_, fun q => by omega⟩, fN_w f2 (by simp)⟩)
      · rw [ab_w1k (by decide)]; exact g8
      · rw [ab_w1k (by decide)]; exact g6
      · rw [ab_w1k (by decide), eb]; exact g7
      · rw [ab_w1e, ek]; rfl
  have key : ∀ (k N p : Nat) (h1 : abJ), p + k = n → k < N → rnE isB T k p = atP T n b → h1.1 64 6 = nI p → fN h h1 → Ok (fX12_next_L8 N h1) (fun h' => TR T n (atP T n b) h' ∧ fN h h') := by
    intro k
    induction k with
    | zero =>
      intro N p h1 hp hN hE h6 hf
      obtain ⟨N, rfl⟩ : ∃ n0, N = n0 + 1 := ⟨N - 1, by omega⟩
      have e : p = atP T n b := hE
      have := fin p h1 (by omega) h6 hf
      rw [fX12_next_L8, show fX12_see (h1.1 64 6) h1 = some (-1) by rw [h6, r_see (TP_fN hT hf) (by rw [fN_8 hf]; exact h8) (by omega), if_neg (by omega)], ab_bindS, ab_bindS]
      rw [← e]
      exact Ok.neg (by decide) (Ok.neg (by decide) this)
    | succ k ih =>
      intro N p h1 hp hN hE h6 hf
      obtain ⟨N, rfl⟩ : ∃ n0, N = n0 + 1 := ⟨N - 1, by omega⟩
      have t2 := (hT.2 p (by omega)).2
      rw [rnE] at hE
      rw [fX12_next_L8, show fX12_see (h1.1 64 6) h1 = some (nI (T p)) by rw [h6, r_see (TP_fN hT hf) (by rw [fN_8 hf]; exact h8) (by omega), if_pos (by omega)], ab_bindS, ab_bindS]
      have go : isB (T p) = true → Ok (fX12_next_J34 (fun h => fX12_next_L8 N h) h1) (fun h' => TR T n (atP T n b) h' ∧ fN h h') := by
        intro e
        rw [if_pos e] at hE
        unfold fX12_next_J34
        rw [h6, nI_1]
        exact ih N (p + 1) _ (by omega) (by omega) hE (ab_w1e ..) (fN_w hf (by simp))
      by_cases c1 : T p = 10
      · exact Ok.pos (by rw [c1]; rfl) (go (by unfold isB; exact decide_eq_true (Or.inr c1)))
      · refine Ok.neg (by rw [show (10 : Int32) = nI 10 from rfl, nI_eq (by omega) (by omega)]; exact c1) ?_
        by_cases c2 : T p = 32
        · exact Ok.pos (by rw [c2]; rfl) (go (by unfold isB; exact decide_eq_true (Or.inl c2)))
        · have e : isB (T p) = false := by unfold isB; exact decide_eq_false (by omega)
          rw [e, if_neg (by decide)] at hE
          rw [← hE]
          exact Ok.neg (by rw [show (32 : Int32) = nI 32 from rfl, nI_eq (by omega) (by omega)]; exact c2) (fin p h1 (by omega) h6 hf)
  unfold fX12_next
  rw [h7]
  exact key (n - b) ab_N b _ (by omega) (by unfold ab_N; omega) rfl (ab_w1e ..) (fN_w (frR_r _ _ _ _) (by simp))
