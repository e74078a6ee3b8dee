/-! chance, mean: the reference lays rows, and answers. -/
def r6 : List Nat := [0, 1, 2, 3, 4, 5]
theorem r6_m {p : Nat} : p ∈ r6 ↔ p < 6 := by
  unfold r6
  simp only [List.mem_cons, List.not_mem_nil, or_false]
  omega
theorem r6_6 : ∀ i, i ∈ r6 → i < 6 := fun _ h => r6_m.mp h
def F00 : Nat → Nat → Int × Int := fun p q => nf (if q = p then 1 else 0) 1
theorem r_begins {h : abJ} : Ok (fX12_beginsRows h) (fun h' => RQ r6 F00 h' ∧ frR [] [] [80, 81] h h') := by
  have key : ∀ (j n k : Nat) (h1 : abJ), k + j = 42 → j < n → (∀ p q, p ∈ r6 → q < 7 → 7 * p + q < k → h1.2 80 (7 * p + q) = iL (F00 p q).1 ∧ h1.2 81 (7 * p + q) = iL (F00 p q).2) → frR [] [] [80, 81] h h1 → Ok (fX12_beginsRows_L2 n (nI k) h1) (fun h' => RQ r6 F00 h' ∧ frR [] [] [80, 81] h h') := by
    intro j
    induction j with
    | zero =>
      intro n k h1 hk hn ha hfr
      obtain ⟨n, rfl⟩ : ∃ n0, n = n0 + 1 := ⟨n - 1, by omega⟩
      rw [fX12_beginsRows_L2]
      exact Ok.pos (by rw [show (42 : Int32) = nI 42 from rfl, nI_leI (by omega) (by omega)]; omega) (Ok.some ⟨fun p q hp hq => ha p q hp hq (by have := r6_m.mp hp; omega), hfr⟩)
    | succ j ih =>
      intro n k h1 hk hn ha hfr
      obtain ⟨n, rfl⟩ : ∃ n0, n = n0 + 1 := ⟨n - 1, by omega⟩
      have go : ∀ (t : Int) (t2 : Int64), t2 = iL t → t = (if k % 7 = k / 7 then 1 else 0) → Ok (fX12_beginsRows_J26 (fun y1 h => fX12_beginsRows_L2 n y1 h) (nI k) (nI k) t2 h1) (fun h' => RQ r6 F00 h' ∧ frR [] [] [80, 81] h h') := by
        intro t t2 e2 e
        have tb : 0 ≤ t ∧ t ≤ 1 := by rw [e]; split <;> omega
        subst e2
        unfold fX12_beginsRows_J26
        rw [show (1 : Int64) = iL 1 from rfl, r_lays (by omega) ⟨by omega, by omega⟩ (by omega) (by omega), ab_bindS, nI_1]
        refine ih n (k + 1) _ (by omega) (by omega) (fun p q hp hq hk2 => ?_) (frR_t hfr (lay81 h1 _ _ _))
        have h6 := r6_m.mp hp
        by_cases c : 7 * p + q = k
        · rw [c, ab_v2n (by decide), ab_v2e, ab_v2e]
          unfold F00
          have e1 : k % 7 = q := by omega
          have e2 : k / 7 = p := by omega
          rw [e, e1, e2]; exact ⟨rfl, rfl⟩
        · rw [ab_v2n (by decide), ab_v2k c, ab_v2k c, ab_v2n (by decide)]
          exact ha p q hp hq (by omega)
      rw [fX12_beginsRows_L2, show (7 : Int32) = nI 7 from rfl, pk_div (by omega) (by omega) (by omega), pk_mul, k_rm]
      refine Ok.neg (by rw [show (42 : Int32) = nI 42 from rfl, nI_leI (by omega) (by omega)]; omega) ?_
      by_cases c : k % 7 = k / 7
      · exact Ok.pos (by rw [c]) (go 1 1 rfl (by rw [if_pos c]))
      · exact Ok.neg (by rw [nI_eq (by omega) (by omega)]; exact c) (go 0 0 rfl (by rw [if_neg c]))
  unfold fX12_beginsRows
  exact key 42 ab_N 0 h (by omega) (by unfold ab_N; omega) (fun p q _ _ hk => by omega) (frR_r _ _ _ _)
/-- one road more -/
theorem r_one {F : Nat → Nat → Int × Int} {h : abJ} {p q : Nat} {X R s : Int} (hR : RQ r6 F h) (hp : p < 6) (hq : q < 7) (hF : F p q = nf X R) (hX : X.natAbs ≤ 10) (hRb : 0 < R ∧ R ≤ 3) (hs : s = 1 ∨ s = -1) : fX12_lays (nI (7 * p + q)) (h.2 80 (7 * p + q) * iL R + iL s * h.2 81 (7 * p + q)) (h.2 81 (7 * p + q) * iL R) h = some (ab_wL (ab_wL h 80 (7 * p + q) (iL (nf (X + s) R).1)) 81 (7 * p + q) (iL (nf (X + s) R).2)) := by
  obtain ⟨c1, c2⟩ := hR p q (r6_m.mpr hp) hq
  have b := nf_b (a := X) hRb.1
  have x := nf_x (a := X) hRb.1
  have r := nf_r (a := X) hRb.1
  rw [hF] at c1 c2
  rw [c1, c2]
  generalize nf X R = v at *
  have m1 : (v.1 * R).natAbs ≤ 10 * 3 := mab (by omega) (by omega)
  have m2 : (v.2 * R).natAbs ≤ 3 * 3 := mab (by omega) (by omega)
  have m3 : (s * v.2).natAbs ≤ 1 * 3 := mab (by omega) (by omega)
  have m4 : 0 < v.2 * R := Int.mul_pos x.2.2.1 hRb.1
  rw [iL_m, iL_m, iL_m, iL_a, r_lays (by omega) ⟨by omega, by omega⟩ m4 (by omega)]
  have e : nf (v.1 * R + s * v.2) (v.2 * R) = nf (X + s) R := by
    refine nf_e m4 hRb.1 ?_
    rw [r]
    grind
  rw [e]
/-- a row, some roads being laid -/
def pX (m : MoT) (B p r q : Nat) : Int := if B.testBit q = true then (if p = q then (mR m p : Int) else 0) - (rto m p q r : Int) else 0
def rW (m : MoT) (B p r : Nat) (c : Int) (q : Nat) : Int × Int := if q < 6 then nf (pX m B p r q) (mR m p) else nf c (mR m p)
theorem pX_s {m : MoT} {B p r q : Nat} : pX m B p (r + 1) q = if B.testBit q = true ∧ mL m p r = q then pX m B p r q - 1 else pX m B p r q := by
  unfold pX
  rw [rto_s]
  by_cases c : B.testBit q = true
  · rw [if_pos c, if_pos c]
    by_cases e : mL m p r = q
    · rw [if_pos e, if_pos (show B.testBit q = true ∧ mL m p r = q from ⟨c, e⟩)]; omega
    · rw [if_neg e, if_neg (show ¬ (B.testBit q = true ∧ mL m p r = q) from fun w => e w.2)]; omega
  · rw [if_neg c, if_neg c, if_neg (fun w => c w.1)]
theorem pX_b {m : MoT} {B p r q : Nat} (hO : MO m) (hr : r ≤ mR m p) : (pX m B p r q).natAbs ≤ 10 := by
  have h3 := hO.2.2.2.2.1 p
  have := rto_b m p q r
  unfold pX
  split
  · split <;> omega
  · decide
theorem rW_0 {m : MoT} {B p q : Nat} (hB : B.testBit p = true) (hR : 0 < mR m p) (hq : q < 6) : F00 p q = rW m B p 0 0 q := by
  unfold F00 rW pX
  rw [if_pos hq, show rto m p q 0 = 0 from rfl]
  by_cases e : q = p
  · subst e
    rw [if_pos rfl, if_pos hB, if_pos rfl]
    exact nf_e (by omega) (by omega) (by omega)
  · rw [if_neg e]
    have : (if B.testBit q = true then (if p = q then (mR m p : Int) else 0) - ((0 : Nat) : Int) else 0) = 0 := by
      split
      · rw [if_neg (fun w => e w.symm)]; rfl
      · rfl
    rw [this]
    exact nf_e (by omega) (by omega) (by omega)
theorem r_ch181 {m : MoT} {a B p : Nat} {y3 y4 : Int32} {h0 : abJ} {F : Nat → Nat → Int × Int} {K : Int32 → Int32 → Int32 → Int32 → Int32 → abJ → Option (Int64 × abJ)} {Q : Int64 × abJ → Prop} (hO : MO m) (hM0 : rM m (h0.1 65)) (ha : a < 6) (hB : B < 64) (haB : B.testBit a = false) (hp : p ∈ aL B) (hR0 : 0 < mR m p) (hK : ∀ h, RQ r6 (fun p' q' => if p' = p then rW m B p (mR m p) (rto m p a (mR m p)) q' else F p' q') h → frR [] [] [80, 81] h0 h → Ok (K (nI a) y3 y4 (nI (2 ^ a ||| B)) (nI (p + 1)) h) Q) : ∀ (j N r : Nat) (h : abJ), r + j = mR m p → j < N → RQ r6 (fun p' q' => if p' = p then rW m B p r (rto m p a r) q' else F p' q') h → frR [] [] [80, 81] h0 h → Ok (fX12_chance_L181 K N (nI a) y3 y4 (nI (2 ^ a ||| B)) (nI p) (nI (mR m p)) (nI r) h) Q := by
  have p6 := (aL_m.mp hp).1
  have h3 := hO.2.2.2.2.1 p
  have h6 := hO.2.1
  have h2a : 2 ^ a ||| B < 64 := Nat.or_lt_two_pow (n := 6) (Nat.pow_lt_pow_right (by omega) ha) hB
  intro j
  induction j with
  | zero =>
    intro N r h hr hN hR hfr
    obtain ⟨N, rfl⟩ : ∃ n0, N = n0 + 1 := ⟨N - 1, by omega⟩
    rw [fX12_chance_L181]
    refine Ok.pos (by rw [nI_leI (by omega) (by omega)]; omega) ?_
    unfold fX12_chance_J344
    rw [nI_1]
    have e : r = mR m p := by omega
    subst e
    exact hK h hR hfr
  | succ j ih =>
    intro N r h hr hN hR hfr
    obtain ⟨N, rfl⟩ : ∃ n0, N = n0 + 1 := ⟨N - 1, by omega⟩
    have hl := hO.2.2.2.2.2.2.1 p r
    have hM : rM m (h.1 65) := by rw [hfr.1 65 (by simp) (by decide)]; exact hM0
    have eR : (nI (mR m p)).toInt64 = iL (mR m p : Int) := i64_n (by omega)
    rw [fX12_chance_L181, r_roadOf hM (by omega) (by omega) h3, ab_bindS, eR]
    refine Ok.neg (by rw [nI_leI (by omega) (by omega)]; omega) ?_
    unfold fX12_chance_J338
    rw [nI_1]
    have hra := rto_b m p a r
    by_cases e : mL m p r = a
    · refine Ok.pos (by rw [e]) ?_
      rw [show (7 : Int32) = nI 7 from rfl, show (6 : Int32) = nI 6 from rfl, pk_mul, show nI (7 * p) + nI 6 = nI (7 * p + 6) from nI_add _ _, nI_clamp (by omega)]
      have key := r_one (X := (rto m p a r : Int)) (R := (mR m p : Int)) (s := 1) hR p6 (show 6 < 7 by omega) (by rw [if_pos rfl]; rfl) (by omega) ⟨by omega, by omega⟩ (Or.inl rfl)
      rw [show iL 1 * h.2 81 (7 * p + 6) = h.2 81 (7 * p + 6) from Int64.one_mul _] at key
      rw [key, ab_bindS]
      refine Ok.ask (ixN (by omega) (by omega)) (Ok.ask (ixN (by omega) (by omega)) (Ok.ask (ixN (by omega) (by omega)) ?_))
      refine ih N (r + 1) _ (by omega) (by omega) (fun p' q' w1 w2 => ?_) (frR_t hfr (lay81 h _ _ _))
      have := RQ_l (v := nf ((rto m p a r : Int) + 1) (mR m p)) r6_6 hR (r6_m.mpr p6) (show 6 < 7 by omega) p' q' w1 w2
      unfold upF at this
      dsimp only at this ⊢
      by_cases ep : p' = p
      · subst ep
        rw [if_pos rfl]
        by_cases eq : q' = 6
        · subst eq
          rw [if_pos ⟨rfl, rfl⟩] at this
          unfold rW
          rw [if_neg (by omega), rto_s, if_pos e]
          exact this
        · rw [if_neg (fun w => eq w.2), if_pos rfl] at this
          unfold rW at this ⊢
          rw [if_pos (by omega)] at this ⊢
          rw [pX_s, if_neg (fun w => by have h1 := w.1; rw [← w.2, e, haB] at h1; cases h1)]
          exact this
      · rw [if_neg (fun w => ep w.1), if_neg ep] at this
        rw [if_neg ep]; exact this
    · refine Ok.neg (by rw [nI_eq (by omega) (by omega)]; exact e) ?_
      have ebit : (2 ^ a ||| B).testBit (mL m p r) = B.testBit (mL m p r) := by
        rw [Nat.testBit_or, Nat.testBit_two_pow, decide_eq_false (fun w => e w.symm), Bool.false_or]
      have era : rto m p a (r + 1) = rto m p a r := by rw [rto_s, if_neg e, Nat.add_zero]
      rw [r_isIn h h2a (by omega), ab_bindS, ebit]
      by_cases c : B.testBit (mL m p r) = true
      · rw [c]
        refine Ok.neg (by decide) ?_
        rw [show (7 : Int32) = nI 7 from rfl, pk_mul, show nI (7 * p) + nI (mL m p r) = nI (7 * p + mL m p r) from nI_add _ _, nI_clamp (by omega)]
        have key := r_one (X := pX m B p r (mL m p r)) (R := (mR m p : Int)) (s := -1) hR p6 (show mL m p r < 7 by omega) (by rw [if_pos rfl]; unfold rW; rw [if_pos (by omega)]) (pX_b hO (by omega)) ⟨by omega, by omega⟩ (Or.inr rfl)
        rw [show h.2 80 (7 * p + mL m p r) * iL (mR m p : Int) + iL (-1) * h.2 81 (7 * p + mL m p r) = h.2 80 (7 * p + mL m p r) * iL (mR m p : Int) - h.2 81 (7 * p + mL m p r) by rw [Int64.sub_eq_add_neg, show iL (-1) = -1 from rfl, ← Int64.neg_eq_neg_one_mul]] at key
        rw [key, ab_bindS]
        refine Ok.ask (ixN (by omega) (by omega)) (Ok.ask (ixN (by omega) (by omega)) (Ok.ask (ixN (by omega) (by omega)) ?_))
        refine ih N (r + 1) _ (by omega) (by omega) (fun p' q' w1 w2 => ?_) (frR_t hfr (lay81 h _ _ _))
        have := RQ_l (v := nf (pX m B p r (mL m p r) + -1) (mR m p)) r6_6 hR (r6_m.mpr p6) (show mL m p r < 7 by omega) p' q' w1 w2
        unfold upF at this
        dsimp only at this ⊢
        by_cases ep : p' = p
        · subst ep
          rw [if_pos rfl, era]
          by_cases eq : q' = mL m p' r
          · rw [if_pos ⟨rfl, eq⟩] at this
            unfold rW
            rw [if_pos (by omega), pX_s, if_pos ⟨by rw [eq]; exact c, eq.symm⟩, eq]
            rw [eq] at this
            exact this
          · rw [if_neg (fun w => eq w.2), if_pos rfl] at this
            unfold rW at this ⊢
            by_cases e6 : q' < 6
            · rw [if_pos e6] at this ⊢
              rw [pX_s, if_neg (fun w => eq w.2.symm)]
              exact this
            · rw [if_neg e6] at this ⊢; exact this
        · rw [if_neg (fun w => ep w.1), if_neg ep] at this
          rw [if_neg ep]; exact this
      · rw [show B.testBit (mL m p r) = false by simpa using c]
        refine Ok.pos (by decide) (ih N (r + 1) h (by omega) (by omega) (fun p' q' w1 w2 => ?_) hfr)
        have := hR p' q' w1 w2
        dsimp only at this ⊢
        by_cases ep : p' = p
        · subst ep
          rw [if_pos rfl] at this
          rw [if_pos rfl, era]
          unfold rW at this ⊢
          by_cases e6 : q' < 6
          · rw [if_pos e6] at this ⊢
            rw [pX_s, if_neg (fun w => c (by rw [w.2]; exact w.1))]
            exact this
          · rw [if_neg e6] at this ⊢; exact this
        · rw [if_neg ep] at this
          rw [if_neg ep]; exact this
theorem r_me183 {m : MoT} {B p : Nat} {y1 y3 : Int32} {h0 : abJ} {F : Nat → Nat → Int × Int} {K : Int32 → Int32 → Int32 → abJ → Option (Int64 × abJ)} {Q : Int64 × abJ → Prop} (hO : MO m) (hM0 : rM m (h0.1 65)) (hp : p ∈ aL B) (hR0 : 0 < mR m p) (hrs : ∀ r, r < mR m p → B.testBit (mL m p r) = !rs m (mL m p r)) (hK : ∀ h, RQ r6 (fun p' q' => if p' = p then rW m B p (mR m p) (mR m p) q' else F p' q') h → frR [] [] [80, 81] h0 h → Ok (K y1 y3 (nI (p + 1)) h) Q) : ∀ (j N r : Nat) (h : abJ), r + j = mR m p → j < N → RQ r6 (fun p' q' => if p' = p then rW m B p r (mR m p) q' else F p' q') h → frR [] [] [80, 81] h0 h → Ok (fX12_mean_L183 K N y1 y3 (nI p) (nI (mR m p)) (nI r) h) Q := by
  have p6 := (aL_m.mp hp).1
  have h3 := hO.2.2.2.2.1 p
  have h6 := hO.2.1
  intro j
  induction j with
  | zero =>
    intro N r h hr hN hR hfr
    obtain ⟨N, rfl⟩ : ∃ n0, N = n0 + 1 := ⟨N - 1, by omega⟩
    rw [fX12_mean_L183]
    refine Ok.pos (by rw [nI_leI (by omega) (by omega)]; omega) ?_
    unfold fX12_mean_J275
    rw [nI_1]
    have e : r = mR m p := by omega
    subst e
    exact hK h hR hfr
  | succ j ih =>
    intro N r h hr hN hR hfr
    obtain ⟨N, rfl⟩ : ∃ n0, N = n0 + 1 := ⟨N - 1, by omega⟩
    have hl := hO.2.2.2.2.2.2.1 p r
    have hM : rM m (h.1 65) := by rw [hfr.1 65 (by simp) (by decide)]; exact hM0
    have eR : (nI (mR m p)).toInt64 = iL (mR m p : Int) := i64_n (by omega)
    rw [fX12_mean_L183, r_roadOf hM (by omega) (by omega) h3, ab_bindS, eR, r_isRest hO hM (by omega), ab_bindS]
    refine Ok.neg (by rw [nI_leI (by omega) (by omega)]; omega) ?_
    unfold fX12_mean_J269
    rw [nI_1]
    have hb := hrs r (by omega)
    by_cases c : rs m (mL m p r) = true
    · rw [c]
      rw [c] at hb
      refine Ok.neg (by decide) (ih N (r + 1) h (by omega) (by omega) (fun p' q' w1 w2 => ?_) hfr)
      have := hR p' q' w1 w2
      dsimp only at this ⊢
      by_cases ep : p' = p
      · subst ep
        rw [if_pos rfl] at this
        rw [if_pos rfl]
        unfold rW at this ⊢
        by_cases e6 : q' < 6
        · rw [if_pos e6] at this ⊢
          rw [pX_s, if_neg (fun w => by have h1 := w.1; rw [← w.2, hb] at h1; cases h1)]
          exact this
        · rw [if_neg e6] at this ⊢; exact this
      · rw [if_neg ep] at this
        rw [if_neg ep]; exact this
    · have c' : rs m (mL m p r) = false := by simpa using c
      rw [c'] at hb
      rw [c']
      refine Ok.pos (by decide) ?_
      rw [show (7 : Int32) = nI 7 from rfl, pk_mul, show nI (7 * p) + nI (mL m p r) = nI (7 * p + mL m p r) from nI_add _ _, nI_clamp (by omega)]
      have key := r_one (X := pX m B p r (mL m p r)) (R := (mR m p : Int)) (s := -1) hR p6 (show mL m p r < 7 by omega) (by rw [if_pos rfl]; unfold rW; rw [if_pos (by omega)]) (pX_b hO (by omega)) ⟨by omega, by omega⟩ (Or.inr rfl)
      rw [show h.2 80 (7 * p + mL m p r) * iL (mR m p : Int) + iL (-1) * h.2 81 (7 * p + mL m p r) = h.2 80 (7 * p + mL m p r) * iL (mR m p : Int) - h.2 81 (7 * p + mL m p r) by rw [Int64.sub_eq_add_neg, show iL (-1) = -1 from rfl, ← Int64.neg_eq_neg_one_mul]] at key
      rw [key, ab_bindS]
      refine Ok.ask (ixN (by omega) (by omega)) (Ok.ask (ixN (by omega) (by omega)) (Ok.ask (ixN (by omega) (by omega)) ?_))
      refine ih N (r + 1) _ (by omega) (by omega) (fun p' q' w1 w2 => ?_) (frR_t hfr (lay81 h _ _ _))
      have := RQ_l (v := nf (pX m B p r (mL m p r) + -1) (mR m p)) r6_6 hR (r6_m.mpr p6) (show mL m p r < 7 by omega) p' q' w1 w2
      unfold upF at this
      dsimp only at this ⊢
      by_cases ep : p' = p
      · subst ep
        rw [if_pos rfl]
        by_cases eq : q' = mL m p' r
        · rw [if_pos ⟨rfl, eq⟩] at this
          unfold rW
          rw [if_pos (by omega), pX_s, if_pos ⟨by rw [eq]; exact hb, eq.symm⟩, eq]
          rw [eq] at this
          exact this
        · rw [if_neg (fun w => eq w.2), if_pos rfl] at this
          unfold rW at this ⊢
          by_cases e6 : q' < 6
          · rw [if_pos e6] at this ⊢
            rw [pX_s, if_neg (fun w => eq w.2.symm)]
            exact this
          · rw [if_neg e6] at this ⊢; exact this
      · rw [if_neg (fun w => ep w.1), if_neg ep] at this
        rw [if_neg ep]; exact this
theorem r_solved {m : MoT} {B wk : Nat} {b : Nat → Int} {k : Nat → Nat} {h : abJ} (hO : MO m) (hk : rkd m (aL B) k) (hb : ∀ p, p ∈ aL B → 0 ≤ b p ∧ b p ≤ 3) (h82 : isA (aL B) h) (hR : ∀ p q, p ∈ aL B → q < 7 → h.2 80 (7 * p + q) = iL (rW m B p (mR m p) (b p) q).1 ∧ h.2 81 (7 * p + q) = iL (rW m B p (mR m p) (b p) q).2) (hw : wk ∈ aL B) : Ok (fX12_solves h) (fun h' => h'.2 80 (7 * wk + 6) = iL (nf ((eRun (aL B) 1 (M0 m B b (wt4 k))).2 wk 6) (eRun (aL B) 1 (M0 m B b (wt4 k))).1).1 ∧ h'.2 81 (7 * wk + 6) = iL (nf ((eRun (aL B) 1 (M0 m B b (wt4 k))).2 wk 6) (eRun (aL B) 1 (M0 m B b (wt4 k))).1).2 ∧ frR [] [] [80, 81] h h') := by
  obtain ⟨hE, h5⟩ := EI_0 hO hk hb
  have hA6 : ∀ i, i ∈ aL B → i < 6 := fun i hi => (aL_m.mp hi).1
  unfold fX12_solves
  refine (r_sol2 (B := B) (w := wt4 k) hA6 (fun p hp => ⟨fun q => (aL_m.mp q).2, fun q => aL_m.mpr ⟨hp, q⟩⟩) h82 6 ab_N 0 5 1 (M0 m B b (wt4 k)) [] (fun p => (mR m p : Int)) h (by omega) (by unfold ab_N; omega) hE (fun q hq => ?_) (fun q hq => by cases hq) (fun p q hp hq => ?_) (frR_r _ _ _ _)).mono (fun h' hr => ?_)
  · obtain ⟨_, _, r, c, _⟩ := hk q hq
    have := hO.2.2.2.2.1 q
    omega
  · have := hR p q hp hq
    unfold FF M0
    unfold rW at this
    rw [Int.one_mul]
    by_cases e6 : q < 6
    · rw [if_pos e6] at this ⊢
      have em : pX m B p (mR m p) q = mE m B p q := by
        unfold pX mE
        by_cases c : B.testBit q = true
        · rw [if_pos c, if_pos (show q < 6 ∧ B.testBit q = true from ⟨e6, c⟩)]
        · rw [if_neg c, if_neg (fun w => c w.2)]
      rw [em] at this
      exact this
    · rw [if_neg e6] at this ⊢
      rw [if_pos (by omega)]
      exact this
  · have := hr.1 wk 6 hw (by omega)
    unfold FF at this
    rw [Int.mul_one] at this
    exact ⟨this.1, this.2, hr.2⟩
