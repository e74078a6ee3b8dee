/-! undo; trays: numbers, write. -/
theorem gtake {U : List StT} {k i : Nat} (h : i < k) : (U.take k).getD i s00 = U.getD i s00 := by
  rw [List.getD_eq_getElem?_getD, List.getD_eq_getElem?_getD, List.getElem?_take_of_lt h]
theorem r_undo_L {N : Nat} (hN : N ≤ 9) : ∀ (k n j : Nat) (h : abJ), j + k = 9 → k < n → h.1 65 42 = nI N → Ok (fX12_undo_L44 n (nI j) h) (fun r => r.1 = nI N ∧ (∀ q, j ≤ q → q < 9 → r.2.1 65 (33 + q) = h.1 65 (43 + 9 * N + q)) ∧ (∀ q, q < 33 + j ∨ 41 < q → r.2.1 65 q = h.1 65 q) ∧ fr [65] [] h r.2) := by
  intro k
  induction k with
  | zero =>
    intro n j h hj hn h42
    obtain ⟨n, rfl⟩ : ∃ n0, n = n0 + 1 := ⟨n - 1, by omega⟩
    rw [fX12_undo_L44, h42]
    exact Ok.pos (by rw [show (9 : Int32) = nI 9 from rfl, nI_leI (by omega) (by omega)]; omega) (Ok.some ⟨rfl, fun q h1 h2 => by omega, fun _ _ => rfl, fr_r _ _ _⟩)
  | succ k ih =>
    intro n j h hj hn h42
    obtain ⟨n, rfl⟩ : ∃ n0, n = n0 + 1 := ⟨n - 1, by omega⟩
    rw [fX12_undo_L44, h42]
    refine Ok.neg (by rw [show (9 : Int32) = nI 9 from rfl, nI_leI (by omega) (by omega)]; omega) ?_
    rw [show (43 : Int32) = nI 43 from rfl, show (33 : Int32) = nI 33 from rfl, show (9 : Int32) = nI 9 from rfl, pk_mul, nI_add, nI_add, nI_add, nI_clamp (by omega), nI_clamp (by omega), nI_1]
    refine Ok.ask (ixN (by omega) (by omega)) (Ok.ask (ixN (by omega) (by omega)) ?_)
    refine (ih n (j + 1) _ (by omega) (by omega) (by rw [ab_w1k (by omega)]; exact h42)).mono (fun r hr => ⟨hr.1, fun q h1 h2 => ?_, fun q hq => ?_, fr_t (fr_w (fr_r _ _ _) (by simp)) hr.2.2.2⟩)
    · by_cases e : q = j
      · subst e; rw [hr.2.2.1 (33 + q) (by omega), ab_w1e]
      · rw [hr.2.1 q (by omega) h2, ab_w1k (by omega)]
    · rw [hr.2.2.1 q (by omega), ab_w1k (by omega)]
theorem call_undo (x : Int32) : call2 (fX11_undo x) (fX12_undo x) := by
  intro A hW
  have h10 := hW.2.2.1.1
  by_cases cx : x < nI 1 ∨ nI 10 < x ∨ nI (aU A).length < x
  · refine call2_no (v := -3) hW (fun h hR => ?_) (fun h hR => ?_)
    · unfold fX11_undo
      rw [hR.2.2.2.2.1.1]
      by_cases c1 : x < 1
      · exact Ok.pos c1 (Ok.some ⟨rfl, hR, abv_r _⟩)
      refine Ok.neg c1 ?_
      by_cases c2 : 10 < x
      · exact Ok.pos c2 (Ok.some ⟨rfl, hR, abv_r _⟩)
      exact Ok.neg c2 (Ok.neg (by rw [Int32.not_le]; exact (cx.resolve_left c1).resolve_left c2) (Ok.some ⟨rfl, hR, abv_r _⟩))
    · obtain ⟨hR0, b0⟩ := RR0 hR
      unfold fX12_undo
      rw [r_win _ (a := nI 1) (b := nI 10) (A := 1) (B := 10) rfl rfl, ab_bindS]
      by_cases c1 : x < nI 1 ∨ nI 10 < x
      · rw [decide_eq_true c1]
        exact Ok.pos rfl (Ok.some ⟨rfl, hR0, b0⟩)
      · rw [decide_eq_false c1]
        refine Ok.neg (by decide) ?_
        have c2 : nI (aU A).length < x := by
          rcases cx with q | q | q
          · exact absurd (Or.inl q) c1
          · exact absurd (Or.inr q) c1
          · exact q
        rw [hR0.2.2.1.1]
        exact Ok.neg (by rw [Int32.not_le]; exact c2) (Ok.some ⟨rfl, hR0, b0⟩)
  obtain ⟨n, hn, rfl⟩ : ∃ N, N < 2 ^ 31 ∧ x = nI N := nI_of (fun q => cx (Or.inl (Int32.lt_trans q (by decide))))
  rw [nI_ltI (by omega) (by omega), nI_ltI (by omega) (by omega), nI_ltI (by omega) (by omega)] at cx
  have hk : (aU A).length - n < (aU A).length := by omega
  have hsu := hW.2.2.1.2 _ hk
  have hlen : ((aU A).take ((aU A).length - n)).length = (aU A).length - n := by rw [List.length_take]; omega
  generalize hK : (aU A).length - n = K at *
  refine ⟨nI K, upU (upS A ((aU A).getD K s00)) ((aU A).take K), ⟨hW.1, hsu, ⟨by show ((aU A).take K).length ≤ 10; omega, fun i hi => ?_⟩, hW.2.2.2⟩, fun h hR => ?_, fun h hR => ?_⟩
  · have hi : i < ((aU A).take K).length := hi
    show SO (aM A) (((aU A).take K).getD i s00)
    rw [gtake (by omega)]
    exact hW.2.2.1.2 i (by omega)
  · unfold fX11_undo
    rw [hR.2.2.2.2.1.1]
    refine Ok.neg (by rw [show (1 : Int32) = nI 1 from rfl, nI_ltI (by omega) (by omega)]; omega) (Ok.neg (by rw [show (10 : Int32) = nI 10 from rfl, nI_ltI (by omega) (by omega)]; omega) (Ok.pos (by rw [nI_leI (by omega) (by omega)]; omega) ?_))
    unfold fX0_takeBack
    rw [hR.2.2.2.2.1.1, if_neg (by rw [show (1 : Int32) = nI 1 from rfl, nI_ltI (by omega) (by omega)]; omega), if_neg (by rw [nI_ltI (by omega) (by omega)]; omega), pk_sub (by omega), hK, ab_w1e, nI_clamp (by omega), ab_askP (ixN (by omega) (by omega)), ab_pa_n (by omega)]
    have f1 : fr [16] [] h (ab_wI h 16 6 (nI K)) := fr_w (fr_r _ _ _) (by simp)
    refine Ok.bind (P := fun h2 => cS ((aU A).getD K s00) 12 h2 ∧ fr [12] [] (ab_wI h 16 6 (nI K)) h2) (Ok.bind (c_copy (by omega) (cS_fr (hR.2.2.2.2.1.2 K hk).1 f1 (by simp; omega))) (fun r hr => Ok.some hr)) (fun h2 hr => ?_)
    have f2 : fr [12, 16] [] h h2 := fr_t (fr_m f1 (by simp) (by simp)) (fr_m hr.2 (by simp) (by simp))
    have e16 : h2.1 16 6 = nI K := by rw [hr.2.1 16 (by decide), ab_w1e]
    refine Ok.some ⟨e16, ⟨cM_fr hR.1 f2 (by decide) (by decide) (by decide) (by decide), hr.1, cK_fr hR.2.2.1 f2 (by decide) (by decide), rdy_fr (hR.2.2.2.2.1.2 K hk).2 f2 (by decide), ⟨?_, fun i hi => ?_⟩, ?_⟩, abv_fr f2 (by decide) (by simp)⟩
    · show h2.1 16 6 = nI ((aU A).take K).length
      rw [hlen]; exact e16
    · have hi : i < ((aU A).take K).length := hi
      show cS (((aU A).take K).getD i s00) (20 + i) h2 ∧ rdy (aM A) (sF (((aU A).take K).getD i s00)) h2
      rw [gtake (by omega)]
      exact ⟨cS_fr (hR.2.2.2.2.1.2 i (by omega)).1 f2 (by simp; omega), rdy_fr (hR.2.2.2.2.1.2 i (by omega)).2 f2 (by decide)⟩
    · exact cRest_eq (A := A) (RC_rest hR) (fun o ho => f2.1 o (by revert ho; revert o; decide)) (fun o ho => f2.2 o (by simp))
  · obtain ⟨hR0, b0⟩ := RR0 hR
    unfold fX12_undo
    rw [r_win _ (a := nI 1) (b := nI 10) (A := 1) (B := 10) rfl rfl, ab_bindS, decide_eq_false (by rw [nI_ltI (by omega) (by omega), nI_ltI (by omega) (by omega)]; omega)]
    refine Ok.neg (by decide) ?_
    rw [hR0.2.2.1.1]
    refine Ok.pos (by rw [nI_leI (by omega) (by omega)]; omega) ?_
    rw [pk_sub (by omega), hK]
    refine (r_undo_L (N := K) (by omega) 9 ab_N 0 _ (by omega) (by unfold ab_N; omega) (ab_w1e _ _ _ _)).mono (fun r hr => ?_)
    obtain ⟨q1, q2, q3, q4⟩ := hr
    have e65 : ∀ q, q < 33 ∨ 42 < q → r.2.1 65 q = (ab_wI h 64 0 0).1 65 q := fun q hq => by rw [q3 q (by omega), ab_w1k (by omega)]
    have ff : frR sk1 sc65 [80, 81] (ab_wI h 64 0 0) r.2 := frR_m (frR_o (K := []) (fr_t (fr_w (fr_r _ _ _) (by simp)) q4) (by decide)) (by simp) (by decide) (by simp)
    refine ⟨q1, ⟨rM_eq hW.1 hR0.1 (fun q hq => e65 q (by omega)), ?_, ⟨?_, fun i hi => ?_⟩, ?_⟩, blw_t b0 (blw_fr ff (by decide) (by decide))⟩
    · refine rS_eq (hR0.2.2.1.2 K hk) (fun q hq => ?_)
      show r.2.1 65 (33 + q) = _
      rw [q2 q (by omega) hq, ab_w1k (by omega)]
    · show r.2.1 65 42 = nI ((aU A).take K).length
      rw [hlen, q3 42 (by omega), ab_w1e]
    · have hi : i < ((aU A).take K).length := hi
      show rS (((aU A).take K).getD i s00) _
      rw [gtake (by omega)]
      exact rS_eq (hR0.2.2.1.2 i (by omega)) (fun q hq => e65 _ (by omega))
    · refine rRest_eq (A := A) (RR_rest hR0) (fun q hq => e65 q (by omega)) (fun o ho => ff.1 o ?_ (by omega)) (fun k hk => ff.2.1 k ?_) (ff.2.2 87 (by decide))
      · rcases ho with e | e | e | e <;> subst e <;> decide
      · rcases hk with e | e | e <;> subst e <;> decide
/-! Trays. -/
def upY (A : AbT) (j : Nat) (t : TrT) : AbT := (A.1, A.2.1, A.2.2.1, A.2.2.2.1, A.2.2.2.2.1, A.2.2.2.2.2.1, fun i => if i = j then t else A.2.2.2.2.2.2 i)
theorem aY_s {A : AbT} {j : Nat} {t : TrT} : aY (upY A j t) j = t := if_pos rfl
theorem aY_n {A : AbT} {i j : Nat} {t : TrT} (h : i ≠ j) : aY (upY A j t) i = aY A i := if_neg h
theorem WF_Y {A : AbT} {j s n : Nat} {f : Nat → Int64} (hW : WF A) (hs : s ≤ 3) (hn : n ≤ 40) : WF (upY A j (some (s, n, f))) := by
  refine ⟨hW.1, hW.2.1, hW.2.2.1, hW.2.2.2.1, hW.2.2.2.2.1, fun i t hi e => ?_⟩
  by_cases c : i = j
  · subst c
    rw [aY_s] at e
    cases e
    exact ⟨hs, hn⟩
  · rw [aY_n c] at e
    exact hW.2.2.2.2.2 i t hi e
theorem RC_Y {A : AbT} {j : Nat} {t : TrT} {h h' : abJ} (hW : WF A) (hR : RC A h) (hj : j < 4) (ht : cY t j h') (e1 : ∀ o, o ≠ 44 + 2 * j → h'.1 o = h.1 o) (e2 : ∀ o, o ≠ 45 + 2 * j → h'.2 o = h.2 o) : RC (upY A j t) h' := by
  obtain ⟨r1, r2, r3, r4, r5, r6, r7, r8, r9⟩ := hR
  have c9 := e1 9 (by omega)
  have c11 := e1 11 (by omega)
  have c14 := e1 14 (by omega)
  refine ⟨?_, ?_, ?_, ?_, ⟨?_, fun i hi => ⟨?_, ?_⟩⟩, fun i hi => ?_, ⟨?_, fun k hk => ?_⟩, ⟨?_, ?_⟩, fun i hi => ?_⟩
  · unfold cM; rw [e1 1 (by omega), e1 (1 + 1) (by omega), e1 (1 + 2) (by omega), e1 (1 + 3) (by omega)]; exact r1
  · unfold cS; rw [e1 12 (by omega)]; exact r2
  · unfold cK rdy; rw [e1 13 (by omega), c14]; exact r3
  · unfold rdy; rw [c14]; exact r4
  · rw [e1 16 (by omega)]; exact r5.1
  · have hl := hW.2.2.1.1
    have hi : i < (aU A).length := hi
    unfold cS; rw [e1 (20 + i) (by omega)]; exact (r5.2 i hi).1
  · unfold rdy; rw [c14]; exact (r5.2 i hi).2
  · have := r6 i hi
    unfold cI cM cS at this ⊢
    rw [e1 (54 + 5 * i) (by omega), e1 (54 + 5 * i + 1) (by omega), e1 (54 + 5 * i + 2) (by omega), e1 (54 + 5 * i + 3) (by omega), e1 (58 + 5 * i) (by omega)]; exact this
  · rw [c9]; exact r7.1
  · rw [c11]; exact r7.2 k hk
  · rw [c9]; exact r8.1
  · rw [c9]; exact r8.2
  · by_cases c : i = j
    · subst c
      rw [aY_s]; exact ht
    · rw [aY_n c]
      have := r9 i hi
      unfold cY at this ⊢
      rw [e1 (44 + 2 * i) (by omega), e2 (45 + 2 * i) (by omega)]; exact this
theorem RR_Y {A : AbT} {j : Nat} {t : TrT} {h h' : abJ} (hR : RR A h) (hj : j < 4) (ht : rY t j h') (e1 : ∀ o, o ≠ 85 → o ≠ 86 → h'.1 o = h.1 o) (e2 : ∀ i, i ≠ j → h'.1 85 i = h.1 85 i ∧ h'.1 86 i = h.1 86 i) (e3 : ∀ q, q < 40 * j ∨ 40 * j + 40 ≤ q → h'.2 87 q = h.2 87 q) (hw : ∀ i t, i < 4 → aY A i = some t → t.2.1 ≤ 40) : RR (upY A j t) h' := by
  obtain ⟨r1, r2, r3, r4, r5, r6, r7⟩ := hR
  have c65 := e1 65 (by omega) (by omega)
  have c66 := e1 66 (by omega) (by omega)
  have c67 := e1 67 (by omega) (by omega)
  have c64 := e1 64 (by omega) (by omega)
  refine ⟨?_, ?_, ⟨?_, fun i hi => ?_⟩, fun i hi => ?_, ⟨?_, fun k hk => ?_⟩, ⟨?_, ?_⟩, fun i hi => ?_⟩
  · rw [c65]; exact r1
  · rw [c65]; exact r2
  · rw [c65]; exact r3.1
  · rw [c65]; exact r3.2 i hi
  · have := r4 i hi
    unfold rI at this ⊢
    rw [c65, c66]; exact this
  · rw [c64]; exact r5.1
  · rw [c67]; exact r5.2 k hk
  · rw [c64]; exact r6.1
  · rw [c64]; exact r6.2
  · by_cases c : i = j
    · subst c
      rw [aY_s]; exact ht
    · rw [aY_n c]
      have := r7 i hi
      have hwi := hw i
      cases e : aY A i with
      | none =>
        rw [e] at this
        show h'.1 85 i = _
        rw [(e2 i c).1]; exact this
      | some t =>
        rw [e] at this
        have h40 := hwi t hi e
        refine ⟨by rw [(e2 i c).1]; exact this.1, by rw [(e2 i c).2]; exact this.2.1, fun k hk => ?_⟩
        rw [e3 _ (by omega)]; exact this.2.2 k hk
theorem c_noTray {j : Nat} (h : abJ) (hj : j < 4) : fX11_noTray (nI j) h = some (nI 0) := by
  unfold fX11_noTray
  rw [if_neg (by rw [show (0 : Int32) = nI 0 from rfl, nI_ltI (by omega) (by omega)]; omega), if_pos (by rw [show (4 : Int32) = nI 4 from rfl, nI_ltI (by omega) (by omega)]; exact hj)]; rfl
theorem c_noTray_n {x : Int32} (h : abJ) (hx : x < 0 ∨ nI 4 ≤ x) : fX11_noTray x h = some (nI 1) := by
  unfold fX11_noTray
  by_cases c : x < 0
  · rw [if_pos c]; rfl
  · rw [if_neg c, if_neg (by rw [Int32.not_lt]; exact hx.resolve_left c)]; rfl
theorem r_w03 {j n : Nat} (h : abJ) (hj : j < 2 ^ 31) (hn : n < 2 ^ 31) {B : Int64} (hB : B = (nI n).toInt64) : fX12_within ((nI j).toInt64) 0 B h = some (bI (decide (j ≤ n))) := by
  rw [r_win h (a := nI 0) (b := nI n) (A := 0) rfl hB]
  congr 2
  by_cases c : j ≤ n
  · rw [decide_eq_true c, decide_eq_false (by rw [nI_ltI (by omega) (by omega), nI_ltI (by omega) (by omega)]; omega)]; rfl
  · rw [decide_eq_false c, decide_eq_true (by rw [nI_ltI (by omega) (by omega), nI_ltI (by omega) (by omega)]; omega)]; rfl
theorem r_w03n {x : Int32} {B : Int64} {n : Nat} (h : abJ) (hB : B = (nI n).toInt64) (hx : x < 0 ∨ nI n < x) : fX12_within x.toInt64 0 B h = some (nI 0) := by
  rw [r_win h (a := nI 0) (b := nI n) (A := 0) rfl hB, decide_eq_true (show x < nI 0 ∨ nI n < x from hx)]; rfl
theorem x_ge {x : Int32} {n : Nat} (hn : n + 1 < 2 ^ 31) (hx : x < 0 ∨ nI (n + 1) ≤ x) : x < 0 ∨ nI n < x := by
  rcases hx with hx | hx
  · exact Or.inl hx
  · exact Or.inr (Int32.lt_of_lt_of_le (by rw [nI_ltI (by omega) (by omega)]; omega) hx)
theorem ab_tr_n {j : Nat} (h : j < 2 ^ 31) : ab_tr (nI j) = 44 + 2 * j := by unfold ab_tr; rw [nI_clamp h]
theorem ab_ln_y {j : Nat} (h : j < 4) : ab_ln (44 + 2 * j + 1) = 40 := by
  have cs : j = 0 ∨ j = 1 ∨ j = 2 ∨ j = 3 := by omega
  rcases cs with e | e | e | e <;> subst e <;> decide
theorem c_fillY {o : Nat} (ho : ab_ln o = 40) : ∀ (k n i : Nat) (h : abJ), i + k = 40 → k < n → Ok (fJ7_fill_d0a16_L6 o n 0 (nI i) (nI 40) h) (fun h' => (∀ q, i ≤ q → q < 40 → h'.2 o q = 0) ∧ (∀ q, q < i → h'.2 o q = h.2 o q) ∧ fr [] [o] h h') := by
  intro k
  induction k with
  | zero =>
    intro n i h hi hn
    obtain ⟨n, rfl⟩ : ∃ n0, n = n0 + 1 := ⟨n - 1, by omega⟩
    rw [fJ7_fill_d0a16_L6]
    exact Ok.pos (by rw [nI_leI (by omega) (by omega)]; omega) (Ok.some ⟨fun q h1 h2 => by omega, fun _ _ => rfl, fr_r _ _ _⟩)
  | succ k ih =>
    intro n i h hi hn
    obtain ⟨n, rfl⟩ : ∃ n0, n = n0 + 1 := ⟨n - 1, by omega⟩
    rw [fJ7_fill_d0a16_L6, ho, nI_clamp (by omega), nI_1]
    refine Ok.neg (by rw [nI_leI (by omega) (by omega)]; omega) (Ok.ask (ixN (by omega) (by omega)) ?_)
    refine (ih n (i + 1) _ (by omega) (by omega)).mono (fun h' hr => ⟨fun q h1 h2 => ?_, fun q hq => ?_, fr_t (fr_v (fr_r _ _ _) (by simp)) hr.2.2⟩)
    · by_cases e : q = i
      · subst e; rw [hr.2.1 q (by omega), ab_v2e]
      · exact hr.1 q (by omega) h2
    · rw [hr.2.1 q (by omega), ab_v2k (by omega)]
theorem r_numbers_L {j N : Nat} (hj : j < 4) (hN : N ≤ 40) : ∀ (k n i : Nat) (h : abJ), i + k = N → k < n → Ok (fX12_numbers_L64 n (nI j) (nI N) (nI i) h) (fun r => r.1 = nI 0 ∧ (∀ q, i ≤ q → q < N → r.2.2 87 (40 * j + q) = 0) ∧ (∀ q, q < 40 * j + i ∨ 40 * j + N ≤ q → r.2.2 87 q = h.2 87 q) ∧ fr [] [87] h r.2) := by
  intro k
  induction k with
  | zero =>
    intro n i h hi hn
    obtain ⟨n, rfl⟩ : ∃ n0, n = n0 + 1 := ⟨n - 1, by omega⟩
    rw [fX12_numbers_L64]
    exact Ok.pos (by rw [nI_leI (by omega) (by omega)]; omega) (Ok.some ⟨rfl, fun q h1 h2 => by omega, fun _ _ => rfl, fr_r _ _ _⟩)
  | succ k ih =>
    intro n i h hi hn
    obtain ⟨n, rfl⟩ : ∃ n0, n = n0 + 1 := ⟨n - 1, by omega⟩
    rw [fX12_numbers_L64, show (40 : Int32) = nI 40 from rfl, pk_mul, nI_add, nI_clamp (by omega), nI_1]
    refine Ok.neg (by rw [nI_leI (by omega) (by omega)]; omega) (Ok.ask (ixN (by omega) (by omega)) ?_)
    refine (ih n (i + 1) _ (by omega) (by omega)).mono (fun r hr => ⟨hr.1, fun q h1 h2 => ?_, fun q hq => ?_, fr_t (fr_v (fr_r _ _ _) (by simp)) hr.2.2.2⟩)
    · by_cases e : q = i
      · subst e; rw [hr.2.2.1 _ (by omega), ab_v2e]
      · exact hr.2.1 q (by omega) h2
    · rw [hr.2.2.1 q (by omega), ab_v2k (by omega)]
theorem call_numbers (x y z : Int32) : call2 (fX11_numbers x y z) (fX12_numbers x y z) := by
  intro A hW
  have no : ∀ v : Int32, (∀ h, fX11_numbers x y z h = some (v, h)) → (∀ h, fX12_numbers x y z h = some (v, ab_wI h 64 0 0)) → ∃ (v : Int32) (A' : AbT), WF A' ∧ (∀ h, RC A h → Ok (fX11_numbers x y z h) (fun x => x.1 = v ∧ RC A' x.2 ∧ abv h x.2)) ∧ (∀ h, RR A h → Ok (fX12_numbers x y z h) (fun x => x.1 = v ∧ RR A' x.2 ∧ blw h x.2)) := by
    intro v h1 h2
    refine call2_no (v := v) hW (fun h hR => ?_) (fun h hR => ?_)
    · rw [h1]; exact Ok.some ⟨rfl, hR, abv_r _⟩
    · rw [h2]; obtain ⟨hR0, b0⟩ := RR0 hR; exact Ok.some ⟨rfl, hR0, b0⟩
  have out : (x < 0 ∨ nI 4 ≤ x) → _ := fun hx => no (-2) (fun h => by unfold fX11_numbers; rw [c_noTray_n h hx]; rfl) (fun h => by unfold fX12_numbers; rw [r_w03n (n := 3) (B := 3) _ rfl (x_ge (by omega) hx)]; rfl)
  rcases pk_ix x (n := 4) (by omega) with hx | hx | ⟨j, hj, rfl⟩
  · exact out (Or.inl hx)
  · exact out (Or.inr hx)
  have oy : (y < 0 ∨ nI 4 ≤ y) → _ := fun hy => no (-2) (fun h => by
    unfold fX11_numbers
    rw [c_noTray h hj, ab_bindS, if_pos (show nI 0 = 0 from rfl)]
    by_cases c : y < 0
    · rw [if_pos c]
    · rw [if_neg c, if_neg (by rw [Int32.not_le]; exact ((x_ge (n := 3) (by omega) hy).resolve_left c))]) (fun h => by unfold fX12_numbers; rw [r_w03 (n := 3) (B := 3) _ (by omega) (by omega) rfl, ab_bindS, decide_eq_true (show j ≤ 3 by omega), if_neg (by decide), r_w03n (n := 3) (B := 3) _ rfl (x_ge (by omega) hy)]; rfl)
  rcases pk_ix y (n := 4) (by omega) with hy | hy | ⟨s, hs, rfl⟩
  · exact oy (Or.inl hy)
  · exact oy (Or.inr hy)
  have oz : (z < 0 ∨ nI 41 ≤ z) → _ := fun hz => no (-3) (fun h => by
    unfold fX11_numbers
    rw [c_noTray h hj, ab_bindS, if_pos (show nI 0 = 0 from rfl), if_neg (by rw [show (0 : Int32) = nI 0 from rfl, nI_ltI (by omega) (by omega)]; omega), if_pos (by rw [show (3 : Int32) = nI 3 from rfl, nI_leI (by omega) (by omega)]; omega)]
    by_cases c : z < 0
    · rw [if_pos c]
    · rw [if_neg c, if_neg (by rw [Int32.not_le]; exact ((x_ge (n := 40) (by omega) hz).resolve_left c))]) (fun h => by unfold fX12_numbers; rw [r_w03 (n := 3) (B := 3) _ (by omega) (by omega) rfl, ab_bindS, decide_eq_true (show j ≤ 3 by omega), if_neg (by decide), r_w03 (n := 3) (B := 3) _ (by omega) (by omega) rfl, ab_bindS, decide_eq_true (show s ≤ 3 by omega), if_neg (by decide), r_w03n (n := 40) (B := 40) _ rfl (x_ge (by omega) hz)]; rfl)
  rcases pk_ix z (n := 41) (by omega) with hz | hz | ⟨N, hN, rfl⟩
  · exact oz (Or.inl hz)
  · exact oz (Or.inr hz)
  refine ⟨nI 0, upY A j (some (s, N, fun _ => 0)), WF_Y hW (by omega) (by omega), fun h hR => ?_, fun h hR => ?_⟩
  · unfold fX11_numbers
    rw [c_noTray h hj, ab_bindS, nI_clamp (by omega), ab_tr_n (by omega)]
    refine Ok.pos rfl (Ok.neg (by rw [show (0 : Int32) = nI 0 from rfl, nI_ltI (by omega) (by omega)]; omega) (Ok.pos (by rw [show (3 : Int32) = nI 3 from rfl, nI_leI (by omega) (by omega)]; omega) (Ok.neg (by rw [show (0 : Int32) = nI 0 from rfl, nI_ltI (by omega) (by omega)]; omega) (Ok.pos (by rw [show (40 : Int32) = nI 40 from rfl, nI_leI (by omega) (by omega)]; omega) (Ok.ask (ixN (by omega) (by omega)) ?_)))))
    unfold fX10_lay
    rw [if_neg (by rw [show (0 : Int32) = nI 0 from rfl, nI_ltI (by omega) (by omega)]; omega), if_pos (by rw [show (40 : Int32) = nI 40 from rfl, nI_leI (by omega) (by omega)]; omega)]
    unfold fJ7_fill_d0a16
    rw [ab_ln_y hj]
    refine Ok.bind (P := fun h' => (∀ q, q < 40 → h'.2 (44 + 2 * j + 1) q = 0) ∧ fr [] [44 + 2 * j + 1] (ab_wI (ab_wI (ab_wI h (44 + 2 * j) 0 0) (44 + 2 * j) 1 (nI s)) (44 + 2 * j) 2 (nI N)) h') (Ok.bind (c_fillY (ab_ln_y hj) 40 ab_N 0 _ (by omega) (by unfold ab_N; omega)) (fun r hr => Ok.some ⟨fun q hq => hr.1 q (by omega) hq, hr.2.2⟩)) (fun h1 hr => ?_)
    have f1 : fr [44 + 2 * j] [44 + 2 * j + 1] h h1 := fr_t (fr_w (fr_w (fr_w (fr_r _ _ _) (by simp)) (by simp)) (by simp)) (fr_m hr.2 (by simp) (by simp))
    refine Ok.some ⟨rfl, RC_Y hW hR hj ⟨?_, ?_, ?_, fun k hk => ?_⟩ (fun o ho => f1.1 o (by simpa using ho)) (fun o ho => f1.2 o (by simp; omega)), abv_fr f1 (by simp; omega) (by simp; omega)⟩
    · rw [hr.2.1 _ (by simp), ab_w1k (by decide), ab_w1k (by decide), ab_w1e]; rfl
    · rw [hr.2.1 _ (by simp), ab_w1k (by decide), ab_w1e]
    · rw [hr.2.1 _ (by simp), ab_w1e]
    · rw [show 45 + 2 * j = 44 + 2 * j + 1 by omega]
      exact hr.1 k (by have : k < N := hk; omega)
  · obtain ⟨hR0, b0⟩ := RR0 hR
    unfold fX12_numbers
    rw [r_w03 (n := 3) (B := 3) _ (by omega) (by omega) rfl, ab_bindS, decide_eq_true (show j ≤ 3 by omega)]
    refine Ok.neg (by decide) ?_
    rw [r_w03 (n := 3) (B := 3) _ (by omega) (by omega) rfl, ab_bindS, decide_eq_true (show s ≤ 3 by omega)]
    refine Ok.neg (by decide) ?_
    rw [r_w03 (n := 40) (B := 40) _ (by omega) (by omega) rfl, ab_bindS, decide_eq_true (show N ≤ 40 by omega)]
    refine Ok.neg (by decide) ?_
    rw [nI_clamp (by omega)]
    refine Ok.ask (ixN (by omega) (by omega)) (Ok.ask (ixN (by omega) (by omega)) ?_)
    generalize ab_wI h 64 0 0 = h0 at *
    refine (r_numbers_L hj (show N ≤ 40 by omega) N ab_N 0 _ (by omega) (by unfold ab_N; omega)).mono (fun r hr => ?_)
    obtain ⟨q1, q2, q3, q4⟩ := hr
    have f1 : fr [85, 86] [87] h0 r.2 := fr_t (fr_w (fr_w (fr_r _ _ _) (by simp)) (by simp)) (fr_m q4 (by simp) (by simp))
    have e85 : r.2.1 85 = (ab_wI (ab_wI h0 85 j (nI s)) 86 j (nI N)).1 85 := q4.1 85 (by simp)
    have e86 : r.2.1 86 = (ab_wI (ab_wI h0 85 j (nI s)) 86 j (nI N)).1 86 := q4.1 86 (by simp)
    refine ⟨q1, RR_Y hR0 hj ⟨?_, ?_, fun k hk => q2 k (by omega) hk⟩ (fun o h1 h2 => f1.1 o (by simp; omega)) (fun i hi => ⟨?_, ?_⟩) (fun q hq => q3 q (by omega)) (fun i t hi e => (hW.2.2.2.2.2 i t hi e).2), blw_t b0 (fun o ho => ⟨f1.1 o (by simp; omega), f1.2 o (by simp; omega)⟩)⟩
    · rw [e85, ab_w1n (by decide), ab_w1e]
    · rw [e86, ab_w1e]
    · rw [e85, ab_w1n (by decide), ab_w1k hi]
    · rw [e86, ab_w1k hi, ab_w1n (by decide)]
def cutv (s : Nat) (v : Int64) : Int64 := if s = 0 then v.toInt32.toInt8.toInt32.toInt64 else if s = 1 then v.toInt32.toInt16.toInt32.toInt64 else if s = 2 then v.toInt32.toInt64 else v
theorem r_cut {s : Nat} {v : Int64} (h : abJ) (hs : s ≤ 3) : fX12_cut v (nI s) h = some (cutv s v) := by
  have cs : s = 0 ∨ s = 1 ∨ s = 2 ∨ s = 3 := by omega
  rcases cs with e | e | e | e <;> subst e <;> rfl
theorem c_cut {o s : Nat} {v : Int64} {h : abJ} (h1 : h.1 o 1 = nI s) (hs : s ≤ 3) : fX10_cut o v h = some (cutv s v) := by
  unfold fX10_cut
  rw [h1]
  have cs : s = 0 ∨ s = 1 ∨ s = 2 ∨ s = 3 := by omega
  rcases cs with e | e | e | e <;> subst e <;> rfl
/-- a number put into a tray -/
def putY (t : Nat × Nat × (Nat → Int64)) (i : Nat) (v : Int64) : Nat × Nat × (Nat → Int64) := (t.1, t.2.1, fun k => if k = i then v else t.2.2 k)
theorem c_put {j i : Nat} {v : Int64} {h : abJ} {t : Nat × Nat × (Nat → Int64)} (hj : j < 4) (ht : cY (some t) j h) (hs : t.1 ≤ 3) (hn : t.2.1 ≤ 40) (hi : i < t.2.1) : Ok (fX10_put (44 + 2 * j) (nI i) v h) (fun h' => cY (some (putY t i (cutv t.1 v))) j h' ∧ fr [] [45 + 2 * j] h h') := by
  obtain ⟨t0, t1, t2, t3⟩ := ht
  unfold fX10_put
  rw [t2]
  refine Ok.neg (by rw [show (0 : Int32) = nI 0 from rfl, nI_ltI (by omega) (by omega)]; omega) (Ok.neg (by rw [nI_leI (by omega) (by omega)]; omega) ?_)
  rw [c_cut t1 hs, ab_bindS, nI_clamp (by omega)]
  refine Ok.ask (ixN (by omega) (by omega)) (Ok.some ⟨⟨t0, t1, t2, fun k hk => ?_⟩, ?_⟩)
  · rw [show 44 + 2 * j + 1 = 45 + 2 * j by omega]
    by_cases e : k = i
    · subst e; rw [ab_v2e]; exact (if_pos rfl).symm
    · rw [ab_v2k e, t3 k hk]; exact (if_neg e).symm
  · rw [show 44 + 2 * j + 1 = 45 + 2 * j by omega]
    exact fr_v (fr_r _ _ _) (by simp)
theorem c_value {j i : Nat} {h : abJ} {t : Nat × Nat × (Nat → Int64)} (ht : cY (some t) j h) (hn : t.2.1 ≤ 40) (hi : i < t.2.1) : fX10_value (44 + 2 * j) (nI i) h = some (t.2.2 i) := by
  obtain ⟨t0, t1, t2, t3⟩ := ht
  unfold fX10_value
  rw [t2, if_neg (by rw [show (0 : Int32) = nI 0 from rfl, nI_ltI (by omega) (by omega)]; omega), if_pos (by rw [nI_ltI (by omega) (by omega)]; exact hi), nI_clamp (by omega), ab_askP (ixN (by omega) (by omega)), show 44 + 2 * j + 1 = 45 + 2 * j by omega, t3 i hi]
theorem r_noTray_s {A : AbT} {j : Nat} {h : abJ} {t : Nat × Nat × (Nat → Int64)} (hR : RR A h) (hW : WF A) (hj : j < 4) (e : aY A j = some t) : fX12_noTray (nI j) h = some (nI 0) := by
  have := hR.2.2.2.2.2.2 j hj
  rw [e] at this
  have hs := (hW.2.2.2.2.2 j t hj e).1
  unfold fX12_noTray
  rw [r_w03 (n := 3) (B := 3) _ (by omega) (by omega) rfl, ab_bindS, decide_eq_true (show j ≤ 3 by omega), if_neg (by decide), nI_clamp (by omega), ab_askP (ixN (by omega) (by omega)), this.1, if_neg (oI_ne (by omega))]; rfl
theorem r_noTray_n {A : AbT} {j : Nat} {h : abJ} (hR : RR A h) (hj : j < 4) (e : aY A j = none) : fX12_noTray (nI j) h = some (-6) := by
  have := hR.2.2.2.2.2.2 j hj
  rw [e] at this
  have this : h.1 85 j = -nI 1 := this
  unfold fX12_noTray
  rw [r_w03 (n := 3) (B := 3) _ (by omega) (by omega) rfl, ab_bindS, decide_eq_true (show j ≤ 3 by omega), if_neg (by decide), nI_clamp (by omega), ab_askP (ixN (by omega) (by omega)), this, if_pos (show -nI 1 = -1 from rfl)]
theorem r_noTray_o {x : Int32} (h : abJ) (hx : x < 0 ∨ nI 4 ≤ x) : fX12_noTray x h = some (-2) := by
  unfold fX12_noTray
  rw [r_w03n (n := 3) (B := 3) _ rfl (x_ge (by omega) hx), ab_bindS]; rfl
theorem r_wn {i n : Nat} (h : abJ) (hi : i < 2 ^ 31) (hn : n ≤ 40) : fX12_within ((nI i).toInt64) 0 ((nI n - 1).toInt64) h = some (bI (decide (i < n))) := by
  by_cases e : n = 0
  · subst e
    rw [r_win h (a := nI 0) (b := nI 0 - 1) (A := 0) rfl rfl, show nI 0 - 1 = -nI 1 from rfl, decide_eq_true (Or.inr ((ab_n_lt' hi (by omega) (by omega)).mpr trivial)), decide_eq_false (by omega)]; rfl
  · rw [pk_s1 (by omega), r_w03 (n := n - 1) h hi (by omega) rfl]
    congr 2
    by_cases c : i < n
    · rw [decide_eq_true c, decide_eq_true (by omega)]
    · rw [decide_eq_false c, decide_eq_false (by omega)]
theorem r_wn_n {x : Int32} {n : Nat} (h : abJ) (hx : x < 0) : fX12_within (x.toInt64) 0 ((nI n - 1).toInt64) h = some (nI 0) := by
  rw [r_win h (a := nI 0) (b := nI n - 1) (A := 0) rfl rfl, decide_eq_true (show x < nI 0 ∨ nI n - 1 < x from Or.inl hx)]; rfl
theorem call_write (x y : Int32) (z : Int64) : call2 (fX11_write x y z) (fX12_write x y z) := by
  intro A hW
  have out : (x < 0 ∨ nI 4 ≤ x) → ∃ (v : Int64) (A' : AbT), WF A' ∧ (∀ h, RC A h → Ok (fX11_write x y z h) (fun x => x.1 = v ∧ RC A' x.2 ∧ abv h x.2)) ∧ (∀ h, RR A h → Ok (fX12_write x y z h) (fun x => x.1 = v ∧ RR A' x.2 ∧ blw h x.2)) := fun hx => call2_no (v := -2) hW (fun h hR => by unfold fX11_write; rw [c_noTray_n h hx]; exact Ok.some ⟨rfl, hR, abv_r _⟩) (fun h hR => by
    obtain ⟨hR0, b0⟩ := RR0 hR
    unfold fX12_write; rw [r_noTray_o _ hx]; exact Ok.some ⟨rfl, hR0, b0⟩)
  rcases pk_ix x (n := 4) (by omega) with hx | hx | ⟨j, hj, rfl⟩
  · exact out (Or.inl hx)
  · exact out (Or.inr hx)
  cases e : aY A j with
  | none =>
    refine call2_no (v := -6) hW (fun h hR => ?_) (fun h hR => ?_)
    · have ht := hR.2.2.2.2.2.2.2.2 j hj
      rw [e] at ht
      have ht : h.1 (44 + 2 * j) 0 = nI 1 := ht
      unfold fX11_write
      rw [c_noTray h hj, ab_bindS, nI_clamp (by omega), ab_tr_n (by omega), ht]
      exact Ok.pos rfl (Ok.ask (ixN (by omega) (by omega)) (Ok.neg (by decide) (Ok.some ⟨rfl, hR, abv_r _⟩)))
    · obtain ⟨hR0, b0⟩ := RR0 hR
      unfold fX12_write
      rw [r_noTray_n hR0 hj e]; exact Ok.some ⟨rfl, hR0, b0⟩
  | some t =>
    obtain ⟨hs, hn⟩ := hW.2.2.2.2.2 j t hj e
    by_cases ci : ∃ i, y = nI i ∧ i < t.2.1
    · obtain ⟨i, rfl, hi⟩ := ci
      refine ⟨cutv t.1 z, upY A j (some (putY t i (cutv t.1 z))), WF_Y hW hs hn, fun h hR => ?_, fun h hR => ?_⟩
      · have ht := hR.2.2.2.2.2.2.2.2 j hj
        rw [e] at ht
        unfold fX11_write
        rw [c_noTray h hj, ab_bindS, nI_clamp (by omega), ab_tr_n (by omega), ht.1, ht.2.2.1]
        refine Ok.pos rfl (Ok.ask (ixN (by omega) (by omega)) (Ok.pos rfl (Ok.neg (by rw [show (0 : Int32) = nI 0 from rfl, nI_ltI (by omega) (by omega)]; omega) (Ok.ask (ixN (by omega) (by omega)) (Ok.pos (by rw [nI_ltI (by omega) (by omega)]; exact hi) (Ok.ask (ixN (by omega) (by omega)) ?_))))))
        refine Ok.bind (c_put hj ht hs hn hi) (fun h1 hr => Ok.ask (ixN (by omega) (by omega)) ?_)
        rw [c_value hr.1 hn hi, ab_bindS]
        refine Ok.some ⟨if_pos rfl, RC_Y hW hR hj hr.1 (fun o ho => hr.2.1 o (by simp)) (fun o ho => hr.2.2 o (by simpa using ho)), abv_fr hr.2 (by simp) (by simp; omega)⟩
      · obtain ⟨hR0, b0⟩ := RR0 hR
        have ht := hR0.2.2.2.2.2.2 j hj
        rw [e] at ht
        unfold fX12_write
        rw [r_noTray_s hR0 hW hj e, ab_bindS, nI_clamp (by omega), ht.1, ht.2.1]
        refine Ok.pos rfl (Ok.ask (ixN (by omega) (by omega)) ?_)
        rw [r_wn _ (by omega) hn, ab_bindS, decide_eq_true hi]
        refine Ok.neg (by decide) (Ok.ask (ixN (by omega) (by omega)) ?_)
        rw [r_cut _ hs, ab_bindS, show (40 : Int32) = nI 40 from rfl, pk_mul, nI_add, nI_clamp (by omega)]
        refine Ok.ask (ixN (by omega) (by omega)) (Ok.ask (ixN (by omega) (by omega)) ?_)
        generalize ab_wI h 64 0 0 = h0 at *
        refine Ok.some ⟨ab_v2e h0 87 (40 * j + i) (cutv t.1 z), RR_Y hR0 hj ⟨ht.1, ht.2.1, fun k hk => ?_⟩ (fun o _ _ => rfl) (fun i hi => ⟨rfl, rfl⟩) (fun q hq => by rw [ab_v2k (by omega)]) (fun i t hi e => (hW.2.2.2.2.2 i t hi e).2), blw_t b0 (fun o ho => ⟨rfl, ab_v2n (by omega)⟩)⟩
        by_cases c : k = i
        · subst c; rw [ab_v2e]; exact (if_pos rfl).symm
        · rw [ab_v2k (by omega), ht.2.2 k hk]; exact (if_neg c).symm
    · refine call2_no (v := -7) hW (fun h hR => ?_) (fun h hR => ?_)
      · have ht := hR.2.2.2.2.2.2.2.2 j hj
        rw [e] at ht
        unfold fX11_write
        rw [c_noTray h hj, ab_bindS, nI_clamp (by omega), ab_tr_n (by omega), ht.1, ht.2.2.1]
        refine Ok.pos rfl (Ok.ask (ixN (by omega) (by omega)) (Ok.pos rfl ?_))
        rcases i_cs y with hy | ⟨k, hk, rfl⟩
        · exact Ok.pos hy (Ok.some ⟨rfl, hR, abv_r _⟩)
        · refine Ok.neg (by rw [show (0 : Int32) = nI 0 from rfl, nI_ltI (by omega) (by omega)]; omega) (Ok.ask (ixN (by omega) (by omega)) (Ok.neg (by rw [nI_ltI (by omega) (by omega)]; exact fun q => ci ⟨k, rfl, q⟩) (Ok.some ⟨rfl, hR, abv_r _⟩)))
      · obtain ⟨hR0, b0⟩ := RR0 hR
        have ht := hR0.2.2.2.2.2.2 j hj
        rw [e] at ht
        unfold fX12_write
        rw [r_noTray_s hR0 hW hj e, ab_bindS, nI_clamp (by omega), ht.2.1]
        refine Ok.pos rfl (Ok.ask (ixN (by omega) (by omega)) ?_)
        rcases i_cs y with hy | ⟨k, hk, rfl⟩
        · rw [r_wn_n _ hy, ab_bindS]
          exact Ok.pos rfl (Ok.some ⟨rfl, hR0, b0⟩)
        · rw [r_wn _ hk hn, ab_bindS, decide_eq_false (fun q => ci ⟨k, rfl, q⟩)]
          exact Ok.pos rfl (Ok.some ⟨rfl, hR0, b0⟩)
