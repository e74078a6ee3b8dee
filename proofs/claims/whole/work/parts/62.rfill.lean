/-! fills, filling: the reference, the calls; score. -/
theorem fil_len {m : MoT} {f p : Nat} : ∀ (n a F : Nat), (fil m f p n a F).1.length ≤ n
  | 0, _, _ => Nat.le_refl _
  | n + 1, a, F => by
    cases e : fo (lnL m f (6 * a + p)).2.1 F (lnL m f (6 * a + p)).1 0 with
    | none => rw [fil_0 e]; exact Nat.zero_le _
    | some k =>
      rw [fil_1 e]
      have := fil_len (m := m) (f := f) (p := p) n ((lnL m f (6 * a + p)).2.1 k / 6) (F ||| 2 ^ ((lnL m f (6 * a + p)).2.1 k % 6))
      rw [List.length_cons]; omega
theorem r_fill29 {k17 : Int32 → Int32 → Int32 → abJ → Option abJ} {p F L : Nat} {g : Nat → Nat} {h : abJ} (hF : F < 64) (hL2 : L ≤ 4374) (h22 : h.1 64 22 = nI L) (hg : ∀ i, i < L → h.1 72 i = nI (g i)) (hv : ∀ i, i < L → g i < 4374) : ∀ (k n j : Nat), j + k = L → k < n → fX12_laysFilling_L29 k17 n (nI p) (nI F) (nI j) h = fX12_laysFilling_J62 k17 (nI p) (nI F) (nI ((fo g F k j).getD L)) h := by
  intro k
  induction k with
  | zero =>
    intro n j hj hn
    obtain ⟨n, rfl⟩ : ∃ n0, n = n0 + 1 := ⟨n - 1, by omega⟩
    rw [fX12_laysFilling_L29, h22, if_pos (by rw [nI_leI (by omega) (by omega)]; omega), show j = L by omega]
    rfl
  | succ k ih =>
    intro n j hj hn
    obtain ⟨n, rfl⟩ : ∃ n0, n = n0 + 1 := ⟨n - 1, by omega⟩
    have hvj := hv j (by omega)
    rw [fX12_laysFilling_L29, h22, if_neg (by rw [nI_leI (by omega) (by omega)]; omega), nI_clamp (by omega), ab_askP (ixN (by omega) (by omega)), hg j (by omega), show (6 : Int32) = nI 6 from rfl, pk_rem (by omega) (by omega) (by omega), r_isIn h hF (by omega), ab_bindS, nI_1, fo]
    cases c : F.testBit (g j % 6) with
    | true => rw [if_neg (by decide), if_pos rfl]; exact ih n (j + 1) (by omega) (by omega)
    | false => rw [if_pos (show bI false = 0 from rfl), if_neg (by decide)]; rfl
theorem r_fill17 {A : AbT} {p : Nat} {h0 : abJ} (hW : WF A) (hR : RR A h0) (hp : p < mP (aM A)) : ∀ (k n c a F S : Nat) (h : abJ), c + k = 6 → k + 1 < n → AV (aM A) a → F < 64 → pc6 F = c → h.1 64 26 = nI c → h.1 64 27 = nI S → frR [22, 23, 26, 27] [69, 70, 72, 73, 75] [] h0 h → Ok (fX12_laysFilling_L17 n (nI p) (nI F) (nI a) h) (fun h' => h'.1 64 26 = nI (c + (fil (aM A) (sF (aS A)) p k a F).1.length) ∧ h'.1 64 27 = nI (S + (fil (aM A) (sF (aS A)) p k a F).2) ∧ (∀ i, i < (fil (aM A) (sF (aS A)) p k a F).1.length → h'.1 75 (c + i) = nI ((fil (aM A) (sF (aS A)) p k a F).1.getD i 0)) ∧ (∀ i, i < c → h'.1 75 i = h.1 75 i) ∧ frR [22, 23, 26, 27] [69, 70, 72, 73, 75] [] h0 h') := by
  have hO := hW.1
  have h6 := hO.2.1
  intro k
  induction k with
  | zero =>
    intro n c a F S h hc hn ha hF hpc h26 h27 hfr
    obtain ⟨n, rfl⟩ : ∃ n0, n = n0 + 1 := ⟨n - 1, by omega⟩
    have hR1 : RR A h := (RR_sc hR (frR_m hfr (by decide) (by decide) (by simp))).1
    have hsv := lnl_a hO ha hp
    have hLN := lnL_s (f := sF (aS A)) hO hsv
    have hL2 := LN_le hO hLN
    rw [fX12_laysFilling_L17]
    unfold fX12_standOf
    rw [show (6 : Int32) = nI 6 from rfl, pk_mul, nI_add, ab_bindS]
    refine Ok.bind (r_lineA hW hR1 hsv hLN) (fun h1 hr => ?_)
    rw [show (0 : Int32) = nI 0 from rfl, r_fill29 hF hL2 hr.1 hr.2.2.1 (fun i hi => SV_lt hO (hLN.2.2.1 i hi)) _ ab_N 0 (Nat.zero_add _) (by unfold ab_N; omega)]
    have e : fo (lnL (aM A) (sF (aS A)) (6 * a + p)).2.1 F (lnL (aM A) (sF (aS A)) (6 * a + p)).1 0 = none := by
      cases e : fo (lnL (aM A) (sF (aS A)) (6 * a + p)).2.1 F (lnL (aM A) (sF (aS A)) (6 * a + p)).1 0 with
      | none => rfl
      | some i =>
        have := (fo_s e).2.2.1
        rw [pc6_f' F hF (by omega) _ (by omega)] at this
        cases this
    rw [e]
    unfold fX12_laysFilling_J62
    rw [hr.1]
    have f1 : frR [22, 23, 26, 27] [69, 70, 72, 73, 75] [] h h1 := frR_m hr.2.2.2 (by simp) (by simp) (by simp)
    refine Ok.pos rfl (Ok.some ⟨?_, ?_, fun i hi => absurd hi (Nat.not_lt_zero _), fun i hi => by rw [hr.2.2.2.1 75 (by decide) (by decide)], frR_t hfr f1⟩)
    · rw [hr.2.2.2.2.1 26 (by decide)]; exact h26
    · rw [hr.2.2.2.2.1 27 (by decide)]; exact h27
  | succ k ih =>
    intro n c a F S h hc hn ha hF hpc h26 h27 hfr
    obtain ⟨n, rfl⟩ : ∃ n0, n = n0 + 1 := ⟨n - 1, by omega⟩
    have hR1 : RR A h := (RR_sc hR (frR_m hfr (by decide) (by decide) (by simp))).1
    have hsv := lnl_a hO ha hp
    have hLN := lnL_s (f := sF (aS A)) hO hsv
    have hL2 := LN_le hO hLN
    rw [fX12_laysFilling_L17]
    unfold fX12_standOf
    rw [show (6 : Int32) = nI 6 from rfl, pk_mul, nI_add, ab_bindS]
    refine Ok.bind (r_lineA hW hR1 hsv hLN) (fun h1 hr => ?_)
    have f1 : frR [22, 23, 26, 27] [69, 70, 72, 73, 75] [] h h1 := frR_m hr.2.2.2 (by simp) (by simp) (by simp)
    have e26 : h1.1 64 26 = nI c := by rw [hr.2.2.2.2.1 26 (by decide)]; exact h26
    have e27 : h1.1 64 27 = nI S := by rw [hr.2.2.2.2.1 27 (by decide)]; exact h27
    have e75 : h1.1 75 = h.1 75 := hr.2.2.2.1 75 (by decide) (by decide)
    rw [show (0 : Int32) = nI 0 from rfl, r_fill29 hF hL2 hr.1 hr.2.2.1 (fun i hi => SV_lt hO (hLN.2.2.1 i hi)) _ ab_N 0 (Nat.zero_add _) (by unfold ab_N; omega)]
    cases e : fo (lnL (aM A) (sF (aS A)) (6 * a + p)).2.1 F (lnL (aM A) (sF (aS A)) (6 * a + p)).1 0 with
    | none =>
      rw [fil_0 e]
      unfold fX12_laysFilling_J62
      rw [hr.1]
      exact Ok.pos rfl (Ok.some ⟨e26, e27, fun i hi => absurd hi (Nat.not_lt_zero _), fun i hi => by rw [e75], frR_t hfr f1⟩)
    | some i =>
      obtain ⟨_, hi, hb, _⟩ := fo_s e
      rw [Nat.zero_add] at hi
      have hsi := hLN.2.2.1 i hi
      have hgi := SV_lt hO hsi
      rw [fil_1 e]
      unfold fX12_laysFilling_J62
      rw [show ((some i).getD (lnL (aM A) (sF (aS A)) (6 * a + p)).1) = i from rfl, hr.1]
      refine Ok.neg (by rw [nI_eq (by omega) (by omega)]; omega) ?_
      rw [ab_w1n (show 72 ≠ 64 by decide), ab_w1n (show 72 ≠ 64 by decide), ab_w1n (show 72 ≠ 75 by decide), nI_clamp (by omega), hr.2.2.1 i hi, e26, show (6 : Int32) = nI 6 from rfl, pk_rem (by omega) (by omega) (by omega), pk_div (by omega) (by omega) (by omega), show (1 : Int32) = nI 1 from rfl, show (31 : Int32) = nI 31 from rfl, b_shl (by omega), b_or, nI_clamp (by omega)]
      generalize hx : (lnL (aM A) (sF (aS A)) (6 * a + p)).2.1 i = x at *
      refine Ok.ask (ixN (by omega) (by omega)) (Ok.ask (ixN (by omega) (by omega)) (Ok.ask (ixN (by omega) (by omega)) (Ok.ask (ixN (by omega) (by omega)) ?_)))
      rw [ab_w1n (show 64 ≠ 75 by decide), e26, nI_add, ab_w1k (show 27 ≠ 26 by decide), ab_w1n (show 64 ≠ 75 by decide), e27, nI_add]
      have hpc2 := pc6_or' F hF (x % 6) (by omega) hb
      refine (ih n (c + 1) (x / 6) (F ||| 2 ^ (x % 6)) (S + i) _ (by omega) (by omega) hsi.2 (or64 hF (by omega)) (by omega) (by rw [ab_w1k (by decide), ab_w1e]) (by rw [ab_w1e]) (frR_t hfr (frR_64 (frR_64 (frR_w f1 (by simp) (by decide)) (by simp)) (by simp)))).mono (fun h' hr => ?_)
      obtain ⟨q1, q2, q3, q4, q6⟩ := hr
      refine ⟨?_, ?_, fun w hw => ?_, fun w hw => ?_, q6⟩
      · rw [q1, List.length_cons]; congr 1; omega
      · rw [q2]; congr 1; omega
      · cases w with
        | zero =>
          rw [Nat.add_zero, q4 c (by omega), ab_w1n (by decide), ab_w1n (by decide), ab_w1e]; rfl
        | succ w =>
          rw [List.length_cons] at hw
          rw [show c + (w + 1) = c + 1 + w by omega, q3 w (by omega)]; rfl
      · rw [q4 w (by omega), ab_w1n (by decide), ab_w1n (by decide), ab_w1k (by omega), e75]
theorem c_fillB {A : AbT} {h : abJ} {p : Nat} (hW : WF A) (hR : RC A h) (hp : p < mP (aM A)) : Ok (fX2_fill (nI p) h) (fun h' => h'.1 32 7 = nI (fil (aM A) (sF (aS A)) p 6 (sA (aS A)) 0).1.length ∧ h'.1 32 8 = nI (fil (aM A) (sF (aS A)) p 6 (sA (aS A)) 0).2 ∧ (∀ i, i < (fil (aM A) (sF (aS A)) p 6 (sA (aS A)) 0).1.length → h'.1 33 i = nI ((fil (aM A) (sF (aS A)) p 6 (sA (aS A)) 0).1.getD i 0)) ∧ (fil (aM A) (sF (aS A)) p 6 (sA (aS A)) 0).1.length ≤ 6 ∧ fr [32, 33] [] h h') := by
  unfold fX2_fill
  rw [ab_w1n (by decide), ab_w1n (by decide), hR.2.1.2.1, show (0 : Int32) = nI 0 from rfl]
  refine (c_fill_L hW.1 hp hW.2.1.2.2 hR.1 hR.2.2.1 hR.2.2.2.1 hR.2.1.2.2.1 6 ab_N 0 (sA (aS A)) 0 0 _ (by omega) (by unfold ab_N; omega) hW.2.1.2.1 (by omega) (by decide) (by rw [ab_w1k (by decide), ab_w1e]) (by rw [ab_w1e]) (fr_w (fr_w (fr_r _ _ _) (by simp)) (by simp))).mono (fun h' hr => ?_)
  obtain ⟨q1, q2, q3, q4, q5, q6⟩ := hr
  rw [Nat.zero_add] at q1 q2 q5
  exact ⟨q1, q2, fun i hi => by have := q3 i hi; rwa [Nat.zero_add] at this, q5, q6⟩
theorem r_fillB {A : AbT} {h : abJ} {p : Nat} (hW : WF A) (hR : RR A h) (hp : p < mP (aM A)) : Ok (fX12_laysFilling (nI p) h) (fun h' => h'.1 64 26 = nI (fil (aM A) (sF (aS A)) p 6 (sA (aS A)) 0).1.length ∧ h'.1 64 27 = nI (fil (aM A) (sF (aS A)) p 6 (sA (aS A)) 0).2 ∧ (∀ i, i < (fil (aM A) (sF (aS A)) p 6 (sA (aS A)) 0).1.length → h'.1 75 i = nI ((fil (aM A) (sF (aS A)) p 6 (sA (aS A)) 0).1.getD i 0)) ∧ frR [22, 23, 26, 27] [69, 70, 72, 73, 75] [] h h') := by
  unfold fX12_laysFilling
  rw [r_armsNow hR.1 hW.1.2.1 (WF_a hW).1 (fun p hp => rS_a hR.2.1 hp), ab_bindS, show (0 : Int32) = nI 0 from rfl]
  refine (r_fill17 hW hR hp 6 ab_N 0 (sA (aS A)) 0 0 _ (by omega) (by unfold ab_N; omega) hW.2.1.2.1 (by omega) (by decide) (by rw [ab_w1k (by decide), ab_w1e]) (by rw [ab_w1e]) (frR_64 (frR_64 (frR_r _ _ _ _) (by simp)) (by simp))).mono (fun h' hr => ?_)
  obtain ⟨q1, q2, q3, q4, q6⟩ := hr
  rw [Nat.zero_add] at q1 q2
  exact ⟨q1, q2, fun i hi => by have := q3 i hi; rwa [Nat.zero_add] at this, q6⟩
theorem fr32 {h h' : abJ} (a : fr [32, 33] [] h h') : fr sc0 [41] h h' := fr_m a (by decide) (by simp)
theorem fr26 {h h0 h' : abJ} (f0 : frR sk1 sc1 [80, 81] h h0) (a : frR [22, 23, 26, 27] [69, 70, 72, 73, 75] [] h0 h') : frR sk1 sc1 [80, 81] h h' := frR_t f0 (frR_m a (by decide) (by decide) (by simp))
theorem call_filling (x : Int32) : call2 (fX11_filling x) (fX12_filling x) := by
  refine post_ro x (v0 := -2) (fun A h x hW hR hx => by unfold fX11_filling; rw [c_has_out hR.1 hx]; rfl) (fun A h x hW hR hx => by unfold fX12_filling; rw [r_isPost_out hW.1 (RR_0 hR).1 hx]; rfl) (fun A p hW hp => ?_)
  refine ⟨nI (fil (aM A) (sF (aS A)) p 6 (sA (aS A)) 0).2, fun h hR => ?_, fun h hR => ?_⟩
  · unfold fX11_filling
    rw [c_has_in hW.1 hR.1 hp, ab_bindS]
    exact Ok.neg (by decide) (Ok.bind (c_fillB hW hR hp) (fun h1 hr => Ok.some ⟨hr.2.1, fr32 hr.2.2.2.2⟩))
  · unfold fX12_filling
    generalize e0 : ab_wI h 64 0 0 = h0; have f0 : frR sk1 sc1 [80, 81] h h0 := (by subst e0; exact frR_64 (frR_r _ _ _ _) (by decide)); have hR0 : RR A h0 := (RR_sc hR f0).1
    rw [r_isPost_in hW.1 hR0.1 hp, ab_bindS]
    exact Ok.neg (by decide) (Ok.bind (r_fillB hW hR0 hp) (fun h1 hr => Ok.some ⟨hr.2.1, fr26 f0 hr.2.2.2⟩))
theorem call_fills (x y : Int32) : call2 (fX11_fills x y) (fX12_fills x y) := by
  refine post_ro (c := fun x => fX11_fills x y) (r := fun x => fX12_fills x y) x (v0 := -2) (fun A h x hW hR hx => by unfold fX11_fills; rw [c_has_out hR.1 hx]; rfl) (fun A h x hW hR hx => by unfold fX12_fills; rw [r_isPost_out hW.1 (RR_0 hR).1 hx]; rfl) (fun A p hW hp => ?_)
  rcases i_cs y with hy | ⟨i, hi, rfl⟩
  · refine ⟨-3, fun h hR => ?_, fun h hR => ?_⟩
    · unfold fX11_fills
      rw [c_has_in hW.1 hR.1 hp, ab_bindS]
      exact Ok.neg (by decide) (Ok.neg (by rw [Int32.not_le]; exact hy) (Ok.some ⟨rfl, fr_r _ _ _⟩))
    · unfold fX12_fills
      generalize e0 : ab_wI h 64 0 0 = h0; have f0 : frR sk1 sc1 [80, 81] h h0 := (by subst e0; exact frR_64 (frR_r _ _ _ _) (by decide)); have hR0 : RR A h0 := (RR_sc hR f0).1
      rw [r_isPost_in hW.1 hR0.1 hp, ab_bindS]
      exact Ok.neg (by decide) (Ok.neg (by rw [Int32.not_le]; exact hy) (Ok.some ⟨rfl, f0⟩))
  have h0i : (0 : Int32) ≤ nI i := by rw [show (0 : Int32) = nI 0 from rfl, nI_leI (by omega) hi]; omega
  refine ⟨if i < (fil (aM A) (sF (aS A)) p 6 (sA (aS A)) 0).1.length then nI ((fil (aM A) (sF (aS A)) p 6 (sA (aS A)) 0).1.getD i 0) else -1, fun h hR => ?_, fun h hR => ?_⟩
  · unfold fX11_fills
    rw [c_has_in hW.1 hR.1 hp, ab_bindS]
    refine Ok.neg (by decide) (Ok.pos h0i (Ok.bind (c_fillB hW hR hp) (fun h1 hr => ?_)))
    obtain ⟨q1, q2, q3, q4, q5⟩ := hr
    rw [q1]
    by_cases c : i < (fil (aM A) (sF (aS A)) p 6 (sA (aS A)) 0).1.length
    · rw [if_pos c, nI_clamp hi]
      exact Ok.neg (by rw [nI_leI (by omega) hi]; omega) (Ok.neg (by rw [show (6 : Int32) = nI 6 from rfl, nI_leI (by omega) hi]; omega) (Ok.ask (ixN (by omega) (by omega)) (Ok.some ⟨q3 i c, fr32 q5⟩)))
    · rw [if_neg c]
      exact Ok.pos (by rw [nI_leI (by omega) hi]; omega) (Ok.some ⟨rfl, fr32 q5⟩)
  · unfold fX12_fills
    generalize e0 : ab_wI h 64 0 0 = h0; have f0 : frR sk1 sc1 [80, 81] h h0 := (by subst e0; exact frR_64 (frR_r _ _ _ _) (by decide)); have hR0 : RR A h0 := (RR_sc hR f0).1
    have hq4 : (fil (aM A) (sF (aS A)) p 6 (sA (aS A)) 0).1.length ≤ 6 := fil_len _ _ _
    rw [r_isPost_in hW.1 hR0.1 hp, ab_bindS]
    refine Ok.neg (by decide) (Ok.pos h0i (Ok.bind (r_fillB hW hR0 hp) (fun h1 hr => ?_)))
    obtain ⟨q1, q2, q3, q5⟩ := hr
    rw [q1]
    by_cases c : i < (fil (aM A) (sF (aS A)) p 6 (sA (aS A)) 0).1.length
    · rw [if_pos c, nI_clamp hi]
      exact Ok.neg (by rw [nI_leI (by omega) hi]; omega) (Ok.ask (ixN (by omega) (by omega)) (Ok.some ⟨q3 i c, fr26 f0 q5⟩))
    · rw [if_neg c]
      exact Ok.pos (by rw [nI_leI (by omega) hi]; omega) (Ok.some ⟨rfl, fr26 f0 q5⟩)
