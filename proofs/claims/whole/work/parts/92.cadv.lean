/-! moor: the class's tokens. -/
def TP (T : Nat → Nat) (n o : Nat) (h : abJ) : Prop := n ≤ 900 ∧ ∀ k, k < n → h.1 o k = nI (T k) ∧ T k < 256
def ck (k : Nat) : Nat := if k = 24 then 0 else if k = 25 then 1 else if k = 23 then 2 else 3
def TC (T : Nat → Nat) (n a : Nat) (h : abJ) : Prop := h.1 9 5 = nI n ∧ h.1 9 7 = nI a ∧ h.1 9 8 = nI (behP T n a) ∧ h.1 9 6 = nI (ck (kdP T n a)) ∧ (kdP T n a = 23 → h.1 9 9 = nI (nvl T a (behP T n a - a)))
/-- but for the token all is as it was -/
def f9 (h h' : abJ) : Prop := fr [9] [] h h' ∧ ∀ q, q ≠ 6 → q ≠ 7 → q ≠ 8 → q ≠ 9 → h'.1 9 q = h.1 9 q
theorem f9_r (h : abJ) : f9 h h := ⟨fr_r _ _ _, fun _ _ _ _ _ => rfl⟩
theorem f9_t {h h1 h2 : abJ} (a : f9 h h1) (b : f9 h1 h2) : f9 h h2 := ⟨fr_t a.1 b.1, fun q w1 w2 w3 w4 => (b.2 q w1 w2 w3 w4).trans (a.2 q w1 w2 w3 w4)⟩
theorem f9_w {h h' : abJ} (a : f9 h h') {k : Nat} {v : Int32} (hk : k = 6 ∨ k = 7 ∨ k = 8 ∨ k = 9) : f9 h (ab_wI h' 9 k v) := ⟨fr_w a.1 (by simp), fun q w1 w2 w3 w4 => by rw [ab_w1k (by omega)]; exact a.2 q w1 w2 w3 w4⟩
theorem TP_f9 {T : Nat → Nat} {n : Nat} {h h' : abJ} (hT : TP T n 11 h) (a : f9 h h') : TP T n 11 h' := ⟨hT.1, fun k hk => by rw [a.1.1 11 (by decide)]; exact hT.2 k hk⟩
theorem c_adv122 {T : Nat → Nat} {n E : Nat} {h0 : abJ} (hT : TP T n 11 h0) (h5 : h0.1 9 5 = nI n) : ∀ (k N p : Nat) (h : abJ), p + k = n → k < N → rnE isS T k p = E → h.1 9 8 = nI p → h.1 9 7 = h0.1 9 7 → h.1 9 6 = h0.1 9 6 → f9 h0 h → Ok (fX6_advance_L122 N h) (fun h' => h'.1 9 8 = nI E ∧ h'.1 9 7 = h0.1 9 7 ∧ h'.1 9 6 = h0.1 9 6 ∧ f9 h0 h') := by
  have hn := hT.1
  intro k
  induction k with
  | zero =>
    intro N p h hp hN hE h8 h7 h6 hf
    obtain ⟨N, rfl⟩ : ∃ n0, N = n0 + 1 := ⟨N - 1, by omega⟩
    rw [fX6_advance_L122, h8, hf.2 5 (by decide) (by decide) (by decide) (by decide), h5]
    refine Ok.pos (by rw [nI_leI (by omega) (by omega)]; omega) (Ok.some ⟨?_, h7, h6, hf⟩)
    rw [h8, ← hE]; rfl
  | succ k ih =>
    intro N p h hp hN hE h8 h7 h6 hf
    obtain ⟨N, rfl⟩ : ∃ n0, N = n0 + 1 := ⟨N - 1, by omega⟩
    obtain ⟨t1, t2⟩ := (TP_f9 hT hf).2 p (by omega)
    rw [fX6_advance_L122, h8, hf.2 5 (by decide) (by decide) (by decide) (by decide), h5, nI_clamp (by omega), t1, nI_1]
    rw [rnE] at hE
    refine Ok.neg (by rw [nI_leI (by omega) (by omega)]; omega) (Ok.ask (ixN (by omega) (by omega)) ?_)
    by_cases c1 : T p < 97
    · have e : isS (T p) = false := by unfold isS; exact decide_eq_false (by omega)
      rw [e, if_neg (by decide)] at hE
      exact Ok.pos (by rw [show (97 : Int32) = nI 97 from rfl, nI_ltI (by omega) (by omega)]; exact c1) (Ok.some ⟨by rw [h8, hE], h7, h6, hf⟩)
    · refine Ok.neg (by rw [show (97 : Int32) = nI 97 from rfl, nI_ltI (by omega) (by omega)]; exact c1) (Ok.ask (ixN (by omega) (by omega)) ?_)
      by_cases c2 : 122 < T p
      · have e : isS (T p) = false := by unfold isS; exact decide_eq_false (by omega)
        rw [e, if_neg (by decide)] at hE
        exact Ok.pos (by rw [show (122 : Int32) = nI 122 from rfl, nI_ltI (by omega) (by omega)]; exact c2) (Ok.some ⟨by rw [h8, hE], h7, h6, hf⟩)
      · have e : isS (T p) = true := by unfold isS; exact decide_eq_true (by omega)
        rw [e, if_pos rfl] at hE
        refine Ok.neg (by rw [show (122 : Int32) = nI 122 from rfl, nI_ltI (by omega) (by omega)]; exact c2) ?_
        exact ih N (p + 1) _ (by omega) (by omega) hE (ab_w1e ..) (by rw [ab_w1k (by decide)]; exact h7) (by rw [ab_w1k (by decide)]; exact h6) (f9_w hf (by simp))
theorem nvl_s {T : Nat → Nat} {a k : Nat} : nvl T a (k + 1) = 10 * nvl T a k + (T (a + k) - 48) := rfl
theorem c_adv194 {T : Nat → Nat} {n a E : Nat} {h0 : abJ} (hT : TP T n 11 h0) (h5 : h0.1 9 5 = nI n) : ∀ (k N p : Nat) (h : abJ), p + k = n → k < N → a ≤ p → rnE isD T k p = E → h.1 9 8 = nI p → h.1 9 7 = nI a → h.1 9 9 = nI (nvl T a (p - a)) → f9 h0 h → Ok (fX6_advance_L194 N h) (fun h' => h'.1 9 8 = nI E ∧ h'.1 9 7 = nI a ∧ h'.1 9 6 = nI (if E - a ≤ 3 then 2 else 1) ∧ h'.1 9 9 = nI (nvl T a (E - a)) ∧ f9 h0 h') := by
  have hn := hT.1
  intro k
  have fin : ∀ (p : Nat) (h : abJ), a ≤ p → p ≤ n → p = E → h.1 9 8 = nI p → h.1 9 7 = nI a → h.1 9 9 = nI (nvl T a (p - a)) → f9 h0 h → Ok (if nI p - nI a ≤ 3 then some (ab_wI h 9 6 2) else some (ab_wI h 9 6 1)) (fun h' => h'.1 9 8 = nI E ∧ h'.1 9 7 = nI a ∧ h'.1 9 6 = nI (if E - a ≤ 3 then 2 else 1) ∧ h'.1 9 9 = nI (nvl T a (E - a)) ∧ f9 h0 h') := by
    intro p h ha hp hE h8 h7 h9 hf
    subst hE
    rw [pk_sub ha]
    by_cases c : p - a ≤ 3
    · rw [if_pos c]
      exact Ok.pos (by rw [show (3 : Int32) = nI 3 from rfl, nI_leI (by omega) (by omega)]; exact c) (Ok.some ⟨by rw [ab_w1k (by decide)]; exact h8, by rw [ab_w1k (by decide)]; exact h7, by rw [ab_w1e]; rfl, by rw [ab_w1k (by decide)]; exact h9, f9_w hf (by simp)⟩)
    · rw [if_neg c]
      exact Ok.neg (by rw [show (3 : Int32) = nI 3 from rfl, nI_leI (by omega) (by omega)]; exact c) (Ok.some ⟨by rw [ab_w1k (by decide)]; exact h8, by rw [ab_w1k (by decide)]; exact h7, by rw [ab_w1e]; rfl, by rw [ab_w1k (by decide)]; exact h9, f9_w hf (by simp)⟩)
  induction k with
  | zero =>
    intro N p h hp hN ha hE h8 h7 h9 hf
    obtain ⟨N, rfl⟩ : ∃ n0, N = n0 + 1 := ⟨N - 1, by omega⟩
    rw [fX6_advance_L194, h8, h7, hf.2 5 (by decide) (by decide) (by decide) (by decide), h5]
    exact Ok.pos (by rw [nI_leI (by omega) (by omega)]; omega) (fin p h ha (by omega) hE h8 h7 h9 hf)
  | succ k ih =>
    intro N p h hp hN ha hE h8 h7 h9 hf
    obtain ⟨N, rfl⟩ : ∃ n0, N = n0 + 1 := ⟨N - 1, by omega⟩
    obtain ⟨t1, t2⟩ := (TP_f9 hT hf).2 p (by omega)
    rw [fX6_advance_L194, h8, h7, hf.2 5 (by decide) (by decide) (by decide) (by decide), h5, nI_clamp (by omega), t1, h9]
    rw [rnE] at hE
    refine Ok.neg (by rw [nI_leI (by omega) (by omega)]; omega) (Ok.ask (ixN (by omega) (by omega)) ?_)
    by_cases c1 : T p < 48
    · have e : isD (T p) = false := by unfold isD; exact decide_eq_false (by omega)
      rw [e, if_neg (by decide)] at hE
      exact Ok.pos (by rw [show (48 : Int32) = nI 48 from rfl, nI_ltI (by omega) (by omega)]; exact c1) (fin p h ha (by omega) hE h8 h7 h9 hf)
    · refine Ok.neg (by rw [show (48 : Int32) = nI 48 from rfl, nI_ltI (by omega) (by omega)]; exact c1) (Ok.ask (ixN (by omega) (by omega)) ?_)
      by_cases c2 : 57 < T p
      · have e : isD (T p) = false := by unfold isD; exact decide_eq_false (by omega)
        rw [e, if_neg (by decide)] at hE
        exact Ok.pos (by rw [show (57 : Int32) = nI 57 from rfl, nI_ltI (by omega) (by omega)]; exact c2) (fin p h ha (by omega) hE h8 h7 h9 hf)
      · have e : isD (T p) = true := by unfold isD; exact decide_eq_true (by omega)
        rw [e, if_pos rfl] at hE
        refine Ok.neg (by rw [show (57 : Int32) = nI 57 from rfl, nI_ltI (by omega) (by omega)]; exact c2) (Ok.ask (ixN (by omega) (by omega)) ?_)
        have en : nI (nvl T a (p - a)) * 10 + nI (T p) - 48 = nI (nvl T a (p + 1 - a)) := by
          rw [show p + 1 - a = (p - a) + 1 by omega, nvl_s, show a + (p - a) = p by omega, show (10 : Int32) = nI 10 from rfl, show (48 : Int32) = nI 48 from rfl, pk_mul, nI_add, pk_sub (by omega)]
          exact congrArg nI (by omega)
        rw [en, ab_w1k (show 8 ≠ 9 by decide), h8, nI_1]
        exact ih N (p + 1) _ (by omega) (by omega) (by omega) hE (ab_w1e ..) (by rw [ab_w1k (by decide), ab_w1k (by decide)]; exact h7) (by rw [ab_w1k (by decide), ab_w1e]) (f9_w (f9_w hf (by simp)) (by simp))
/-- signs -/
def sgx (c : Nat) : Nat → Nat → Option Nat
  | 0, _ => none
  | k + 1, i => if stc 0 i = c then some i else sgx c k (i + 1)
theorem sb0 : ∀ i < 12, (ab_sb.getD 0 []).getD i 0 = nI (stc 0 i) ∧ stc 0 i < 128 ∧ sgt.getD i [] = [stc 0 i] := by decide
theorem c_ioc {c : Nat} {h : abJ} (hc : c < 128) : ∀ (k N i : Nat), i + k = 12 → k < N → fJ1_indexOfChar_4cfef_L7 h N (nI 12) (nI c) (nI i) = some (oI (sgx c k i)) := by
  intro k
  induction k with
  | zero =>
    intro N i hi hN
    obtain ⟨N, rfl⟩ : ∃ n0, N = n0 + 1 := ⟨N - 1, by omega⟩
    rw [fJ1_indexOfChar_4cfef_L7, if_pos (by rw [nI_leI (by omega) (by omega)]; omega)]; rfl
  | succ k ih =>
    intro N i hi hN
    obtain ⟨N, rfl⟩ : ∃ n0, N = n0 + 1 := ⟨N - 1, by omega⟩
    obtain ⟨s1, s2, _⟩ := sb0 i (by omega)
    rw [fJ1_indexOfChar_4cfef_L7, if_neg (by rw [nI_leI (by omega) (by omega)]; omega), nI_clamp (by omega), ab_askP (ixN (by omega) (by omega)), s1, sgx, nI_1]
    by_cases e : stc 0 i = c
    · rw [if_pos (by rw [e]), if_pos e]; rfl
    · rw [if_neg (by rw [nI_eq (by omega) (by omega)]; exact e), if_neg e]
      exact ih N (i + 1) (by omega) (by omega)
theorem i8' : ∀ c < 128, (nI c).toInt8.toInt32 = nI c ∧ ((nI c).toUInt32 % 65536).toInt32 = nI c := by decide +kernel
theorem i8h : ∀ c < 256, ((nI c).toUInt32 % 65536).toInt32 = nI c := by decide +kernel
theorem i8n : ∀ c < 256, 128 ≤ c → (nI c).toInt8.toInt32 < 0 := by decide +kernel
theorem c_iocn {y : Int32} {h : abJ} (hy : y < 0) : ∀ (k N i : Nat), i + k = 12 → k < N → fJ1_indexOfChar_4cfef_L7 h N (nI 12) y (nI i) = some (-1) := by
  intro k
  induction k with
  | zero =>
    intro N i hi hN
    obtain ⟨N, rfl⟩ : ∃ n0, N = n0 + 1 := ⟨N - 1, by omega⟩
    rw [fJ1_indexOfChar_4cfef_L7, if_pos (by rw [nI_leI (by omega) (by omega)]; omega)]
  | succ k ih =>
    intro N i hi hN
    obtain ⟨N, rfl⟩ : ∃ n0, N = n0 + 1 := ⟨N - 1, by omega⟩
    obtain ⟨s1, s2, _⟩ := sb0 i (by omega)
    rw [fJ1_indexOfChar_4cfef_L7, if_neg (by rw [nI_leI (by omega) (by omega)]; omega), nI_clamp (by omega), ab_askP (ixN (by omega) (by omega)), s1, nI_1, if_neg (fun e => ?_)]
    · exact ih N (i + 1) (by omega) (by omega)
    · rw [← e] at hy
      exact nI_pos (by omega) hy
theorem sgx_n {c : Nat} (hc : 128 ≤ c) : ∀ k i, i + k ≤ 12 → sgx c k i = none
  | 0, _, _ => rfl
  | k + 1, i, h => by
    rw [sgx, if_neg (fun e => by have := (sb0 i (by omega)).2.1; omega)]
    exact sgx_n hc k (i + 1) (by omega)
theorem c_idx {c : Nat} {h : abJ} (hc : c < 256) : fJ0_indexOf_0f7a4 (((nI c).toUInt32 % 65536).toInt32) h = some (oI (sgx c 12 0)) := by
  unfold fJ0_indexOf_0f7a4 fJ0_indexOf_7cf53 fJ0_isLatin1_aae02
  rw [ab_bindS, if_neg (by decide), c_len (j := 0) h, i8h c hc]
  unfold fJ1_indexOf_4cfef fJ1_canEncode_9a6ad
  rw [if_neg (by rw [show (0 : Int32) = nI 0 from rfl, nI_ltI (by omega) (by omega)]; omega), if_neg (by rw [show (255 : Int32) = nI 255 from rfl, nI_ltI (by omega) (by omega)]; omega)]
  simp only [ab_bindS]
  rw [if_neg (by decide)]
  have e1 : fJ9_max_7cf53 0 0 h = some (nI 0) := by unfold fJ9_max_7cf53; rfl
  have e2 : fJ9_min_7cf53 (nI (ab_sl.getD 0 0)) (Int32.ofNat 12) h = some (nI 12) := by unfold fJ9_min_7cf53; rfl
  rw [e1, e2]
  simp only [ab_bindS]
  rw [if_pos (by decide)]
  unfold fJ1_indexOfChar_4cfef
  by_cases c1 : c < 128
  · rw [(i8' c c1).1, c_ioc c1 12 ab_N 0 (by omega) (by unfold ab_N; omega)]; rfl
  · rw [c_iocn (i8n c hc (by omega)) 12 ab_N 0 (by omega) (by unfold ab_N; omega), sgx_n (by omega) 12 0 (by omega)]; rfl
theorem sgx_k {T : Nat → Nat} {a : Nat} : ∀ {k i : Nat}, i + k = 12 → kwf (txt T a 1) 25 (sgt.drop i) (30 + i) = match sgx (T a) k i with | none => 25 | some j => 30 + j
  | 0, i, h => by
    rw [show i = 12 by omega]; rfl
  | k + 1, i, h => by
    have h12 : i < sgt.length := by rw [sgt_n.2]; omega
    obtain ⟨_, _, s3⟩ := sb0 i (by omega)
    have e1 : sgt[i] = [stc 0 i] := by
      rw [← s3, List.getD_eq_getElem?_getD, List.getElem?_eq_getElem h12]; rfl
    have e2 : txt T a 1 = [T a] := rfl
    rw [List.drop_eq_getElem_cons h12, kwf, e1, sgx, e2]
    by_cases c : stc 0 i = T a
    · rw [if_pos (by rw [c]), if_pos c]
    · rw [if_neg (fun w => c (List.cons.inj w).1.symm), if_neg c, ← e2]
      exact sgx_k (k := k) (i := i + 1) (by omega)
theorem c_adv60 {T : Nat → Nat} {n a : Nat} {h0 h : abJ} (hT : TP T n 11 h0) (h5 : h0.1 9 5 = nI n) (ha : a ≤ n) (h7 : h.1 9 7 = nI a) (hf : f9 h0 h) : Ok (fX6_advance_J60 h) (fun h' => TC T n a h' ∧ f9 h0 h') := by
  have hn := hT.1
  have e5 : h.1 9 5 = nI n := by rw [hf.2 5 (by decide) (by decide) (by decide) (by decide)]; exact h5
  unfold fX6_advance_J60
  rw [h7, e5, ab_w1k (show 5 ≠ 6 by decide), e5]
  by_cases c : a < n
  · obtain ⟨t1, t2⟩ := (TP_f9 hT hf).2 a c
    rw [nI_clamp (by omega), t1, nI_1]
    refine Ok.pos (by rw [nI_ltI (by omega) (by omega)]; exact c) (Ok.ask (ixN (by omega) (by omega)) ?_)
    have j174 : isS (T a) = false → Ok (fX6_advance_J174 (nI (T a)) (ab_wI h 9 8 (nI (a + 1)))) (fun h' => TC T n a h' ∧ f9 h0 h') := by
      intro hs
      have sgn : isD (T a) = false → Ok ((fJ0_indexOf_0f7a4 (((nI (T a)).toUInt32 % 65536).toInt32) (ab_wI h 9 8 (nI (a + 1)))).bind (fun r7 => if r7 < 0 then some (ab_wI (ab_wI h 9 8 (nI (a + 1))) 9 6 1) else some (ab_wI (ab_wI h 9 8 (nI (a + 1))) 9 6 3))) (fun h' => TC T n a h' ∧ f9 h0 h') := by
        intro hd
        have ek : kdP T n a = match sgx (T a) 12 0 with | none => 25 | some j => 30 + j := by
          unfold kdP
          rw [if_pos c, hs, if_neg (by decide), hd, if_neg (by decide)]
          exact sgx_k (k := 12) (i := 0) (by omega)
        have eb : behP T n a = a + 1 := by unfold behP; rw [if_pos c, hs, if_neg (by decide), hd, if_neg (by decide)]
        rw [c_idx t2, ab_bindS]
        cases e : sgx (T a) 12 0 with
        | none =>
          rw [e] at ek
          refine Ok.pos (by decide) (Ok.some ⟨⟨?_, ?_, ?_, ?_, fun q => ?_⟩, f9_w (f9_w hf (by simp)) (by simp)⟩)
          · rw [ab_w1k (by decide), ab_w1k (by decide)]; exact e5
          · rw [ab_w1k (by decide), ab_w1k (by decide)]; exact h7
          · rw [ab_w1k (by decide), ab_w1e, eb]
          · rw [ab_w1e, ek]; rfl
          · rw [ek] at q; cases q
        | some j =>
          rw [e] at ek
          have hj : j < 12 := by
            have : ∀ k i, i + k ≤ 12 → ∀ j, sgx (T a) k i = some j → j < 12 := by
              intro k
              induction k with
              | zero => intro i _ j h; cases h
              | succ k ih =>
                intro i hi j h
                rw [sgx] at h
                split at h
                · have := Option.some.inj h; omega
                · exact ih (i + 1) (by omega) j h
            exact this 12 0 (by omega) j e
          have ec : ck (30 + j) = 3 := by unfold ck; rw [if_neg (by omega), if_neg (by omega), if_neg (by omega)]
          have ek : kdP T n a = 30 + j := ek
          refine Ok.neg (show ¬ nI j < 0 from nI_pos (by omega)) (Ok.some ⟨⟨?_, ?_, ?_, ?_, fun q => ?_⟩, f9_w (f9_w hf (by simp)) (by simp)⟩)
          · rw [ab_w1k (by decide), ab_w1k (by decide)]; exact e5
          · rw [ab_w1k (by decide), ab_w1k (by decide)]; exact h7
          · rw [ab_w1k (by decide), ab_w1e, eb]
          · rw [ab_w1e, ek, ec]; rfl
          · omega
      unfold fX6_advance_J174
      by_cases c1 : T a < 48
      · exact Ok.pos (by rw [show (48 : Int32) = nI 48 from rfl, nI_ltI (by omega) (by omega)]; exact c1) (sgn (by unfold isD; exact decide_eq_false (by omega)))
      · refine Ok.neg (by rw [show (48 : Int32) = nI 48 from rfl, nI_ltI (by omega) (by omega)]; exact c1) ?_
        by_cases c2 : 57 < T a
        · exact Ok.pos (by rw [show (57 : Int32) = nI 57 from rfl, nI_ltI (by omega) (by omega)]; exact c2) (sgn (by unfold isD; exact decide_eq_false (by omega)))
        · have hd : isD (T a) = true := by unfold isD; exact decide_eq_true (by omega)
          refine Ok.neg (by rw [show (57 : Int32) = nI 57 from rfl, nI_ltI (by omega) (by omega)]; exact c2) ?_
          have eb : behP T n a = rnE isD T (n - a) a := by unfold behP; rw [if_pos c, hs, if_neg (by decide), hd, if_pos rfl]
          have ek : kdP T n a = if behP T n a - a ≤ 3 then 23 else 25 := by unfold kdP; rw [if_pos c, hs, if_neg (by decide), hd, if_pos rfl]
          have er : rnE isD T (n - (a + 1)) (a + 1) = behP T n a := by
            rw [eb, show n - a = (n - (a + 1)) + 1 by omega, rnE, if_pos hd]
          have h0' : nI (T a) - 48 = nI (nvl T a (a + 1 - a)) := by
            rw [show a + 1 - a = 0 + 1 by omega, nvl_s, show (48 : Int32) = nI 48 from rfl, pk_sub (by omega)]
            exact congrArg nI (by rw [Nat.add_zero]; show T a - 48 = 10 * 0 + (T a - 48); omega)
          refine (c_adv194 (h0 := h0) hT h5 (n - (a + 1)) ab_N (a + 1) _ (by omega) (by unfold ab_N; omega) (by omega) er (by rw [ab_w1k (by decide), ab_w1e]) (by rw [ab_w1k (by decide), ab_w1k (by decide)]; exact h7) (by rw [ab_w1e]; exact h0') (f9_w (f9_w hf (by simp)) (by simp))).mono (fun h' hr => ⟨⟨?_, hr.2.1, hr.1, ?_, fun _ => hr.2.2.2.1⟩, hr.2.2.2.2⟩)
          · rw [hr.2.2.2.2.2 5 (by decide) (by decide) (by decide) (by decide)]; exact h5
          · rw [hr.2.2.1, ek]
            split <;> rfl
    by_cases c1 : T a < 97
    · exact Ok.pos (by rw [show (97 : Int32) = nI 97 from rfl, nI_ltI (by omega) (by omega)]; exact c1) (j174 (by unfold isS; exact decide_eq_false (by omega)))
    · refine Ok.neg (by rw [show (97 : Int32) = nI 97 from rfl, nI_ltI (by omega) (by omega)]; exact c1) ?_
      by_cases c2 : 122 < T a
      · exact Ok.pos (by rw [show (122 : Int32) = nI 122 from rfl, nI_ltI (by omega) (by omega)]; exact c2) (j174 (by unfold isS; exact decide_eq_false (by omega)))
      · have hs : isS (T a) = true := by unfold isS; exact decide_eq_true (by omega)
        refine Ok.neg (by rw [show (122 : Int32) = nI 122 from rfl, nI_ltI (by omega) (by omega)]; exact c2) ?_
        have eb : behP T n a = rnE isS T (n - a) a := by unfold behP; rw [if_pos c, if_pos hs]
        have ek : kdP T n a = kwf (txt T a (behP T n a - a)) 22 kwt 0 := by unfold kdP; rw [if_pos c, if_pos hs]
        have er : rnE isS T (n - (a + 1)) (a + 1) = behP T n a := by
          rw [eb, show n - a = (n - (a + 1)) + 1 by omega, rnE, if_pos hs]
        have b1 := kwf_b (w := txt T a (behP T n a - a)) (z := 22) (xs := kwt) (i := 0)
        rw [kwt_n.2, ← ek] at b1
        have ec : ck (kdP T n a) = 3 := by unfold ck; rw [if_neg (by omega), if_neg (by omega), if_neg (by omega)]
        have f1 : f9 h0 (ab_wI (ab_wI h 9 8 (nI (a + 1))) 9 6 3) := f9_w (f9_w hf (by simp)) (by simp)
        refine (c_adv122 (h0 := ab_wI (ab_wI h 9 8 (nI (a + 1))) 9 6 3) (TP_f9 hT f1) (by rw [ab_w1k (by decide), ab_w1k (by decide)]; exact e5) (n - (a + 1)) ab_N (a + 1) _ (by omega) (by unfold ab_N; omega) er (by rw [ab_w1k (by decide), ab_w1e]) rfl rfl (f9_r _)).mono (fun h' hr => ⟨⟨?_, ?_, hr.1, ?_, fun q => by omega⟩, f9_t f1 hr.2.2.2⟩)
        · rw [hr.2.2.2.2 5 (by decide) (by decide) (by decide) (by decide), ab_w1k (by decide), ab_w1k (by decide)]; exact e5
        · rw [hr.2.1, ab_w1k (by decide), ab_w1k (by decide)]; exact h7
        · rw [hr.2.2.1, ab_w1e, ec]; rfl
  · have e : a = n := by omega
    have ek : kdP T n a = 24 := by unfold kdP; rw [if_neg c]
    have eb : behP T n a = a := by unfold behP; rw [if_neg c]
    refine Ok.neg (by rw [nI_ltI (by omega) (by omega)]; exact c) (Ok.some ⟨⟨?_, ?_, ?_, ?_, fun q => by omega⟩, f9_w (f9_w hf (by simp)) (by simp)⟩)
    · rw [ab_w1k (by decide), ab_w1k (by decide)]; exact e5
    · rw [ab_w1k (by decide), ab_w1k (by decide)]; exact h7
    · rw [ab_w1e, eb, e]
    · rw [ab_w1k (by decide), ab_w1e, ek]; rfl
theorem c_adv {T : Nat → Nat} {n b : Nat} {h : abJ} (hT : TP T n 11 h) (h5 : h.1 9 5 = nI n) (h8 : h.1 9 8 = nI b) (hb : b ≤ n) : Ok (fX6_advance h) (fun h' => TC T n (atP T n b) h' ∧ f9 h h') := by
  have hn := hT.1
  have key : ∀ (k N p : Nat) (h1 : abJ), p + k = n → k < N → rnE isB T k p = atP T n b → h1.1 9 7 = nI p → f9 h h1 → Ok (fX6_advance_L8 N h1) (fun h' => TC T n (atP T n b) h' ∧ f9 h h') := by
    intro k
    induction k with
    | zero =>
      intro N p h1 hp hN hE h7 hf
      obtain ⟨N, rfl⟩ : ∃ n0, N = n0 + 1 := ⟨N - 1, by omega⟩
      rw [fX6_advance_L8, h7, hf.2 5 (by decide) (by decide) (by decide) (by decide), h5]
      have e : p = atP T n b := hE
      exact Ok.pos (by rw [nI_leI (by omega) (by omega)]; omega) (c_adv60 hT h5 (by omega) (by rw [← e]; exact h7) hf)
    | succ k ih =>
      intro N p h1 hp hN hE h7 hf
      obtain ⟨N, rfl⟩ : ∃ n0, N = n0 + 1 := ⟨N - 1, by omega⟩
      obtain ⟨t1, t2⟩ := (TP_f9 hT hf).2 p (by omega)
      rw [rnE] at hE
      rw [fX6_advance_L8, h7, hf.2 5 (by decide) (by decide) (by decide) (by decide), h5, nI_clamp (by omega), t1]
      unfold fX6_advance_J47
      rw [h7, nI_1]
      refine Ok.neg (by rw [nI_leI (by omega) (by omega)]; omega) (Ok.ask (ixN (by omega) (by omega)) ?_)
      have go : isB (T p) = true → Ok (fX6_advance_L8 N (ab_wI h1 9 7 (nI (p + 1)))) (fun h' => TC T n (atP T n b) h' ∧ f9 h h') := by
        intro e
        rw [if_pos e] at hE
        exact ih N (p + 1) _ (by omega) (by omega) hE (ab_w1e ..) (f9_w hf (by simp))
      by_cases c1 : T p = 32
      · exact Ok.pos (by rw [c1]; rfl) (go (by unfold isB; exact decide_eq_true (Or.inl c1)))
      · refine Ok.neg (by rw [show (32 : Int32) = nI 32 from rfl, nI_eq (by omega) (by omega)]; exact c1) (Ok.ask (ixN (by omega) (by omega)) ?_)
        by_cases c2 : T p = 10
        · exact Ok.pos (by rw [c2]; rfl) (go (by unfold isB; exact decide_eq_true (Or.inr c2)))
        · have e : isB (T p) = false := by unfold isB; exact decide_eq_false (by omega)
          rw [e, if_neg (by decide)] at hE
          exact Ok.neg (by rw [show (10 : Int32) = nI 10 from rfl, nI_eq (by omega) (by omega)]; exact c2) (c_adv60 hT h5 (by omega) (by rw [← hE]; exact h7) hf)
  unfold fX6_advance
  rw [h8]
  exact key (n - b) ab_N b _ (by omega) (by unfold ab_N; omega) rfl (ab_w1e ..) (f9_w (f9_r h) (by simp))
