/-! image, restore, count, feed, lists. -/
theorem ab_cp1 (h : abJ) (o1 o2 : Nat) (sp dp n : Int32) (o : Nat) (ho : o ≠ o2) : (ab_cp h o1 o2 sp dp n).1 o = h.1 o := if_neg ho
theorem ab_cp2 (h : abJ) (o1 o2 n k : Nat) (hn : n < 2 ^ 31) (hk : k < n) : (ab_cp h o1 o2 0 0 (nI n)).1 o2 k = h.1 o1 k := by
  show (if o2 = o2 then va_cpy (h.1 o1) (h.1 o2) (0 : Int32).toNatClampNeg (0 : Int32).toNatClampNeg (nI n).toNatClampNeg else h.1 o2) k = _
  rw [if_pos rfl, nI_clamp hn, show (0 : Int32).toNatClampNeg = 0 from by decide]
  unfold va_cpy
  rw [if_pos (by omega)]
  simp
theorem fr_cp {S T : List Nat} {h h' : abJ} (a : fr S T h h') {o1 o2 : Nat} {sp dp n : Int32} (ho : o2 ∈ S) : fr S T h (ab_cp h' o1 o2 sp dp n) := ⟨fun q hq => by rw [ab_cp1 _ _ _ _ _ _ _ (fun e => hq (by rw [e]; exact ho))]; exact a.1 q hq, a.2⟩
theorem c_mcopy {m : MoT} {o x0 : Nat} {h : abJ} (hO : MO m) (h0 : x0 + 3 < o ∨ o + 3 < x0) (hM : cM m x0 h) : Ok (fX3_copy o x0 h) (fun h' => cM m o h' ∧ fr [o, o + 1, o + 2, o + 3] [] h h') := by
  unfold fX3_copy
  simp only [ab_w1n (show x0 ≠ o by omega)]
  generalize e7 : ab_wI (ab_wI (ab_wI (ab_wI (ab_wI (ab_wI (ab_wI h o 0 (h.1 x0 0)) o 1 (h.1 x0 1)) o 2 (h.1 x0 2)) o 3 (h.1 x0 3)) o 4 (h.1 x0 4)) o 5 (h.1 x0 5)) o 6 (h.1 x0 6) = h7
  have f7 : fr [o, o + 1, o + 2, o + 3] [] h h7 := by
    subst e7
    exact fr_w (fr_w (fr_w (fr_w (fr_w (fr_w (fr_w (fr_r _ _ _) (by simp)) (by simp)) (by simp)) (by simp)) (by simp)) (by simp)) (by simp)
  have e0 : ∀ k, k < 7 → h7.1 o k = h.1 x0 k := by
    intro k hk
    have cs : k = 0 ∨ k = 1 ∨ k = 2 ∨ k = 3 ∨ k = 4 ∨ k = 5 ∨ k = 6 := by omega
    subst e7
    rcases cs with e | e | e | e | e | e | e <;> subst e <;> simp [ab_w1]
  have g1 : ∀ q, q ≠ o → h7.1 q = h.1 q := by
    intro q hq
    subst e7
    rw [ab_w1n hq, ab_w1n hq, ab_w1n hq, ab_w1n hq, ab_w1n hq, ab_w1n hq, ab_w1n hq]
  generalize e8 : ab_cp h7 (x0 + 1) (o + 1) 0 0 6 = h8
  generalize e9 : ab_cp h8 (x0 + 2) (o + 2) 0 0 18 = h9
  generalize e10 : ab_cp h9 (x0 + 3) (o + 3) 0 0 900 = h10
  have n8 : ∀ q, q ≠ o + 1 → h8.1 q = h7.1 q := fun q hq => by subst e8; exact ab_cp1 _ _ _ _ _ _ _ hq
  have n9 : ∀ q, q ≠ o + 2 → h9.1 q = h8.1 q := fun q hq => by subst e9; exact ab_cp1 _ _ _ _ _ _ _ hq
  have n10 : ∀ q, q ≠ o + 3 → h10.1 q = h9.1 q := fun q hq => by subst e10; exact ab_cp1 _ _ _ _ _ _ _ hq
  have c8 : ∀ k, k < 6 → h8.1 (o + 1) k = h.1 (x0 + 1) k := fun k hk => by
    subst e8
    rw [show (6 : Int32) = nI 6 from rfl, ab_cp2 _ _ _ _ _ (by omega) hk, g1 _ (by omega)]
  have c9 : ∀ k, k < 18 → h9.1 (o + 2) k = h.1 (x0 + 2) k := fun k hk => by
    subst e9
    rw [show (18 : Int32) = nI 18 from rfl, ab_cp2 _ _ _ _ _ (by omega) hk, n8 _ (by omega), g1 _ (by omega)]
  have c10 : ∀ k, k < 900 → h10.1 (o + 3) k = h.1 (x0 + 3) k := fun k hk => by
    subst e10
    rw [show (900 : Int32) = nI 900 from rfl, ab_cp2 _ _ _ _ _ (by omega) hk, n9 _ (by omega), n8 _ (by omega), g1 _ (by omega)]
  have eo : h10.1 o = h7.1 o := by rw [n10 _ (by omega), n9 _ (by omega), n8 _ (by omega)]
  have eL : ∀ c a b, cL c a b (h.1 (x0 + 3)) → cL c a b (h10.1 (o + 3)) := by
    intro c a b hc
    cases c with
    | none => exact hc
    | some l =>
      obtain ⟨k, q1, q2, q3, q4⟩ := hc
      exact ⟨k, q1, q2, q3, fun i hi => by rw [c10 _ (by omega)]; exact q4 i hi⟩
  refine Ok.some ⟨⟨?_, ?_, ?_, fun p hp => ?_, fun p r hr => ?_, ?_, ?_⟩, ?_⟩
  · rw [eo, e0 0 (by omega)]; exact hM.1
  · rw [eo, e0 1 (by omega)]; exact hM.2.1
  · rw [eo, e0 2 (by omega)]; exact hM.2.2.1
  · rw [n10 _ (by omega), n9 _ (by omega), c8 p hp]; exact hM.2.2.2.1 p hp
  · have h3 := hO.2.2.2.2.1 p
    have := (mR_p hO hr).2
    rw [n10 _ (by omega), c9 _ (by omega)]; exact hM.2.2.2.2.1 p r hr
  · rw [eo, e0 3 (by omega), e0 4 (by omega)]; exact eL _ _ _ hM.2.2.2.2.2.1
  · rw [eo, e0 5 (by omega), e0 6 (by omega)]; exact eL _ _ _ hM.2.2.2.2.2.2
  · subst e10 e9 e8
    exact fr_cp (fr_cp (fr_cp f7 (by simp)) (by simp)) (by simp)
def upI (A : AbT) (i : Nat) (x : ImT) : AbT := (A.1, A.2.1, A.2.2.1, fun j => if j = i then x else A.2.2.2.1 j, A.2.2.2.2)
theorem aI_s {A : AbT} {j : Nat} {t : ImT} : aI (upI A j t) j = t := if_pos rfl
theorem aI_n {A : AbT} {i j : Nat} {t : ImT} (h : i ≠ j) : aI (upI A j t) i = aI A i := if_neg h
theorem ab_im_n {k : Nat} (h : k < 2 ^ 31) : ab_im (nI k) = 54 + 5 * k := by unfold ab_im; rw [nI_clamp h]
theorem ab_is_n {k : Nat} (h : k < 2 ^ 31) : ab_is (nI k) = 58 + 5 * k := by unfold ab_is; rw [nI_clamp h]
theorem r_image_L {j : Nat} (hj : j < 2) : ∀ (k n i : Nat) (h : abJ), i + k = 1034 → k < n → Ok (fX12_image_L20 n (nI j) (nI i) h) (fun r => r.1 = nI 0 ∧ r.2.1 66 j = nI 1 ∧ (∀ q, q ≠ j → r.2.1 66 q = h.1 66 q) ∧ (∀ q, i ≤ q → q < 1034 → r.2.1 65 (1034 * (j + 1) + q) = h.1 65 q) ∧ (∀ q, q < 1034 * (j + 1) + i ∨ 1034 * (j + 2) ≤ q → r.2.1 65 q = h.1 65 q) ∧ fr [65, 66] [] h r.2) := by
  intro k
  induction k with
  | zero =>
    intro n i h hi hn
    obtain ⟨n, rfl⟩ : ∃ n0, n = n0 + 1 := ⟨n - 1, by omega⟩
    rw [fX12_image_L20, nI_clamp (by omega)]
    refine Ok.pos (by rw [show (1034 : Int32) = nI 1034 from rfl, nI_leI (by omega) (by omega)]; omega) (Ok.ask (ixN (by omega) (by omega)) (Ok.some ⟨rfl, ?_, fun q hq => ab_w1k hq, fun q h1 h2 => by omega, fun q _ => by rw [ab_w1n (by decide)], fr_w (fr_r _ _ _) (by simp)⟩))
    rw [ab_w1e]; decide
  | succ k ih =>
    intro n i h hi hn
    obtain ⟨n, rfl⟩ : ∃ n0, n = n0 + 1 := ⟨n - 1, by omega⟩
    rw [fX12_image_L20, show (1034 : Int32) = nI 1034 from rfl, nI_1, nI_1, pk_mul, nI_add, nI_clamp (show i < 2 ^ 31 by omega), nI_clamp (show 1034 * (j + 1) + i < 2 ^ 31 by omega)]
    refine Ok.neg (by rw [nI_leI (by omega) (by omega)]; omega) (Ok.ask (ixN (by omega) (by omega)) (Ok.ask (ixN (by omega) (by omega)) ?_))
    refine (ih n (i + 1) _ (by omega) (by omega)).mono (fun r hr => ⟨hr.1, hr.2.1, fun q hq => ?_, fun q h1 h2 => ?_, fun q hq => ?_, fr_t (fr_w (fr_r _ _ _) (by simp)) hr.2.2.2.2.2⟩)
    · rw [hr.2.2.1 q hq, ab_w1n (by decide)]
    · by_cases e : q = i
      · subst e; rw [hr.2.2.2.2.1 _ (by omega), ab_w1e]
      · rw [hr.2.2.2.1 q (by omega) h2, ab_w1k (by omega)]
    · rw [hr.2.2.2.2.1 q (by omega), ab_w1k (by omega)]
theorem rM_big {m : MoT} {g g' : Nat → Int32} (hO : MO m) (hM : rM m g) (e : ∀ q, q < 1034 → g' q = g q) : rM m g' := by
  obtain ⟨m1, m2, m3, m4, m5, m6, m7⟩ := hM
  have hL : ∀ c j, j < 2 → rL c g j → rL c g' j := by
    intro c j hj hr
    cases c with
    | none =>
      have hr : g (3 + j) = nI 0 := hr
      show g' (3 + j) = nI 0
      rw [e _ (by omega)]; exact hr
    | some l =>
      obtain ⟨a1, k, a2, a3, a4, a5⟩ := hr
      exact ⟨by rw [e _ (by omega)]; exact a1, k, by rw [e _ (by omega)]; exact a2, by rw [e _ (by omega)]; exact a3, a4, fun i hi => by rw [e _ (by omega)]; exact a5 i hi⟩
  refine ⟨by rw [e _ (by omega)]; exact m1, by rw [e _ (by omega)]; exact m2, by rw [e _ (by omega)]; exact m3, fun p hp => by rw [e _ (by omega)]; exact m4 p hp, fun p r hr => ?_, hL _ 0 (by omega) m6, hL _ 1 (by omega) m7⟩
  have := (mR_p hO hr).2
  have h3 := hO.2.2.2.2.1 p
  rw [e _ (by omega)]; exact m5 p r hr
theorem call_image (x : Int32) : call2 (fX11_image x) (fX12_image x) := by
  intro A hW
  have hO := hW.1
  have out : (x < 0 ∨ nI 2 ≤ x) → ∃ (v : Int32) (A' : AbT), WF A' ∧ (∀ h, RC A h → Ok (fX11_image x h) (fun x => x.1 = v ∧ RC A' x.2 ∧ abv h x.2)) ∧ (∀ h, RR A h → Ok (fX12_image x h) (fun x => x.1 = v ∧ RR A' x.2 ∧ blw h x.2)) := fun hx => call2_no (v := -2) hW (fun h hR => by
      unfold fX11_image
      by_cases c : x < 0
      · exact Ok.pos c (Ok.some ⟨rfl, hR, abv_r _⟩)
      · exact Ok.neg c (Ok.neg (by rw [Int32.not_lt]; exact hx.resolve_left c) (Ok.some ⟨rfl, hR, abv_r _⟩))) (fun h hR => by
      obtain ⟨hR0, b0⟩ := RR0 hR
      unfold fX12_image; rw [r_w03n (n := 1) (B := 1) _ rfl (x_ge (by omega) hx)]; exact Ok.some ⟨rfl, hR0, b0⟩)
  rcases pk_ix x (n := 2) (by omega) with hx | hx | ⟨j, hj, rfl⟩
  · exact out (Or.inl hx)
  · exact out (Or.inr hx)
  refine ⟨nI 0, upI A j (some (aM A, aS A)), ⟨hW.1, hW.2.1, hW.2.2.1, fun i y hi e => ?_, hW.2.2.2.2⟩, fun h hR => ?_, fun h hR => ?_⟩
  · by_cases c : i = j
    · subst c
      rw [aI_s] at e
      cases e
      exact ⟨hW.1, hW.2.1⟩
    · rw [aI_n c] at e
      exact hW.2.2.2.1 i y hi e
  · unfold fX11_image
    rw [nI_clamp (by omega), ab_im_n (by omega), ab_is_n (by omega)]
    refine Ok.neg (by rw [show (0 : Int32) = nI 0 from rfl, nI_ltI (by omega) (by omega)]; omega) (Ok.pos (by rw [show (2 : Int32) = nI 2 from rfl, nI_ltI (by omega) (by omega)]; exact hj) (Ok.ask (ixN (by omega) (by omega)) ?_))
    refine Ok.bind (c_mcopy hO (by omega) hR.1) (fun h1 hr1 => Ok.ask (ixN (by omega) (by omega)) ?_)
    refine Ok.bind (c_copy (by omega) (cS_fr hR.2.1 hr1.2 (by simp; omega))) (fun h2 hr2 => Ok.some ?_)
    have f2 : fr [54 + 5 * j, 54 + 5 * j + 1, 54 + 5 * j + 2, 54 + 5 * j + 3, 58 + 5 * j] [] h h2 := fr_t (fr_m hr1.2 (by simp) (by simp)) (fr_m hr2.2 (by simp) (by simp))
    have e1 : ∀ o, o < 54 ∨ (54 + 5 * (1 - j) ≤ o ∧ o ≤ 58 + 5 * (1 - j)) → h2.1 o = h.1 o := fun o ho => f2.1 o (by simp; omega)
    obtain ⟨r1, r2, r3, r4, r5, r6, r7, r8, r9⟩ := hR
    have h10 := hW.2.2.1.1
    refine ⟨rfl, ⟨cM_fr r1 f2 (by simp; omega) (by simp; omega) (by simp; omega) (by simp; omega), cS_fr r2 f2 (by simp; omega), cK_fr r3 f2 (by simp; omega) (by simp; omega), rdy_fr r4 f2 (by simp; omega), ⟨by rw [e1 16 (by omega)]; exact r5.1, fun i hi => ?_⟩, fun i hi => ?_, ⟨by rw [e1 9 (by omega)]; exact r7.1, fun k hk => by rw [e1 11 (by omega)]; exact r7.2 k hk⟩, ⟨by rw [e1 9 (by omega)]; exact r8.1, by rw [e1 9 (by omega)]; exact r8.2⟩, fun i hi => ?_⟩, abv_fr f2 (by simp; omega) (by simp)⟩
    · have hi : i < (aU A).length := hi
      exact ⟨cS_fr (r5.2 i hi).1 f2 (by simp; omega), rdy_fr (r5.2 i hi).2 f2 (by simp; omega)⟩
    · by_cases c : i = j
      · subst c
        rw [aI_s]
        exact ⟨cM_fr hr1.1 hr2.2 (by simp) (by simp; omega) (by simp; omega) (by simp; omega), hr2.1⟩
      · rw [aI_n c]
        have := r6 i hi
        unfold cI cM cS at this ⊢
        rw [e1 (54 + 5 * i) (by omega), e1 (54 + 5 * i + 1) (by omega), e1 (54 + 5 * i + 2) (by omega), e1 (54 + 5 * i + 3) (by omega), e1 (58 + 5 * i) (by omega)]; exact this
    · have := r9 i hi
      unfold cY at this ⊢
      rw [e1 (44 + 2 * i) (by omega), f2.2 _ (by simp)]; exact this
  · obtain ⟨hR0, b0⟩ := RR0 hR
    unfold fX12_image
    rw [r_w03 (n := 1) (B := 1) _ (by omega) (by omega) rfl, ab_bindS, decide_eq_true (show j ≤ 1 by omega)]
    refine Ok.neg (by decide) ?_
    generalize ab_wI h 64 0 0 = h0 at *
    refine (r_image_L hj 1034 ab_N 0 h0 (by omega) (by unfold ab_N; omega)).mono (fun r hr => ?_)
    obtain ⟨q1, q2, q3, q4, q5, q6⟩ := hr
    obtain ⟨r1, r2, r3, r4, r5, r6, r7⟩ := hR0
    have e65 : ∀ q, q < 1034 → r.2.1 65 q = h0.1 65 q := fun q hq => q5 q (by omega)
    have h10 := hW.2.2.1.1
    refine ⟨q1, ⟨rM_big hO r1 e65, rS_eq r2 (fun q hq => e65 _ (by omega)), ⟨by rw [e65 42 (by omega)]; exact r3.1, fun i hi => ?_⟩, fun i hi => ?_, ⟨by rw [q6.1 64 (by decide)]; exact r5.1, fun k hk => by rw [q6.1 67 (by decide)]; exact r5.2 k hk⟩, ⟨by rw [q6.1 64 (by decide)]; exact r6.1, by rw [q6.1 64 (by decide)]; exact r6.2⟩, fun i hi => ?_⟩, blw_t b0 (fun o ho => ⟨q6.1 o (by simp; omega), q6.2 o (by simp)⟩)⟩
    · have hi : i < (aU A).length := hi
      exact rS_eq (r3.2 i hi) (fun q hq => e65 _ (by omega))
    · by_cases c : i = j
      · subst c
        rw [aI_s]
        refine ⟨q2, rM_big hO r1 (fun q hq => q4 q (by omega) hq), rS_eq r2 (fun q hq => q4 (33 + q) (by omega) (by omega))⟩
      · rw [aI_n c]
        have := r4 i hi
        cases e : aI A i with
        | none =>
          rw [e] at this
          show r.2.1 66 i = nI 0
          rw [q3 i c]; exact this
        | some y =>
          rw [e] at this
          have hy := hW.2.2.2.1 i y hi e
          refine ⟨by rw [q3 i c]; exact this.1, rM_big hy.1 this.2.1 (fun q hq => q5 _ (by omega)), rS_eq this.2.2 (fun q hq => q5 _ (by omega))⟩
    · have := r7 i hi
      unfold rY at this ⊢
      rw [q6.1 85 (by decide), q6.1 86 (by decide), q6.2 87 (by simp)]; exact this
theorem c_fillK {o N : Nat} {x : Int32} (ho : ab_ln o = N) (hN : N < 2 ^ 31) : ∀ (k n i : Nat) (h : abJ), i + k = N → k < n → Ok (fJ7_fill_53178_L5 o n x (nI i) (nI N) h) (fun h' => (∀ q, i ≤ q → q < N → h'.1 o q = x) ∧ (∀ q, q < i ∨ N ≤ q → h'.1 o q = h.1 o q) ∧ fr [o] [] h h') := by
  intro k
  induction k with
  | zero =>
    intro n i h hi hn
    obtain ⟨n, rfl⟩ : ∃ n0, n = n0 + 1 := ⟨n - 1, by omega⟩
    rw [fJ7_fill_53178_L5]
    exact Ok.pos (by rw [nI_leI (by omega) (by omega)]; omega) (Ok.some ⟨fun q h1 h2 => by omega, fun _ _ => rfl, fr_r _ _ _⟩)
  | succ k ih =>
    intro n i h hi hn
    obtain ⟨n, rfl⟩ : ∃ n0, n = n0 + 1 := ⟨n - 1, by omega⟩
    rw [fJ7_fill_53178_L5, ho, nI_clamp (by omega), nI_1]
    refine Ok.neg (by rw [nI_leI (by omega) (by omega)]; omega) (Ok.ask (ixN (by omega) (by omega)) ?_)
    refine (ih n (i + 1) _ (by omega) (by omega)).mono (fun h' hr => ⟨fun q h1 h2 => ?_, fun q hq => ?_, fr_t (fr_w (fr_r _ _ _) (by simp)) hr.2.2⟩)
    · by_cases e : q = i
      · subst e; rw [hr.2.1 q (by omega), ab_w1e]
      · exact hr.1 q (by omega) h2
    · rw [hr.2.1 q (by omega), ab_w1k (by omega)]
theorem c_fillA {o N : Nat} {x : Int32} (h : abJ) (ho : ab_ln o = N) (hN : N < 1000000) : Ok (fJ7_fill_53178 o x h) (fun h' => (∀ q, q < N → h'.1 o q = x) ∧ fr [o] [] h h') := by
  unfold fJ7_fill_53178
  rw [ho]
  exact (c_fillK ho (by omega) N ab_N 0 h (by omega) (by unfold ab_N; omega)).mono (fun h' hr => ⟨fun q hq => hr.1 q (by omega) hq, hr.2.2⟩)
/-- another moor: its steps are forgotten, those of its fog worked out -/
theorem c_anew {m : MoT} {s : StT} {h : abJ} (hO : MO m) (hs : SO m s) (hM : cM m 1 h) (hS : cS s 12 h) : Ok ((fX7_forget h).bind (fun r7 => fX7_prepare (r7.1 12 2) r7)) (fun h' => cK m h' ∧ rdy m (sF s) h' ∧ fr [13, 14, 15] [] h h') := by
  unfold fX7_forget
  refine Ok.bind (P := fun h1 => cK m h1 ∧ fr [13, 14, 15] [] h h1) (Ok.bind (c_fillA h (o := 14) (N := 180) (x := -1) (by decide) (by omega)) (fun r hr => Ok.some ⟨⟨⟨0, by omega, ab_w1e _ _ _ _, fun f _ hb => by simp at hb⟩, fun f p a hf hp ha _ => ?_⟩, fr_w (fr_m hr.2 (by simp) (by simp)) (by simp)⟩)) (fun h1 hr => ?_)
  · rw [ab_w1n (by decide), hr.1 _ (by omega)]; rfl
  · have e12 : h1.1 12 2 = nI (sF s) := by rw [hr.2.1 12 (by decide)]; exact hS.2.2.1
    rw [e12]
    exact (c_prepare hO hs.2.2 (cM_fr hM hr.2 (by decide) (by decide) (by decide) (by decide)) hr.1).mono (fun h' hr2 => ⟨hr2.1, hr2.2.1, fr_t hr.2 hr2.2.2.2⟩)
theorem r_restore_L {j : Nat} (hj : j < 2) : ∀ (k n i : Nat) (h : abJ), i + k = 1034 → k < n → Ok (fX12_restore_L32 n (nI j) (nI i) h) (fun r => r.1 = nI 0 ∧ r.2.1 65 42 = nI 0 ∧ (∀ q, i ≤ q → q < 1034 → q ≠ 42 → r.2.1 65 q = h.1 65 (1034 * (j + 1) + q)) ∧ (∀ q, 1034 ≤ q → r.2.1 65 q = h.1 65 q) ∧ (∀ q, q < i → q ≠ 42 → r.2.1 65 q = h.1 65 q) ∧ fr [65] [] h r.2) := by
  intro k
  induction k with
  | zero =>
    intro n i h hi hn
    obtain ⟨n, rfl⟩ : ∃ n0, n = n0 + 1 := ⟨n - 1, by omega⟩
    rw [fX12_restore_L32]
    exact Ok.pos (by rw [show (1034 : Int32) = nI 1034 from rfl, nI_leI (by omega) (by omega)]; omega) (Ok.some ⟨rfl, ab_w1e _ _ _ _, fun q h1 h2 => by omega, fun q _ => ab_w1k (by omega), fun q _ hq => ab_w1k hq, fr_w (fr_r _ _ _) (by simp)⟩)
  | succ k ih =>
    intro n i h hi hn
    obtain ⟨n, rfl⟩ : ∃ n0, n = n0 + 1 := ⟨n - 1, by omega⟩
    rw [fX12_restore_L32, show (1034 : Int32) = nI 1034 from rfl, nI_1, nI_1, pk_mul, nI_add, nI_clamp (show i < 2 ^ 31 by omega), nI_clamp (show 1034 * (j + 1) + i < 2 ^ 31 by omega)]
    refine Ok.neg (by rw [nI_leI (by omega) (by omega)]; omega) (Ok.ask (ixN (by omega) (by omega)) (Ok.ask (ixN (by omega) (by omega)) ?_))
    refine (ih n (i + 1) _ (by omega) (by omega)).mono (fun r hr => ⟨hr.1, hr.2.1, fun q h1 h2 h3 => ?_, fun q hq => ?_, fun q hq h3 => ?_, fr_t (fr_w (fr_r _ _ _) (by simp)) hr.2.2.2.2.2⟩)
    · by_cases e : q = i
      · subst e; rw [hr.2.2.2.2.1 q (by omega) h3, ab_w1e]
      · rw [hr.2.2.1 q (by omega) h2 h3, ab_w1k (by omega)]
    · rw [hr.2.2.2.1 q hq, ab_w1k (by omega)]
    · rw [hr.2.2.2.2.1 q (by omega) h3, ab_w1k (by omega)]
def upM (A : AbT) (m : MoT) (s : StT) : AbT := (m, s, [], A.2.2.2)
theorem WF_M {A : AbT} {m : MoT} {s : StT} (hW : WF A) (hO : MO m) (hs : SO m s) : WF (upM A m s) := ⟨hO, hs, ⟨Nat.zero_le _, fun i hi => absurd hi (Nat.not_lt_zero _)⟩, hW.2.2.2⟩
theorem call_restore (x : Int32) : call2 (fX11_restore x) (fX12_restore x) := by
  intro A hW
  have out : (x < 0 ∨ nI 2 ≤ x) → ∃ (v : Int32) (A' : AbT), WF A' ∧ (∀ h, RC A h → Ok (fX11_restore x h) (fun x => x.1 = v ∧ RC A' x.2 ∧ abv h x.2)) ∧ (∀ h, RR A h → Ok (fX12_restore x h) (fun x => x.1 = v ∧ RR A' x.2 ∧ blw h x.2)) := fun hx => call2_no (v := -2) hW (fun h hR => by
      unfold fX11_restore
      by_cases c : x < 0
      · exact Ok.pos c (Ok.some ⟨rfl, hR, abv_r _⟩)
      · exact Ok.neg c (Ok.neg (by rw [Int32.not_lt]; exact hx.resolve_left c) (Ok.some ⟨rfl, hR, abv_r _⟩))) (fun h hR => by
      obtain ⟨hR0, b0⟩ := RR0 hR
      unfold fX12_restore; rw [r_w03n (n := 1) (B := 1) _ rfl (x_ge (by omega) hx)]; exact Ok.some ⟨rfl, hR0, b0⟩)
  rcases pk_ix x (n := 2) (by omega) with hx | hx | ⟨j, hj, rfl⟩
  · exact out (Or.inl hx)
  · exact out (Or.inr hx)
  cases e : aI A j with
  | none =>
    refine call2_no (v := -5) hW (fun h hR => ?_) (fun h hR => ?_)
    · have ht := hR.2.2.2.2.2.1 j hj
      rw [e] at ht
      have ht : h.1 (54 + 5 * j) 0 = nI 0 := ht
      unfold fX11_restore
      rw [nI_clamp (by omega), ab_im_n (by omega), ht]
      exact Ok.neg (by rw [show (0 : Int32) = nI 0 from rfl, nI_ltI (by omega) (by omega)]; omega) (Ok.pos (by rw [show (2 : Int32) = nI 2 from rfl, nI_ltI (by omega) (by omega)]; exact hj) (Ok.ask (ixN (by omega) (by omega)) (Ok.pos rfl (Ok.some ⟨rfl, hR, abv_r _⟩))))
    · obtain ⟨hR0, b0⟩ := RR0 hR
      have ht := hR0.2.2.2.1 j hj
      rw [e] at ht
      have ht : (ab_wI h 64 0 0).1 66 j = nI 0 := ht
      unfold fX12_restore
      rw [r_w03 (n := 1) (B := 1) _ (by omega) (by omega) rfl, ab_bindS, decide_eq_true (show j ≤ 1 by omega), nI_clamp (by omega), ht]
      exact Ok.neg (by decide) (Ok.ask (ixN (by omega) (by omega)) (Ok.pos rfl (Ok.some ⟨rfl, hR0, b0⟩)))
  | some y =>
    obtain ⟨hO, hs⟩ := hW.2.2.2.1 j y hj e
    have h1P := hO.1
    have h6 := hO.2.1
    refine ⟨nI 0, upM A y.1 y.2, WF_M hW hO hs, fun h hR => ?_, fun h hR => ?_⟩
    · have ht := hR.2.2.2.2.2.1 j hj
      rw [e] at ht
      unfold fX11_restore
      rw [nI_clamp (by omega), ab_im_n (by omega), ab_is_n (by omega), ht.1.1]
      refine Ok.neg (by rw [show (0 : Int32) = nI 0 from rfl, nI_ltI (by omega) (by omega)]; omega) (Ok.pos (by rw [show (2 : Int32) = nI 2 from rfl, nI_ltI (by omega) (by omega)]; exact hj) (Ok.ask (ixN (by omega) (by omega)) (Ok.neg (by rw [show (0 : Int32) = nI 0 from rfl, nI_eq (by omega) (by omega)]; omega) (Ok.ask (ixN (by omega) (by omega)) ?_))))
      refine Ok.bind (c_mcopy hO (by omega) ht.1) (fun h1 hr1 => Ok.ask (ixN (by omega) (by omega)) ?_)
      refine Ok.bind (c_copy (by omega) (cS_fr ht.2 hr1.2 (by simp; omega))) (fun h2 hr2 => ?_)
      have f2 : fr [1, 2, 3, 4, 12, 16] [] h (ab_wI h2 16 6 0) := fr_w (fr_t (fr_m hr1.2 (by simp) (by simp)) (fr_m hr2.2 (by simp) (by simp))) (by simp)
      have hM2 : cM y.1 1 (ab_wI h2 16 6 0) := cM_fr (cM_fr hr1.1 hr2.2 (by decide) (by decide) (by decide) (by decide)) (fr_w (fr_r [16] [] h2) (by simp)) (by decide) (by decide) (by decide) (by decide)
      have hS2 : cS y.2 12 (ab_wI h2 16 6 0) := cS_fr hr2.1 (fr_w (fr_r [16] [] h2) (by simp)) (by decide)
      obtain ⟨h3, ez, hr3⟩ := c_anew hO hs hM2 hS2
      obtain ⟨w, ew, hw⟩ := ab_bind_s ez
      rw [ew, ab_bindS, hw, ab_bindS]
      refine Ok.some ?_
      have f3 : fr [1, 2, 3, 4, 12, 16, 13, 14, 15] [] h h3 := fr_t (fr_m f2 (by simp) (by simp)) (fr_m hr3.2.2 (by simp) (by simp))
      refine ⟨rfl, ⟨cM_fr hM2 hr3.2.2 (by decide) (by decide) (by decide) (by decide), cS_fr hS2 hr3.2.2 (by decide), hr3.1, hr3.2.1, ⟨?_, fun i hi => absurd hi (Nat.not_lt_zero _)⟩, cRest_eq (A := A) (RC_rest hR) (fun o ho => f3.1 o (by revert ho; revert o; decide)) (fun o ho => f3.2 o (by simp))⟩, abv_fr f3 (by decide) (by simp)⟩
      rw [hr3.2.2.1 16 (by decide), ab_w1e]; rfl
    · obtain ⟨hR0, b0⟩ := RR0 hR
      have ht := hR0.2.2.2.1 j hj
      rw [e] at ht
      unfold fX12_restore
      rw [r_w03 (n := 1) (B := 1) _ (by omega) (by omega) rfl, ab_bindS, decide_eq_true (show j ≤ 1 by omega), nI_clamp (by omega), ht.1]
      refine Ok.neg (by decide) (Ok.ask (ixN (by omega) (by omega)) (Ok.neg (by decide) ?_))
      generalize ab_wI h 64 0 0 = h0 at *
      refine (r_restore_L hj 1034 ab_N 0 h0 (by omega) (by unfold ab_N; omega)).mono (fun r hr => ?_)
      obtain ⟨q1, q2, q3, q4, q5, q6⟩ := hr
      refine ⟨q1, ⟨?_, rS_eq ht.2.2 (fun q hq => q3 (33 + q) (by omega) (by omega) (by omega)), ⟨q2, fun i hi => absurd hi (Nat.not_lt_zero _)⟩, ?_⟩, blw_t b0 (fun o ho => ⟨q6.1 o (by simp; omega), q6.2 o (by simp)⟩)⟩
      · have key : rM y.1 (fun q => if q < 1034 then r.2.1 65 q else h0.1 65 (1034 * (j + 1) + q)) := rM_eq hO ht.2.1 (fun q hq => by
          split
          · exact q3 q (by omega) (by omega) (by omega)
          · rfl)
        exact rM_big hO key (fun q hq => (if_pos hq).symm)
      · refine rRest_eq (A := A) (RR_rest hR0) (fun q hq => q4 q hq) (fun o ho => q6.1 o ?_) (fun k hk => by rw [q6.1 64 (by decide)]) (q6.2 87 (by simp))
        rcases ho with e | e | e | e <;> subst e <;> decide
