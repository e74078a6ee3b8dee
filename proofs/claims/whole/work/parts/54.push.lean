/-! What can be undone: a stand is put behind the others. -/
def upS (A : AbT) (s : StT) : AbT := (A.1, s, A.2.2)
def upU (A : AbT) (U : List StT) : AbT := (A.1, A.2.1, U, A.2.2.2)
def pU (U : List StT) (s : StT) : List StT := if U.length = 10 then U.tail ++ [s] else U ++ [s]
theorem gapp {U : List StT} {s : StT} {i : Nat} (h : i < U.length) : (U ++ [s]).getD i s00 = U.getD i s00 := by
  rw [List.getD_eq_getElem?_getD, List.getD_eq_getElem?_getD, List.getElem?_append_left h]
theorem gapp2 {U : List StT} {s : StT} {i : Nat} (h : i = U.length) : (U ++ [s]).getD i s00 = s := by
  subst h
  rw [List.getD_eq_getElem?_getD, List.getElem?_append_right (Nat.le_refl _)]
  simp
theorem gtail {U : List StT} {i : Nat} : U.tail.getD i s00 = U.getD (i + 1) s00 := by
  cases U with
  | nil => simp
  | cons a l => simp
theorem pU_len {U : List StT} {s : StT} (h : U.length ≤ 10) : (pU U s).length = if U.length = 10 then 10 else U.length + 1 := by
  unfold pU
  split
  · rename_i e
    rw [List.length_append, List.length_tail, e]; rfl
  · rw [List.length_append]; rfl
theorem WF_S {A : AbT} {s : StT} (hW : WF A) (hs : SO (aM A) s) : WF (upS A s) := ⟨hW.1, hs, hW.2.2⟩
theorem WF_U {A : AbT} {s : StT} (hW : WF A) (hs : SO (aM A) s) : WF (upU A (pU (aU A) s)) := by
  refine ⟨hW.1, hW.2.1, ⟨?_, fun i hi => ?_⟩, hW.2.2.2⟩
  · show (pU (aU A) s).length ≤ 10
    have := hW.2.2.1.1
    rw [pU_len this]
    split <;> omega
  · show SO (aM A) ((pU (aU A) s).getD i s00)
    have h10 := hW.2.2.1.1
    have hi : i < (pU (aU A) s).length := hi
    rw [pU_len h10] at hi
    unfold pU
    split
    · rename_i e
      rw [if_pos e] at hi
      by_cases c : i < 9
      · rw [gapp (by rw [List.length_tail]; omega), gtail]
        exact hW.2.2.1.2 (i + 1) (by omega)
      · rw [gapp2 (by rw [List.length_tail]; omega)]; exact hs
    · rename_i e
      rw [if_neg e] at hi
      by_cases c : i < (aU A).length
      · rw [gapp c]; exact hW.2.2.1.2 i c
      · rw [gapp2 (by omega)]; exact hs
def CR : List Nat := [9, 11, 44, 46, 48, 50, 54, 55, 56, 57, 58, 59, 60, 61, 62, 63]
/-- what the class has but for the moor, stands, steps -/
def cRest (A : AbT) (h : abJ) : Prop := (∀ i, i < 2 → cI (aI A i) i h) ∧ (h.1 9 4 = nI (aT A).1 ∧ ∀ k, k < (aT A).1 → h.1 11 k = nI ((aT A).2 k)) ∧ (h.1 9 10 = (aF A).1 ∧ h.1 9 11 = (aF A).2) ∧ ∀ j, j < 4 → cY (aY A j) j h
theorem cRest_eq {A : AbT} {h h' : abJ} (hR : cRest A h) (e1 : ∀ o, o ∈ CR → h'.1 o = h.1 o) (e2 : ∀ o, o = 45 ∨ o = 47 ∨ o = 49 ∨ o = 51 → h'.2 o = h.2 o) : cRest A h' := by
  obtain ⟨r6, r7, r8, r9⟩ := hR
  have c9 := e1 9 (by decide)
  have c11 := e1 11 (by decide)
  refine ⟨fun i hi => ?_, ⟨?_, fun k hk => ?_⟩, ⟨?_, ?_⟩, fun j hj => ?_⟩
  · have := r6 i hi
    have cs : i = 0 ∨ i = 1 := by omega
    unfold cI cM cS at this ⊢
    rcases cs with e | e <;> subst e
    · rw [e1 54 (by decide), e1 (54 + 5 * 0 + 1) (by decide), e1 (54 + 5 * 0 + 2) (by decide), e1 (54 + 5 * 0 + 3) (by decide), e1 (58 + 5 * 0) (by decide)]; exact this
    · rw [e1 (54 + 5 * 1) (by decide), e1 (54 + 5 * 1 + 1) (by decide), e1 (54 + 5 * 1 + 2) (by decide), e1 (54 + 5 * 1 + 3) (by decide), e1 (58 + 5 * 1) (by decide)]; exact this
  · rw [c9]; exact r7.1
  · rw [c11]; exact r7.2 k hk
  · rw [c9]; exact r8.1
  · rw [c9]; exact r8.2
  · have := r9 j hj
    have cs : j = 0 ∨ j = 1 ∨ j = 2 ∨ j = 3 := by omega
    unfold cY at this ⊢
    rcases cs with e | e | e | e <;> subst e <;> rw [e1 _ (by decide), e2 _ (by decide)] <;> exact this
theorem RC_rest {A : AbT} {h : abJ} (hR : RC A h) : cRest A h := hR.2.2.2.2.2
theorem RC_S {A : AbT} {s' : StT} {h h' : abJ} (hW : WF A) (hR : RC A h) (d : cD (aM A) 12 s' h h') : RC (upS A s') h' ∧ abv h h' := by
  obtain ⟨d1, d2, d3, d4, d5⟩ := d
  refine ⟨⟨cM_fr hR.1 d5 (by decide) (by decide) (by decide) (by decide), d1, d2, d3, ⟨?_, fun i hi => ⟨?_, ?_⟩⟩, ?_⟩, abv_fr d5 (by decide) (by simp)⟩
  · rw [d5.1 16 (by decide)]; exact hR.2.2.2.2.1.1
  · have h10 := hW.2.2.1.1
    have hi : i < (aU A).length := hi
    exact cS_fr (hR.2.2.2.2.1.2 i hi).1 d5 (by simp; omega)
  · exact d4 _ (hW.2.2.1.2 i hi).2.2 (hR.2.2.2.2.1.2 i hi).2
  · exact cRest_eq (A := A) (RC_rest hR) (fun o ho => d5.1 o (by revert ho; revert o; decide)) (fun o ho => d5.2 o (by simp))
theorem ab_pa_n {k : Nat} (h : k < 2 ^ 31) : ab_pa (nI k) = 20 + k := by unfold ab_pa; rw [nI_clamp h]; omega
theorem RC_U {A : AbT} {U : List StT} {h h' : abJ} (hR : RC A h) (h1 : h'.1 16 6 = nI U.length) (h2 : ∀ i, i < U.length → cS (U.getD i s00) (20 + i) h' ∧ rdy (aM A) (sF (U.getD i s00)) h') (hf : fr [16, 20, 21, 22, 23, 24, 25, 26, 27, 28, 29] [] h h') : RC (upU A U) h' := by
  refine ⟨cM_fr hR.1 hf (by decide) (by decide) (by decide) (by decide), cS_fr hR.2.1 hf (by decide), cK_fr hR.2.2.1 hf (by decide) (by decide), rdy_fr hR.2.2.2.1 hf (by decide), ⟨h1, h2⟩, ?_⟩
  exact cRest_eq (A := A) (RC_rest hR) (fun o ho => hf.1 o (by revert ho; revert o; decide)) (fun o ho => hf.2 o (by simp))
theorem c_endL {A : AbT} {s0 : StT} {h0 : abJ} (hU : (aU A).length = 10) (h17 : cS s0 17 h0) : ∀ (k n j : Nat) (h : abJ), j + k = 10 → 1 ≤ j → k < n → (∀ i, i + 1 < j → cS ((aU A).getD (i + 1) s00) (20 + i) h) → (∀ i, j ≤ i + 1 → i < 10 → cS ((aU A).getD i s00) (20 + i) h) → fr [16, 20, 21, 22, 23, 24, 25, 26, 27, 28, 29] [] h0 h → Ok (fX0_end_L16 n (nI j) h) (fun h' => h'.1 16 6 = nI 10 ∧ (∀ i, i < 9 → cS ((aU A).getD (i + 1) s00) (20 + i) h') ∧ cS s0 29 h' ∧ fr [16, 20, 21, 22, 23, 24, 25, 26, 27, 28, 29] [] h0 h') := by
  intro k
  induction k with
  | zero =>
    intro n j h hj h1j hn ha hb hf
    obtain ⟨n, rfl⟩ : ∃ n0, n = n0 + 1 := ⟨n - 1, by omega⟩
    have e : j = 10 := by omega
    subst e
    rw [fX0_end_L16]
    refine Ok.pos (by decide) ?_
    rw [ab_w1e, show (9 : Int32) = nI 9 from rfl, nI_clamp (by omega), ab_pa_n (by omega)]
    refine Ok.ask (ixN (by omega) (by omega)) ?_
    have h17' : cS s0 17 (ab_wI h 16 6 (nI 9)) := by
      unfold cS
      rw [ab_w1n (by decide), hf.1 17 (by decide)]; exact h17
    refine Ok.bind (c_copy (by decide) h17') (fun r hr => Ok.some ⟨?_, fun i hi => ?_, ?_, ?_⟩)
    · rw [ab_w1e, hr.2.1 16 (by decide), ab_w1e]; rfl
    · have := ha i (by omega)
      unfold cS at this ⊢
      rw [ab_w1n (by omega), hr.2.1 (20 + i) (by simp; omega), ab_w1n (by omega)]; exact this
    · unfold cS
      rw [ab_w1n (by decide)]; exact hr.1
    · exact fr_w (fr_t (fr_w hf (by simp)) (fr_m hr.2 (by simp) (by simp))) (by simp)
  | succ k ih =>
    intro n j h hj h1j hn ha hb hf
    obtain ⟨n, rfl⟩ : ∃ n0, n = n0 + 1 := ⟨n - 1, by omega⟩
    rw [fX0_end_L16]
    refine Ok.neg (by rw [show (10 : Int32) = nI 10 from rfl, nI_leI (by omega) (by omega)]; omega) ?_
    rw [pk_s1 h1j, nI_clamp (by omega), nI_clamp (by omega), ab_pa_n (by omega), ab_pa_n (by omega), nI_1]
    refine Ok.ask (ixN (by omega) (by omega)) (Ok.ask (ixN (by omega) (by omega)) ?_)
    refine Ok.bind (c_copy (s := (aU A).getD j s00) (by omega) (hb j (by omega) (by omega))) (fun r hr => ?_)
    refine ih n (j + 1) r (by omega) (by omega) (by omega) (fun i hi => ?_) (fun i h1 h2 => ?_) (fr_t hf (fr_m hr.2 (by intro o ho; simp at ho; subst ho; simp; omega) (by simp)))
    · by_cases e : i + 1 = j
      · subst e; exact hr.1
      · exact cS_fr (ha i (by omega)) hr.2 (by simp; omega)
    · exact cS_fr (hb i (by omega) h2) hr.2 (by simp; omega)
theorem in20 {L : Nat} (h : L ≤ 9) : 20 + L ∈ [16, 20, 21, 22, 23, 24, 25, 26, 27, 28, 29] := by simp; omega
theorem c_end {A : AbT} {s0 : StT} {h : abJ} {d : Nat} (hW : WF A) (hR : RC A h) (h17 : cS s0 17 h) (hr0 : rdy (aM A) (sF s0) h) (hd : 0 < d) (hd2 : d < 2 ^ 31) : Ok (fX0_end (nI d) h) (fun h' => RC (upU A (pU (aU A) s0)) h' ∧ abv h h' ∧ h'.1 12 = h.1 12) := by
  have h10 := hW.2.2.1.1
  have h16 := hR.2.2.2.2.1.1
  unfold fX0_end
  refine Ok.neg (by rw [show (0 : Int32) = nI 0 from rfl, nI_eq (by omega) (by omega)]; omega) ?_
  rw [h16]
  by_cases c : (aU A).length = 10
  · refine Ok.neg (by rw [show (10 : Int32) = nI 10 from rfl, nI_ltI (by omega) (by omega)]; omega) ?_
    refine (c_endL (A := A) c h17 9 ab_N 1 h (by omega) (by omega) (by unfold ab_N; omega) (fun i hi => by omega) (fun i _ hi => (hR.2.2.2.2.1.2 i (by omega)).1) (fr_r _ _ _)).mono (fun h' hr => ?_)
    obtain ⟨q1, q2, q3, q4⟩ := hr
    refine ⟨RC_U hR ?_ (fun i hi => ?_) q4, abv_fr q4 (by decide) (by simp), q4.1 12 (by decide)⟩
    · rw [pU_len h10, if_pos c]; exact q1
    · rw [pU_len h10, if_pos c] at hi
      unfold pU
      rw [if_pos c]
      by_cases e : i < 9
      · rw [gapp (by rw [List.length_tail]; omega), gtail]
        exact ⟨q2 i e, rdy_fr (hR.2.2.2.2.1.2 (i + 1) (by omega)).2 q4 (by decide)⟩
      · have e9 : i = 9 := by omega
        subst e9
        rw [gapp2 (by rw [List.length_tail]; omega)]
        exact ⟨q3, rdy_fr hr0 q4 (by decide)⟩
  · refine Ok.pos (by rw [show (10 : Int32) = nI 10 from rfl, nI_ltI (by omega) (by omega)]; omega) ?_
    rw [nI_clamp (by omega), ab_pa_n (by omega)]
    refine Ok.ask (ixN (by omega) (by omega)) ?_
    refine Ok.bind (c_copy (by omega) h17) (fun r hr => Ok.some ?_)
    have hin := in20 (L := (aU A).length) (by omega)
    have q4 : fr [16, 20, 21, 22, 23, 24, 25, 26, 27, 28, 29] [] h (ab_wI r 16 6 (r.1 16 6 + 1)) := fr_w (fr_m hr.2 (by intro o ho; simp at ho; subst ho; exact hin) (by simp)) (by simp)
    refine ⟨RC_U hR ?_ (fun i hi => ?_) q4, abv_fr q4 (by decide) (by simp), q4.1 12 (by decide)⟩
    · rw [pU_len h10, if_neg c, ab_w1e, hr.2.1 16 (by simp; omega), h16, nI_1]
    · rw [pU_len h10, if_neg c] at hi
      unfold pU
      rw [if_neg c]
      by_cases e : i < (aU A).length
      · rw [gapp e]
        refine ⟨?_, rdy_fr (hR.2.2.2.2.1.2 i e).2 q4 (by decide)⟩
        have := (hR.2.2.2.2.1.2 i e).1
        unfold cS at this ⊢
        rw [ab_w1n (by omega), hr.2.1 (20 + i) (by simp; omega)]; exact this
      · have ei : i = (aU A).length := by omega
        rw [gapp2 ei, ei]
        refine ⟨?_, rdy_fr hr0 q4 (by decide)⟩
        have := hr.1
        unfold cS at this ⊢
        rw [ab_w1n (by omega)]; exact this
/-! The reference. -/
theorem rM_eq {m : MoT} {g g' : Nat → Int32} (hO : MO m) (hM : rM m g) (e : ∀ q, q < 33 ∨ 133 < q → g' q = g q) : rM m g' := by
  obtain ⟨m1, m2, m3, m4, m5, m6, m7⟩ := hM
  have hL : ∀ c j, j < 2 → rL c g j → rL c g' j := by
    intro c j hj hr
    cases c with
    | none =>
      have hr : g (3 + j) = nI 0 := hr
      show g' (3 + j) = nI 0
      rw [e _ (by omega)]; exact hr
    | some l =>
      obtain ⟨a1, k, a2, a3, a4, a5⟩ := hr
      exact ⟨by rw [e _ (by omega)]; exact a1, k, by rw [e _ (by omega)]; exact a2, by rw [e _ (by omega)]; exact a3, a4, fun i hi => by rw [e _ (by omega)]; exact a5 i hi⟩
  refine ⟨by rw [e _ (by omega)]; exact m1, by rw [e _ (by omega)]; exact m2, by rw [e _ (by omega)]; exact m3, fun p hp => by rw [e _ (by omega)]; exact m4 p hp, fun p r hr => ?_, hL _ 0 (by omega) m6, hL _ 1 (by omega) m7⟩
  have := (mR_p hO hr).2
  have h3 := hO.2.2.2.2.1 p
  rw [e _ (by omega)]; exact m5 p r hr
theorem rS_eq {s : StT} {g g' : Nat → Int32} (hS : rS s g) (e : ∀ q, q < 9 → g' q = g q) : rS s g' := ⟨by rw [e _ (by omega)]; exact hS.1, fun p hp => by rw [e _ (by omega)]; exact hS.2.1 p hp, by rw [e _ (by omega)]; exact hS.2.2.1, by rw [e _ (by omega)]; exact hS.2.2.2⟩
/-- what the reference has but for the moor, the stand, what can be undone -/
def rRest (A : AbT) (h : abJ) : Prop := (∀ i, i < 2 → rI (aI A i) i h) ∧ (h.1 64 5 = nI (aT A).1 ∧ ∀ k, k < (aT A).1 → h.1 67 k = nI ((aT A).2 k)) ∧ (h.1 64 13 = (aF A).1 ∧ h.1 64 14 = (aF A).2) ∧ ∀ j, j < 4 → rY (aY A j) j h
theorem rRest_eq {A : AbT} {h h' : abJ} (hR : rRest A h) (e65 : ∀ q, 1034 ≤ q → h'.1 65 q = h.1 65 q) (e1 : ∀ o, o = 66 ∨ o = 67 ∨ o = 85 ∨ o = 86 → h'.1 o = h.1 o) (e2 : ∀ k, k = 5 ∨ k = 13 ∨ k = 14 → h'.1 64 k = h.1 64 k) (e3 : h'.2 87 = h.2 87) : rRest A h' := by
  obtain ⟨r4, r5, r6, r7⟩ := hR
  have c66 := e1 66 (by simp)
  have c67 := e1 67 (by simp)
  have c85 := e1 85 (by simp)
  have c86 := e1 86 (by simp)
  refine ⟨fun i hi => ?_, ⟨?_, fun k hk => ?_⟩, ⟨?_, ?_⟩, fun j hj => ?_⟩
  · have := r4 i hi
    have eq : ∀ k, h'.1 65 (1034 * (i + 1) + k) = h.1 65 (1034 * (i + 1) + k) := fun k => e65 _ (by omega)
    unfold rI at this ⊢
    simp only [c66, eq]
    exact this
  · rw [e2 5 (by simp)]; exact r5.1
  · rw [c67]; exact r5.2 k hk
  · rw [e2 13 (by simp)]; exact r6.1
  · rw [e2 14 (by simp)]; exact r6.2
  · have := r7 j hj
    unfold rY at this ⊢
    rw [c85, c86, e3]; exact this
theorem RR_rest {A : AbT} {h : abJ} (hR : RR A h) : rRest A h := hR.2.2.2
/-- a frame of the reference: scratch, and cell 65 -/
def sc65 : List Nat := 65 :: sc1
theorem RR_S {A : AbT} {s' : StT} {h h' : abJ} (hW : WF A) (hR : RR A h) (hS : rS s' (fun k => h'.1 65 (33 + k))) (e65 : ∀ q, q < 33 ∨ 41 < q → h'.1 65 q = h.1 65 q) (hf : frR sk1 sc65 [80, 81] h h') : RR (upS A s') h' ∧ blw h h' := by
  refine ⟨⟨rM_eq hW.1 hR.1 (fun q hq => e65 q (by omega)), hS, ⟨by rw [e65 42 (by omega)]; exact hR.2.2.1.1, fun i hi => rS_eq (hR.2.2.1.2 i hi) (fun q hq => e65 _ (by omega))⟩, ?_⟩, blw_fr hf (by decide) (by decide)⟩
  refine rRest_eq (A := A) (RR_rest hR) (fun q hq => e65 q (by omega)) (fun o ho => hf.1 o ?_ (by omega)) (fun k hk => hf.2.1 k ?_) (hf.2.2 87 (by decide))
  · rcases ho with e | e | e | e <;> subst e <;> decide
  · rcases hk with e | e | e <;> subst e <;> decide
theorem RR_U {A : AbT} {U : List StT} {h h' : abJ} (hW : WF A) (hR : RR A h) (h1 : h'.1 65 42 = nI U.length) (h2 : ∀ i, i < U.length → rS (U.getD i s00) (fun k => h'.1 65 (43 + 9 * i + k))) (e65 : ∀ q, q < 42 ∨ 132 < q → h'.1 65 q = h.1 65 q) (hf : frR sk1 sc65 [80, 81] h h') : RR (upU A U) h' ∧ blw h h' := by
  refine ⟨⟨rM_eq hW.1 hR.1 (fun q hq => e65 q (by omega)), rS_eq hR.2.1 (fun q hq => e65 _ (by omega)), ⟨h1, h2⟩, ?_⟩, blw_fr hf (by decide) (by decide)⟩
  refine rRest_eq (A := A) (RR_rest hR) (fun q hq => e65 q (by omega)) (fun o ho => hf.1 o ?_ (by omega)) (fun k hk => hf.2.1 k ?_) (hf.2.2 87 (by decide))
  · rcases ho with e | e | e | e <;> subst e <;> decide
  · rcases hk with e | e | e <;> subst e <;> decide
theorem r_stores_L : ∀ (k n j : Nat) (h : abJ), j + k = 9 → k < n → Ok (fX12_stores_L2 n (nI j) h) (fun h' => (∀ q, j ≤ q → q < 9 → h'.1 71 q = h.1 65 (33 + q)) ∧ (∀ q, q < j → h'.1 71 q = h.1 71 q) ∧ fr [71] [] h h') := by
  intro k
  induction k with
  | zero =>
    intro n j h hj hn
    obtain ⟨n, rfl⟩ : ∃ n0, n = n0 + 1 := ⟨n - 1, by omega⟩
    rw [fX12_stores_L2]
    exact Ok.pos (by rw [show (9 : Int32) = nI 9 from rfl, nI_leI (by omega) (by omega)]; omega) (Ok.some ⟨fun q h1 h2 => by omega, fun _ _ => rfl, fr_r _ _ _⟩)
  | succ k ih =>
    intro n j h hj hn
    obtain ⟨n, rfl⟩ : ∃ n0, n = n0 + 1 := ⟨n - 1, by omega⟩
    rw [fX12_stores_L2]
    refine Ok.neg (by rw [show (9 : Int32) = nI 9 from rfl, nI_leI (by omega) (by omega)]; omega) ?_
    rw [show (33 : Int32) = nI 33 from rfl, nI_add, nI_clamp (by omega), nI_clamp (by omega), nI_1]
    refine Ok.ask (ixN (by omega) (by omega)) (Ok.ask (ixN (by omega) (by omega)) ?_)
    refine (ih n (j + 1) _ (by omega) (by omega)).mono (fun h' hr => ⟨fun q h1 h2 => ?_, fun q hq => ?_, fr_t (fr_w (fr_r _ _ _) (by simp)) hr.2.2⟩)
    · by_cases e : q = j
      · subst e; rw [hr.2.1 q (by omega), ab_w1e]
      · rw [hr.1 q (by omega) h2, ab_w1n (by decide)]
    · rw [hr.2.1 q (by omega), ab_w1k (by omega)]
theorem r_stores (h : abJ) : Ok (fX12_stores h) (fun h' => (∀ q, q < 9 → h'.1 71 q = h.1 65 (33 + q)) ∧ fr [71] [] h h') := by
  unfold fX12_stores
  exact (r_stores_L 9 ab_N 0 h (by omega) (by unfold ab_N; omega)).mono (fun h' hr => ⟨fun q hq => hr.1 q (by omega) hq, hr.2.2⟩)
theorem r_isAgain_L : ∀ (k n j : Nat) (h : abJ), j + k = 9 → k < n → Ok (fX12_isAgain_L2 n (nI j) h) (fun h' => (∀ q, j ≤ q → q < 9 → h'.1 65 (33 + q) = h.1 71 q) ∧ (∀ q, q < 33 + j ∨ 41 < q → h'.1 65 q = h.1 65 q) ∧ fr [65] [] h h') := by
  intro k
  induction k with
  | zero =>
    intro n j h hj hn
    obtain ⟨n, rfl⟩ : ∃ n0, n = n0 + 1 := ⟨n - 1, by omega⟩
    rw [fX12_isAgain_L2]
    exact Ok.pos (by rw [show (9 : Int32) = nI 9 from rfl, nI_leI (by omega) (by omega)]; omega) (Ok.some ⟨fun q h1 h2 => by omega, fun _ _ => rfl, fr_r _ _ _⟩)
  | succ k ih =>
    intro n j h hj hn
    obtain ⟨n, rfl⟩ : ∃ n0, n = n0 + 1 := ⟨n - 1, by omega⟩
    rw [fX12_isAgain_L2]
    refine Ok.neg (by rw [show (9 : Int32) = nI 9 from rfl, nI_leI (by omega) (by omega)]; omega) ?_
    rw [show (33 : Int32) = nI 33 from rfl, nI_add, nI_clamp (by omega), nI_clamp (by omega), nI_1]
    refine Ok.ask (ixN (by omega) (by omega)) (Ok.ask (ixN (by omega) (by omega)) ?_)
    refine (ih n (j + 1) _ (by omega) (by omega)).mono (fun h' hr => ⟨fun q h1 h2 => ?_, fun q hq => ?_, fr_t (fr_w (fr_r _ _ _) (by simp)) hr.2.2⟩)
    · by_cases e : q = j
      · subst e; rw [hr.2.1 (33 + q) (by omega), ab_w1e]
      · rw [hr.1 q (by omega) h2, ab_w1n (by decide)]
    · rw [hr.2.1 q (by omega), ab_w1k (by omega)]
theorem r_isAgain (h : abJ) : Ok (fX12_isAgain h) (fun h' => (∀ q, q < 9 → h'.1 65 (33 + q) = h.1 71 q) ∧ (∀ q, q < 33 ∨ 41 < q → h'.1 65 q = h.1 65 q) ∧ fr [65] [] h h') := by
  unfold fX12_isAgain
  exact (r_isAgain_L 9 ab_N 0 h (by omega) (by unfold ab_N; omega)).mono (fun h' hr => ⟨fun q hq => hr.1 q (by omega) hq, fun q hq => hr.2.1 q (by omega), hr.2.2⟩)
theorem r_notes57 {N : Nat} (hN : N ≤ 9) : ∀ (k n j : Nat) (h : abJ), j + k = 9 → k < n → h.1 65 42 = nI N → Ok (fX12_notes_L57 n (nI j) h) (fun h' => (∀ q, j ≤ q → q < 9 → h'.1 65 (43 + 9 * N + q) = h.1 71 q) ∧ (∀ q, q < 43 + 9 * N + j ∨ 43 + 9 * N + 9 ≤ q → q ≠ 42 → h'.1 65 q = h.1 65 q) ∧ h'.1 65 42 = nI (N + 1) ∧ fr [65] [] h h') := by
  intro k
  induction k with
  | zero =>
    intro n j h hj hn h42
    obtain ⟨n, rfl⟩ : ∃ n0, n = n0 + 1 := ⟨n - 1, by omega⟩
    rw [fX12_notes_L57, h42, nI_1]
    exact Ok.pos (by rw [show (9 : Int32) = nI 9 from rfl, nI_leI (by omega) (by omega)]; omega) (Ok.some ⟨fun q h1 h2 => by omega, fun q _ h2 => by rw [ab_w1k h2], ab_w1e _ _ _ _, fr_w (fr_r _ _ _) (by simp)⟩)
  | succ k ih =>
    intro n j h hj hn h42
    obtain ⟨n, rfl⟩ : ∃ n0, n = n0 + 1 := ⟨n - 1, by omega⟩
    rw [fX12_notes_L57, h42]
    refine Ok.neg (by rw [show (9 : Int32) = nI 9 from rfl, nI_leI (by omega) (by omega)]; omega) ?_
    rw [show (43 : Int32) = nI 43 from rfl, show (9 : Int32) = nI 9 from rfl, pk_mul, nI_add, nI_add, nI_clamp (by omega), nI_clamp (by omega), nI_1]
    refine Ok.ask (ixN (by omega) (by omega)) (Ok.ask (ixN (by omega) (by omega)) ?_)
    refine (ih n (j + 1) _ (by omega) (by omega) (by rw [ab_w1k (by omega)]; exact h42)).mono (fun h' hr => ⟨fun q h1 h2 => ?_, fun q hq hq2 => ?_, hr.2.2.1, fr_t (fr_w (fr_r _ _ _) (by simp)) hr.2.2.2⟩)
    · by_cases e : q = j
      · subst e; rw [hr.2.1 _ (by omega) (by omega), ab_w1e]
      · rw [hr.1 q (by omega) h2, ab_w1n (by decide)]
    · rw [hr.2.1 q (by omega) hq2, ab_w1k (by omega)]
theorem r_notes14 {h0 : abJ} {Q : abJ → Prop} (hk : ∀ h, (∀ q, q < 81 → h.1 65 (43 + q) = h0.1 65 (52 + q)) → (∀ q, q < 43 ∨ 124 ≤ q → h.1 65 q = h0.1 65 q) → fr [65] [] h0 h → Ok (fX12_notes_J55 (ab_wI h 65 42 (h.1 65 42 - 1))) Q) : ∀ (k n j : Nat) (h : abJ), j + k = 81 → k < n → (∀ q, q < j → h.1 65 (43 + q) = h0.1 65 (52 + q)) → (∀ q, q < 43 ∨ 43 + j ≤ q → h.1 65 q = h0.1 65 q) → fr [65] [] h0 h → Ok (fX12_notes_L14 n (nI j) h) Q := by
  intro k
  induction k with
  | zero =>
    intro n j h hj hn h1 h2 hf
    obtain ⟨n, rfl⟩ : ∃ n0, n = n0 + 1 := ⟨n - 1, by omega⟩
    rw [fX12_notes_L14]
    exact Ok.pos (by rw [show (81 : Int32) = nI 81 from rfl, nI_leI (by omega) (by omega)]; omega) (hk h (fun q hq => h1 q (by omega)) (fun q hq => h2 q (by omega)) hf)
  | succ k ih =>
    intro n j h hj hn h1 h2 hf
    obtain ⟨n, rfl⟩ : ∃ n0, n = n0 + 1 := ⟨n - 1, by omega⟩
    rw [fX12_notes_L14]
    refine Ok.neg (by rw [show (81 : Int32) = nI 81 from rfl, nI_leI (by omega) (by omega)]; omega) ?_
    rw [show (43 : Int32) = nI 43 from rfl, show (52 : Int32) = nI 52 from rfl, nI_add, nI_add, nI_clamp (by omega), nI_clamp (by omega), nI_1]
    refine Ok.ask (ixN (by omega) (by omega)) (Ok.ask (ixN (by omega) (by omega)) ?_)
    refine ih n (j + 1) _ (by omega) (by omega) (fun q hq => ?_) (fun q hq => ?_) (fr_w hf (by simp))
    · by_cases e : q = j
      · subst e; rw [ab_w1e, h2 _ (by omega)]
      · rw [ab_w1k (by omega)]; exact h1 q (by omega)
    · rw [ab_w1k (by omega)]; exact h2 q (by omega)
theorem r_notes {A : AbT} {s0 : StT} {h : abJ} (hW : WF A) (hR : RR A h) (h71 : rS s0 (h.1 71)) : Ok (fX12_notes h) (fun h' => RR (upU A (pU (aU A) s0)) h' ∧ blw h h' ∧ (∀ q, q < 42 → h'.1 65 q = h.1 65 q) ∧ h'.1 71 = h.1 71) := by
  have h10 := hW.2.2.1.1
  have h42 := hR.2.2.1.1
  have hU := hR.2.2.1.2
  unfold fX12_notes
  rw [h42]
  have f65 : ∀ {h'}, fr [65] [] h h' → frR sk1 sc65 [80, 81] h h' := fun a => frR_m (frR_o (K := []) a (by decide)) (by simp) (by decide) (by simp)
  by_cases c : (aU A).length = 10
  · refine Ok.pos (by rw [c]; rfl) ?_
    refine r_notes14 (h0 := h) (fun h1 q1 q2 q3 => ?_) 81 ab_N 0 h (by omega) (by unfold ab_N; omega) (fun q hq => by omega) (fun _ _ => rfl) (fr_r _ _ _)
    unfold fX12_notes_J55
    rw [q2 42 (by omega), h42, c, pk_s1 (by omega)]
    refine (r_notes57 (N := 9) (by omega) 9 ab_N 0 _ (by omega) (by unfold ab_N; omega) (ab_w1e _ _ _ _)).mono (fun h' hr => ?_)
    obtain ⟨w1, w2, w3, w4⟩ := hr
    have e65 : ∀ q, q < 42 ∨ 132 < q → h'.1 65 q = h.1 65 q := fun q hq => by rw [w2 q (by omega) (by omega), ab_w1k (by omega), q2 q (by omega)]
    have ef : fr [65] [] h h' := fr_t (fr_w q3 (by simp)) w4
    have e71 : h'.1 71 = h.1 71 := ef.1 71 (by decide)
    have hUU : ∀ i, i < (pU (aU A) s0).length → rS ((pU (aU A) s0).getD i s00) (fun k => h'.1 65 (43 + 9 * i + k)) := by
      intro i hi
      rw [pU_len h10, if_pos c] at hi
      unfold pU
      rw [if_pos c]
      by_cases e : i < 9
      · rw [gapp (by rw [List.length_tail]; omega), gtail]
        refine rS_eq (hU (i + 1) (by omega)) (fun q hq => ?_)
        rw [w2 _ (by omega) (by omega), ab_w1k (by omega), show 43 + 9 * i + q = 43 + (9 * i + q) by omega, q1 _ (by omega)]
        show h.1 65 (52 + (9 * i + q)) = h.1 65 (43 + 9 * (i + 1) + q)
        rw [show 52 + (9 * i + q) = 43 + 9 * (i + 1) + q by omega]
      · have e9 : i = 9 := by omega
        subst e9
        rw [gapp2 (by rw [List.length_tail]; omega)]
        refine rS_eq h71 (fun q hq => ?_)
        rw [w1 q (by omega) hq, ab_w1n (by decide), q3.1 71 (by decide)]
    obtain ⟨a, b⟩ := RR_U (U := pU (aU A) s0) hW hR (by rw [pU_len h10, if_pos c]; exact w3) hUU e65 (f65 ef)
    exact ⟨a, b, fun q hq => e65 q (by omega), e71⟩
  · refine Ok.neg (by rw [show (10 : Int32) = nI 10 from rfl, nI_eq (by omega) (by omega)]; exact c) ?_
    unfold fX12_notes_J55
    refine (r_notes57 (N := (aU A).length) (by omega) 9 ab_N 0 h (by omega) (by unfold ab_N; omega) h42).mono (fun h' hr => ?_)
    obtain ⟨w1, w2, w3, w4⟩ := hr
    have e65 : ∀ q, q < 42 ∨ 132 < q → h'.1 65 q = h.1 65 q := fun q hq => w2 q (by omega) (by omega)
    have hUU : ∀ i, i < (pU (aU A) s0).length → rS ((pU (aU A) s0).getD i s00) (fun k => h'.1 65 (43 + 9 * i + k)) := by
      intro i hi
      rw [pU_len h10, if_neg c] at hi
      unfold pU
      rw [if_neg c]
      by_cases e : i < (aU A).length
      · rw [gapp e]
        exact rS_eq (hU i e) (fun q hq => w2 _ (by omega) (by omega))
      · have ei : i = (aU A).length := by omega
        rw [gapp2 ei, ei]
        exact rS_eq h71 (fun q hq => w1 q (by omega) hq)
    obtain ⟨a, b⟩ := RR_U (U := pU (aU A) s0) hW hR (by rw [pU_len h10, if_neg c]; exact w3) hUU e65 (f65 w4)
    exact ⟨a, b, fun q hq => e65 q (by omega), w4.1 71 (by decide)⟩
