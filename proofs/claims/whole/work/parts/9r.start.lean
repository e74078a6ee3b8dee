/-! How all is at first; the law. Written by wip/whole/gen_ctor.py. -/
theorem zD_gd {α : Type} (d : α) : ∀ (l : List α) (k : Nat), l.length ≤ k → l.getD k d = d
  | [], _, _ => by simp
  | _ :: _, 0, h => absurd h (by simp)
  | _ :: l, k + 1, h => zD_gd d l k (Nat.le_of_succ_le_succ h)
theorem zR_len : ∀ o, o < 88 → (ab_RFl.getD o []).length ≤ 40 := by decide +kernel
theorem zR_out {o k : Nat} (h : ab_RF o k ≠ 0) : o < 88 ∧ k < 40 := by
  by_cases c : o < 88
  · refine ⟨c, ?_⟩
    by_cases c2 : k < 40
    · exact c2
    · have e : ab_RF o k = 0 := zD_gd 0 (ab_RFl.getD o []) k (by have := zR_len o c; omega)
      exact absurd e h
  · refine absurd ?_ h
    have e : ab_RFl.getD o [] = [] := zD_gd [] ab_RFl o (by rw [show ab_RFl.length = 88 from by decide +kernel]; omega)
    show (ab_RFl.getD o []).getD k 0 = 0
    rw [e]
    exact zD_gd 0 [] k (Nat.zero_le _)
theorem zR_in : ∀ o, o < 88 → ∀ k, k < 40 → ab_RF o k ≠ 0 → zD_204.2.2 o k = ab_RF o k := by decide +kernel
theorem zR_all : zD_204.2.2 = ab_RF := by
  funext o k
  by_cases c : ab_RF o k = 0
  · rw [c]; exact zb_204 o k c
  · exact zR_in o (zR_out c).1 k (zR_out c).2 c
def zM : MoT := (1, 0, 1, fun _ => 0, fun _ _ => 0, none, none)
def zA : AbT := (zM, s00, [], fun _ => none, (0, fun _ => 0), (0, -1), fun _ => none)
theorem zW : WF zA := by
  have hM : MO zM := ⟨by decide, by decide, by decide, by decide, fun _ => Nat.zero_le _, fun _ _ => rfl, fun _ _ => Nat.zero_lt_one, fun c h => (by have h : (none : Option (List Nat)) = some c := h; cases h), fun c h => (by have h : (none : Option (List Nat)) = some c := h; cases h)⟩
  have hS : SO zM s00 := ⟨by decide, fun p => (by show 0 / 3 ^ p % 3 < max 1 0; rw [Nat.zero_div]; decide), by decide⟩
  refine ⟨hM, hS, ⟨Nat.zero_le _, fun i hi => absurd hi (Nat.not_lt_zero i)⟩, fun i x _ h => ?_, ⟨Nat.zero_le _, fun k hk => absurd hk (Nat.not_lt_zero k)⟩, fun j t _ h => ?_⟩
  · have h : (none : ImT) = some x := h
    cases h
  · have h : (none : TrT) = some t := h
    cases h
theorem z_m : zD_204.1 1 0 = nI 1 ∧ zD_204.1 1 1 = nI 0 ∧ zD_204.1 1 2 = nI 1 ∧ (∀ p, p < 6 → zD_204.1 2 p = nI 0) ∧ zD_204.1 1 3 = nI 0 ∧ zD_204.1 1 4 = nI 0 ∧ zD_204.1 1 5 = nI 0 ∧ zD_204.1 1 6 = nI 0 := by decide +kernel
theorem z_s : zD_204.1 12 0 = nI 0 ∧ zD_204.1 12 1 = nI 0 ∧ zD_204.1 12 2 = nI 0 ∧ zD_204.1 12 3 = nI 0 := by decide +kernel
theorem z_k : zD_204.1 13 2 = nI 0 := by decide +kernel
theorem z_f : ∀ f, f < 10 → ∀ p, p < 6 → ∀ a, a < 3 → zD_204.1 14 ((f * 6 + p) * 3 + a) = -nI 1 := by decide +kernel
theorem z_o : zD_204.1 16 6 = nI 0 ∧ zD_204.1 9 4 = nI 0 ∧ zD_204.1 9 10 = 0 ∧ zD_204.1 9 11 = -1 := by decide +kernel
theorem z_i : ∀ i, i < 2 → zD_204.1 (54 + 5 * i) 0 = nI 0 := by decide +kernel
theorem z_y : ∀ j, j < 4 → zD_204.1 (44 + 2 * j) 0 = nI 1 := by decide +kernel
theorem z_rm : zD_204.1 65 0 = nI 0 ∧ zD_204.1 65 1 = nI 1 ∧ zD_204.1 65 2 = nI 1 ∧ (∀ p, p < 6 → zD_204.1 65 (9 + p) = nI 0) ∧ zD_204.1 65 3 = nI 0 ∧ zD_204.1 65 4 = nI 0 := by decide +kernel
theorem z_rs : zD_204.1 65 33 = nI 0 ∧ (∀ p, p < 6 → zD_204.1 65 (33 + (1 + p)) = nI 0) ∧ zD_204.1 65 40 = nI 0 ∧ zD_204.1 65 41 = nI 0 ∧ zD_204.1 65 42 = nI 0 := by decide +kernel
theorem z_ro : zD_204.1 64 5 = nI 0 ∧ zD_204.1 64 13 = 0 ∧ zD_204.1 64 14 = -1 := by decide +kernel
theorem z_ri : ∀ i, i < 2 → zD_204.1 66 i = nI 0 := by decide +kernel
theorem z_ry : ∀ j, j < 4 → zD_204.1 85 j = -nI 1 := by decide +kernel
theorem z_dg (p : Nat) : dg 0 p = 0 := by
  show 0 / 3 ^ p % 3 = 0
  rw [Nat.zero_div]
theorem zC_f {f : Nat → Nat → Int32} {g : Nat → Nat → Int64} (h1 : f 1 0 = nI 1 ∧ f 1 1 = nI 0 ∧ f 1 2 = nI 1 ∧ (∀ p, p < 6 → f 2 p = nI 0) ∧ f 1 3 = nI 0 ∧ f 1 4 = nI 0 ∧ f 1 5 = nI 0 ∧ f 1 6 = nI 0) (h2 : f 12 0 = nI 0 ∧ f 12 1 = nI 0 ∧ f 12 2 = nI 0 ∧ f 12 3 = nI 0) (h3 : f 13 2 = nI 0) (h4 : ∀ i, i < 10 → ∀ p, p < 6 → ∀ a, a < 3 → f 14 ((i * 6 + p) * 3 + a) = -nI 1) (h5 : f 16 6 = nI 0 ∧ f 9 4 = nI 0 ∧ f 9 10 = 0 ∧ f 9 11 = -1) (h6 : ∀ i, i < 2 → f (54 + 5 * i) 0 = nI 0) (h7 : ∀ j, j < 4 → f (44 + 2 * j) 0 = nI 1) : RC zA (f, g) := by
  have r0 : ∀ i, rdy zM i (f, g) := fun i p a ha => absurd ha (Nat.not_lt_zero a)
  obtain ⟨m1, m2, m3, m4, m5, m6, m7, m8⟩ := h1
  obtain ⟨o1, o2, o3, o4⟩ := h5
  exact ⟨⟨m1, m2, m3, m4, fun p r hr => absurd hr (Nat.not_lt_zero r), ⟨m5, m6⟩, ⟨m7, m8⟩⟩, h2, ⟨⟨0, by decide, h3, fun i _ _ => r0 i⟩, fun i p a hi hp ha _ => h4 i hi p hp a ha⟩, r0 _, ⟨o1, fun i hi => absurd hi (Nat.not_lt_zero i)⟩, fun i hi => h6 i hi, ⟨o2, fun k hk => absurd hk (Nat.not_lt_zero k)⟩, ⟨o3, o4⟩, fun j hj => h7 j hj⟩
theorem zC : RC zA (zD_204.1, zD_204.2.1) := zC_f z_m z_s z_k z_f z_o z_i z_y
theorem zQ_f {f : Nat → Nat → Int32} {g : Nat → Nat → Int64} (h1 : f 65 0 = nI 0 ∧ f 65 1 = nI 1 ∧ f 65 2 = nI 1 ∧ (∀ p, p < 6 → f 65 (9 + p) = nI 0) ∧ f 65 3 = nI 0 ∧ f 65 4 = nI 0) (h2 : f 65 33 = nI 0 ∧ (∀ p, p < 6 → f 65 (33 + (1 + p)) = nI 0) ∧ f 65 40 = nI 0 ∧ f 65 41 = nI 0 ∧ f 65 42 = nI 0) (h3 : f 64 5 = nI 0 ∧ f 64 13 = 0 ∧ f 64 14 = -1) (h4 : ∀ i, i < 2 → f 66 i = nI 0) (h5 : ∀ j, j < 4 → f 85 j = -nI 1) : RR zA (f, g) := by
  obtain ⟨m1, m2, m3, m4, m5, m6⟩ := h1
  obtain ⟨s1, s2, s3, s4, s5⟩ := h2
  obtain ⟨o1, o2, o3⟩ := h3
  refine ⟨⟨m1, m2, m3, m4, fun p r hr => absurd hr (Nat.not_lt_zero r), m5, m6⟩, ⟨s1, fun p hp => ?_, s3, s4⟩, ⟨s5, fun i hi => absurd hi (Nat.not_lt_zero i)⟩, fun i hi => h4 i hi, ⟨o1, fun k hk => absurd hk (Nat.not_lt_zero k)⟩, ⟨o2, o3⟩, fun j hj => h5 j hj⟩
  show f 65 (33 + (1 + p)) = nI (dg 0 p)
  rw [z_dg]
  exact s2 p hp
theorem zQ : RR zA (zD_204.1, zD_204.2.1) := zQ_f z_rm z_rs z_ro z_ri z_ry
theorem z_ex (X : abX) (hL : X.1 ≤ 3072) : ab_Ex X 1000 320 0 [(0, .ref 3000001)] [] [] (fun _ _ => 0, fun _ _ => 0, fun _ _ => 0) (fun r => r.1 = some (.int 1) ∧ r.2.1 = ab_SH) := by
  refine zt_all X ?_
  have e : zD_204 = ab_dD (zD_204.1, zD_204.2.1) := Prod.ext rfl (Prod.ext rfl zR_all)
  show ab_Ex X 1000 320 18 [(0, .ref 3000001), (1, .ref 0), (2, .ref 64), (3, .int (nI 0))] [] ab_SH zD_204 _
  rw [e]
  exact law_loop X hL 513 0 (zD_204.1, zD_204.2.1) (by omega) (by omega) ⟨zA, zW, zC, zQ⟩
