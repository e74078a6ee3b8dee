/-! The class works out the steps of a fog. -/
theorem i_nn (x : Int32) : 0 ≤ x ↔ x.toBitVec.msb = false := by
  rw [Int32.le_iff_toInt_le, show (0 : Int32).toInt = 0 from by decide, BitVec.msb_eq_toInt]
  show 0 ≤ x.toBitVec.toInt ↔ _
  simp
theorem xor_sg {x y : Int32} (hy : 0 ≤ y) : 0 ≤ x ^^^ y ↔ 0 ≤ x := by
  rw [i_nn, i_nn, Int32.toBitVec_xor, BitVec.msb_xor, (i_nn y).mp hy]
  simp
theorem c_floorMod {R : Nat} {x : Int} (h : abJ) (hR : 0 < R) (hR3 : R ≤ 3) (hx : -1000003 ≤ x ∧ x ≤ 1000003) : fJ9_floorMod_7cf53 (iI x) (nI R) h = some (nI (x % (R : Int)).toNat) := by
  have t1 : (x.tmod R).natAbs < R := by rw [Int.natAbs_tmod]; exact Nat.mod_lt _ (by simpa using hR)
  have t2 : x.tmod R = x - R * x.tdiv R := Int.tmod_def _ _
  have hRn : (0 : Int32) ≤ nI R := by rw [show (0 : Int32) = nI 0 from rfl, nI_leI (by omega) (by omega)]; omega
  have hsg : 0 ≤ x → 0 ≤ x.tmod R := fun q => Int.tmod_nonneg _ q
  have hsg2 : x ≤ 0 → x.tmod R ≤ 0 := fun q => by
    have := Int.tmod_nonneg (a := -x) (R : Int) (by omega)
    rw [Int.neg_tmod] at this
    omega
  have h0 : (0 ≤ iI x) ↔ 0 ≤ x := by rw [Int32.le_iff_toInt_le, iI_T (by omega) (by omega)]; exact Iff.rfl
  unfold fJ9_floorMod_7cf53
  rw [ab_askP (by rw [show (0 : Int32) = nI 0 from rfl, nI_eq (by omega) (by omega)]; omega), k_rem hR hR3 (by omega)]
  simp only [xor_sg hRn, h0]
  generalize x.tmod R = t at *
  generalize x.tdiv R = q at *
  have c3 : R = 1 ∨ R = 2 ∨ R = 3 := by omega
  have nn : ∀ z : Int, 0 ≤ z → iI z = nI z.toNat := fun z hz => by rw [← iI_N, Int.toNat_of_nonneg hz]
  by_cases c : 0 ≤ x
  · rw [if_pos c, nn t (hsg c)]
    congr 2
    have := hsg c
    rcases c3 with c | c | c <;> subst c <;> omega
  · rw [if_neg c]
    have := hsg2 (by omega)
    by_cases c4 : t = 0
    · rw [if_pos (by rw [c4]; rfl), nn t (by omega)]
      congr 2
      rcases c3 with c | c | c <;> subst c <;> omega
    · rw [if_neg (by rw [show (0 : Int32) = iI 0 from rfl, ← Int32.toInt_inj, iI_T (by omega) (by omega), iI_T (by omega) (by omega)]; exact c4), ← iI_N R, iI_a, nn _ (by omega)]
      congr 2
      rcases c3 with c | c | c <;> subst c <;> omega
theorem w13_a {m : MoT} {f p a : Nat} {h : abJ} (hw : w13 (wd m f p a) h) : h.1 13 5 = nI p ∧ h.1 13 6 = nI a ∧ h.1 13 7 = nI (mR m p) ∧ h.1 13 4 = nI f := hw
theorem c_work106 {m : MoT} {h : abJ} {f p a : Nat} {v : Int} (hO : MO m) (hM : cM m 1 h) (hp : p < 6) (ha : a < mR m p) (hw : w13 (wd m f p a) h) (hv : -1000000 ≤ v ∧ v ≤ 1000000) : fX7_workOut_J106 (iI v) h = some (nI (mL m p a * 3 + (((a : Int) + v) % (mR m p : Int)).toNat), h) := by
  have h3 := hO.2.2.2.2.1 p
  obtain ⟨w0, w1, w2, w3⟩ := w13_a hw
  unfold fX7_workOut_J106
  rw [w0, w1, w2, c_leadsTo hO hM hp ha, ab_bindS, ← iI_N a, iI_a, c_floorMod h (by omega) h3 (by omega), ab_bindS, show (3 : Int32) = nI 3 from rfl, pk_mul, nI_add]
theorem c_work67 {m : MoT} {h : abJ} {f p a : Nat} (hO : MO m) (hM : cM m 1 h) (hf : f < 10) (hp : p < 6) (ha : a < mR m p) (hw : w13 (wd m f p a) h) : Ok (fX7_workOut_J67 h) (fun r => r.1 = nI (mL m p a * 3 + (((a : Int) + mv m f p a) % (mR m p : Int)).toNat) ∧ fr [15] [] h r.2) := by
  have h3 := hO.2.2.2.2.1 p
  have hT := hM.2.2.2.2.2.1
  unfold fX7_workOut_J67
  cases e : mT m with
  | none =>
    rw [e] at hT
    refine Ok.pos (by rw [hT.1, hT.2]; exact Int32.le_refl _) ?_
    rw [show (1 : Int32) = iI 1 from rfl, c_work106 hO hM hp ha hw (by omega)]
    refine Ok.some ⟨?_, fr_r _ _ _⟩
    simp only [mv, e]
  | some l =>
    rw [e] at hT
    obtain ⟨k, g1, g2, g3, g4⟩ := hT
    obtain ⟨t1, t2, t3⟩ := hO.2.2.2.2.2.2.2.1 l e
    have hB := wd_B hO hf hp (show a < 3 by omega)
    rw [g1, g2]
    refine Ok.neg (by rw [nI_leI (by omega) (by omega)]; omega) ?_
    refine Ok.bind (v_L hB l k ab_N [] [] h t1 trivial (by simp) g4 g3 (by unfold ab_N; omega) trivial hw) (fun r hr => ?_)
    have hb := hd_b (ev_vk hB t1 (s := []) trivial)
    rw [hr.1, c_work106 (m := m) (f := f) hO (cM_fr hM hr.2 (by decide) (by decide) (by decide) (by decide)) hp ha (by unfold w13; rw [hr.2.1 13 (by decide)]; exact hw) hb]
    refine Ok.some ⟨?_, hr.2⟩
    simp only [mv, e]
theorem c_workOut {m : MoT} {h : abJ} {f p a : Nat} (hO : MO m) (hM : cM m 1 h) (hf : f < 10) (hp : p < 6) (ha : a < mR m p) (hw : w13 (wd m f p a) h) : Ok (fX7_workOut h) (fun r => r.1 = nI (to m f p a * 3 + ar m f p a) ∧ fr [15] [] h r.2) := by
  have h3 := hO.2.2.2.2.1 p
  obtain ⟨w0, w1, w2, w3⟩ := w13_a hw
  have hK := hM.2.2.2.2.2.2
  unfold fX7_workOut
  rw [w2]
  refine Ok.pos (by rw [show (1 : Int32) = nI 1 from rfl, nI_leI (by omega) (by omega)]; omega) ?_
  cases e : mK m with
  | none =>
    rw [e] at hK
    refine Ok.pos (by rw [hK.1, hK.2]; exact Int32.le_refl _) ?_
    refine (c_work67 hO hM hf hp ha hw).mono (fun r hr => ⟨?_, hr.2⟩)
    rw [hr.1]
    have : wt m f p a = false := by unfold wt; rw [e]
    unfold to ar
    rw [this]
    rfl
  | some l =>
    rw [e] at hK
    obtain ⟨k, g1, g2, g3, g4⟩ := hK
    obtain ⟨t1, t2, t3⟩ := hO.2.2.2.2.2.2.2.2 l e
    have hB := wd_B hO hf hp (show a < 3 by omega)
    rw [g1, g2]
    refine Ok.neg (by rw [nI_leI (by omega) (by omega)]; omega) ?_
    refine Ok.bind (v_L hB l k ab_N [] [] h t1 trivial (by simp) g4 g3 (by unfold ab_N; omega) trivial hw) (fun r hr => ?_)
    have hb := hd_t (ev_vk hB t1 (s := []) trivial)
    have hw2 : w13 (wd m f p a) r.2 := by unfold w13; rw [hr.2.1 13 (by decide)]; exact hw
    obtain ⟨v0, v1, v2, v3⟩ := w13_a hw2
    rw [hr.1]
    by_cases c : hd (ev (wd m f p a) l []) = 1
    · have ew : wt m f p a = true := by unfold wt; rw [e]; simp [c]
      refine Ok.neg (by rw [iq0 hb]; simp [c]) ?_
      rw [v0, v1, v2]
      refine Ok.ask (by rw [show (0 : Int32) = nI 0 from rfl, nI_eq (by omega) (by omega)]; omega) (Ok.some ⟨?_, hr.2⟩)
      unfold to ar
      rw [ew]
      simp (disch := omega) only [ab_lits, nI_add, pk_mul, pk_sub, pk_div, nI_clamp, k_rm, k_mod, if_true]
    · have ew : wt m f p a = false := by unfold wt; rw [e]; simp [c]
      refine Ok.pos (by rw [iq0 hb]; exact c) ?_
      refine (c_work67 hO (cM_fr hM hr.2 (by decide) (by decide) (by decide) (by decide)) hf hp ha hw2).mono (fun z hz => ⟨?_, fr_t hr.2 hz.2⟩)
      rw [hz.1]
      unfold to ar
      rw [ew]
      rfl
/-- what stands in the table of steps: for a fog, all ahead of a post and an arm is done; else it is as it was -/
def tab (m : MoT) (f p a : Nat) (h0 h : abJ) : Prop := (∀ q b, b < mR m q → (q < p ∨ (q = p ∧ b < a)) → h.1 14 ((f * 6 + q) * 3 + b) = nI (to m f q b * 3 + ar m f q b)) ∧ (∀ i, (∀ q b, q < 6 → b < mR m q → i ≠ (f * 6 + q) * 3 + b) → h.1 14 i = h0.1 14 i)
theorem c_prep77 {m : MoT} {f p : Nat} {h0 : abJ} {k41 : Int32 → Int32 → abJ → Option abJ} {Q : abJ → Prop} (hO : MO m) (hf : f < 10) (hp : p < mP m) (hk : ∀ h, cM m 1 h → h.1 13 4 = nI f → tab m f (p + 1) 0 h0 h → (∀ k, k ≠ 4 → k ≠ 5 → k ≠ 6 → k ≠ 7 → h.1 13 k = h0.1 13 k) → fr [13, 14, 15] [] h0 h → Ok (k41 (nI f) (nI (p + 1)) h) Q) : ∀ (k n a : Nat) (h : abJ), a + k = mR m p → k < n → cM m 1 h → h.1 13 4 = nI f → h.1 13 5 = nI p → h.1 13 7 = nI (mR m p) → tab m f p a h0 h → (∀ k, k ≠ 4 → k ≠ 5 → k ≠ 6 → k ≠ 7 → h.1 13 k = h0.1 13 k) → fr [13, 14, 15] [] h0 h → Ok (fX7_prepare_L77 k41 n (nI f) (nI p) (nI a) h) Q := by
  have h3 := hO.2.2.2.2.1 p
  have h6 := hO.2.1
  intro k
  induction k with
  | zero =>
    intro n a h ha hn hM g4 g5 g7 ht g13 hfr
    obtain ⟨n, rfl⟩ : ∃ n0, n = n0 + 1 := ⟨n - 1, by omega⟩
    rw [fX7_prepare_L77, g7]
    refine Ok.pos (by rw [nI_leI (by omega) (by omega)]; omega) ?_
    unfold fX7_prepare_J120
    rw [nI_1]
    refine hk h hM g4 ⟨fun q b hb hq => ht.1 q b hb ?_, ht.2⟩ g13 hfr
    by_cases e : q = p
    · subst e; omega
    · omega
  | succ k ih =>
    intro n a h ha hn hM g4 g5 g7 ht g13 hfr
    obtain ⟨n, rfl⟩ : ∃ n0, n = n0 + 1 := ⟨n - 1, by omega⟩
    rw [fX7_prepare_L77, g7]
    refine Ok.neg (by rw [nI_leI (by omega) (by omega)]; omega) (Ok.neg (by rw [show (3 : Int32) = nI 3 from rfl, nI_leI (by omega) (by omega)]; omega) ?_)
    have f1 : fr [13] [] h (ab_wI h 13 6 (nI a)) := fr_w (fr_r _ _ _) (by simp)
    refine Ok.bind (c_workOut (f := f) (p := p) (a := a) hO (cM_fr hM f1 (by decide) (by decide) (by decide) (by decide)) hf (by omega) (by omega) ⟨by rw [ab_w1k (by decide)]; exact g5, ab_w1e _ _ _ _, by rw [ab_w1k (by decide)]; exact g7, by rw [ab_w1k (by decide)]; exact g4⟩) (fun r hr => ?_)
    simp (disch := omega) only [ab_lits, nI_add, pk_mul, pk_sub, pk_div, nI_clamp, ab_ixO]
    have e13 : ∀ k, k ≠ 6 → r.2.1 13 k = h.1 13 k := fun k hk => by rw [hr.2.1 13 (by decide), ab_w1k hk]
    have e14 : r.2.1 14 = h.1 14 := by rw [hr.2.1 14 (by decide), f1.1 14 (by decide)]
    have f2 : fr [13, 14, 15] [] h (ab_wI r.2 14 ((f * 6 + p) * 3 + a) r.1) := fr_w (fr_t (fr_m f1 (by simp) (by simp)) (fr_m hr.2 (by simp) (by simp))) (by simp)
    refine ih n (a + 1) _ (by omega) (by omega) ?_ ?_ ?_ ?_ ⟨fun q b hb hq => ?_, fun i hi => ?_⟩ (fun k k4 k5 k6 k7 => ?_) (fr_t hfr f2)
    · exact cM_fr hM f2 (by decide) (by decide) (by decide) (by decide)
    · rw [ab_w1n (by decide), e13 4 (by decide)]; exact g4
    · rw [ab_w1n (by decide), e13 5 (by decide)]; exact g5
    · rw [ab_w1n (by decide), e13 7 (by decide)]; exact g7
    · have hb3 := hO.2.2.2.2.1 q
      by_cases e : q = p ∧ b = a
      · obtain ⟨rfl, rfl⟩ := e
        rw [ab_w1e, hr.1]
      · rw [ab_w1k (by omega), e14]
        exact ht.1 q b hb (by omega)
    · rw [ab_w1k (hi p a (by omega) (by omega)), e14]
      exact ht.2 i hi
    · rw [ab_w1n (by decide), e13 k k6]
      exact g13 k k4 k5 k6 k7
theorem c_prep41 {m : MoT} {f : Nat} {h0 : abJ} (hO : MO m) (hf : f < 10) : ∀ (k n p : Nat) (h : abJ), p + k = mP m → k < n → cM m 1 h → h.1 13 4 = nI f → tab m f p 0 h0 h → (∀ k, k ≠ 4 → k ≠ 5 → k ≠ 6 → k ≠ 7 → h.1 13 k = h0.1 13 k) → fr [13, 14, 15] [] h0 h → Ok (fX7_prepare_L41 n (nI f) (nI p) h) (fun h' => tab m f (mP m) 0 h0 h' ∧ h'.1 13 2 = h0.1 13 2 ∧ fr [13, 14, 15] [] h0 h') := by
  have h6 := hO.2.1
  intro k
  induction k with
  | zero =>
    intro n p h hp hn hM g4 ht g13 hfr
    obtain ⟨n, rfl⟩ : ∃ n0, n = n0 + 1 := ⟨n - 1, by omega⟩
    rw [fX7_prepare_L41, hM.1]
    refine Ok.pos (by rw [nI_leI (by omega) (by omega)]; omega) (Ok.some ⟨?_, g13 2 (by decide) (by decide) (by decide) (by decide), hfr⟩)
    rw [show mP m = p by omega]; exact ht
  | succ k ih =>
    intro n p h hp hn hM g4 ht g13 hfr
    obtain ⟨n, rfl⟩ : ∃ n0, n = n0 + 1 := ⟨n - 1, by omega⟩
    rw [fX7_prepare_L41, hM.1]
    refine Ok.neg (by rw [nI_leI (by omega) (by omega)]; omega) (Ok.neg (by rw [show (6 : Int32) = nI 6 from rfl, nI_leI (by omega) (by omega)]; omega) ?_)
    have f1 : fr [13] [] h (ab_wI h 13 5 (nI p)) := fr_w (fr_r _ _ _) (by simp)
    rw [c_roadsOf hO (cM_fr hM f1 (by decide) (by decide) (by decide) (by decide)) (by omega), ab_bindS, show (0 : Int32) = nI 0 from rfl]
    have f2 : fr [13] [] h (ab_wI (ab_wI h 13 5 (nI p)) 13 7 (nI (mR m p))) := fr_w f1 (by simp)
    refine c_prep77 (h0 := h0) hO hf (by omega) (fun h' hM' g4' ht' g13' hfr' => ih n (p + 1) h' (by omega) (by omega) hM' g4' ht' g13' hfr') (mR m p) ab_N 0 _ (by omega) (by have := hO.2.2.2.2.1 p; unfold ab_N; omega) ?_ ?_ ?_ ?_ ⟨fun q b hb hq => ?_, fun i hi => ?_⟩ (fun k k4 k5 k6 k7 => ?_) (fr_t hfr (fr_m f2 (by simp) (by simp)))
    · exact cM_fr hM f2 (by decide) (by decide) (by decide) (by decide)
    · rw [ab_w1k (by decide), ab_w1k (by decide)]; exact g4
    · rw [ab_w1k (by decide), ab_w1e]
    · rw [ab_w1e]
    · rw [f2.1 14 (by decide)]; exact ht.1 q b hb hq
    · rw [f2.1 14 (by decide)]; exact ht.2 i hi
    · rw [ab_w1k k7, ab_w1k k5]; exact g13 k k4 k5 k6 k7
theorem c_prepare {m : MoT} {f : Nat} {h : abJ} (hO : MO m) (hf : f < 10) (hM : cM m 1 h) (hK : cK m h) : Ok (fX7_prepare (nI f) h) (fun h' => cK m h' ∧ rdy m f h' ∧ (∀ g, g < 10 → rdy m g h → rdy m g h') ∧ fr [13, 14, 15] [] h h') := by
  obtain ⟨⟨B, hB, hB2, hB3⟩, hK2⟩ := hK
  unfold fX7_prepare
  rw [hB2]
  refine Ok.neg (by rw [show (0 : Int32) = nI 0 from rfl, nI_ltI (by omega) (by omega)]; omega) (Ok.neg (by rw [show (10 : Int32) = nI 10 from rfl, nI_leI (by omega) (by omega)]; omega) ?_)
  rw [show (31 : Int32) = nI 31 from rfl, show (1 : Int32) = nI 1 from rfl, b_test hB hf, b_shl (by omega), b_or]
  by_cases c : B.testBit f = true
  · refine Ok.neg (by rw [c]; decide) (Ok.some ⟨⟨⟨B, hB, hB2, hB3⟩, hK2⟩, hB3 f hf c, fun g _ hg => hg, fr_r _ _ _⟩)
  · have c : B.testBit f = false := by simpa using c
    refine Ok.pos (by rw [c]; rfl) ?_
    generalize e0 : ab_wI (ab_wI h 13 2 (nI (B ||| 2 ^ f))) 13 4 (nI f) = h0
    have f0 : fr [13] [] h h0 := by subst e0; exact fr_w (fr_w (fr_r _ _ _) (by simp)) (by simp)
    have e14 : h0.1 14 = h.1 14 := f0.1 14 (by decide)
    have hM0 := cM_fr hM f0 (by decide) (by decide) (by decide) (by decide)
    rw [show (0 : Int32) = nI 0 from rfl]
    refine (c_prep41 hO hf (mP m) ab_N 0 h0 (by omega) (by have := hO.2.1; unfold ab_N; omega) hM0 (by subst e0; exact ab_w1e _ _ _ _) ⟨fun q b hb hq => by omega, fun _ _ => rfl⟩ (fun _ _ _ _ _ => rfl) (fr_r _ _ _)).mono (fun h' hr => ?_)
    obtain ⟨ht, h2, hfr⟩ := hr
    have hrd : rdy m f h' := fun p a ha => by
      refine ht.1 p a ha (Or.inl ?_)
      apply Nat.lt_of_not_le
      intro hle
      rw [hO.2.2.2.2.2.1 p hle] at ha
      omega
    have hp6 : ∀ p a, a < mR m p → p < 6 := fun p a ha => by
      have h6 := hO.2.1
      apply Nat.lt_of_not_le
      intro hle
      rw [hO.2.2.2.2.2.1 p (by omega)] at ha
      omega
    have hmono : ∀ g, g < 10 → rdy m g h → rdy m g h' := fun g hg hr => by
      by_cases e : g = f
      · subst e; exact hrd
      · intro p a ha
        have h3 := hO.2.2.2.2.1 p
        have h6 := hp6 p a ha
        rw [ht.2 _ (fun q b hq hb => by have h3' := hO.2.2.2.2.1 q; omega), e14]
        exact hr p a ha
    refine ⟨⟨⟨B ||| 2 ^ f, ?_, ?_, fun g hg hb => ?_⟩, fun g p a hg hp ha hR => ?_⟩, hrd, hmono, fr_t (fr_m f0 (by simp) (by simp)) hfr⟩
    · exact Nat.or_lt_two_pow (n := 10) hB (Nat.pow_lt_pow_right (by omega) hf)
    · rw [h2]
      subst e0
      rw [ab_w1k (by decide), ab_w1e]
    · by_cases e : g = f
      · subst e; exact hrd
      · rw [Nat.testBit_or, Nat.testBit_two_pow] at hb
        have : decide (f = g) = false := by simp; omega
        rw [this, Bool.or_false] at hb
        exact hmono g hg (hB3 g hg hb)
    · rw [ht.2 _ (fun q b hq hb => by have h3' := hO.2.2.2.2.1 q; intro e; have e1 : g = f ∧ p = q ∧ a = b := by omega
                                      obtain ⟨rfl, rfl, rfl⟩ := e1; omega), e14]
      exact hK2 g p a hg hp ha hR
