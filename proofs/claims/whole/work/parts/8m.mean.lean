/-! mean. -/
noncomputable def meC (m : MoT) (w : Nat) : Nat := lvB (stF m w) 6
noncomputable def meL (m : MoT) : Nat := lvB (stL m (rsB m).testBit (sR m (rsB m))) 6
/-- the posts of which one asks -/
noncomputable def meB (m : MoT) (w : Nat) : Nat := meC m w &&& anx (2 ^ mP m - 1) (rsB m)
theorem rsB_tb {m : MoT} {p : Nat} (hp : p < mP m) : (rsB m).testBit p = rs m p := by
  cases c : rs m p with
  | true => exact rsB_t.mpr ⟨hp, c⟩
  | false =>
    cases c2 : (rsB m).testBit p with
    | false => rfl
    | true => have := (rsB_t.mp c2).2; rw [c] at this; cases this
theorem mov_t {m : MoT} {p : Nat} (hO : MO m) (hp : p < 6) : (anx (2 ^ mP m - 1) (rsB m)).testBit p = true ↔ (p < mP m ∧ rs m p = false) := by
  rw [anx_t hp, allPt' (mP m) (by have := hO.2.1; omega) p hp]
  by_cases c : p < mP m
  · rw [decide_eq_true c, rsB_tb c]
    cases rs m p <;> simp [c]
  · rw [decide_eq_false c]
    simp [c]
theorem tb6 {B p : Nat} (hB : B < 64) (h : B.testBit p = true) : p < 6 := by
  refine Classical.byContradiction (fun q => ?_)
  have h1 : 2 ^ p ≤ B := Nat.ge_two_pow_of_testBit h
  have h2 : 2 ^ 6 ≤ 2 ^ p := Nat.pow_le_pow_right (by omega) (by omega)
  omega
theorem meB_lt {m : MoT} {w : Nat} : meB m w < 64 := by
  unfold meB
  have : meC m w &&& anx (2 ^ mP m - 1) (rsB m) ≤ meC m w := Nat.and_le_left
  have : meC m w < 64 := lvB_lt
  omega
theorem meB_t {m : MoT} {w p : Nat} (hO : MO m) : (meB m w).testBit p = true ↔ (lvl (stF m w) 6 p ∧ p < mP m ∧ rs m p = false) := by
  unfold meB meC
  rw [Nat.testBit_and, Bool.and_eq_true, lvB_t (stF_m hO)]
  constructor
  · rintro ⟨a, b⟩
    exact ⟨a, (mov_t hO (lvl_b (stF_m hO) 6 p a)).mp b⟩
  · rintro ⟨a, b⟩
    exact ⟨a, (mov_t hO (lvl_b (stF_m hO) 6 p a)).mpr b⟩
/-- where roads from there lead -/
theorem meC_r {m : MoT} {w p r : Nat} (hO : MO m) (h : (meB m w).testBit p = true) (hr : r < mR m p) : lvl (stF m w) 6 (mL m p r) := by
  obtain ⟨a, b, c⟩ := (meB_t hO).mp h
  exact lvl_6 (stF_m hO) 7 _ (Or.inr ⟨p, b, a, c, r, hr, rfl⟩)
theorem meB_r {m : MoT} {w p r : Nat} (hO : MO m) (h : (meB m w).testBit p = true) (hr : r < mR m p) : (meB m w).testBit (mL m p r) = !rs m (mL m p r) := by
  have hc := meC_r hO h hr
  have hl := hO.2.2.2.2.2.2.1 p r
  cases c : rs m (mL m p r) with
  | false => exact (meB_t hO).mpr ⟨hc, hl, c⟩
  | true =>
    cases c2 : (meB m w).testBit (mL m p r) with
    | false => rfl
    | true => have := ((meB_t hO).mp c2).2.2; rw [c] at this; cases this
theorem stF_p {m : MoT} {w : Nat} (hO : MO m) (hw : w < mP m) : ∀ n p, lvl (stF m w) n p → p < mP m
  | 0, _, h => h.elim
  | n + 1, p, h => by
    rcases (show stF m w (lvl (stF m w) n) p from h) with a | ⟨q, _, _, _, r, _, e⟩
    · rw [a.1]; exact hw
    · rw [← e]; exact hO.2.2.2.2.2.2.1 q r
theorem stF_w {m : MoT} {w : Nat} (hw : rs m w = true) : ∀ n p, lvl (stF m w) n p → p = w
  | 0, _, h => h.elim
  | n + 1, p, h => by
    rcases (show stF m w (lvl (stF m w) n) p from h) with a | ⟨q, _, b, c, _⟩
    · exact a.1
    · have := stF_w hw n q b
      rw [this, hw] at c; cases c
/-- sure to come to rest -/
def sur (m : MoT) (w : Nat) : Prop := ∀ p, (meB m w).testBit p = true → (meL m).testBit p = true
theorem sR_m {m : MoT} {p : Nat} (hO : MO m) (hp : p < mP m) : sR m (rsB m) p = !rs m p := by
  unfold sR
  rw [rsB_tb hp]
  cases rs m p <;> rfl
theorem me_rk {m : MoT} {w : Nat} (hO : MO m) (hs : sur m w) : ∃ k, rkd m (aL (meB m w)) k := by
  refine rk_L (G := Nat.testBit (rsB m)) (S := sR m (rsB m)) hO (fun p h => (lvB_t (stL_m hO)).mp (hs p h)) (fun p r h hr hg => ?_) meB_lt
  have := meB_r hO h hr
  rw [(rsB_t.mp hg).2] at this
  exact this
theorem and64 {a b : Nat} (ha : a < 64) : a &&& b < 64 := by
  have : a &&& b ≤ a := Nat.and_le_left
  omega
theorem tb0 {B : Nat} (hB : B < 64) (h : ∀ p, p < 6 → B.testBit p = false) : B = 0 := by
  refine Nat.eq_of_testBit_eq (fun p => ?_)
  rw [Nat.zero_testBit]
  cases c : B.testBit p with
  | false => rfl
  | true => have := h p (tb6 hB c); rw [c] at this; cases this
theorem sur_c {m : MoT} {w : Nat} (hO : MO m) : anx (meB m w) (meL m) = 0 ↔ sur m w := by
  constructor
  · intro h p hp
    have h6 := tb6 meB_lt hp
    have := congrArg (fun x => x.testBit p) h
    simp only [Nat.zero_testBit] at this
    rw [anx_t h6, hp, Bool.true_and] at this
    simpa using this
  · intro h
    refine tb0 (anx_lt meB_lt) (fun p hp => ?_)
    rw [anx_t hp]
    cases c : (meB m w).testBit p with
    | false => rfl
    | true => rw [h p c]; rfl
theorem sur_r {m : MoT} {w : Nat} (hO : MO m) (hw : w < mP m) : anx (meC m w) (rsB m ||| meL m) = 0 ↔ sur m w := by
  have hc : meC m w < 64 := lvB_lt
  constructor
  · intro h p hp
    have h6 := tb6 meB_lt hp
    obtain ⟨a, b, c⟩ := (meB_t hO).mp hp
    have := congrArg (fun x => x.testBit p) h
    simp only [Nat.zero_testBit] at this
    rw [anx_t h6, Nat.testBit_or, rsB_tb b, c, show (meC m w).testBit p = true from (lvB_t (stF_m hO)).mpr a] at this
    simpa using this
  · intro h
    refine tb0 (anx_lt hc) (fun p hp => ?_)
    rw [anx_t hp, Nat.testBit_or]
    cases c : (meC m w).testBit p with
    | false => rfl
    | true =>
      have hl := (lvB_t (stF_m hO)).mp c
      by_cases c1 : p < mP m
      · rw [rsB_tb c1]
        cases c2 : rs m p with
        | true => rfl
        | false => rw [h p ((meB_t hO).mpr ⟨hl, c1, c2⟩)]; rfl
      · exact absurd (stF_p hO hw 6 p hl) c1
theorem me_0 {m : MoT} {w : Nat} (hO : MO m) (hw : w < mP m) : meB m w = 0 ↔ rs m w = true := by
  have h6 := hO.2.1
  constructor
  · intro h
    cases c : rs m w with
    | true => rfl
    | false =>
      have : (meB m w).testBit w = true := (meB_t hO).mpr ⟨lvl_6 (stF_m hO) 1 w (Or.inl ⟨rfl, by omega⟩), hw, c⟩
      rw [h, Nat.zero_testBit] at this; cases this
  · intro h
    refine tb0 meB_lt (fun p hp => ?_)
    cases c : (meB m w).testBit p with
    | false => rfl
    | true =>
      obtain ⟨a, _, b⟩ := (meB_t hO).mp c
      rw [stF_w h 6 p a, h] at b; cases b
theorem c_me_lead {m : MoT} {h : abJ} (hO : MO m) (hM : cM m 1 h) : fX4_leadInto (nI (rsB m)) (nI (anx (2 ^ mP m - 1) (rsB m))) h = some (nI (meL m)) := by
  have h6 := hO.2.1
  rw [c_lead hO hM (rsB_lt hO) (anx_lt (allP' (mP m) (by omega)).2)]
  unfold meL
  rw [stL_e (G' := Nat.testBit (rsB m)) (S' := sR m (rsB m)) (fun p _ => rfl) (fun p hp => ?_) hO]
  rw [sR_m hO hp]
  cases c : rs m p with
  | false => exact (mov_t hO (by omega)).mpr ⟨hp, c⟩
  | true =>
    cases c2 : (anx (2 ^ mP m - 1) (rsB m)).testBit p with
    | false => rfl
    | true => have := ((mov_t hO (by omega)).mp c2).2; rw [c] at this; cases this
theorem c_me64 {m : MoT} {B wk : Nat} {k : Nat → Nat} {h0 : abJ} (hO : MO m) (hM : cM m 1 h0) (hB : B < 64) (hk : rkd m (aL B) k) (hw : wk ∈ aL B) (hRo : cRo B h0) : ∀ (j N p : Nat) (h : abJ), p + j = 6 → j < N → (∀ q, q < p → q ∈ aL B → cLd m B q (mR m q : Int) h) → fr [] [41] h0 h → Ok (fX4_lasts_L64 N (nI wk) (nI B) (nI p) h) (fun r => r.1 = 1 ∧ r.2.2 40 4 = iL (nf ((eRun (aL B) 1 (M0 m B (fun q => (mR m q : Int)) (wt4 k))).2 wk 6) (eRun (aL B) 1 (M0 m B (fun q => (mR m q : Int)) (wt4 k))).1).1 ∧ r.2.2 40 5 = iL (nf ((eRun (aL B) 1 (M0 m B (fun q => (mR m q : Int)) (wt4 k))).2 wk 6) (eRun (aL B) 1 (M0 m B (fun q => (mR m q : Int)) (wt4 k))).1).2 ∧ fr [] [40, 41] h0 r.2) := by
  have hl5 : cnb B 6 ≤ 5 := by rw [← aL_l]; exact (EI_0 (b := fun _ => 0) hO hk (fun _ _ => ⟨by omega, by omega⟩)).2
  intro j
  induction j with
  | zero =>
    intro N p h hp hN hl hfr
    obtain ⟨N, rfl⟩ : ∃ n0, N = n0 + 1 := ⟨N - 1, by omega⟩
    have e : p = 6 := by omega
    subst e
    rw [fX4_lasts_L64]
    refine Ok.pos (by decide) ?_
    have key := c_solved (b := fun q => (mR m q : Int)) (h := h) hO hk (fun q hq => ⟨by omega, by have := hO.2.2.2.2.1 q; omega⟩) ⟨fun q hq => by rw [hfr.1 42 (by simp)]; exact hRo.1 q hq, by rw [hfr.1 40 (by simp)]; exact hRo.2⟩ (fun q hq => hl q (aL_m.mp hq).1 hq) hw
    obtain ⟨h', e1, e2⟩ := key
    obtain ⟨r1, e3, e4⟩ := ab_bind_s e1
    obtain ⟨r2, e5, e6⟩ := ab_bind_s e4
    rw [e3, ab_bindS, e5, ab_bindS]
    have e7 : r2 = h' := Option.some.inj e6
    rw [e7]
    exact Ok.some ⟨rfl, e2.1, e2.2.1, fr_t (fr_m hfr (by simp) (by simp)) e2.2.2⟩
  | succ j ih =>
    intro N p h hp hN hl hfr
    obtain ⟨N, rfl⟩ : ∃ n0, N = n0 + 1 := ⟨N - 1, by omega⟩
    have hM1 := cM_fr hM hfr (by simp) (by simp) (by simp) (by simp)
    rw [fX4_lasts_L64, c_isIn h (by omega) (by omega), ab_bindS]
    refine Ok.neg (by rw [show (6 : Int32) = nI 6 from rfl, nI_leI (by omega) (by omega)]; omega) ?_
    unfold fX4_lasts_J98
    rw [nI_1]
    by_cases c : B.testBit p = true
    · have hpA : p ∈ aL B := aL_m.mpr ⟨by omega, c⟩
      have h3 := hO.2.2.2.2.1 p
      rw [c, c_roadsOf hO hM1 (by omega), ab_bindS]
      refine Ok.neg (by decide) (Ok.bind (c_layRow hO hM1 hB hpA (by omega) ⟨fun q hq => by rw [hfr.1 42 (by simp)]; exact hRo.1 q hq, by rw [hfr.1 40 (by simp)]; exact hRo.2⟩ hl5) (fun h1 hr => ?_))
      refine ih N (p + 1) h1 (by omega) (by omega) (fun q h4 h5 => ?_) (fr_t hfr hr.2.2)
      by_cases e : q = p
      · subst e; exact hr.1
      · have old := hl q (by omega) h5
        have ne : cnb B q ≠ cnb B p := fun w => e (cnb_i h5 hpA w)
        refine ⟨fun q' hq' => ?_, ?_⟩
        · have := (aL_g hq').2
          rw [aL_l] at this
          rw [hr.2.1 _ _ ne (by omega)]; exact old.1 q' hq'
        · rw [hr.2.1 _ _ ne (by omega)]; exact old.2
    · rw [show B.testBit p = false by simpa using c]
      refine Ok.pos (by decide) (ih N (p + 1) h (by omega) (by omega) (fun q h4 h5 => ?_) hfr)
      have : q ≠ p := fun e => c (by rw [← e]; exact (aL_m.mp h5).2)
      exact hl q (by omega) h5
theorem r_me103 {m : MoT} {wk : Nat} {x : Int32} {k : Nat → Nat} {h0 : abJ} (hO : MO m) (hM0 : rM m (h0.1 65)) (h33 : h0.1 65 33 = nI wk) (hk : rkd m (aL (meB m wk)) k) (hw : wk ∈ aL (meB m wk)) : ∀ (j N p : Nat) (h : abJ), p + j = 6 → j < N → (∀ q, q < p → h.1 82 q = nI (if q ∈ aL (meB m wk) then 1 else 0)) → RQ r6 (fun p' q' => if p' < p ∧ p' ∈ aL (meB m wk) then rW m (meB m wk) p' (mR m p') (mR m p') q' else F00 p' q') h → frR [] [82] [80, 81] h0 h → Ok (fX12_mean_L103 N x (nI (meC m wk)) (nI p) h) (fun r => r.1 = (if x = 0 then iL (nf ((eRun (aL (meB m wk)) 1 (M0 m (meB m wk) (fun q => (mR m q : Int)) (wt4 k))).2 wk 6) (eRun (aL (meB m wk)) 1 (M0 m (meB m wk) (fun q => (mR m q : Int)) (wt4 k))).1).1 else iL (nf ((eRun (aL (meB m wk)) 1 (M0 m (meB m wk) (fun q => (mR m q : Int)) (wt4 k))).2 wk 6) (eRun (aL (meB m wk)) 1 (M0 m (meB m wk) (fun q => (mR m q : Int)) (wt4 k))).1).2) ∧ frR [] [82] [80, 81] h0 r.2) := by
  have hw6 := (aL_m.mp hw).1
  have hC : meC m wk < 64 := lvB_lt
  intro j
  induction j with
  | zero =>
    intro N p h hp hN h82 hR hfr
    obtain ⟨N, rfl⟩ : ∃ n0, N = n0 + 1 := ⟨N - 1, by omega⟩
    have e : p = 6 := by omega
    subst e
    rw [fX12_mean_L103]
    refine Ok.pos (by decide) (Ok.bind (r_solved (b := fun q => (mR m q : Int)) (k := k) (wk := wk) hO hk (fun q hq => ⟨by omega, by have := hO.2.2.2.2.1 q; omega⟩) h82 (fun p' q' w1 w2 => ?_) hw) (fun h' hr => ?_))
    · have w3 := (aL_m.mp w1).1
      have := hR p' q' (r6_m.mpr w3) w2
      dsimp only at this
      rw [if_pos ⟨w3, w1⟩] at this
      exact this
    · have f2 := frR_t hfr (frR_m hr.2.2 (by simp) (by simp) (by simp))
      rw [f2.1 65 (by simp) (by decide), h33, show (7 : Int32) = nI 7 from rfl, show (6 : Int32) = nI 6 from rfl, pk_mul, show nI (7 * wk) + nI 6 = nI (7 * wk + 6) from nI_add _ _, nI_clamp (by omega), hr.1, hr.2.1]
      by_cases cx : x = 0
      · rw [if_pos cx, if_pos cx]
        exact Ok.ask (ixN (by omega) (by omega)) (Ok.some ⟨rfl, f2⟩)
      · rw [if_neg cx, if_neg cx]
        exact Ok.ask (ixN (by omega) (by omega)) (Ok.some ⟨rfl, f2⟩)
  | succ j ih =>
    intro N p h hp hN h82 hR hfr
    obtain ⟨N, rfl⟩ : ∃ n0, N = n0 + 1 := ⟨N - 1, by omega⟩
    have hM : rM m (h.1 65) := by rw [hfr.1 65 (by simp) (by decide)]; exact hM0
    rw [fX12_mean_L103, r_isIn h hC (by omega), ab_bindS, r_isRest hO hM (by omega), ab_bindS]
    refine Ok.neg (by rw [show (6 : Int32) = nI 6 from rfl, nI_leI (by omega) (by omega)]; omega) ?_
    have skip : p ∉ aL (meB m wk) → Ok (fX12_mean_J139 (fun y1 y3 y4 h => fX12_mean_L103 N y1 y3 y4 h) x (nI (meC m wk)) (nI p) (nI p) h) (fun r => r.1 = (if x = 0 then iL (nf ((eRun (aL (meB m wk)) 1 (M0 m (meB m wk) (fun q => (mR m q : Int)) (wt4 k))).2 wk 6) (eRun (aL (meB m wk)) 1 (M0 m (meB m wk) (fun q => (mR m q : Int)) (wt4 k))).1).1 else iL (nf ((eRun (aL (meB m wk)) 1 (M0 m (meB m wk) (fun q => (mR m q : Int)) (wt4 k))).2 wk 6) (eRun (aL (meB m wk)) 1 (M0 m (meB m wk) (fun q => (mR m q : Int)) (wt4 k))).1).2) ∧ frR [] [82] [80, 81] h0 r.2) := by
      intro hn
      unfold fX12_mean_J139 fX12_mean_J140
      rw [nI_clamp (by omega), ab_w1e]
      refine Ok.ask (ixN (by omega) (by omega)) (Ok.ask (ixN (by omega) (by omega)) (Ok.pos (by decide) ?_))
      unfold fX12_mean_J275
      rw [nI_1]
      refine ih N (p + 1) _ (by omega) (by omega) (fun q hq => ?_) (fun p' q' w1 w2 => ?_) (frR_w hfr (by simp) (by decide))
      · by_cases e : q = p
        · subst e; rw [ab_w1e, if_neg hn]; rfl
        · rw [ab_w1k e]; exact h82 q (by omega)
      · have := hR p' q' w1 w2
        dsimp only at this ⊢
        by_cases c2 : p' < p ∧ p' ∈ aL (meB m wk)
        · rw [if_pos c2] at this; rw [if_pos ⟨by omega, c2.2⟩]; exact this
        · rw [if_neg c2] at this
          rw [if_neg (fun w => by
            by_cases e : p' = p
            · exact hn (by rw [← e]; exact w.2)
            · exact c2 ⟨by omega, w.2⟩)]; exact this
    cases c1 : (meC m wk).testBit p with
    | false =>
      refine Ok.pos (by decide) (skip (fun w => ?_))
      have := ((meB_t hO).mp (aL_m.mp w).2).1
      rw [show (meC m wk).testBit p = true from (lvB_t (stF_m hO)).mpr this] at c1
      cases c1
    | true =>
      refine Ok.neg (by decide) ?_
      cases c2 : rs m p with
      | true =>
        refine Ok.neg (by decide) (skip (fun w => ?_))
        have := ((meB_t hO).mp (aL_m.mp w).2).2.2
        rw [c2] at this; cases this
      | false =>
        refine Ok.pos (by decide) ?_
        have hlv := (lvB_t (stF_m hO)).mp c1
        have hwp : wk < mP m := ((meB_t hO).mp (aL_m.mp hw).2).2.1
        have c : (meB m wk).testBit p = true := (meB_t hO).mpr ⟨hlv, stF_p hO hwp 6 p hlv, c2⟩
        have hpA : p ∈ aL (meB m wk) := aL_m.mpr ⟨by omega, c⟩
        have h3 := hO.2.2.2.2.1 p
        have hR0 : 0 < mR m p := by obtain ⟨_, _, r, w, _⟩ := hk p hpA; omega
        unfold fX12_mean_J140
        rw [nI_clamp (by omega), ab_w1e]
        refine Ok.ask (ixN (by omega) (by omega)) (Ok.ask (ixN (by omega) (by omega)) (Ok.neg (by decide) ?_))
        have f1 : frR [] [82] [80, 81] h0 (ab_wI h 82 p (vp_nar .boolean 1)) := frR_w hfr (by simp) (by decide)
        have hM1 : rM m ((ab_wI h 82 p (vp_nar .boolean 1)).1 65) := by rw [f1.1 65 (by simp) (by decide)]; exact hM0
        have hRw : RQ r6 (fun p' q' => if p' < p ∧ p' ∈ aL (meB m wk) then rW m (meB m wk) p' (mR m p') (mR m p') q' else F00 p' q') (ab_wI h 82 p (vp_nar .boolean 1)) := hR
        rw [show (9 : Int32) = nI 9 from rfl, show nI 9 + nI p = nI (9 + p) from nI_add _ _, nI_clamp (by omega), hM1.2.2.2.1 p (by omega), show (0 : Int32) = nI 0 from rfl, show (7 : Int32) = nI 7 from rfl, show (6 : Int32) = nI 6 from rfl, pk_mul, show nI (7 * p) + nI 6 = nI (7 * p + 6) from nI_add _ _, show (1 : Int64) = iL 1 from rfl, r_lays (show 7 * p + 6 < 42 by omega) ⟨by omega, by omega⟩ (by omega) (by omega), ab_bindS]
        refine Ok.ask (ixN (by omega) (by omega)) ?_
        have f2 := lay81 (ab_wI h 82 p (vp_nar .boolean 1)) (7 * p + 6) (iL (nf 1 1).1) (iL (nf 1 1).2)
        refine r_me183 (h0 := ab_wI h 82 p (vp_nar .boolean 1)) (F := fun p' q' => if p' < p ∧ p' ∈ aL (meB m wk) then rW m (meB m wk) p' (mR m p') (mR m p') q' else F00 p' q') hO hM1 hpA hR0 (fun r hr => meB_r hO c hr) (fun h1 hR1 hf1 => ?_) (mR m p) ab_N 0 _ (by omega) (by unfold ab_N; omega) (fun p' q' w1 w2 => ?_) f2
        · refine ih N (p + 1) h1 (by omega) (by omega) (fun q hq => ?_) (fun p' q' w1 w2 => ?_) (frR_t f1 (frR_m hf1 (by simp) (by simp) (by simp)))
          · rw [hf1.1 82 (by simp) (by decide)]
            by_cases e : q = p
            · subst e; rw [ab_w1e, if_pos hpA]; rfl
            · rw [ab_w1k e]; exact h82 q (by omega)
          · have := hR1 p' q' w1 w2
            dsimp only at this ⊢
            by_cases e : p' = p
            · subst e
              rw [if_pos rfl] at this
              rw [if_pos ⟨by omega, hpA⟩]; exact this
            · rw [if_neg e] at this
              by_cases c3 : p' < p ∧ p' ∈ aL (meB m wk)
              · rw [if_pos c3] at this; rw [if_pos ⟨by omega, c3.2⟩]; exact this
              · rw [if_neg c3] at this
                rw [if_neg (fun w => c3 ⟨by omega, w.2⟩)]; exact this
        · have := RQ_l (v := nf 1 1) r6_6 hRw (r6_m.mpr (show p < 6 by omega)) (show 6 < 7 by omega) p' q' w1 w2
          unfold upF at this
          dsimp only at this ⊢
          by_cases e : p' = p
          · subst e
            rw [if_pos rfl]
            by_cases e6 : q' = 6
            · subst e6
              rw [if_pos ⟨rfl, rfl⟩] at this
              have w3 : nf 1 1 = nf (mR m p' : Int) (mR m p' : Int) := nf_e (by omega) (by omega) (by omega)
              unfold rW
              rw [if_neg (by omega), ← w3]
              exact this
            · rw [if_neg (fun w => e6 w.2), if_neg (fun w => by omega)] at this
              have w3 := rW_0 (q := q') c hR0 (by omega)
              rw [w3] at this
              unfold rW at this ⊢
              rw [if_pos (by omega)] at this ⊢
              exact this
          · rw [if_neg (fun w => e w.1)] at this
            rw [if_neg e]; exact this
