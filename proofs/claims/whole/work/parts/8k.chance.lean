/-! chance. -/
theorem RC_sc2 {A : AbT} {h h' : abJ} (hW : WF A) (hR : RC A h) (a : fr sc0 [40, 41] h h') : RC A h' ∧ abv h h' := by
  have hC : ∀ o, o ∈ CC → o ∉ sc0 := by decide
  exact ⟨RC_eq hW hR (fun o ho => a.1 o (hC o ho)) (fun o ho => a.2 o (by simp; omega)), abv_fr a (by decide) (by decide)⟩
theorem call2_ro2 {α : Type} {c r : abJ → Option (α × abJ)} (k : ∀ A, WF A → ∃ v, (∀ h, RC A h → Ok (c h) (fun x => x.1 = v ∧ fr sc0 [40, 41] h x.2)) ∧ (∀ h, RR A h → Ok (r h) (fun x => x.1 = v ∧ frR sk1 sc1 [80, 81] h x.2))) : call2 c r := by
  intro A hW
  obtain ⟨v, h1, h2⟩ := k A hW
  refine ⟨v, A, hW, fun h hR => (h1 h hR).mono (fun x hx => ?_), fun h hR => (h2 h hR).mono (fun x hx => ?_)⟩
  · obtain ⟨a, b⟩ := RC_sc2 hW hR hx.2
    exact ⟨hx.1, a, b⟩
  · obtain ⟨a, b⟩ := RR_sc hR hx.2
    exact ⟨hx.1, a, b⟩
/-- some, but not others -/
def anx (a b : Nat) : Nat := a &&& (63 ^^^ b)
theorem anx_i' : ∀ a < 64, ∀ b < 64, nI a &&& (nI b ^^^ (-1)) = nI (anx a b) := by decide +kernel
theorem anx_i {a b : Nat} (ha : a < 64) (hb : b < 64) : nI a &&& (nI b ^^^ (-1)) = nI (anx a b) := anx_i' a ha b hb
theorem anx_lt {a b : Nat} (ha : a < 64) : anx a b < 64 := by
  unfold anx
  have : a &&& (63 ^^^ b) ≤ a := Nat.and_le_left
  omega
theorem t63' : ∀ p < 6, (63 : Nat).testBit p = true := by decide
theorem anx_t {a b p : Nat} (hp : p < 6) : (anx a b).testBit p = (a.testBit p && !b.testBit p) := by
  unfold anx
  rw [Nat.testBit_and, Nat.testBit_xor, t63' p hp]
  cases b.testBit p <;> rfl
theorem allP' : ∀ p < 7, ((1 : Int32) <<< (nI p &&& 31)) - 1 = nI (2 ^ p - 1) ∧ 2 ^ p - 1 < 64 := by decide
theorem allPt' : ∀ p < 7, ∀ q < 6, (2 ^ p - 1).testBit q = decide (q < p) := by decide
theorem c_all {m : MoT} {h : abJ} (hO : MO m) (hM : cM m 1 h) : fX4_allPosts h = some (nI (2 ^ mP m - 1)) := by
  unfold fX4_allPosts
  rw [hM.1, (allP' (mP m) (by have := hO.2.1; omega)).1]
def rsB (m : MoT) : Nat := fgb (rs m) (mP m) 0 0
theorem rsB_lt {m : MoT} (hO : MO m) : rsB m < 64 := fgb_lt (by have := hO.2.1; omega) (by omega)
theorem rsB_t {m : MoT} {p : Nat} : (rsB m).testBit p = true ↔ (p < mP m ∧ rs m p = true) := by
  unfold rsB
  rw [fgb_t, Nat.zero_testBit]
  constructor
  · rintro (h | ⟨_, a, b⟩)
    · cases h
    · exact ⟨by omega, b⟩
  · rintro ⟨a, b⟩; exact Or.inr ⟨Nat.zero_le _, by omega, b⟩
theorem c_resting {m : MoT} {h : abJ} (hO : MO m) (hM : cM m 1 h) : fX3_restingPosts h = some (nI (rsB m)) := by
  have h6 := hO.2.1
  have key : ∀ (k n p acc : Nat), p + k = mP m → k < n → fX3_restingPosts_L4 h n (nI acc) (nI p) = some (nI (fgb (rs m) k p acc)) := by
    intro k
    induction k with
    | zero =>
      intro n p acc hp hn
      obtain ⟨n, rfl⟩ : ∃ n0, n = n0 + 1 := ⟨n - 1, by omega⟩
      rw [fX3_restingPosts_L4, hM.1, if_pos (by rw [nI_leI (by omega) (by omega)]; omega)]; rfl
    | succ k ih =>
      intro n p acc hp hn
      obtain ⟨n, rfl⟩ : ∃ n0, n = n0 + 1 := ⟨n - 1, by omega⟩
      rw [fX3_restingPosts_L4, hM.1, if_neg (by rw [nI_leI (by omega) (by omega)]; omega), c_restsAt hO hM (by omega), ab_bindS, fgb]
      unfold fX3_restingPosts_J26
      rw [nI_1, shl1 (by omega), b_or]
      cases c : rs m p with
      | true => rw [if_neg (by decide), if_pos rfl]; exact ih n (p + 1) _ (by omega) (by omega)
      | false => rw [if_pos (by decide), if_neg (by decide)]; exact ih n (p + 1) _ (by omega) (by omega)
  unfold fX3_restingPosts
  exact key (mP m) ab_N 0 0 (by omega) (by unfold ab_N; omega)
/-- ranks -/
theorem lst {P : Nat → Prop} : ∀ n, P n → ∃ k, P k ∧ k ≤ n ∧ ∀ j, j < k → ¬ P j := by
  intro n
  induction n using Nat.strongRecOn with
  | ind n ih =>
    intro h
    by_cases c : ∃ j, j < n ∧ P j
    · obtain ⟨j, h1, h2⟩ := c
      obtain ⟨k, a, b, d⟩ := ih j h1 h2
      exact ⟨k, a, by omega, d⟩
    · exact ⟨n, h, Nat.le_refl _, fun j hj hP => c ⟨j, hj, hP⟩⟩
theorem rk_ex {st : (Nat → Prop) → Nat → Prop} : ∃ k : Nat → Nat, ∀ p, lvl st 6 p → lvl st (k p) p ∧ 1 ≤ k p ∧ k p ≤ 6 ∧ ∀ j, lvl st j p → k p ≤ j := by
  have : ∀ p, ∃ k, lvl st 6 p → lvl st k p ∧ 1 ≤ k ∧ k ≤ 6 ∧ ∀ j, lvl st j p → k ≤ j := by
    intro p
    by_cases c : lvl st 6 p
    · obtain ⟨k, a, b, d⟩ := lst (P := fun n => lvl st n p) 6 c
      refine ⟨k, fun _ => ⟨a, ?_, b, fun j hj => ?_⟩⟩
      · cases k with
        | zero => exact a.elim
        | succ k => omega
      · refine Classical.byContradiction (fun q => d j (by omega) hj)
    · exact ⟨0, fun h => absurd h c⟩
  exact ⟨fun p => Classical.choose (this p), fun p => Classical.choose_spec (this p)⟩
/-- the ranks of those that lead into a goal -/
theorem rk_L {m : MoT} {G S : Nat → Bool} {B : Nat} (hO : MO m) (h1 : ∀ p, B.testBit p = true → lvl (stL m G S) 6 p) (h2 : ∀ p r, B.testBit p = true → r < mR m p → G (mL m p r) = true → B.testBit (mL m p r) = false) (hB : B < 64) : ∃ k, rkd m (aL B) k := by
  obtain ⟨k, hk⟩ := rk_ex (st := stL m G S)
  refine ⟨k, fun p hp => ?_⟩
  have hb := (aL_m.mp hp).2
  obtain ⟨a, b, c, d⟩ := hk p (h1 p hb)
  refine ⟨b, c, ?_⟩
  obtain ⟨n, hn⟩ : ∃ n, k p = n + 1 := ⟨k p - 1, by omega⟩
  rw [hn] at a
  obtain ⟨_, _, r, e1, e2⟩ := a
  refine ⟨r, e1, fun hA => ?_⟩
  have hbr := (aL_m.mp hA).2
  rcases e2 with w | w
  · rw [h2 p r hb e1 w] at hbr; cases hbr
  · have := (hk _ (h1 _ hbr)).2.2.2 n w
    omega
theorem p2_64 {a : Nat} (ha : a < 6) : 2 ^ a < 64 := Nat.pow_lt_pow_right (m := a) (n := 6) (by omega) ha
theorem p2_t {a p : Nat} : (2 ^ a).testBit p = decide (a = p) := Nat.testBit_two_pow
/-- the posts of which one asks -/
noncomputable def chB (m : MoT) (a b : Nat) : Nat := lvB (stL m (Nat.testBit (2 ^ a)) (sR m (2 ^ a ||| 2 ^ b))) 6
theorem chB_p {m : MoT} {a b p : Nat} (hO : MO m) (ha : a < 6) (h : (chB m a b).testBit p = true) : p < mP m ∧ sR m (2 ^ a ||| 2 ^ b) p = true ∧ p ≠ a ∧ p ≠ b ∧ rs m p = false ∧ 0 < mR m p := by
  have h1 := (lvB_t (stL_m hO)).mp h
  obtain ⟨w1, w2, r, w3, _⟩ := (show stL m (Nat.testBit (2 ^ a)) (sR m (2 ^ a ||| 2 ^ b)) _ p from h1)
  have w4 := w2
  unfold sR at w4
  rw [Nat.testBit_or, p2_t, p2_t] at w4
  refine ⟨w1, w2, fun e => ?_, fun e => ?_, ?_, by omega⟩
  · rw [decide_eq_true e.symm] at w4; simp at w4
  · rw [decide_eq_true e.symm] at w4; simp at w4
  · cases c : rs m p with
    | false => rfl
    | true => rw [c] at w4; simp at w4
theorem chB_rk {m : MoT} {a b : Nat} (hO : MO m) (ha : a < 6) : ∃ k, rkd m (aL (chB m a b)) k := by
  refine rk_L (G := Nat.testBit (2 ^ a)) (S := sR m (2 ^ a ||| 2 ^ b)) hO (fun p h => (lvB_t (stL_m hO)).mp h) (fun p r _ _ h => ?_) lvB_lt
  rw [p2_t, decide_eq_true_iff] at h
  cases c : (chB m a b).testBit (mL m p r) with
  | false => rfl
  | true => exact absurd h.symm (chB_p hO ha c).2.2.1
theorem c_ch_lead {m : MoT} {a b : Nat} {h : abJ} (hO : MO m) (hM : cM m 1 h) (ha : a < 6) (hb : b < 6) : fX4_leadInto ((1 : Int32) <<< (nI a &&& 31)) (((nI (2 ^ mP m - 1) &&& (nI (rsB m) ^^^ (-1))) &&& (((1 : Int32) <<< (nI a &&& 31)) ^^^ (-1))) &&& (((1 : Int32) <<< (nI b &&& 31)) ^^^ (-1))) h = some (nI (chB m a b)) := by
  have h6 := hO.2.1
  have hal := (allP' (mP m) (by omega)).2
  rw [shl1 (show a < 31 by omega), shl1 (show b < 31 by omega), anx_i hal (rsB_lt hO), anx_i (anx_lt hal) (p2_64 ha), anx_i (anx_lt (anx_lt hal)) (p2_64 hb), c_lead hO hM (p2_64 ha) (anx_lt (anx_lt (anx_lt hal)))]
  unfold chB
  rw [stL_e (G' := Nat.testBit (2 ^ a)) (S' := sR m (2 ^ a ||| 2 ^ b)) (fun p _ => rfl) (fun p hp => ?_) hO]
  rw [anx_t (by omega), anx_t (by omega), anx_t (by omega), allPt' (mP m) (by omega) p (by omega), decide_eq_true hp]
  unfold sR
  rw [Nat.testBit_or]
  have : (rsB m).testBit p = rs m p := by
    cases c : rs m p with
    | true => exact rsB_t.mpr ⟨hp, c⟩
    | false =>
      cases c2 : (rsB m).testBit p with
      | false => rfl
      | true => have := (rsB_t.mp c2).2; rw [c] at this; cases this
  rw [this]
  cases (2 ^ a).testBit p <;> cases (2 ^ b).testBit p <;> cases rs m p <;> rfl
/-- the class lays the rows -/
theorem c_ch73 {m : MoT} {a B wk : Nat} {k : Nat → Nat} {h0 : abJ} (hO : MO m) (hM : cM m 1 h0) (ha : a < 6) (hB : B < 64) (hk : rkd m (aL B) k) (hw : wk ∈ aL B) (hRo : cRo B h0) : ∀ (j N p : Nat) (h : abJ), p + j = 6 → j < N → (∀ q, q < p → q ∈ aL B → cLd m B q (rto m q a (mR m q) : Int) h) → fr [] [41] h0 h → Ok (fX4_comesTo_L73 N (nI wk) (nI a) (nI B) (nI p) h) (fun h' => h'.2 40 4 = iL (nf ((eRun (aL B) 1 (M0 m B (fun q => (rto m q a (mR m q) : Int)) (wt4 k))).2 wk 6) (eRun (aL B) 1 (M0 m B (fun q => (rto m q a (mR m q) : Int)) (wt4 k))).1).1 ∧ h'.2 40 5 = iL (nf ((eRun (aL B) 1 (M0 m B (fun q => (rto m q a (mR m q) : Int)) (wt4 k))).2 wk 6) (eRun (aL B) 1 (M0 m B (fun q => (rto m q a (mR m q) : Int)) (wt4 k))).1).2 ∧ fr [] [40, 41] h0 h') := by
  have hl5 : cnb B 6 ≤ 5 := by rw [← aL_l]; exact (EI_0 (b := fun _ => 0) hO hk (fun _ _ => ⟨by omega, by omega⟩)).2
  intro j
  induction j with
  | zero =>
    intro N p h hp hN hl hfr
    obtain ⟨N, rfl⟩ : ∃ n0, N = n0 + 1 := ⟨N - 1, by omega⟩
    have e : p = 6 := by omega
    subst e
    rw [fX4_comesTo_L73]
    refine Ok.pos (by decide) ?_
    refine (c_solved (b := fun q => (rto m q a (mR m q) : Int)) hO hk (fun q hq => ?_) ⟨fun q hq => by rw [hfr.1 42 (by simp)]; exact hRo.1 q hq, by rw [hfr.1 40 (by simp)]; exact hRo.2⟩ (fun q hq => hl q (aL_m.mp hq).1 hq) hw).mono (fun h' hr => ⟨hr.1, hr.2.1, fr_t (fr_m hfr (by simp) (by simp)) hr.2.2⟩)
    have := rto_b m q a (mR m q)
    have := hO.2.2.2.2.1 q
    exact ⟨by omega, by omega⟩
  | succ j ih =>
    intro N p h hp hN hl hfr
    obtain ⟨N, rfl⟩ : ∃ n0, N = n0 + 1 := ⟨N - 1, by omega⟩
    have hM1 := cM_fr hM hfr (by simp) (by simp) (by simp) (by simp)
    rw [fX4_comesTo_L73, c_isIn h (by omega) (by omega), ab_bindS]
    refine Ok.neg (by rw [show (6 : Int32) = nI 6 from rfl, nI_leI (by omega) (by omega)]; omega) ?_
    unfold fX4_comesTo_J105
    rw [nI_1]
    by_cases c : B.testBit p = true
    · have hpA : p ∈ aL B := aL_m.mpr ⟨by omega, c⟩
      have hrb := rto_b m p a (mR m p)
      have h3 := hO.2.2.2.2.1 p
      rw [c, c_rto hO hM1 (by omega) ha, ab_bindS]
      refine Ok.neg (by decide) (Ok.bind (c_layRow hO hM1 hB hpA (by omega) ⟨fun q hq => by rw [hfr.1 42 (by simp)]; exact hRo.1 q hq, by rw [hfr.1 40 (by simp)]; exact hRo.2⟩ hl5) (fun h1 hr => ?_))
      refine ih N (p + 1) h1 (by omega) (by omega) (fun q h4 h5 => ?_) (fr_t hfr hr.2.2)
      by_cases e : q = p
      · subst e; exact hr.1
      · have old := hl q (by omega) h5
        have ne : cnb B q ≠ cnb B p := fun w => e (cnb_i h5 hpA w)
        refine ⟨fun q' hq' => ?_, ?_⟩
        · have := (aL_g hq').2
          rw [aL_l] at this
          rw [hr.2.1 _ _ ne (by omega)]; exact old.1 q' hq'
        · rw [hr.2.1 _ _ ne (by omega)]; exact old.2
    · rw [show B.testBit p = false by simpa using c]
      refine Ok.pos (by decide) (ih N (p + 1) h (by omega) (by omega) (fun q h4 h5 => ?_) hfr)
      have : q ≠ p := fun e => c (by rw [← e]; exact (aL_m.mp h5).2)
      exact hl q (by omega) h5
/-- the reference lays the rows -/
theorem r_ch117 {m : MoT} {a B wk : Nat} {x : Int32} {k : Nat → Nat} {h0 : abJ} (hO : MO m) (hM0 : rM m (h0.1 65)) (ha : a < 6) (hB : B < 64) (haB : B.testBit a = false) (hk : rkd m (aL B) k) (hw : wk ∈ aL B) : ∀ (j N p : Nat) (h : abJ), p + j = 6 → j < N → (∀ q, q < p → h.1 82 q = nI (if q ∈ aL B then 1 else 0)) → RQ r6 (fun p' q' => if p' < p ∧ p' ∈ aL B then rW m B p' (mR m p') (rto m p' a (mR m p')) q' else F00 p' q') h → frR [] [82] [80, 81] h0 h → Ok (fX12_chance_L117 N (nI a) x (nI wk) (nI (2 ^ a ||| B)) (nI p) h) (fun r => r.1 = (if x = 0 then iL (nf ((eRun (aL B) 1 (M0 m B (fun q => (rto m q a (mR m q) : Int)) (wt4 k))).2 wk 6) (eRun (aL B) 1 (M0 m B (fun q => (rto m q a (mR m q) : Int)) (wt4 k))).1).1 else iL (nf ((eRun (aL B) 1 (M0 m B (fun q => (rto m q a (mR m q) : Int)) (wt4 k))).2 wk 6) (eRun (aL B) 1 (M0 m B (fun q => (rto m q a (mR m q) : Int)) (wt4 k))).1).2) ∧ frR [] [82] [80, 81] h0 r.2) := by
  have hw6 := (aL_m.mp hw).1
  have h2a : 2 ^ a ||| B < 64 := Nat.or_lt_two_pow (n := 6) (p2_64 ha) hB
  intro j
  induction j with
  | zero =>
    intro N p h hp hN h82 hR hfr
    obtain ⟨N, rfl⟩ : ∃ n0, N = n0 + 1 := ⟨N - 1, by omega⟩
    have e : p = 6 := by omega
    subst e
    rw [fX12_chance_L117]
    refine Ok.pos (by decide) (Ok.bind (r_solved (b := fun q => (rto m q a (mR m q) : Int)) (k := k) (wk := wk) hO hk (fun q hq => ?_) h82 (fun p' q' w1 w2 => ?_) hw) (fun h' hr => ?_))
    · have := rto_b m q a (mR m q)
      have := hO.2.2.2.2.1 q
      exact ⟨by omega, by omega⟩
    · have w3 := (aL_m.mp w1).1
      have := hR p' q' (r6_m.mpr w3) w2
      dsimp only at this
      rw [if_pos ⟨w3, w1⟩] at this
      exact this
    · rw [show (7 : Int32) = nI 7 from rfl, show (6 : Int32) = nI 6 from rfl, pk_mul, show nI (7 * wk) + nI 6 = nI (7 * wk + 6) from nI_add _ _, nI_clamp (by omega), hr.1, hr.2.1]
      have f2 := frR_t hfr (frR_m hr.2.2 (by simp) (by simp) (by simp))
      by_cases cx : x = 0
      · rw [if_pos cx, if_pos cx]
        exact Ok.ask (ixN (by omega) (by omega)) (Ok.some ⟨rfl, f2⟩)
      · rw [if_neg cx, if_neg cx]
        exact Ok.ask (ixN (by omega) (by omega)) (Ok.some ⟨rfl, f2⟩)
  | succ j ih =>
    intro N p h hp hN h82 hR hfr
    obtain ⟨N, rfl⟩ : ∃ n0, N = n0 + 1 := ⟨N - 1, by omega⟩
    rw [fX12_chance_L117, r_isIn h h2a (by omega), ab_bindS]
    refine Ok.neg (by rw [show (6 : Int32) = nI 6 from rfl, nI_leI (by omega) (by omega)]; omega) ?_
    have ebit : (2 ^ a ||| B).testBit p = (decide (a = p) || B.testBit p) := by rw [Nat.testBit_or, p2_t]
    have skip : p ∉ aL B → Ok (fX12_chance_J151 (fun y1 y3 y4 y5 y6 h => fX12_chance_L117 N y1 y3 y4 y5 y6 h) (nI a) x (nI wk) (nI (2 ^ a ||| B)) (nI p) (nI p) h) (fun r => r.1 = (if x = 0 then iL (nf ((eRun (aL B) 1 (M0 m B (fun q => (rto m q a (mR m q) : Int)) (wt4 k))).2 wk 6) (eRun (aL B) 1 (M0 m B (fun q => (rto m q a (mR m q) : Int)) (wt4 k))).1).1 else iL (nf ((eRun (aL B) 1 (M0 m B (fun q => (rto m q a (mR m q) : Int)) (wt4 k))).2 wk 6) (eRun (aL B) 1 (M0 m B (fun q => (rto m q a (mR m q) : Int)) (wt4 k))).1).2) ∧ frR [] [82] [80, 81] h0 r.2) := by
      intro hn
      unfold fX12_chance_J151 fX12_chance_J152
      rw [nI_clamp (by omega), ab_w1e]
      refine Ok.ask (ixN (by omega) (by omega)) (Ok.ask (ixN (by omega) (by omega)) (Ok.pos (by decide) ?_))
      unfold fX12_chance_J344
      rw [nI_1]
      refine ih N (p + 1) _ (by omega) (by omega) (fun q hq => ?_) (fun p' q' w1 w2 => ?_) (frR_w hfr (by simp) (by decide))
      · by_cases e : q = p
        · subst e; rw [ab_w1e, if_neg hn]; rfl
        · rw [ab_w1k e]; exact h82 q (by omega)
      · have := hR p' q' w1 w2
        dsimp only at this ⊢
        by_cases c2 : p' < p ∧ p' ∈ aL B
        · rw [if_pos c2] at this; rw [if_pos ⟨by omega, c2.2⟩]; exact this
        · rw [if_neg c2] at this
          rw [if_neg (fun w => by
            by_cases e : p' = p
            · exact hn (by rw [← e]; exact w.2)
            · exact c2 ⟨by omega, w.2⟩)]; exact this
    by_cases c : B.testBit p = true
    · have hpA : p ∈ aL B := aL_m.mpr ⟨by omega, c⟩
      have hpa : p ≠ a := fun e => by rw [e, haB] at c; cases c
      rw [ebit, c, Bool.or_true]
      refine Ok.neg (by decide) (Ok.neg (by rw [nI_eq (by omega) (by omega)]; exact hpa) ?_)
      unfold fX12_chance_J152
      rw [nI_clamp (by omega), ab_w1e]
      refine Ok.ask (ixN (by omega) (by omega)) (Ok.ask (ixN (by omega) (by omega)) (Ok.neg (by decide) ?_))
      have f1 : frR [] [82] [80, 81] h0 (ab_wI h 82 p (vp_nar .boolean 1)) := frR_w hfr (by simp) (by decide)
      have hM1 : rM m ((ab_wI h 82 p (vp_nar .boolean 1)).1 65) := by rw [f1.1 65 (by simp) (by decide)]; exact hM0
      rw [show (9 : Int32) = nI 9 from rfl, show nI 9 + nI p = nI (9 + p) from nI_add _ _, nI_clamp (by omega), hM1.2.2.2.1 p (by omega), show (0 : Int32) = nI 0 from rfl]
      have h3 := hO.2.2.2.2.1 p
      have hR0 : 0 < mR m p := by obtain ⟨_, _, r, w, _⟩ := hk p hpA; omega
      refine Ok.ask (ixN (by omega) (by omega)) ?_
      refine r_ch181 (h0 := ab_wI h 82 p (vp_nar .boolean 1)) (F := fun p' q' => if p' < p ∧ p' ∈ aL B then rW m B p' (mR m p') (rto m p' a (mR m p')) q' else F00 p' q') hO hM1 ha hB haB hpA hR0 (fun h1 hR1 hf1 => ?_) (mR m p) ab_N 0 _ (by omega) (by unfold ab_N; omega) (fun p' q' w1 w2 => ?_) (frR_r _ _ _ _)
      · refine ih N (p + 1) h1 (by omega) (by omega) (fun q hq => ?_) (fun p' q' w1 w2 => ?_) (frR_t f1 (frR_m hf1 (by simp) (by simp) (by simp)))
        · rw [hf1.1 82 (by simp) (by decide)]
          by_cases e : q = p
          · subst e; rw [ab_w1e, if_pos hpA]; rfl
          · rw [ab_w1k e]; exact h82 q (by omega)
        · have := hR1 p' q' w1 w2
          dsimp only at this ⊢
          by_cases e : p' = p
          · subst e
            rw [if_pos rfl] at this
            rw [if_pos ⟨by omega, hpA⟩]; exact this
          · rw [if_neg e] at this
            by_cases c2 : p' < p ∧ p' ∈ aL B
            · rw [if_pos c2] at this; rw [if_pos ⟨by omega, c2.2⟩]; exact this
            · rw [if_neg c2] at this
              rw [if_neg (fun w => c2 ⟨by omega, w.2⟩)]; exact this
      · have := hR p' q' w1 w2
        dsimp only at this ⊢
        by_cases e : p' = p
        · subst e
          rw [if_neg (fun w => by omega)] at this
          rw [if_pos rfl, show rto m p' a 0 = 0 from rfl]
          by_cases e6 : q' < 6
          · have w3 := rW_0 (q := q') c hR0 e6
            rw [w3] at this
            unfold rW at this ⊢
            rw [if_pos e6] at this ⊢
            exact this
          · have w3 : F00 p' q' = nf 0 (mR m p' : Int) := by
              unfold F00
              rw [if_neg (by omega)]
              exact nf_e (by omega) (by omega) (by omega)
            rw [w3] at this
            unfold rW
            rw [if_neg e6]
            exact this
        · rw [if_neg e]; exact this
    · have hn : p ∉ aL B := fun w => c (aL_m.mp w).2
      by_cases e : a = p
      · rw [ebit, decide_eq_true e, Bool.true_or]
        exact Ok.neg (by decide) (Ok.pos (by rw [e]) (skip hn))
      · rw [ebit, decide_eq_false e, show B.testBit p = false by simpa using c]
        exact Ok.pos (by decide) (skip hn)
