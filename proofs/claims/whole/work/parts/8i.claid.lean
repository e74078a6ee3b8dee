/-! chance, mean: the class lays rows, and answers. -/
theorem c_cd {h : abJ} : ∀ (j N i : Nat) (a b : Int), b.natAbs < 2 ^ j → i + 2 * j + 1 ≤ 200 → 2 * j + 1 ≤ N → 0 ≤ a → 0 ≤ b → bd a → bd b → fX4_commonDivisor_L15 h N (iL a) (iL b) (nI i) = some (iL (Int.gcd a b)) := by
  have z : ∀ (N i : Nat) (a : Int), i < 200 → 0 ≤ a → bd a → fX4_commonDivisor_L15 h (N + 1) (iL a) (iL 0) (nI i) = some (iL (Int.gcd a 0)) := by
    intro N i a hi h0 ha
    rw [fX4_commonDivisor_L15, if_neg (by rw [show (200 : Int32) = nI 200 from rfl, nI_leI (by omega) (by omega)]; omega), if_pos ((iL_0 ⟨by omega, by omega⟩).mpr rfl), Int.gcd_zero_right, show ((a.natAbs : Nat) : Int) = a by omega]
  have st : ∀ (N i : Nat) (a b : Int), i < 200 → bd a → bd b → b ≠ 0 → fX4_commonDivisor_L15 h (N + 1) (iL a) (iL b) (nI i) = fX4_commonDivisor_L15 h N (iL b) (iL (a.tmod b)) (nI (i + 1)) := by
    intro N i a b hi ha hb c
    rw [fX4_commonDivisor_L15, if_neg (by rw [show (200 : Int32) = nI 200 from rfl, nI_leI (by omega) (by omega)]; omega), if_neg (fun q => c ((iL_0 hb).mp q)), ab_askP (fun q => c ((iL_z hb).mp q)), iL_r ha hb, nI_1]
  intro j
  induction j with
  | zero =>
    intro N i a b hb hi hN h0 h1 ha hbb
    obtain ⟨N, rfl⟩ : ∃ n0, N = n0 + 1 := ⟨N - 1, by omega⟩
    have e : b = 0 := by simp at hb; exact hb
    subst e
    exact z N i a (by omega) h0 ha
  | succ j ih =>
    intro N i a b hb hi hN h0 h1 ha hbb
    obtain ⟨N, rfl⟩ : ∃ n0, N = n0 + 2 := ⟨N - 2, by omega⟩
    by_cases c : b = 0
    · subst c; exact z (N + 1) i a (by omega) h0 ha
    rw [st (N + 1) i a b (by omega) ha hbb c, ← gcd_tm]
    by_cases c2 : a.tmod b = 0
    · rw [c2]; exact z N (i + 1) b (by omega) h1 hbb
    rw [st N (i + 1) b _ (by omega) hbb (bd_tm ha) c2, ← gcd_tm]
    refine ih N (i + 1 + 1) _ _ ?_ (by omega) (by omega) (Int.tmod_nonneg b h0) (Int.tmod_nonneg _ h1) (bd_tm ha) (bd_tm hbb)
    have h1 : 0 < a.natAbs % b.natAbs := by rw [← Int.natAbs_tmod]; omega
    have h2 := mod_half (show 0 < b.natAbs by omega) h1
    rw [Int.natAbs_tmod, Int.natAbs_tmod]
    rw [Nat.pow_succ] at hb
    omega
theorem c_answer {a b : Int} {h : abJ} (ha : 0 ≤ a ∧ a ≤ 1000000) (hb : 0 < b ∧ b ≤ 1000000) : fX4_answer (iL a) (iL b) h = some (ab_wL (ab_wL h 40 4 (iL (nf a b).1)) 40 5 (iL (nf a b).2)) := by
  have ba : bd a := ⟨by omega, by omega⟩
  have bb : bd b := ⟨by omega, by omega⟩
  have hg := gcd_ps (a := a) hb.1
  have hgb : (Int.gcd a b : Int) ≤ b := Int.le_of_dvd hb.1 (Int.gcd_dvd_right a b)
  have hgd : bd (Int.gcd a b : Int) := ⟨by omega, by omega⟩
  have n0 : ¬ iL (Int.gcd a b : Int) = 0 := fun q => by have := (iL_z hgd).mp q; omega
  have cd : fX4_commonDivisor (iL a) (iL b) h = some (iL (Int.gcd a b)) := by
    unfold fX4_commonDivisor fJ9_abs_067f4
    rw [if_pos ((iL_p ba).mpr (by omega)), ab_bindS, if_pos ((iL_p bb).mpr (by omega)), ab_bindS, show (0 : Int32) = nI 0 from rfl]
    exact c_cd 20 ab_N 0 a b (by omega) (by omega) (by unfold ab_N; omega) (by omega) (by omega) ba bb
  unfold fX4_answer
  rw [cd, ab_bindS, if_neg (fun q => by have := (iL_0 hgd).mp q; omega), if_neg (fun q => by have := (iL_0 bb).mp q; omega), ab_askP n0, ab_askP n0, iL_d ba hgd, iL_d bb hgd]
  rfl
theorem c_rto {m : MoT} {h : abJ} {p q : Nat} (hO : MO m) (hM : cM m 1 h) (hp : p < 6) (hq : q < 6) : fX4_roadsTo (nI p) (nI q) h = some (nI (rto m p q (mR m p))) := by
  have h3 := hO.2.2.2.2.1 p
  have h6 := hO.2.1
  have key : ∀ (k n r : Nat), r + k = mR m p → k < n → fX4_roadsTo_L5 h n (nI p) (nI q) (nI (rto m p q r)) (nI r) = some (nI (rto m p q (mR m p))) := by
    intro k
    induction k with
    | zero =>
      intro n r hr hn
      obtain ⟨n, rfl⟩ : ∃ n0, n = n0 + 1 := ⟨n - 1, by omega⟩
      have e : r = mR m p := by omega
      rw [fX4_roadsTo_L5, c_roadsOf hO hM hp, ab_bindS, if_pos (by rw [nI_leI (by omega) (by omega)]; omega), e]
    | succ k ih =>
      intro n r hr hn
      obtain ⟨n, rfl⟩ : ∃ n0, n = n0 + 1 := ⟨n - 1, by omega⟩
      have hl := hO.2.2.2.2.2.2.1 p r
      have ih := ih n (r + 1) (by omega) (by omega)
      rw [fX4_roadsTo_L5, c_roadsOf hO hM hp, ab_bindS, if_neg (by rw [nI_leI (by omega) (by omega)]; omega), c_leadsTo hO hM hp (by omega), ab_bindS]
      unfold fX4_roadsTo_J35
      rw [nI_1, nI_1]
      rw [rto_s] at ih
      by_cases c : mL m p r = q
      · rw [if_pos c] at ih
        rw [if_pos (by rw [c])]
        exact ih
      · rw [if_neg c, Nat.add_zero] at ih
        rw [if_neg (by rw [nI_eq (by omega) (by omega)]; exact c)]
        exact ih
  exact key (mR m p) ab_N 0 (by omega) (by unfold ab_N; omega)
/-- the rows' numbers -/
def cRo (B : Nat) (h : abJ) : Prop := (∀ p, p < 6 → h.1 42 p = if B.testBit p = true then nI (cnb B p) else -1) ∧ h.1 40 3 = nI (cnb B 6)
theorem c_number {B : Nat} {h : abJ} (hB : B < 64) : Ok (fX4_number (nI B) h) (fun h' => cRo B h' ∧ fr [40, 42] [] h h') := by
  have key : ∀ (k n p : Nat) (h1 : abJ), p + k = 6 → k < n → (∀ q, q < p → h1.1 42 q = if B.testBit q = true then nI (cnb B q) else -1) → h1.1 40 3 = nI (cnb B p) → fr [40, 42] [] h h1 → Ok (fX4_number_L7 n (nI B) (nI p) h1) (fun h' => cRo B h' ∧ fr [40, 42] [] h h') := by
    intro k
    induction k with
    | zero =>
      intro n p h1 hp hn h42 h40 hfr
      obtain ⟨n, rfl⟩ : ∃ n0, n = n0 + 1 := ⟨n - 1, by omega⟩
      have e : p = 6 := by omega
      subst e
      rw [fX4_number_L7]
      exact Ok.pos (by decide) (Ok.some ⟨⟨h42, h40⟩, hfr⟩)
    | succ k ih =>
      intro n p h1 hp hn h42 h40 hfr
      obtain ⟨n, rfl⟩ : ∃ n0, n = n0 + 1 := ⟨n - 1, by omega⟩
      have hc := cnb_b (B := B) p
      rw [fX4_number_L7, c_isIn h1 (by omega) (by omega), ab_bindS]
      refine Ok.neg (by rw [show (6 : Int32) = nI 6 from rfl, nI_leI (by omega) (by omega)]; omega) ?_
      have go : ∀ t2 : Int32, t2 = (if B.testBit p = true then nI (cnb B p) else -1) → Ok (fX4_number_J34 (fun y1 y2 h => fX4_number_L7 n y1 y2 h) (nI B) (nI p) (nI p) t2 h1) (fun h' => cRo B h' ∧ fr [40, 42] [] h h') := by
        intro t2 e2
        unfold fX4_number_J34 fX4_number_J53
        rw [nI_clamp (by omega), c_isIn _ (by omega) (by omega), ab_bindS, nI_1, ab_w1n (show 40 ≠ 42 by decide), h40, nI_1]
        refine Ok.ask (ixN (by omega) (by omega)) ?_
        have w42 : ∀ q, q < p + 1 → (ab_wI h1 42 p t2).1 42 q = if B.testBit q = true then nI (cnb B q) else -1 := fun q hq => by
          by_cases e : q = p
          · subst e; rw [ab_w1e, e2]
          · rw [ab_w1k e]; exact h42 q (by omega)
        by_cases c : B.testBit p = true
        · rw [c]
          refine Ok.neg (by decide) (ih n (p + 1) _ (by omega) (by omega) (fun q hq => ?_) ?_ (fr_w (fr_w hfr (by simp)) (by simp)))
          · rw [ab_w1n (by decide)]; exact w42 q hq
          · rw [ab_w1e, cnb_s, if_pos c]
        · rw [show B.testBit p = false by simpa using c]
          refine Ok.pos (by decide) (ih n (p + 1) _ (by omega) (by omega) w42 ?_ (fr_w hfr (by simp)))
          rw [ab_w1n (by decide), h40, cnb_s, if_neg c, Nat.add_zero]
      by_cases c : B.testBit p = true
      · rw [c]
        exact Ok.neg (by decide) (go _ (by rw [if_pos c]; exact h40))
      · rw [show B.testBit p = false by simpa using c]
        exact Ok.pos (by decide) (go _ (by rw [if_neg c]))
  unfold fX4_number
  exact key 6 ab_N 0 _ (by omega) (by unfold ab_N; omega) (fun q hq => by omega) (ab_w1e ..) (fr_w (fr_r _ _ _) (by simp))
theorem i64_d : ∀ a < 4, ∀ b < 4, (nI a - nI b).toInt64 = iL ((a : Int) - (b : Int)) := by decide
theorem i64_n {a : Nat} (h : a < 2 ^ 31) : (nI a).toInt64 = iL (a : Int) := by
  rw [← Int64.toInt_inj, Int32.toInt_toInt64, nI_toInt h, iL_T ⟨by omega, by omega⟩]
/-- a row is laid -/
def cLd (m : MoT) (B p : Nat) (b : Int) (h : abJ) : Prop := (∀ q, q ∈ aL B → h.2 41 (cnb B p * 7 + cnb B q) = iL (mE m B p q)) ∧ h.2 41 (cnb B p * 7 + cnb B 6) = iL b
theorem cnb_i {B p q : Nat} (hp : p ∈ aL B) (hq : q ∈ aL B) (h : cnb B p = cnb B q) : p = q := by
  rw [← (aL_g hp).1, ← (aL_g hq).1, h]
theorem c_layRow {m : MoT} {B p b : Nat} {h : abJ} (hO : MO m) (hM : cM m 1 h) (hB : B < 64) (hp : p ∈ aL B) (hb : b < 4) (hRo : cRo B h) (hl5 : cnb B 6 ≤ 5) : Ok (fX4_layRow (nI p) (nI B) (nI b) h) (fun h' => cLd m B p b h' ∧ (∀ r c, r ≠ cnb B p → c < 7 → h'.2 41 (r * 7 + c) = h.2 41 (r * 7 + c)) ∧ fr [] [41] h h') := by
  have hp6 := aL_m.mp hp
  have h3 := hO.2.2.2.2.1 p
  have hpc := (aL_g hp).2
  rw [aL_l] at hpc
  have key : ∀ (k n q : Nat) (h1 : abJ), q + k = 6 → k < n → (∀ q', q' < q → q' ∈ aL B → h1.2 41 (cnb B p * 7 + cnb B q') = iL (mE m B p q')) → (∀ r c, r ≠ cnb B p → c < 7 → h1.2 41 (r * 7 + c) = h.2 41 (r * 7 + c)) → fr [] [41] h h1 → Ok (fX4_layRow_L3 n (nI p) (nI B) (nI b) (nI q) h1) (fun h' => cLd m B p b h' ∧ (∀ r c, r ≠ cnb B p → c < 7 → h'.2 41 (r * 7 + c) = h.2 41 (r * 7 + c)) ∧ fr [] [41] h h') := by
    intro k
    induction k with
    | zero =>
      intro n q h1 hq hn ha hr hfr
      obtain ⟨n, rfl⟩ : ∃ n0, n = n0 + 1 := ⟨n - 1, by omega⟩
      have e : q = 6 := by omega
      subst e
      have e42 : h1.1 42 p = nI (cnb B p) := by rw [hfr.1 42 (by simp), hRo.1 p hp6.1, if_pos hp6.2]
      rw [fX4_layRow_L3, nI_clamp (by omega), e42, hfr.1 40 (by simp), hRo.2]
      refine Ok.pos (by decide) (Ok.ask (ixN (by omega) (by omega)) ?_)
      rw [c_putO h1 (by omega) (by omega), ab_bindS]
      refine Ok.some ⟨⟨fun q' hq' => ?_, ?_⟩, fun r c h4 h5 => ?_, fr_v hfr (by simp)⟩
      · have := (aL_g hq').2
        rw [aL_l] at this
        rw [ab_v2k (by omega)]; exact ha q' (aL_m.mp hq').1 hq'
      · rw [ab_v2e, i64_n (by omega)]
      · rw [ab_v2k (by omega)]; exact hr r c h4 h5
    | succ k ih =>
      intro n q h1 hq hn ha hr hfr
      obtain ⟨n, rfl⟩ : ∃ n0, n = n0 + 1 := ⟨n - 1, by omega⟩
      have hM1 := cM_fr hM hfr (by simp) (by simp) (by simp) (by simp)
      rw [fX4_layRow_L3, c_isIn h1 (by omega) (by omega), ab_bindS]
      refine Ok.neg (by rw [show (6 : Int32) = nI 6 from rfl, nI_leI (by omega) (by omega)]; omega) ?_
      unfold fX4_layRow_J63
      rw [nI_1]
      by_cases c : B.testBit q = true
      · have hqA : q ∈ aL B := aL_m.mpr ⟨by omega, c⟩
        have hqc := (aL_g hqA).2
        rw [aL_l] at hqc
        have e42 : h1.1 42 p = nI (cnb B p) := by rw [hfr.1 42 (by simp), hRo.1 p hp6.1, if_pos hp6.2]
        have e42q : h1.1 42 q = nI (cnb B q) := by rw [hfr.1 42 (by simp), hRo.1 q (by omega), if_pos c]
        rw [c, nI_clamp (by omega), nI_clamp (by omega), e42, e42q, c_roadsOf hO hM1 (by omega), ab_bindS]
        refine Ok.neg (by decide) (Ok.ask (ixN (by omega) (by omega)) (Ok.ask (ixN (by omega) (by omega)) ?_))
        have go : ∀ t3 : Nat, t3 < 4 → (t3 : Int) - (rto m p q (mR m p) : Int) = mE m B p q → Ok (fX4_layRow_J51 (fun y1 y2 y3 y4 h => fX4_layRow_L3 n y1 y2 y3 y4 h) (nI p) (nI B) (nI b) (nI q) (nI (cnb B p)) (nI (cnb B q)) (nI t3) h1) (fun h' => cLd m B p b h' ∧ (∀ r c, r ≠ cnb B p → c < 7 → h'.2 41 (r * 7 + c) = h.2 41 (r * 7 + c)) ∧ fr [] [41] h h') := by
          intro t3 ht e3
          have hrb := rto_b m p q (mR m p)
          unfold fX4_layRow_J51 fX4_layRow_J63
          rw [c_rto hO hM1 (by omega) (by omega), ab_bindS, i64_d t3 ht _ (by omega), e3, c_putO h1 (by omega) (by omega), ab_bindS, nI_1]
          refine ih n (q + 1) _ (by omega) (by omega) (fun q' h4 h5 => ?_) (fun r c h4 h5 => ?_) (fr_v hfr (by simp))
          · by_cases e : q' = q
            · subst e; rw [ab_v2e]
            · rw [ab_v2k (fun e2 => e (cnb_i h5 hqA (by omega)))]; exact ha q' (by omega) h5
          · rw [ab_v2k (by omega)]; exact hr r c h4 h5
        by_cases e : p = q
        · refine Ok.pos (by rw [e]) (go _ (by omega) ?_)
          unfold mE
          rw [if_pos ⟨by omega, c⟩, if_pos e]
        · refine Ok.neg (by rw [nI_eq (by omega) (by omega)]; exact e) (go 0 (by omega) ?_)
          unfold mE
          rw [if_pos ⟨by omega, c⟩, if_neg e]; rfl
      · rw [show B.testBit q = false by simpa using c]
        refine Ok.pos (by decide) (ih n (q + 1) h1 (by omega) (by omega) (fun q' h4 h5 => ?_) hr hfr)
        have : q' ≠ q := fun e => c (by rw [← e]; exact (aL_m.mp h5).2)
        exact ha q' (by omega) h5
  unfold fX4_layRow
  exact key 6 ab_N 0 h (by omega) (by unfold ab_N; omega) (fun q' hq' => by omega) (fun r c _ _ => rfl) (fr_r _ _ _)
theorem CX_0 {m : MoT} {B : Nat} {b w : Nat → Int} {h : abJ} (hl : ∀ p, p ∈ aL B → cLd m B p (b p) h) : CX (aL B) (M0 m B b w) h := by
  intro r c hr hc
  obtain ⟨i1, i2⟩ := aL_i hr
  have := hl _ i2
  unfold cLd at this
  rw [i1] at this
  dsimp only
  unfold cp
  by_cases e : c < (aL B).length
  · obtain ⟨j1, j2⟩ := aL_i e
    rw [if_pos e]
    have w1 := this.1 _ j2
    rw [j1] at w1
    rw [w1]
    show iL _ = iL (M0 m B b w ((aL B).getD r 0) ((aL B).getD c 0))
    unfold M0
    rw [if_pos (aL_m.mp j2).1]
  · rw [if_neg e, show c = cnb B 6 by rw [aL_l] at hc e; omega, this.2]; rfl
/-- solved, answered -/
theorem c_solved {m : MoT} {B wk : Nat} {b : Nat → Int} {k : Nat → Nat} {h : abJ} (hO : MO m) (hk : rkd m (aL B) k) (hb : ∀ p, p ∈ aL B → 0 ≤ b p ∧ b p ≤ 3) (hRo : cRo B h) (hl : ∀ p, p ∈ aL B → cLd m B p (b p) h) (hw : wk ∈ aL B) : Ok ((fX4_solve h).bind (fun r => (fX4_answerFor (nI wk) r).bind (fun r2 => some r2))) (fun h' => h'.2 40 4 = iL (nf ((eRun (aL B) 1 (M0 m B b (wt4 k))).2 wk 6) (eRun (aL B) 1 (M0 m B b (wt4 k))).1).1 ∧ h'.2 40 5 = iL (nf ((eRun (aL B) 1 (M0 m B b (wt4 k))).2 wk 6) (eRun (aL B) 1 (M0 m B b (wt4 k))).1).2 ∧ fr [] [40, 41] h h') := by
  obtain ⟨hE, h5⟩ := EI_0 hO hk hb
  have hA6 : ∀ i, i ∈ aL B → i < 6 := fun i hi => (aL_m.mp hi).1
  have hw6 := aL_m.mp hw
  obtain ⟨g1, g2⟩ := aL_g hw
  obtain ⟨f1, f2, f3, f4, f5⟩ := eRun_e hA6 hE hw
  have h3 : h.1 40 3 = nI (aL B).length := by rw [aL_l]; exact hRo.2
  unfold fX4_solve
  refine Ok.bind (c_solve4 h5 hA6 h3 (aL B) ab_N 0 5 1 (M0 m B b (wt4 k)) [] h rfl (Nat.zero_le _) (by unfold ab_N; omega) hE (CX_0 hl) (fr_r _ _ _)) (fun h1 hr => ?_)
  obtain ⟨hX, hfr⟩ := hr
  have e42 : h1.1 42 wk = nI (cnb B wk) := by rw [hfr.1 42 (by simp), hRo.1 wk hw6.1, if_pos hw6.2]
  have c1 : h1.2 41 (cnb B wk * 7 + (aL B).length) = iL ((eRun (aL B) 1 (M0 m B b (wt4 k))).2 wk 6) := by
    rw [hX _ _ g2 (Nat.le_refl _)]
    dsimp only
    rw [g1]
    unfold cp
    rw [if_neg (Nat.lt_irrefl _)]
  have c2 : h1.2 41 (cnb B wk * 7 + cnb B wk) = iL (eRun (aL B) 1 (M0 m B b (wt4 k))).1 := by
    rw [hX _ _ g2 (by omega)]
    dsimp only
    rw [g1]
    unfold cp
    rw [if_pos g2, g1, f1]
  unfold fX4_answerFor
  rw [nI_clamp (by omega), e42, hfr.1 40 (by simp), h3, c_cell h1 (by omega) (by omega), c_cell h1 (by omega) (by omega), ab_bindS, ab_bindS, c1, c2, c_answer ⟨f4, by omega⟩ ⟨f2, by omega⟩, ab_bindS]
  have e0 : ¬ nI wk < 0 := by rw [show (0 : Int32) = nI 0 from rfl, nI_ltI (by omega) (by omega)]; omega
  rw [if_neg e0, if_pos (by rw [show (6 : Int32) = nI 6 from rfl, nI_ltI (by omega) (by omega)]; omega), ab_askP (ixN (by omega) (by omega)), ab_bindS]
  refine Ok.some ⟨?_, ab_v2e .., fr_v (fr_v (fr_m hfr (by simp) (by simp)) (by simp)) (by simp)⟩
  rw [ab_v2k (by decide), ab_v2e]
