/-! forces, best: the class. -/
theorem c_restsAt {m : MoT} {h : abJ} {p : Nat} (hO : MO m) (hM : cM m 1 h) (hp : p < 6) : fX3_restsAt (nI p) h = some (bI (rs m p)) := by
  have h3 := hO.2.2.2.2.1 p
  unfold fX3_restsAt rs
  rw [c_isHome hO hM hp, ab_bindS]
  cases hm m p with
  | true => rw [if_neg (by decide)]; rfl
  | false =>
    rw [if_pos (by decide), c_roadsOf hO hM hp, ab_bindS]
    by_cases c : mR m p = 0
    · rw [c, if_pos (by decide)]; rfl
    · rw [if_neg (by rw [show (0 : Int32) = nI 0 from rfl, nI_eq (by omega) (by omega)]; exact c), show (mR m p == 0) = false by simp [c]]; rfl
theorem c_roadsInto {m : MoT} {h : abJ} {p B : Nat} (hO : MO m) (hM : cM m 1 h) (hp : p < 6) (hB : B < 64) : fX1_roadsInto (nI p) (nI B) h = some (nI (rin m B p (mR m p))) := by
  have h3 := hO.2.2.2.2.1 p
  have key : ∀ (k n r : Nat), r + k = mR m p → k < n → fX1_roadsInto_L5 h n (nI p) (nI B) (nI (rin m B p r)) (nI r) = some (nI (rin m B p (mR m p))) := by
    intro k
    induction k with
    | zero =>
      intro n r hr hn
      obtain ⟨n, rfl⟩ : ∃ n0, n = n0 + 1 := ⟨n - 1, by omega⟩
      have e : r = mR m p := by omega
      rw [fX1_roadsInto_L5, c_roadsOf hO hM hp, ab_bindS, if_pos (by rw [nI_leI (by omega) (by omega)]; omega), e]
    | succ k ih =>
      intro n r hr hn
      obtain ⟨n, rfl⟩ : ∃ n0, n = n0 + 1 := ⟨n - 1, by omega⟩
      have hl := hO.2.2.2.2.2.2.1 p r
      have h6 := hO.2.1
      have ih := ih n (r + 1) (by omega) (by omega)
      have e : rin m B p (r + 1) = rin m B p r + (if B.testBit (mL m p r) = true then 1 else 0) := rfl
      rw [fX1_roadsInto_L5, c_roadsOf hO hM hp, ab_bindS, if_neg (by rw [nI_leI (by omega) (by omega)]; omega), c_leadsTo hO hM hp (by omega), ab_bindS, c_isIn h (by omega) (by omega), ab_bindS]
      unfold fX1_roadsInto_J38
      rw [nI_1, nI_1]
      rw [e] at ih
      cases c : B.testBit (mL m p r) with
      | true =>
        rw [c, if_pos rfl] at ih
        rw [if_neg (by decide)]
        exact ih
      | false =>
        rw [c, if_neg (by decide), Nat.add_zero] at ih
        rw [if_pos (by decide)]
        exact ih
  exact key (mR m p) ab_N 0 (by omega) (by unfold ab_N; omega)
theorem rin_le {m : MoT} {B p n : Nat} : rin m B p n ≤ n := sg_1 (fun i => by split <;> omega) n
theorem c_canLead {m : MoT} {h : abJ} {B : Nat} (hO : MO m) (hM : cM m 1 h) (hB : B < 64) : fX1_canLead (nI B) h = some (nI (fgb (cnL m B) (mP m) 0 0)) := by
  have h6 := hO.2.1
  have key : ∀ (k n p acc : Nat), p + k = mP m → k < n → fX1_canLead_L4 h n (nI B) (nI acc) (nI p) = some (nI (fgb (cnL m B) k p acc)) := by
    intro k
    induction k with
    | zero =>
      intro n p acc hp hn
      obtain ⟨n, rfl⟩ : ∃ n0, n = n0 + 1 := ⟨n - 1, by omega⟩
      rw [fX1_canLead_L4, hM.1, if_pos (by rw [nI_leI (by omega) (by omega)]; omega)]; rfl
    | succ k ih =>
      intro n p acc hp hn
      obtain ⟨n, rfl⟩ : ∃ n0, n = n0 + 1 := ⟨n - 1, by omega⟩
      have h3 := hO.2.2.2.2.1 p
      have hr := rin_le (m := m) (B := B) (p := p) (n := mR m p)
      rw [fX1_canLead_L4, hM.1, if_neg (by rw [nI_leI (by omega) (by omega)]; omega), c_restsAt hO hM (by omega), ab_bindS, fgb]
      unfold fX1_canLead_J41
      rw [nI_1]
      have e : cnL m B p = (!rs m p && decide (0 < rin m B p (mR m p))) := rfl
      cases c : rs m p with
      | true =>
        rw [if_neg (by decide), e, c, if_neg (by simp)]
        exact ih n (p + 1) acc (by omega) (by omega)
      | false =>
        rw [if_pos (by decide), c_roadsInto hO hM (by omega) hB, ab_bindS, e, c]
        by_cases c2 : 0 < rin m B p (mR m p)
        · rw [if_neg (by rw [show (0 : Int32) = nI 0 from rfl, nI_leI (by omega) (by omega)]; omega), show (1 : Int32) = nI 1 from rfl, show (31 : Int32) = nI 31 from rfl, b_shl (by omega), b_or, if_pos (by simp [c2])]
          exact ih n (p + 1) _ (by omega) (by omega)
        · rw [if_pos (by rw [show (0 : Int32) = nI 0 from rfl, nI_leI (by omega) (by omega)]; omega), if_neg (by simp [c2])]
          exact ih n (p + 1) _ (by omega) (by omega)
  exact key (mP m) ab_N 0 0 (by omega) (by unfold ab_N; omega)
theorem c_mustLead {m : MoT} {h : abJ} {B : Nat} (hO : MO m) (hM : cM m 1 h) (hB : B < 64) : fX1_mustLead (nI B) h = some (nI (fgb (msL m B) (mP m) 0 0)) := by
  have h6 := hO.2.1
  have key : ∀ (k n p acc : Nat), p + k = mP m → k < n → fX1_mustLead_L4 h n (nI B) (nI acc) (nI p) = some (nI (fgb (msL m B) k p acc)) := by
    intro k
    induction k with
    | zero =>
      intro n p acc hp hn
      obtain ⟨n, rfl⟩ : ∃ n0, n = n0 + 1 := ⟨n - 1, by omega⟩
      rw [fX1_mustLead_L4, hM.1, if_pos (by rw [nI_leI (by omega) (by omega)]; omega)]; rfl
    | succ k ih =>
      intro n p acc hp hn
      obtain ⟨n, rfl⟩ : ∃ n0, n = n0 + 1 := ⟨n - 1, by omega⟩
      have h3 := hO.2.2.2.2.1 p
      have hr := rin_le (m := m) (B := B) (p := p) (n := mR m p)
      rw [fX1_mustLead_L4, hM.1, if_neg (by rw [nI_leI (by omega) (by omega)]; omega), c_restsAt hO hM (by omega), ab_bindS, fgb]
      unfold fX1_mustLead_J49
      rw [nI_1]
      have e : msL m B p = (!rs m p && decide (rin m B p (mR m p) = mR m p)) := rfl
      cases c : rs m p with
      | true =>
        rw [if_neg (by decide), e, c, if_neg (by simp)]
        exact ih n (p + 1) acc (by omega) (by omega)
      | false =>
        rw [if_pos (by decide), c_roadsInto hO hM (by omega) hB, ab_bindS, c_roadsOf hO hM (by omega), ab_bindS, e, c]
        by_cases c2 : rin m B p (mR m p) = mR m p
        · rw [if_pos (by rw [c2]), show (1 : Int32) = nI 1 from rfl, show (31 : Int32) = nI 31 from rfl, b_shl (by omega), b_or, if_pos (by simp [c2])]
          exact ih n (p + 1) _ (by omega) (by omega)
        · rw [if_neg (by rw [nI_eq (by omega) (by omega)]; exact c2), if_neg (by simp [c2])]
          exact ih n (p + 1) _ (by omega) (by omega)
  exact key (mP m) ab_N 0 0 (by omega) (by unfold ab_N; omega)
theorem c_force21 {m : MoT} {g w : Nat} {h0 : abJ} (hO : MO m) (hM0 : cM m 1 h0) (hg : g < 6) (hw : w < 6) : ∀ (k n i : Nat) (h : abJ), i + 1 + k = 13 → k < n → h.1 39 1 = nI (fFO m g i).2 → fr [39] [] h0 h → Ok (fX1_force_L21 n (nI w) (nI g) (nI (fFO m g i).1) (nI (i + 1)) h) (fun r => r.1 = oI (fsr m g w k (i + 1)) ∧ (∀ j, fsr m g w k (i + 1) = some j → r.2.1 39 1 = nI (fFO m g (j - 1)).2) ∧ fr [39] [] h0 r.2) := by
  intro k
  induction k with
  | zero =>
    intro n i h hi hn h39 hfr
    obtain ⟨n, rfl⟩ : ∃ n0, n = n0 + 1 := ⟨n - 1, by omega⟩
    rw [fX1_force_L21]
    exact Ok.pos (by rw [show (12 : Int32) = nI 12 from rfl, nI_ltI (by omega) (by omega)]; omega) (Ok.some ⟨rfl, fun j q => (by cases q), hfr⟩)
  | succ k ih =>
    intro n i h hi hn h39 hfr
    obtain ⟨n, rfl⟩ : ∃ n0, n = n0 + 1 := ⟨n - 1, by omega⟩
    have hM := cM_fr hM0 hfr (by decide) (by decide) (by decide) (by decide)
    obtain ⟨b1, b2⟩ := fFO_lt hO hg i
    obtain ⟨b3, b4⟩ := fFO_lt hO hg (i + 1)
    have e1 : (fFO m g (i + 1)).1 = 2 ^ g ||| fgb (cnL m (fFO m g i).2) (mP m) 0 0 := rfl
    have e2 : (fFO m g (i + 1)).2 = 2 ^ g ||| fgb (msL m (fFO m g i).1) (mP m) 0 0 := rfl
    rw [fX1_force_L21, h39, c_canLead hO hM b2, ab_bindS, show (1 : Int32) = nI 1 from rfl, show (31 : Int32) = nI 31 from rfl, b_shl (by omega), b_or, ← e1, c_isIn h (by omega) hw, ab_bindS, c_mustLead hO hM b1, ab_bindS, b_or, ← e2, nI_add, fsr]
    refine Ok.neg (by rw [show (12 : Int32) = nI 12 from rfl, nI_ltI (by omega) (by omega)]; omega) ?_
    cases c : (fFO m g (i + 1)).1.testBit w with
    | true =>
      rw [if_pos (show true = true from rfl)]
      exact Ok.neg (by decide) (Ok.some ⟨rfl, fun j q => (by cases q; exact h39), hfr⟩)
    | false =>
      rw [if_neg (show ¬ false = true by decide)]
      refine Ok.pos rfl ?_
      exact ih n (i + 1) _ (by omega) (by omega) (by rw [ab_w1e]) (fr_w hfr (by simp))
theorem c_force {m : MoT} {g w : Nat} {h : abJ} (hO : MO m) (hM : cM m 1 h) (hg : g < 6) (hw : w < 6) : Ok (fX1_force (nI w) (nI g) h) (fun r => r.1 = oI (fsr m g w 13 0) ∧ (∀ j, fsr m g w 13 0 = some j → 1 ≤ j → r.2.1 39 1 = nI (fFO m g (j - 1)).2) ∧ fr [39] [] h r.2) := by
  unfold fX1_force
  rw [fsr]
  by_cases c : w = g
  · rw [if_pos (f0_m.1.mpr c)]
    exact Ok.pos (by rw [c]) (Ok.some ⟨rfl, fun j q h1 => (by cases q; omega), fr_w (fr_r _ _ _) (by simp)⟩)
  · rw [if_neg (fun q => c (f0_m.1.mp q))]
    refine Ok.neg (by rw [nI_eq (by omega) (by omega)]; exact c) ?_
    rw [show (1 : Int32) = nI 1 from rfl, show (31 : Int32) = nI 31 from rfl, b_shl (by omega)]
    refine (c_force21 hO hM hg hw 12 ab_N 0 _ (by omega) (by unfold ab_N; omega) (by rw [ab_w1e]; rfl) (fr_w (fr_r _ _ _) (by simp))).mono (fun r hr => ⟨hr.1, fun j q _ => hr.2.1 j q, hr.2.2⟩)
def fbv (m : MoT) (g w : Nat) : Int32 := match fsr m g w 13 0 with
  | none => -1
  | some 0 => -1
  | some (j + 1) => oI (frd m (fFO m g j).2 w (mR m w) 0)
theorem c_forcing {m : MoT} {g w : Nat} {h : abJ} (hO : MO m) (hM : cM m 1 h) (hg : g < 6) (hw : w < 6) : Ok (fX1_forcingRoad (nI w) (nI g) h) (fun r => r.1 = fbv m g w ∧ fr [39] [] h r.2) := by
  have h3 := hO.2.2.2.2.1 w
  have h6 := hO.2.1
  unfold fX1_forcingRoad
  refine Ok.bind (c_force hO hM hg hw) (fun r hr => ?_)
  obtain ⟨q1, q2, q3⟩ := hr
  rw [q1]
  unfold fbv
  cases e : fsr m g w 13 0 with
  | none => exact Ok.neg (by decide) (Ok.some ⟨rfl, q3⟩)
  | some j =>
    have hj := (fsr_s e).2.1
    cases j with
    | zero => exact Ok.neg (by decide) (Ok.some ⟨rfl, q3⟩)
    | succ j =>
      refine Ok.pos (by rw [show (1 : Int32) = nI 1 from rfl, show oI (some (j + 1)) = nI (j + 1) from rfl, nI_leI (by omega) (by omega)]; omega) ?_
      have h39 := q2 (j + 1) e (by omega)
      rw [Nat.add_sub_cancel] at h39
      have hM1 := cM_fr hM q3 (by decide) (by decide) (by decide) (by decide)
      have b2 := (fFO_lt (m := m) hO hg j).2
      have key : ∀ (k n x : Nat), x + k = mR m w → k < n → fX1_forcingRoad_L17 n (nI w) (nI x) r.2 = some (oI (frd m (fFO m g j).2 w k x), r.2) := by
        intro k
        induction k with
        | zero =>
          intro n x hx hn
          obtain ⟨n, rfl⟩ : ∃ n0, n = n0 + 1 := ⟨n - 1, by omega⟩
          rw [fX1_forcingRoad_L17, c_roadsOf hO hM1 hw, ab_bindS, if_pos (by rw [nI_leI (by omega) (by omega)]; omega)]; rfl
        | succ k ih =>
          intro n x hx hn
          obtain ⟨n, rfl⟩ : ∃ n0, n = n0 + 1 := ⟨n - 1, by omega⟩
          have hl := hO.2.2.2.2.2.2.1 w x
          rw [fX1_forcingRoad_L17, c_roadsOf hO hM1 hw, ab_bindS, if_neg (by rw [nI_leI (by omega) (by omega)]; omega), c_leadsTo hO hM1 hw (by omega), ab_bindS, h39, c_isIn r.2 (by omega) (by omega), ab_bindS, nI_1, frd]
          cases c : (fFO m g j).2.testBit (mL m w x) with
          | true => rw [if_neg (by decide), if_pos rfl]; rfl
          | false => rw [if_pos (by decide), if_neg (by decide)]; exact ih n (x + 1) (by omega) (by omega)
      rw [show (0 : Int32) = nI 0 from rfl, key (mR m w) ab_N 0 (by omega) (by unfold ab_N; omega)]
      exact Ok.some ⟨rfl, q3⟩
