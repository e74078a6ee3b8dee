/-! The reference's cells, and its basic functions. -/
abbrev StT : Type := Nat × Nat × Nat × Nat
def sW (s : StT) : Nat := s.1
def sA (s : StT) : Nat := s.2.1
def sF (s : StT) : Nat := s.2.2.1
def sN (s : StT) : Nat := s.2.2.2
def SO (m : MoT) (s : StT) : Prop := sW s < mP m ∧ AV m (sA s) ∧ sF s < 10
def rL (c : Option (List Nat)) (g : Nat → Int32) (j : Nat) : Prop := match c with
  | none => g (3 + j) = nI 0
  | some l => g (3 + j) = nI 1 ∧ ∃ k, g (5 + j) = nI k ∧ g (7 + j) = nI l.length ∧ k + l.length ≤ 900 ∧ ∀ i, i < l.length → g (134 + k + i) = nI (l.getD i 0)
def rM (m : MoT) (g : Nat → Int32) : Prop := g 0 = nI (mN m) ∧ g 1 = nI (mP m) ∧ g 2 = nI (mH m) ∧ (∀ p, p < 6 → g (9 + p) = nI (mR m p)) ∧ (∀ p r, r < mR m p → g (15 + 3 * p + r) = nI (mL m p r)) ∧ rL (mT m) g 0 ∧ rL (mK m) g 1
def rS (s : StT) (g : Nat → Int32) : Prop := g 0 = nI (sW s) ∧ (∀ p, p < 6 → g (1 + p) = nI (dg (sA s) p)) ∧ g 7 = nI (sF s) ∧ g 8 = nI (sN s)
theorem r_win {x a b : Int32} {A B : Int64} (h : abJ) (hA : A = a.toInt64) (hB : B = b.toInt64) : fX12_within x.toInt64 A B h = some (bI (!decide (x < a ∨ b < x))) := by
  subst hA hB
  unfold fX12_within
  simp only [lg_cmp_lt, lg_cmp_gt, Int64.lt_iff_toInt_lt, Int32.toInt_toInt64, ← Int32.lt_iff_toInt_lt]
  by_cases h1 : x < a
  · rw [if_pos h1]; simp [h1]; rfl
  · rw [if_neg h1]
    by_cases h2 : b < x
    · rw [if_pos h2]; simp [h2]; rfl
    · rw [if_neg h2]; simp [h1, h2]; rfl
theorem r_place_L (h : abJ) : ∀ (k n a j : Nat), k < n → j + k < 2 ^ 31 → fX12_placeOf_L4 h n (nI (j + k)) (nI a) (nI j) = some (nI (a * 3 ^ k)) := by
  intro k
  induction k with
  | zero =>
    intro n a j hn hj
    obtain ⟨n, rfl⟩ : ∃ n0, n = n0 + 1 := ⟨n - 1, by omega⟩
    rw [fX12_placeOf_L4, if_pos (by rw [nI_leI (by omega) (by omega)]; omega)]
    simp
  | succ k ih =>
    intro n a j hn hj
    obtain ⟨n, rfl⟩ : ∃ n0, n = n0 + 1 := ⟨n - 1, by omega⟩
    rw [fX12_placeOf_L4, if_neg (by rw [nI_leI (by omega) (by omega)]; omega)]
    rw [show (3 : Int32) = nI 3 from rfl, show (1 : Int32) = nI 1 from rfl, pk_mul, nI_add, show j + (k + 1) = (j + 1) + k by omega, ih n (a * 3) (j + 1) (by omega) (by omega)]
    rw [Nat.pow_succ, Nat.mul_assoc, Nat.mul_comm 3]
theorem r_place {p : Nat} (h : abJ) (hp : p ≤ 6) : fX12_placeOf (nI p) h = some (nI (3 ^ p)) := by
  have := r_place_L h p ab_N 1 0 (by unfold ab_N; omega) (by omega)
  rw [Nat.zero_add, Nat.one_mul] at this
  exact this
theorem p3_le {p : Nat} (hp : p ≤ 6) : 3 ^ p ≤ 729 := Nat.le_trans (Nat.pow_le_pow_right (by omega) hp) (by decide)
theorem r_armIn {a p : Nat} (h : abJ) (hp : p ≤ 6) (ha : a < 2 ^ 31) : fX12_armIn (nI a) (nI p) h = some (nI (dg a p)) := by
  have h1 := p3_le hp
  have h2 := p3 p
  have h3 : a / 3 ^ p ≤ a := Nat.div_le_self _ _
  unfold fX12_armIn
  rw [r_place h hp, ab_bindS, ab_askP (by rw [show (0 : Int32) = nI 0 from rfl, nI_eq (by omega) (by omega)]; omega)]
  rw [show (3 : Int32) = nI 3 from rfl, pk_div ha h2 (by omega), pk_rem (by omega) (by omega) (by omega)]
  rfl
theorem k_wa {a b r d : Nat} (h : d * b ≤ a) : nI a + nI b * (nI r - nI d) = nI (a + r * b - d * b) := by
  rw [Int32.mul_sub, pk_mul, pk_mul, Int32.sub_eq_add_neg, ← Int32.add_assoc, ← Int32.sub_eq_add_neg, nI_add, Nat.mul_comm b r, Nat.mul_comm b d, pk_sub (by omega)]
theorem r_withArm {a p r : Nat} (h : abJ) (hp : p ≤ 6) (ha : a < 2 ^ 31) : fX12_withArm (nI a) (nI p) (nI r) h = some (nI (pt a p r)) := by
  unfold fX12_withArm
  rw [r_place h hp, ab_bindS, r_armIn h hp ha, ab_bindS, k_wa (dg_le a p)]
  rfl
theorem dg_sum (a p : Nat) : a % 3 ^ p + 3 ^ p * dg a p = a % 3 ^ (p + 1) := by
  rw [Nat.pow_succ, Nat.mod_mul]; rfl
theorem r_armsNow_L {m : MoT} {h : abJ} {a : Nat} (hP : h.1 65 1 = nI (mP m)) (h6 : mP m ≤ 6) (hA : ∀ p, p < 6 → h.1 65 (34 + p) = nI (dg a p)) : ∀ (k n j : Nat), j + k = mP m → k < n → fX12_armsNow_L4 h n (nI (a % 3 ^ j)) (nI j) = some (nI (a % 3 ^ mP m)) := by
  intro k
  induction k with
  | zero =>
    intro n j hj hn
    obtain ⟨n, rfl⟩ : ∃ n0, n = n0 + 1 := ⟨n - 1, by omega⟩
    rw [fX12_armsNow_L4, hP, if_pos (by rw [nI_leI (by omega) (by omega)]; omega), show j = mP m by omega]
  | succ k ih =>
    intro n j hj hn
    obtain ⟨n, rfl⟩ : ∃ n0, n = n0 + 1 := ⟨n - 1, by omega⟩
    rw [fX12_armsNow_L4, hP, if_neg (by rw [nI_leI (by omega) (by omega)]; omega), r_place h (by omega), ab_bindS]
    simp (disch := omega) only [ab_lits, nI_add, pk_mul, pk_sub, pk_div, nI_clamp, ab_ixO, hA, dg_sum]
    exact ih n (j + 1) (by omega) (by omega)
theorem r_armsNow {m : MoT} {h : abJ} {a : Nat} (hm : rM m (h.1 65)) (h6 : mP m ≤ 6) (ha : a < 3 ^ mP m) (hA : ∀ p, p < 6 → h.1 65 (34 + p) = nI (dg a p)) : fX12_armsNow h = some (nI a) := by
  have := r_armsNow_L (m := m) hm.2.1 h6 hA (mP m) ab_N 0 (by omega) (by unfold ab_N; omega)
  rw [Nat.mod_eq_of_lt ha, Nat.pow_zero, Nat.mod_one] at this
  exact this
theorem MO_H {m : MoT} (h : MO m) : mH m < 64 := Nat.lt_of_lt_of_le h.2.2.1 (Nat.le_trans (Nat.pow_le_pow_right (by omega) h.2.1) (by decide))
theorem r_isIn {H p : Nat} (h : abJ) (hH : H < 64) (hp : p < 6) : fX12_isIn ((nI H).toInt64) (nI p) h = some (bI (H.testBit p)) := by
  unfold fX12_isIn
  rw [nI_l (by omega), nI_l (by omega), show (63 : Int64) = lN 63 from rfl, show (1 : Int64) = lN 1 from rfl, b_testL hH hp]
  simp only [lg_cmp_eq]
  cases H.testBit p <;> rfl
theorem r_isRest {m : MoT} {h : abJ} {p : Nat} (hO : MO m) (hM : rM m (h.1 65)) (hp : p < 6) : fX12_isRest (nI p) h = some (bI (rs m p)) := by
  have h3 := hO.2.2.2.2.1 p
  unfold fX12_isRest
  rw [hM.2.2.1, r_isIn h (MO_H hO) hp, ab_bindS]
  simp (disch := omega) only [ab_lits, nI_add, pk_mul, pk_sub, pk_div, nI_clamp, ab_ixO, hM.2.2.2.1, bI_0, nI_eq, ite_bI]
  unfold rs hm
  cases (mH m).testBit p
  · by_cases e : mR m p = 0
    · simp [e]
    · simp [decide_eq_false e, show (mR m p == 0) = false by simp [e]]
  · rfl
theorem r_roadOf {m : MoT} {h : abJ} {p r : Nat} (hM : rM m (h.1 65)) (hp : p < 6) (hr : r < mR m p) (h3 : mR m p ≤ 3) : fX12_roadOf (nI p) (nI r) h = some (nI (mL m p r)) := by
  unfold fX12_roadOf
  simp (disch := omega) only [ab_lits, nI_add, pk_mul, pk_sub, pk_div, nI_clamp, ab_ixO, hM.2.2.2.2.1]
theorem r_standNow {m : MoT} {h : abJ} {s : StT} (hM : rM m (h.1 65)) (h6 : mP m ≤ 6) (ha : sA s < 3 ^ mP m) (hS : rS s (fun k => h.1 65 (33 + k))) : fX12_standNow h = some (nI (6 * sA s + sW s)) := by
  have e : ∀ p, p < 6 → h.1 65 (34 + p) = nI (dg (sA s) p) := fun p hp => by
    have := hS.2.1 p hp
    rw [show 34 + p = 33 + (1 + p) by omega]
    exact this
  unfold fX12_standNow
  rw [r_armsNow hM h6 ha e, ab_bindS, show h.1 65 33 = nI (sW s) from hS.1]
  unfold fX12_standOf
  simp only [ab_lits, nI_add, pk_mul, pk_sub, pk_div, nI_clamp, ab_bindS]
theorem r_areArms_L {m : MoT} {h : abJ} {a : Nat} (hO : MO m) (hM : rM m (h.1 65)) (ha : a < 2 ^ 31) : ∀ (k n j : Nat), j + k = 6 → k < n → ∃ b : Bool, fX12_areArms_L2 h n (nI a) (nI j) = some (bI b) ∧ (b = true ↔ ∀ q, j ≤ q → q < 6 → dg a q < max 1 (mR m q)) := by
  intro k
  induction k with
  | zero =>
    intro n j hj hn
    obtain ⟨n, rfl⟩ : ∃ n0, n = n0 + 1 := ⟨n - 1, by omega⟩
    refine ⟨true, ?_, by simp; omega⟩
    rw [fX12_areArms_L2]
    simp (disch := omega) only [ab_lits, nI_add, pk_mul, pk_sub, pk_div, nI_clamp, nI_leI]
    rw [if_pos (by omega)]
    rfl
  | succ k ih =>
    intro n j hj hn
    obtain ⟨n, rfl⟩ : ∃ n0, n = n0 + 1 := ⟨n - 1, by omega⟩
    obtain ⟨b, e, hb⟩ := ih n (j + 1) (by omega) (by omega)
    have hd := dg_lt a j
    have h3 := hO.2.2.2.2.1 j
    have h6 := hO.2.1
    have hz := hO.2.2.2.2.2.1 j
    have hall : (∀ q, j ≤ q → q < 6 → dg a q < max 1 (mR m q)) ↔ (dg a j < max 1 (mR m j) ∧ ∀ q, j + 1 ≤ q → q < 6 → dg a q < max 1 (mR m q)) := by
      constructor
      · intro hh; exact ⟨hh j (Nat.le_refl _) (by omega), fun q h1 h2 => hh q (by omega) h2⟩
      · intro hh q h1 h2
        rcases Nat.eq_or_lt_of_le h1 with h1 | h1
        · subst h1; exact hh.1
        · exact hh.2 q h1 h2
    rw [fX12_areArms_L2, if_neg (by simp (disch := omega) only [ab_lits, nI_add, pk_mul, pk_sub, pk_div, nI_clamp, nI_leI]; omega), r_armIn h (by omega) ha, ab_bindS, hM.2.1]
    simp (disch := omega) only [ab_lits, nI_add, pk_mul, pk_sub, pk_div, nI_clamp, nI_leI, ab_ixO, ab_ixN, hM.2.2.2.1, nI_ltI, fX12_areArms_J45, ab_bindS]
    by_cases c1 : dg a j ≤ 0
    · refine ⟨b, by rw [if_pos c1]; exact e, ?_⟩
      rw [hall, hb]
      simp; omega
    · rw [if_neg c1]
      by_cases c2 : mP m ≤ j
      · refine ⟨false, by rw [if_pos c2]; rfl, ?_⟩
        rw [hall, hz c2]
        simp; omega
      · rw [if_neg c2]
        by_cases c3 : dg a j < mR m j
        · refine ⟨b, by rw [if_pos c3]; exact e, ?_⟩
          rw [hall, hb]
          constructor
          · intro hh; exact ⟨by omega, hh⟩
          · intro hh; exact hh.2
        · refine ⟨false, by rw [if_neg c3]; rfl, ?_⟩
          rw [hall]
          simp; omega
theorem dg_0 {a p : Nat} (ha : a < 729) (hp : 6 ≤ p) : dg a p = 0 := by
  unfold dg
  rw [Nat.div_eq_of_lt (Nat.lt_of_lt_of_le ha (Nat.le_trans (by decide : 729 ≤ 3 ^ 6) (Nat.pow_le_pow_right (by omega) hp)))]
theorem r_areArms {m : MoT} {h : abJ} {a : Nat} (hO : MO m) (hM : rM m (h.1 65)) (ha : a < 729) : ∃ b : Bool, fX12_areArms (nI a) h = some (bI b) ∧ (b = true ↔ AV m a) := by
  obtain ⟨b, e, hb⟩ := r_areArms_L hO hM (a := a) (by omega) 6 ab_N 0 (by omega) (by unfold ab_N; omega)
  refine ⟨b, e, hb.trans ?_⟩
  constructor
  · intro hh p
    by_cases hp : p < 6
    · exact hh p (by omega) hp
    · rw [dg_0 ha (by omega)]; omega
  · intro hh q _ _; exact hh q
theorem iI_a (a b : Int) : iI a + iI b = iI (a + b) := (Int32.ofInt_add a b).symm
theorem iI_s (a b : Int) : iI a - iI b = iI (a - b) := (Int32.ofInt_sub a b).symm
theorem iI_m (a b : Int) : iI a * iI b = iI (a * b) := (Int32.ofInt_mul a b).symm
/-- the rest of a division as Java has it -/
theorem k_rem {R : Nat} {v : Int} (hR : 0 < R) (hR3 : R ≤ 3) (hv : -2000000 ≤ v ∧ v ≤ 2000000) : iI v - iI v / nI R * nI R = iI (v.tmod R) := by
  have q1 : (v.tdiv R).natAbs ≤ v.natAbs := by rw [Int.natAbs_tdiv]; exact Nat.div_le_self _ _
  have e : iI v / nI R = iI (v.tdiv R) := by
    apply Int32.toInt_inj.mp
    rw [Int32.toInt_div, iI_T (by omega) (by omega), nI_toInt (by omega), iI_T (by omega) (by omega)]
    exact Int.bmod_eq_of_le (by omega) (by omega)
  rw [e, ← iI_N R, iI_m, iI_s, Int.tmod_def, Int.mul_comm]
theorem k_road {a R : Nat} {v : Int} (hR : 0 < R) (hR3 : R ≤ 3) (ha : a < R) (hv : -1000000 ≤ v ∧ v ≤ 1000000) : ((nI a + (iI v - iI v / nI R * nI R)) + nI R) - ((nI a + (iI v - iI v / nI R * nI R)) + nI R) / nI R * nI R = nI (((a : Int) + v) % (R : Int)).toNat := by
  have t1 : (v.tmod R).natAbs < R := by rw [Int.natAbs_tmod]; exact Nat.mod_lt _ (by simpa using hR)
  have t2 : v.tmod R = v - R * v.tdiv R := Int.tmod_def _ _
  rw [k_rem hR hR3 (by omega), ← iI_N a, ← iI_N R, iI_a, iI_a]
  generalize v.tmod R = t at *
  generalize v.tdiv R = q at *
  obtain ⟨k, hk⟩ : ∃ k : Nat, (a : Int) + t + R = k := ⟨((a : Int) + t + R).toNat, by omega⟩
  rw [hk, iI_N, iI_N, pk_rem (by omega) hR (by omega)]
  congr 1
  have c3 : R = 1 ∨ R = 2 ∨ R = 3 := by omega
  rcases c3 with c | c | c <;> subst c <;> omega
theorem sT_eq {m : MoT} {f s : Nat} : sT m f s = 6 * pt (s / 6) (s % 6) (ar m f (s % 6) (dg (s / 6) (s % 6))) + to m f (s % 6) (dg (s / 6) (s % 6)) := rfl
theorem wd_B {m : MoT} (hO : MO m) {f p a : Nat} (hf : f < 10) (hp : p < 6) (ha : a < 3) : wB (wd m f p a) := by
  intro k
  have := hO.2.2.2.2.1 p
  unfold wd
  split
  · omega
  · split
    · omega
    · split <;> omega
/-- what is on the stack behind a law -/
theorem ev_vk {w : Nat → Int} (hw : wB w) : ∀ {l : List Nat} {ks kf : List Bool} {s : List Int}, ty l ks = some kf → vk ks s → vk kf (ev w l s)
  | [], ks, kf, s, t, v => by
    have e : ks = kf := Option.some.inj t
    subst e; exact v
  | c :: l, ks, kf, s, t, v => by
    have t : (t1 c ks).bind (ty l) = some kf := t
    obtain ⟨k2, t1e, t⟩ := ab_bind_s t
    show vk kf (ev w l (e1 w c s))
    exact ev_vk hw t (t1_vk hw t1e v)
theorem hd_b {b : Bool} {s : List Int} (h : vk [b] s) : -1000000 ≤ hd s ∧ hd s ≤ 1000000 := by
  match b, s, h with
  | true, [v], h => have := h.1; simp only [hd]; omega
  | false, [v], h => have := h.1; simp only [hd]; omega
theorem hd_t {s : List Int} (h : vk [true] s) : hd s = 0 ∨ hd s = 1 := by
  match s, h with
  | [v], h => exact h.1
theorem mv_b {m : MoT} (hO : MO m) {f p a : Nat} (hf : f < 10) (hp : p < 6) (ha : a < 3) : -1000000 ≤ mv m f p a ∧ mv m f p a ≤ 1000000 := by
  unfold mv
  split
  · omega
  · rename_i c e
    exact hd_b (ev_vk (wd_B hO hf hp ha) (hO.2.2.2.2.2.2.2.1 c e).1 trivial)
theorem fr_1 {S T : List Nat} {h h' : abJ} (a : fr S T h h') {o : Nat} (ho : o ∉ S) : h'.1 o = h.1 o := a.1 o ho
theorem rM_fr {m : MoT} {S T : List Nat} {h h' : abJ} (hM : rM m (h.1 65)) (a : fr S T h h') (ho : 65 ∉ S) : rM m (h'.1 65) := by rw [a.1 65 ho]; exact hM
theorem r_J105 {m : MoT} {h : abJ} {p a A : Nat} {v : Int} {wz : Bool} (hO : MO m) (hM : rM m (h.1 65)) (hp : p < 6) (hA : A < 2 ^ 31) (ha : a < mR m p) (h70 : h.1 70 1 = nI a) (hv : -1000000 ≤ v ∧ v ≤ 1000000) : fX12_stepTo_J105 (nI p) (nI A) (nI (mR m p)) (bI wz) (iI v) h = some (nI (6 * pt A p (((a : Int) + v) % (mR m p : Int)).toNat + (if wz then p else mL m p a)), h) := by
  have h3 := hO.2.2.2.2.1 p
  have hn : ¬ nI (mR m p) = 0 := by rw [show (0 : Int32) = nI 0 from rfl, nI_eq (by omega) (by omega)]; omega
  unfold fX12_stepTo_J105
  rw [ab_askP hn, ab_askP hn, h70, k_road (by omega) h3 ha hv]
  cases wz
  · rw [if_pos (show bI false = 0 from rfl), r_roadOf hM hp ha h3, ab_bindS, r_withArm h (by omega) hA, ab_bindS]
    unfold fX12_standOf
    simp only [ab_lits, nI_add, pk_mul, pk_sub, pk_div, nI_clamp, ab_bindS]
    rfl
  · rw [if_neg (by decide), r_withArm h (by omega) hA, ab_bindS]
    unfold fX12_standOf
    simp only [ab_lits, nI_add, pk_mul, pk_sub, pk_div, nI_clamp, ab_bindS]
    rfl
theorem mod1 (a R : Nat) : (((a : Int) + 1) % (R : Int)).toNat = (a + 1) % R := by
  have : ((a : Int) + 1) % (R : Int) = (((a + 1) % R : Nat) : Int) := by push_cast; rfl
  rw [this, Int.toNat_natCast]
theorem r_J80 {m : MoT} {h : abJ} {f p a A : Nat} {wz : Bool} (hO : MO m) (hM : rM m (h.1 65)) (hf : f < 10) (hp : p < 6) (hA : A < 2 ^ 31) (ha : a < mR m p) (h70 : w70 (wd m f p a) h) : Ok (fX12_stepTo_J80 (nI p) (nI A) (nI (mR m p)) (bI wz) h) (fun r => r.1 = nI (6 * pt A p (if wz then (a + 1) % mR m p else (((a : Int) + mv m f p a) % (mR m p : Int)).toNat) + (if wz then p else mL m p a)) ∧ fr [69] [] h r.2) := by
  have h3 := hO.2.2.2.2.1 p
  have e70 : h.1 70 1 = nI a := h70 1 (by omega)
  unfold fX12_stepTo_J80
  cases wz
  · refine Ok.pos rfl ?_
    have hT := hM.2.2.2.2.2.1
    cases e : mT m with
    | none =>
      rw [e] at hT
      refine Ok.pos hT ?_
      unfold fX12_stepTo_J96
      rw [show (1 : Int32) = iI 1 from rfl, r_J105 (wz := false) hO hM hp hA ha e70 (by omega)]
      refine Ok.some ⟨?_, fr_r _ _ _⟩
      simp only [mv, e]
      rfl
    | some l =>
      rw [e] at hT
      obtain ⟨g1, k0, g2, g3, g4, g5⟩ := hT
      obtain ⟨t1, t2, t3⟩ := hO.2.2.2.2.2.2.2.1 l e
      have hB := wd_B hO hf hp (show a < 3 by omega)
      refine Ok.neg (by rw [show h.1 65 3 = nI 1 from g1]; decide) ?_
      refine Ok.bind (e_L hB (j := 0) (k0 := k0) (by omega) l.length l 0 ab_N [] [] h t1 trivial (by simp) (by omega) g3 g2 (fun q hq => by rw [Nat.zero_add]; exact g5 q hq) g4 (by unfold ab_N; omega) trivial h70) (fun r hr => ?_)
      have hb := hd_b (ev_vk hB t1 (s := []) trivial)
      rw [hr.1, r_J105 (wz := false) (a := a) hO (rM_fr hM hr.2 (by decide)) hp hA ha (by rw [hr.2.1 70 (by decide)]; exact e70) hb]
      refine Ok.some ⟨?_, hr.2⟩
      simp only [mv, e]
      rfl
  · refine Ok.neg (by decide) ?_
    unfold fX12_stepTo_J96
    rw [show (1 : Int32) = iI 1 from rfl, r_J105 (wz := true) hO hM hp hA ha e70 (by omega), mod1]
    exact Ok.some ⟨rfl, fr_r _ _ _⟩
theorem r_stepTo {m : MoT} {f s : Nat} {h : abJ} (hO : MO m) (hM : rM m (h.1 65)) (hf : f < 10) (hs : SV m s) (hr : 0 < mR m (s % 6)) : Ok (fX12_stepTo (nI s) (nI f) h) (fun r => r.1 = nI (sT m f s) ∧ fr [69, 70] [] h r.2) := by
  have hs4 := SV_lt hO hs
  have h3 := hO.2.2.2.2.1 (s % 6)
  have ha := hs.2 (s % 6)
  have ha2 : dg (s / 6) (s % 6) < mR m (s % 6) := by omega
  rw [sT_eq]
  unfold fX12_stepTo
  simp (disch := omega) only [ab_lits, nI_add, pk_mul, pk_sub, pk_div, nI_clamp, k_mod, ab_ixO, hM.2.2.2.1, r_armIn, ab_bindS]
  generalize hp : s % 6 = p at *
  have hp6 : p < 6 := by omega
  generalize hA : s / 6 = A at *
  have hA2 : A < 2 ^ 31 := by omega
  generalize haa : dg A p = a at *
  generalize hh4 : ab_wI (ab_wI (ab_wI (ab_wI h 70 0 (nI p)) 70 1 (nI a)) 70 2 (nI (mR m p))) 70 3 (nI f) = h4
  have f4 : fr [70] [] h h4 := by subst hh4; exact fr_w (fr_w (fr_w (fr_w (fr_r _ _ _) (by simp)) (by simp)) (by simp)) (by simp)
  have w4 : w70 (wd m f p a) h4 := by
    intro k hk
    have cs : k = 0 ∨ k = 1 ∨ k = 2 ∨ k = 3 := by omega
    subst hh4
    rcases cs with e | e | e | e <;> subst e <;> simp [ab_w1, wd] <;> rfl
  have hM4 := rM_fr hM f4 (by decide)
  have fin : ∀ (wz : Bool) (h5 : abJ), fr [69] [] h4 h5 → wz = wt m f p a → Ok (fX12_stepTo_J80 (nI p) (nI A) (nI (mR m p)) (bI wz) h5) (fun r => r.1 = nI (6 * pt A p (ar m f p a) + to m f p a) ∧ fr [69, 70] [] h r.2) := by
    intro wz h5 f5 ew
    refine (r_J80 hO (rM_fr hM4 f5 (by decide)) hf hp6 hA2 ha2 (fun k hk => by rw [f5.1 70 (by decide)]; exact w4 k hk)).mono (fun r hr => ⟨?_, ?_⟩)
    · rw [hr.1]
      unfold ar to
      rw [ew]
    · exact fr_t (fr_m f4 (by simp) (by simp)) (fr_m (fr_t f5 hr.2) (by simp) (by simp))
  have hK := hM4.2.2.2.2.2.2
  cases e : mK m with
  | none =>
    rw [e] at hK
    refine Ok.neg (by rw [show h4.1 65 4 = nI 0 from hK]; decide) ?_
    exact fin false h4 (fr_r _ _ _) (by unfold wt; rw [e])
  | some l =>
    rw [e] at hK
    obtain ⟨g1, k0, g2, g3, g4, g5⟩ := hK
    obtain ⟨t1, t2, t3⟩ := hO.2.2.2.2.2.2.2.2 l e
    have hB := wd_B hO hf hp6 (show a < 3 by omega)
    refine Ok.pos (show h4.1 65 4 = nI 1 from g1) ?_
    refine Ok.bind (e_L hB (j := 1) (k0 := k0) (by omega) l.length l 0 ab_N [] [] h4 t1 trivial (by simp) (by omega) g3 g2 (fun q hq => by rw [Nat.zero_add]; exact g5 q hq) g4 (by unfold ab_N; omega) trivial w4) (fun r hr => ?_)
    have hb := hd_t (ev_vk hB t1 (s := []) trivial)
    rw [hr.1]
    by_cases c : hd (ev (wd m f p a) l []) = 1
    · refine Ok.pos ((iq1 hb).mpr c) ?_
      exact fin true r.2 hr.2 (by unfold wt; rw [e]; simp [c])
    · refine Ok.neg (fun q => c ((iq1 hb).mp q)) ?_
      exact fin false r.2 hr.2 (by unfold wt; rw [e]; simp [c])
