/-! The class's cells, and its basic functions. -/
def cL (c : Option (List Nat)) (a b : Int32) (g : Nat → Int32) : Prop := match c with
  | none => a = nI 0 ∧ b = nI 0
  | some l => ∃ k, a = nI k ∧ b = nI (k + l.length) ∧ k + l.length ≤ 900 ∧ ∀ i, i < l.length → g (k + i) = cc (l.getD i 0)
def cM (m : MoT) (o : Nat) (h : abJ) : Prop := h.1 o 0 = nI (mP m) ∧ h.1 o 1 = nI (mN m) ∧ h.1 o 2 = nI (mH m) ∧ (∀ p, p < 6 → h.1 (o + 1) p = nI (mR m p)) ∧ (∀ p r, r < mR m p → h.1 (o + 2) (p * 3 + r) = nI (mL m p r)) ∧ cL (mT m) (h.1 o 3) (h.1 o 4) (h.1 (o + 3)) ∧ cL (mK m) (h.1 o 5) (h.1 o 6) (h.1 (o + 3))
def cS (s : StT) (o : Nat) (h : abJ) : Prop := h.1 o 0 = nI (sW s) ∧ h.1 o 1 = nI (sA s) ∧ h.1 o 2 = nI (sF s) ∧ h.1 o 3 = nI (sN s)
/-- all steps of a fog are worked out -/
def rdy (m : MoT) (f : Nat) (h : abJ) : Prop := ∀ p a, a < mR m p → h.1 14 ((f * 6 + p) * 3 + a) = nI (to m f p a * 3 + ar m f p a)
def cK (m : MoT) (h : abJ) : Prop := (∃ B, B < 1024 ∧ h.1 13 2 = nI B ∧ ∀ f, f < 10 → B.testBit f = true → rdy m f h) ∧ ∀ f p a, f < 10 → p < 6 → a < 3 → mR m p ≤ a → h.1 14 ((f * 6 + p) * 3 + a) = -nI 1
/-- none as -1 -/
def oI (o : Option Nat) : Int32 := match o with | none => -nI 1 | some t => nI t
theorem cM_fr {m : MoT} {S T : List Nat} {h h' : abJ} {o : Nat} (hM : cM m o h) (a : fr S T h h') (h0 : o ∉ S) (h1 : o + 1 ∉ S) (h2 : o + 2 ∉ S) (h3 : o + 3 ∉ S) : cM m o h' := by
  unfold cM
  rw [a.1 o h0, a.1 (o + 1) h1, a.1 (o + 2) h2, a.1 (o + 3) h3]
  exact hM
theorem cS_fr {s : StT} {S T : List Nat} {h h' : abJ} {o : Nat} (hM : cS s o h) (a : fr S T h h') (h0 : o ∉ S) : cS s o h' := by
  unfold cS
  rw [a.1 o h0]
  exact hM
theorem rdy_fr {m : MoT} {f : Nat} {S T : List Nat} {h h' : abJ} (hM : rdy m f h) (a : fr S T h h') (h0 : 14 ∉ S) : rdy m f h' := by
  unfold rdy
  rw [a.1 14 h0]
  exact hM
theorem c_isIn {H p : Nat} (h : abJ) (hH : H < 1024) (hp : p < 6) : fX11_isIn (nI H) (nI p) h = some (bI (H.testBit p)) := by
  unfold fX11_isIn
  simp (disch := omega) only [ab_lits, nI_add, pk_mul, pk_sub, pk_div, nI_clamp, nI_ltI, nI_leI, b_test, bI_0]
  rw [if_neg (by omega), if_neg (by omega)]
  cases H.testBit p <;> rfl
theorem c_isIn_n {x : Int32} (h : abJ) : fX11_isIn x (-nI 1) h = some (nI 0) := by
  unfold fX11_isIn
  rw [if_pos (by decide)]; rfl
theorem c_isHome {m : MoT} {h : abJ} {p : Nat} (hO : MO m) (hM : cM m 1 h) (hp : p < 6) : fX3_isHome (nI p) h = some (bI (hm m p)) := by
  have := MO_H hO
  unfold fX3_isHome
  rw [hM.2.2.1, c_isIn h (by omega) hp, ab_bindS, ab_askP (bI_okL _)]
  rfl
theorem abwt_p' : ∀ p < 7, ab_wt.getD p 0 = nI (3 ^ p) := by decide
theorem abwt_n {p : Nat} (h : p < 7) : ab_wt.getD p (nI 0) = nI (3 ^ p) := abwt_p' p h
theorem abwt_p {p : Nat} (h : p < 7) : ab_wt.getD p 0 = nI (3 ^ p) := abwt_p' p h
theorem c_armOf {a p : Nat} (h : abJ) (hp : p < 6) (ha : a < 2 ^ 31) : fX11_armOf (nI a) (nI p) h = some (nI (dg a p)) := by
  have h1 := p3_le (Nat.le_of_lt hp)
  have h2 := p3 p
  have h3 : a / 3 ^ p ≤ a := Nat.div_le_self _ _
  unfold fX11_armOf
  simp (disch := omega) only [ab_lits, nI_add, pk_mul, pk_sub, pk_div, nI_clamp, nI_ltI, abwt_n, ab_ixO, ab_ixN]
  rw [if_neg (by omega), if_pos hp, ab_askP (by rw [nI_eq (by omega) (by omega)]; omega), k_mod]
  rfl
theorem k_wa2 {a b r d : Nat} (h : d * b ≤ a) : nI a + (nI r - nI d) * nI b = nI (a + r * b - d * b) := by
  rw [Int32.mul_comm, k_wa h]
theorem c_withArm {a p r : Nat} (h : abJ) (hp : p < 6) (ha : a < 2 ^ 31) : fX11_withArm (nI a) (nI p) (nI r) h = some (nI (pt a p r)) := by
  unfold fX11_withArm
  rw [c_armOf h hp ha, ab_bindS]
  rw [if_neg (by rw [show (0 : Int32) = nI 0 from rfl, nI_ltI (by omega) (by omega)]; omega), if_pos (by rw [show (6 : Int32) = nI 6 from rfl, nI_ltI (by omega) (by omega)]; omega), ab_askP (nI_in (by omega) (by omega)), nI_clamp (by omega), abwt_p (by omega), k_wa2 (dg_le a p)]
  rfl
theorem c_behind {f p a : Nat} (h : abJ) (hf : f < 10) (hp : p < 6) (ha : a < 3) : fX7_behind (nI f) (nI p) (nI a) h = some (h.1 14 ((f * 6 + p) * 3 + a)) := by
  unfold fX7_behind
  simp (disch := omega) only [ab_lits, nI_add, pk_mul, pk_sub, pk_div, nI_clamp, nI_ltI, nI_leI, ab_ixO, ab_ixN]
  rw [if_neg (by omega), if_neg (by omega), if_neg (by omega), if_neg (by omega), if_neg (by omega), if_pos ha]
theorem c_roadsOf {m : MoT} {h : abJ} {o p : Nat} (hO : MO m) (hM : cM m o h) (hp : p < 6) : fX3_roadsOf o (nI p) h = some (nI (mR m p)) := by
  have h6 := hO.2.1
  unfold fX3_roadsOf
  simp (disch := omega) only [ab_lits, nI_add, pk_mul, pk_sub, pk_div, nI_clamp, nI_ltI, nI_leI, ab_ixO, ab_ixN, hM.1, hM.2.2.2.1]
  rw [if_neg (by omega)]
  by_cases c : mP m ≤ p
  · rw [if_pos c, hO.2.2.2.2.2.1 p c]
  · rw [if_neg c, if_pos hp]
theorem c_leadsTo {m : MoT} {h : abJ} {p r : Nat} (hO : MO m) (hM : cM m 1 h) (hp : p < 6) (hr : r < mR m p) : fX3_leadsTo (nI p) (nI r) h = some (nI (mL m p r)) := by
  have h3 := hO.2.2.2.2.1 p
  unfold fX3_leadsTo
  rw [c_roadsOf hO hM hp, ab_bindS]
  simp (disch := omega) only [ab_lits, nI_add, pk_mul, pk_sub, pk_div, nI_clamp, nI_ltI, nI_leI, ab_ixO, ab_ixN]
  rw [if_neg (by omega), if_pos hr, show h.1 3 (p * 3 + r) = nI (mL m p r) from hM.2.2.2.2.1 p r hr]
theorem c_nextStand {m : MoT} {h : abJ} {f s : Nat} (hO : MO m) (hM : cM m 1 h) (hK : cK m h) (hR : rdy m f h) (hf : f < 10) (hs : SV m s) : fX7_nextStand (nI f) (nI s) h = some (oI (nx m f s)) := by
  have hs4 := SV_lt hO hs
  have h3 := hO.2.2.2.2.1 (s % 6)
  have ha := hs.2 (s % 6)
  unfold fX7_nextStand
  simp (disch := omega) only [ab_lits, nI_add, pk_mul, pk_sub, pk_div, nI_clamp, k_mod, nI_ltI, c_isHome hO hM, c_armOf, ab_bindS, bI_0]
  rw [if_neg (by omega), if_pos hs4]
  unfold nx rs
  by_cases c1 : hm m (s % 6) = true
  · rw [if_neg (by simp [c1])]
    unfold fX7_nextStand_J51
    rw [if_pos (show -nI 1 = -1 from rfl), c1]
    rfl
  · have c1 : hm m (s % 6) = false := by simpa using c1
    rw [if_pos c1, c_behind h hf (by omega) (dg_lt _ _), ab_bindS, c1]
    unfold fX7_nextStand_J51
    by_cases c2 : mR m (s % 6) = 0
    · rw [hK.2 f (s % 6) (dg (s / 6) (s % 6)) hf (by omega) (dg_lt _ _) (by omega), if_pos (show -nI 1 = -1 from rfl), c2]
      rfl
    · have ha2 : dg (s / 6) (s % 6) < mR m (s % 6) := by omega
      have h4 := ar_lt (m := m) (f := f) (p := s % 6) (a := dg (s / 6) (s % 6)) (by omega)
      have h5 := to_lt hO (f := f) (a := dg (s / 6) (s % 6)) hs.1
      have h6 := hO.2.1
      rw [hR (s % 6) _ ha2]
      have e : (false || mR m (s % 6) == 0) = false := by simp [c2]
      rw [e, if_neg (show ¬ false = true by decide), sT_eq]
      generalize to m f (s % 6) (dg (s / 6) (s % 6)) = x at *
      generalize ar m f (s % 6) (dg (s / 6) (s % 6)) = y at *
      rw [if_neg (show ¬ nI (x * 3 + y) = -1 from fun q => (ab_n_eq (b := 1) (by omega) (by omega) (by omega)).mp q)]
      simp (disch := omega) only [ab_lits, nI_add, pk_mul, pk_sub, pk_div, nI_clamp, k_mod]
      rw [c_withArm h (by omega) (by omega), ab_bindS, show (x * 3 + y) % 3 = y by omega, show (x * 3 + y) / 3 = x by omega, pk_mul, nI_add, Nat.mul_comm]
      rfl
