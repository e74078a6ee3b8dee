/-! Deeds. -/
def mkS (w a f n : Nat) : StT := (w, a, f, n)
/-- a deed: why it can't be (0), the stand behind it -/
def dd (m : MoT) (s : StT) (k : Nat) : Nat × StT :=
  if k = 0 then (match nx m (sF s) (6 * sA s + sW s) with | none => (2, s) | some t => (0, mkS (t % 6) (t / 6) (sF s) (sN s + 1)))
  else if k < 10 then (1, s) else if k < 20 then (0, mkS (sW s) (sA s) (k - 10) (sN s))
  else if k < 30 then (if k - 20 < mP m then (0, mkS (k - 20) (sA s) (sF s) (sN s)) else (1, s))
  else if k < 100 then (1, s) else if k < 200 then (if k % 10 < mR m ((k - 100) / 10) then (0, mkS (sW s) (pt (sA s) ((k - 100) / 10) (k % 10)) (sF s) (sN s)) else (1, s)) else (1, s)
theorem SO_SV {m : MoT} {s : StT} (hO : MO m) (hs : SO m s) : SV m (6 * sA s + sW s) := by
  have h1 := hs.1
  have h6 := hO.2.1
  refine ⟨?_, ?_⟩
  · rw [show (6 * sA s + sW s) % 6 = sW s by omega]; exact h1
  · rw [show (6 * sA s + sW s) / 6 = sA s by omega]; exact hs.2.1
theorem mR_p {m : MoT} (hO : MO m) {p r : Nat} (h : r < mR m p) : p < mP m ∧ p < 6 := by
  have h6 := hO.2.1
  have : p < mP m := by
    apply Nat.lt_of_not_le
    intro hle
    rw [hO.2.2.2.2.2.1 p hle] at h
    omega
  omega
theorem dd_SO {m : MoT} {s : StT} (hO : MO m) (hs : SO m s) (k : Nat) : SO m (dd m s k).2 := by
  unfold dd
  split
  · split
    · exact hs
    · rename_i t e
      have := nx_SV hO (SO_SV hO hs) e
      exact ⟨this.1, this.2, hs.2.2⟩
  · split
    · exact hs
    · split
      · exact ⟨hs.1, hs.2.1, by show k - 10 < 10; omega⟩
      · split
        · split
          · rename_i h; exact ⟨h, hs.2⟩
          · exact hs
        · split
          · exact hs
          · split
            · split
              · rename_i h
                exact ⟨hs.1, AV_pt hO hs.2.1 (by omega), hs.2.2⟩
              · exact hs
            · exact hs
theorem c_copy {s : StT} {o x0 : Nat} {h : abJ} (hne : x0 ≠ o) (hs : cS s x0 h) : Ok (fX9_copy o x0 h) (fun h' => cS s o h' ∧ fr [o] [] h h') := by
  unfold fX9_copy
  simp only [ab_w1n hne, hs.1, hs.2.1, hs.2.2.1, hs.2.2.2]
  refine Ok.some ⟨⟨?_, ?_, ?_, ?_⟩, fr_w (fr_w (fr_w (fr_w (fr_r _ _ _) (by simp)) (by simp)) (by simp)) (by simp)⟩
  · rw [ab_w1k (by decide), ab_w1k (by decide), ab_w1k (by decide), ab_w1e]
  · rw [ab_w1k (by decide), ab_w1k (by decide), ab_w1e]
  · rw [ab_w1k (by decide), ab_w1e]
  · rw [ab_w1e]
/-- what a deed of the class leaves -/
def cD (m : MoT) (o : Nat) (s' : StT) (h h' : abJ) : Prop := cS s' o h' ∧ cK m h' ∧ rdy m (sF s') h' ∧ (∀ g, g < 10 → rdy m g h → rdy m g h') ∧ fr [o, 13, 14, 15] [] h h'
theorem c_goOn {m : MoT} {o : Nat} {s : StT} {h : abJ} (hO : MO m) (ho : o ≠ 1 ∧ o ≠ 13 ∧ o ≠ 14) (hM : cM m 1 h) (hK : cK m h) (hs : SO m s) (hS : cS s o h) (hR : rdy m (sF s) h) : Ok (fX0_goOn o h) (fun r => r.1 = nI (dd m s 0).1 ∧ cD m o (dd m s 0).2 h r.2) := by
  have hv := SO_SV hO hs
  unfold fX0_goOn fX9_code
  rw [ab_bindS, hS.1, hS.2.1, hS.2.2.1, show (6 : Int32) = nI 6 from rfl, pk_mul, nI_add, Nat.mul_comm, c_nextStand hO hM hK hR hs.2.2 hv, ab_bindS]
  unfold dd
  rw [if_pos rfl]
  cases e : nx m (sF s) (6 * sA s + sW s) with
  | none => exact Ok.pos rfl (Ok.some ⟨rfl, hS, hK, hR, fun g _ hg => hg, fr_r _ _ _⟩)
  | some t =>
    have ht := SV_lt hO (nx_SV hO hv e)
    rw [show oI (some t) = nI t from rfl]
    refine Ok.neg (oI_ne (show t < 2 ^ 31 by omega)) (Ok.some ⟨rfl, ?_⟩)
    have f1 : fr [o, 13, 14, 15] [] h (ab_wI (ab_wI (ab_wI h o 0 (nI t - nI t / nI 6 * nI 6)) o 1 (nI t / nI 6)) o 3 ((ab_wI (ab_wI h o 0 (nI t - nI t / nI 6 * nI 6)) o 1 (nI t / nI 6)).1 o 3 + 1)) := fr_w (fr_w (fr_w (fr_r _ _ _) (by simp)) (by simp)) (by simp)
    have e13 : ∀ q, q ≠ o → (ab_wI (ab_wI (ab_wI h o 0 (nI t - nI t / nI 6 * nI 6)) o 1 (nI t / nI 6)) o 3 ((ab_wI (ab_wI h o 0 (nI t - nI t / nI 6 * nI 6)) o 1 (nI t / nI 6)).1 o 3 + 1)).1 q = h.1 q := fun q hq => by rw [ab_w1n hq, ab_w1n hq, ab_w1n hq]
    refine ⟨⟨?_, ?_, ?_, ?_⟩, ?_, ?_, fun g hg hr => ?_, f1⟩
    · rw [ab_w1k (by decide), ab_w1k (by decide), ab_w1e, pk_rem (by omega) (by omega) (by omega)]; rfl
    · rw [ab_w1k (by decide), ab_w1e, pk_div (by omega) (by omega) (by omega)]; rfl
    · rw [ab_w1k (by decide), ab_w1k (by decide), ab_w1k (by decide)]; exact hS.2.2.1
    · rw [ab_w1e, ab_w1k (by decide), ab_w1k (by decide), hS.2.2.2, nI_1]; rfl
    · unfold cK rdy; rw [e13 13 (fun q => ho.2.1 q.symm), e13 14 (fun q => ho.2.2 q.symm)]; exact hK
    · unfold rdy; rw [e13 14 (fun q => ho.2.2 q.symm)]; exact hR
    · unfold rdy; rw [e13 14 (fun q => ho.2.2 q.symm)]; exact hr
theorem c_turnArm {m : MoT} {o : Nat} {s : StT} {h : abJ} {p r : Nat} (hO : MO m) (ho : o ≠ 1 ∧ o ≠ 13 ∧ o ≠ 14) (hM : cM m 1 h) (hK : cK m h) (hs : SO m s) (hS : cS s o h) (hR : rdy m (sF s) h) (hr : r < mR m p) : Ok (fX0_turnArm o (nI p) (nI r) h) (fun z => z.1 = nI 0 ∧ cD m o (mkS (sW s) (pt (sA s) p r) (sF s) (sN s)) h z.2) := by
  obtain ⟨hp, hp6⟩ := mR_p hO hr
  have h3 := hO.2.2.2.2.1 p
  have ha := AV_lt hO hs.2.1
  have h7 := MO_729 hO
  unfold fX0_turnArm
  rw [c_roadsOf hO hM hp6, ab_bindS, hS.2.1, c_withArm h hp6 (by omega), ab_bindS]
  refine Ok.neg (by rw [show (0 : Int32) = nI 0 from rfl, nI_ltI (by omega) (by omega)]; omega) (Ok.pos (by rw [nI_ltI (by omega) (by omega)]; exact hr) (Ok.some ⟨rfl, ?_⟩))
  have e13 : ∀ q, q ≠ o → (ab_wI h o 1 (nI (pt (sA s) p r))).1 q = h.1 q := fun q hq => by rw [ab_w1n hq]
  refine ⟨⟨?_, ?_, ?_, ?_⟩, ?_, ?_, fun g hg hr => ?_, fr_w (fr_r _ _ _) (by simp)⟩
  · rw [ab_w1k (by decide)]; exact hS.1
  · rw [ab_w1e]; rfl
  · rw [ab_w1k (by decide)]; exact hS.2.2.1
  · rw [ab_w1k (by decide)]; exact hS.2.2.2
  · unfold cK rdy; rw [e13 13 (fun q => ho.2.1 q.symm), e13 14 (fun q => ho.2.2 q.symm)]; exact hK
  · unfold rdy; rw [e13 14 (fun q => ho.2.2 q.symm)]; exact hR
  · unfold rdy; rw [e13 14 (fun q => ho.2.2 q.symm)]; exact hr
theorem c_turnArm_n {m : MoT} {o : Nat} {h : abJ} {x y : Int32} (hO : MO m) (hM : cM m 1 h) (hn : ∀ p r, x = nI p → y = nI r → r < 2 ^ 31 → p < 2 ^ 31 → ¬ r < mR m p) : fX0_turnArm o x y h = some (nI 1, h) := by
  unfold fX0_turnArm
  by_cases c : y < 0
  · rw [if_pos c]; rfl
  · rw [if_neg c]
    obtain ⟨r, hr, rfl⟩ := nI_of c
    have h6 := hO.2.1
    have h0 : ∀ z, (x < 0 ∨ nI (mP m) ≤ x) → fX3_roadsOf 1 x z = some (nI 0) ∨ z.1 1 0 ≠ nI (mP m) := by
      intro z hx
      by_cases e : z.1 1 0 = nI (mP m)
      · left
        unfold fX3_roadsOf
        rw [e]
        by_cases c1 : x < 0
        · rw [if_pos c1]; rfl
        · rw [if_neg c1, if_pos (hx.resolve_left c1)]; rfl
      · exact Or.inr e
    rcases pk_ix x (n := mP m) (by omega) with hx | hx | ⟨p, hp, rfl⟩
    · have := (h0 h (Or.inl hx)).resolve_right (fun q => q hM.1)
      rw [this, ab_bindS, if_neg (by rw [nI_ltI hr (by omega)]; omega)]; rfl
    · have := (h0 h (Or.inr hx)).resolve_right (fun q => q hM.1)
      rw [this, ab_bindS, if_neg (by rw [nI_ltI hr (by omega)]; omega)]; rfl
    · have h3 := hO.2.2.2.2.1 p
      rw [c_roadsOf hO hM (by omega), ab_bindS, if_neg (by rw [nI_ltI hr (by omega)]; exact hn p r rfl rfl hr (by omega))]; rfl
theorem c_setOut {m : MoT} {o : Nat} {s : StT} {h : abJ} {p : Nat} (hO : MO m) (ho : o ≠ 1 ∧ o ≠ 13 ∧ o ≠ 14) (hM : cM m 1 h) (hK : cK m h) (hS : cS s o h) (hR : rdy m (sF s) h) (hp : p < mP m) : Ok (fX0_setOut o (nI p) h) (fun z => z.1 = nI 0 ∧ cD m o (mkS p (sA s) (sF s) (sN s)) h z.2) := by
  unfold fX0_setOut
  rw [c_has_in hO hM hp, ab_bindS]
  refine Ok.neg (by decide) (Ok.some ⟨rfl, ?_⟩)
  have e13 : ∀ q, q ≠ o → (ab_wI h o 0 (nI p)).1 q = h.1 q := fun q hq => by rw [ab_w1n hq]
  refine ⟨⟨?_, ?_, ?_, ?_⟩, ?_, ?_, fun g hg hr => ?_, fr_w (fr_r _ _ _) (by simp)⟩
  · rw [ab_w1e]; rfl
  · rw [ab_w1k (by decide)]; exact hS.2.1
  · rw [ab_w1k (by decide)]; exact hS.2.2.1
  · rw [ab_w1k (by decide)]; exact hS.2.2.2
  · unfold cK rdy; rw [e13 13 (fun q => ho.2.1 q.symm), e13 14 (fun q => ho.2.2 q.symm)]; exact hK
  · unfold rdy; rw [e13 14 (fun q => ho.2.2 q.symm)]; exact hR
  · unfold rdy; rw [e13 14 (fun q => ho.2.2 q.symm)]; exact hr
theorem c_befog {m : MoT} {o : Nat} {s : StT} {h : abJ} {f : Nat} (hO : MO m) (ho : (o = 12 ∨ o = 18)) (hM : cM m 1 h) (hK : cK m h) (hS : cS s o h) (hf : f < 10) : Ok (fX0_befog o (nI f) h) (fun z => z.1 = nI 0 ∧ cD m o (mkS (sW s) (sA s) f (sN s)) h z.2) := by
  unfold fX0_befog
  refine Ok.neg (by rw [show (0 : Int32) = nI 0 from rfl, nI_ltI (by omega) (by omega)]; omega) (Ok.pos (by rw [show (10 : Int32) = nI 10 from rfl, nI_ltI (by omega) (by omega)]; exact hf) ?_)
  have e13 : ∀ q, q ≠ o → (ab_wI h o 2 (nI f)).1 q = h.1 q := fun q hq => by rw [ab_w1n hq]
  have hM1 : cM m 1 (ab_wI h o 2 (nI f)) := by
    unfold cM
    rw [e13 1 (by omega), e13 (1 + 1) (by omega), e13 (1 + 2) (by omega), e13 (1 + 3) (by omega)]; exact hM
  have hK1 : cK m (ab_wI h o 2 (nI f)) := by unfold cK rdy; rw [e13 13 (by omega), e13 14 (by omega)]; exact hK
  refine Ok.bind (c_prepare hO hf hM1 hK1) (fun r hr => Ok.some ⟨rfl, ?_⟩)
  obtain ⟨r1, r2, r3, r4⟩ := hr
  have eo : r.1 o = (ab_wI h o 2 (nI f)).1 o := r4.1 o (by rcases ho with e | e <;> subst e <;> decide)
  refine ⟨⟨?_, ?_, ?_, ?_⟩, r1, r2, fun g hg hr => r3 g hg ?_, fr_t (fr_w (fr_r _ _ _) (by simp)) (fr_m r4 (by simp) (by simp))⟩
  · rw [eo, ab_w1k (by decide)]; exact hS.1
  · rw [eo, ab_w1k (by decide)]; exact hS.2.1
  · rw [eo, ab_w1e]; rfl
  · rw [eo, ab_w1k (by decide)]; exact hS.2.2.2
  · unfold rdy; rw [e13 14 (by omega)]; exact hr
/-- a told deed as a natural number: 200 and more if there is none such -/
def dv (v : Int64) : Nat := if v < 0 ∨ lN 199 < v then 200 else v.toInt.toNat
theorem dv_cs (v : Int64) : ((v < 0 ∨ lN 199 < v) ∧ dv v = 200) ∨ (∃ k, k ≤ 199 ∧ v = lN k ∧ dv v = k) := by
  rcases L_cs v (M := 199) (by omega) with h | ⟨k, hk, rfl⟩
  · left; exact ⟨h, if_pos h⟩
  · right
    refine ⟨k, hk, rfl, ?_⟩
    unfold dv
    rw [if_neg (fun q => by rw [show (0 : Int64) = lN 0 from rfl, L_lt (by omega) (by omega), L_lt (by omega) (by omega)] at q; omega), L_T (by omega)]
    omega
theorem cD_r {m : MoT} {o : Nat} {s : StT} {h : abJ} (hK : cK m h) (hS : cS s o h) (hR : rdy m (sF s) h) : cD m o s h h := ⟨hS, hK, hR, fun _ _ h => h, fr_r _ _ _⟩
theorem c_doOne {m : MoT} {o : Nat} {s : StT} {h : abJ} {v : Int64} (hO : MO m) (ho : (o = 12 ∨ o = 18)) (hM : cM m 1 h) (hK : cK m h) (hs : SO m s) (hS : cS s o h) (hR : rdy m (sF s) h) : Ok (fX0_doOne o v h) (fun z => z.1 = nI (dd m s (dv v)).1 ∧ cD m o (dd m s (dv v)).2 h z.2) := by
  have ho2 : o ≠ 1 ∧ o ≠ 13 ∧ o ≠ 14 := by omega
  unfold fX0_doOne
  simp only [lg_cmp_eq, lg_cmp_lt, lg_cmp_le]
  rcases dv_cs v with ⟨hv, e⟩ | ⟨k, hk, rfl, e⟩
  · rw [e]
    have ed : dd m s 200 = (1, s) := by simp [dd]
    rw [ed]
    have n0 : ¬ v = 0 := fun q => by subst q; exact absurd hv (by decide)
    refine Ok.neg n0 ?_
    rcases hv with hv | hv
    · exact Ok.pos (Int64.lt_trans hv (by decide)) (Ok.some ⟨rfl, cD_r hK hS hR⟩)
    · exact Ok.neg (fun q => absurd (Int64.lt_trans hv q) (by decide)) (Ok.neg (by rw [Int64.not_le]; exact hv) (Ok.some ⟨rfl, cD_r hK hS hR⟩))
  · rw [e]
    rw [show (0 : Int64) = lN 0 from rfl, show (10 : Int64) = lN 10 from rfl, show (199 : Int64) = lN 199 from rfl]
    by_cases c0 : k = 0
    · subst c0
      refine Ok.pos rfl ?_
      exact Ok.bind (c_goOn hO ho2 hM hK hs hS hR) (fun r hr => Ok.some hr)
    refine Ok.neg (by rw [L_eq (by omega) (by omega)]; exact c0) ?_
    have ed : dd m s k = (if k < 10 then (1, s) else if k < 20 then (0, mkS (sW s) (sA s) (k - 10) (sN s)) else if k < 30 then (if k - 20 < mP m then (0, mkS (k - 20) (sA s) (sF s) (sN s)) else (1, s)) else if k < 100 then (1, s) else if k < 200 then (if k % 10 < mR m ((k - 100) / 10) then (0, mkS (sW s) (pt (sA s) ((k - 100) / 10) (k % 10)) (sF s) (sN s)) else (1, s)) else (1, s)) := by
      unfold dd; rw [if_neg c0]
    rw [ed]
    by_cases c1 : k < 10
    · rw [if_pos c1]
      exact Ok.pos (by rw [L_lt (by omega) (by omega)]; exact c1) (Ok.some ⟨rfl, cD_r hK hS hR⟩)
    rw [if_neg c1]
    refine Ok.neg (by rw [L_lt (by omega) (by omega)]; exact c1) (Ok.pos (by rw [L_le (by omega) (by omega)]; exact hk) ?_)
    rw [lN_i]
    by_cases c2 : k < 20
    · rw [if_pos c2]
      refine Ok.neg (by rw [show (20 : Int32) = nI 20 from rfl, nI_leI (by omega) (by omega)]; omega) ?_
      rw [show (10 : Int32) = nI 10 from rfl, pk_sub (by omega)]
      exact Ok.bind (c_befog hO ho hM hK hS (by omega)) (fun r hr => Ok.some hr)
    rw [if_neg c2]
    refine Ok.pos (by rw [show (20 : Int32) = nI 20 from rfl, nI_leI (by omega) (by omega)]; omega) ?_
    by_cases c3 : k < 30
    · rw [if_pos c3]
      refine Ok.neg (by rw [show (30 : Int32) = nI 30 from rfl, nI_leI (by omega) (by omega)]; omega) ?_
      rw [show (20 : Int32) = nI 20 from rfl, pk_sub (by omega)]
      by_cases c4 : k - 20 < mP m
      · rw [if_pos c4]
        exact Ok.bind (c_setOut hO ho2 hM hK hS hR c4) (fun r hr => Ok.some hr)
      · rw [if_neg c4]
        unfold fX0_setOut
        rw [c_has_out hM (Or.inr (by have := hO.2.1; rw [nI_leI (by omega) (by omega)]; omega)), ab_bindS, if_pos (show nI 0 = 0 from rfl), ab_bindS]
        exact Ok.some ⟨rfl, cD_r hK hS hR⟩
    rw [if_neg c3]
    refine Ok.pos (by rw [show (30 : Int32) = nI 30 from rfl, nI_leI (by omega) (by omega)]; omega) ?_
    by_cases c5 : k < 100
    · rw [if_pos c5]
      exact Ok.neg (by rw [show (100 : Int32) = nI 100 from rfl, nI_leI (by omega) (by omega)]; omega) (Ok.some ⟨rfl, cD_r hK hS hR⟩)
    rw [if_neg c5, if_pos (show k < 200 by omega)]
    refine Ok.pos (by rw [show (100 : Int32) = nI 100 from rfl, nI_leI (by omega) (by omega)]; omega) ?_
    rw [show (100 : Int32) = nI 100 from rfl, show (10 : Int32) = nI 10 from rfl, pk_sub (by omega), pk_rem (by omega) (by omega) (by omega), pk_div (by omega) (by omega) (by omega)]
    by_cases c6 : k % 10 < mR m ((k - 100) / 10)
    · rw [if_pos c6]
      exact Ok.bind (c_turnArm hO ho2 hM hK hs hS hR c6) (fun r hr => Ok.some hr)
    · rw [if_neg c6, c_turnArm_n hO hM (fun p r ep er hr hp => ?_), ab_bindS]
      · exact Ok.some ⟨rfl, cD_r hK hS hR⟩
      · rw [nI_eq (by omega) (by omega)] at ep er
        rw [← ep, ← er]; exact c6
