/-! moor: what is told becomes a moor; the class reads it. -/
def moL (c : Option (Nat × Nat)) (l : List Nat) : Option (List Nat) := c.map (fun z => (l.drop z.1).take z.2)
def moM (P : Nat) (y : PsT × DrT) : MoT := (P, dN y.2, dH y.2, dR y.2, dL y.2, moL (dT y.2) y.1.2.2, moL (dK y.2) y.1.2.2)
def moS (y : PsT × DrT) : StT := (dW y.2, dA y.2, dF y.2, 0)
theorem moL_n {c : Option (Nat × Nat)} {l : List Nat} (h : c = none) : moL c l = none := by rw [h]; rfl
theorem moL_s {c : Option (Nat × Nat)} {l : List Nat} {z : Nat × Nat} (h : c = some z) : moL c l = some ((l.drop z.1).take z.2) := by rw [h]; rfl
theorem sl_len {l : List Nat} {a b : Nat} (h : a + b ≤ l.length) : ((l.drop a).take b).length = b := by rw [List.length_take, List.length_drop]; omega
theorem sl_get {l : List Nat} {a b i : Nat} (h : i < b) : ((l.drop a).take b).getD i 0 = l.getD (a + i) 0 := by
  rw [List.getD_eq_getElem?_getD, List.getD_eq_getElem?_getD, List.getElem?_take_of_lt h, List.getElem?_drop]
theorem moL_ok {c : Option (Nat × Nat)} {l : List Nat} {b : Bool} (hl : l.length ≤ 900) (h : dSl c l b) : ∀ w, moL c l = some w → ty w [] = some [b] ∧ 0 < w.length ∧ w.length ≤ 900 := fun w hw => by
  cases e : c with
  | none => rw [moL_n e] at hw; cases hw
  | some z =>
    obtain ⟨h1, h2, h3⟩ := h z e
    rw [moL_s e] at hw
    have hw := (Option.some.inj hw).symm
    subst hw
    rw [sl_len h1]
    exact ⟨h3, h2, by omega⟩
theorem moM_O {n P : Nat} {y : PsT × DrT} (hn : n ≤ 900) (hI : DI n P y) : MO (moM P y) ∧ SO (moM P y) (moS y) := by
  obtain ⟨⟨o1, o2, o3, o4, o5, o6, o7, o8, o9⟩, i2, i3, i4, i5, i6⟩ := hI
  exact ⟨⟨o1, o2, o3, (show dN y.2 ≤ 900 by omega), o4, o5, o6, moL_ok (by omega) i4, moL_ok (by omega) i5⟩, o8, o7, o9⟩
theorem cLw_L {c : Option (Nat × Nat)} {l : List Nat} {b : Bool} {a a' : Int32} {g : Nat → Int32} (hl : l.length ≤ 900) (h : dSl c l b) (hg : ∀ i, i < l.length → g i = cc (l.getD i 0)) (hc : cLw c a a') : cL (moL c l) a a' g := by
  cases e : c with
  | none => rw [e] at hc; exact hc
  | some z =>
    obtain ⟨h1, h2, h3⟩ := h z e
    rw [e] at hc
    rw [moL_s rfl]
    refine ⟨z.1, hc.1, by rw [sl_len h1]; exact hc.2, by rw [sl_len h1]; omega, fun i hi => ?_⟩
    rw [sl_len h1] at hi
    rw [sl_get hi]
    exact hg _ (by omega)
theorem c_told {T : Nat → Nat} {n P : Nat} {y : PsT × DrT} {h : abJ} (hI : DI n P y) (hP : PC T n y.1 h) (hD : DC P y.2 h) : cM (moM P y) 5 h ∧ cS (moS y) 10 h := by
  have n900 := hP.1.1
  obtain ⟨d0, d1, d2, d3, d4, d5, d6, d7, d8, d9, d10⟩ := hD
  obtain ⟨o, i2, i3, i4, i5, i6⟩ := hI
  refine ⟨⟨d0, d1, d2, d3, fun p r hr => d4 p r ?_ hr, cLw_L (by omega) i4 hP.2.2.2.2.1 d5, cLw_L (by omega) i5 hP.2.2.2.2.1 d6⟩, d7, d8, d9, d10⟩
  have hr : r < dR y.2 p := hr
  refine Classical.byContradiction (fun w => ?_)
  rw [o.2.2.2.2.1 p (by have := o.2.1; omega)] at hr
  omega
theorem c_read {T : Nat → Nat} {n L : Nat} {h : abJ} (hT : TP T n 11 h) (h4 : h.1 9 4 = nI L) (hnL : n ≤ L) (hL : L ≤ 900) : Ok (fX6_read (nI n) h) (fun h' => fr [5, 6, 7, 8, 9, 10] [] h h' ∧ pokD T n (mrs (kdP T n) (kN T n) (kVl T n) (atP T n 0)).1 (mrs (kdP T n) (kN T n) (kVl T n) (atP T n 0)).2 h' h') := by
  have em : fJ9_min_7cf53 (nI n) (h.1 9 4) h = some (nI n) := by
    unfold fJ9_min_7cf53
    rw [h4, if_neg (by rw [nI_ltI (by omega) (by omega)]; omega)]
  have eM : fJ9_max_7cf53 0 (nI n) h = some (nI n) := by
    have := c_max (a := 0) (b := n) h (by omega) (by omega)
    rw [show max 0 n = n by omega] at this
    exact this
  unfold fX6_read
  rw [em, ab_bindS, eM, ab_bindS]
  generalize e0 : ab_wI (ab_wI (ab_wI (ab_wI h 9 5 (nI n)) 9 8 0) 9 10 0) 9 11 (-1) = h0
  have f0 : fr [5, 6, 7, 8, 9, 10] [] h h0 := by subst e0; exact fr_w (fr_w (fr_w (fr_w (fr_r _ _ _) (by simp)) (by simp)) (by simp)) (by simp)
  have a5 : h0.1 9 5 = nI n := by subst e0; rw [ab_w1k (by decide), ab_w1k (by decide), ab_w1k (by decide), ab_w1e]
  have a8 : h0.1 9 8 = nI 0 := by subst e0; rw [ab_w1k (by decide), ab_w1k (by decide), ab_w1e]; rfl
  have a10 : h0.1 9 10 = nI 0 := by subst e0; rw [ab_w1k (by decide), ab_w1e]; rfl
  have a11 : h0.1 9 11 = -1 := by subst e0; rw [ab_w1e]
  unfold fX3_clear
  generalize e1 : ab_wI (ab_wI (ab_wI (ab_wI (ab_wI (ab_wI (ab_wI h0 5 0 0) 5 1 0) 5 2 0) 5 3 0) 5 4 0) 5 5 0) 5 6 0 = h1
  have f1 : fr [5] [] h0 h1 := by subst e1; exact fr_w (fr_w (fr_w (fr_w (fr_w (fr_w (fr_w (fr_r _ _ _) (by simp)) (by simp)) (by simp)) (by simp)) (by simp)) (by simp)) (by simp)
  have b1 : ∀ k, k < 7 → h1.1 5 k = nI 0 := by
    intro k hk
    have cs : k = 0 ∨ k = 1 ∨ k = 2 ∨ k = 3 ∨ k = 4 ∨ k = 5 ∨ k = 6 := by omega
    subst e1
    rcases cs with e | e | e | e | e | e | e <;> subst e <;> simp [ab_w1] <;> rfl
  refine Ok.bind (P := fun r => (∀ q, q < 6 → r.1 6 q = 0) ∧ fr [6] [] h1 r) (Ok.bind (c_fillA h1 (o := 6) (N := 6) (x := 0) (by decide) (by omega)) (fun r hr => Ok.some hr)) (fun r3 hr3 => ?_)
  unfold fX9_clear
  rw [ab_bindS]
  generalize e2 : ab_wI (ab_wI (ab_wI (ab_wI r3 10 0 0) 10 1 0) 10 2 0) 10 3 0 = h2
  have f2 : fr [10] [] r3 h2 := by subst e2; exact fr_w (fr_w (fr_w (fr_w (fr_r _ _ _) (by simp)) (by simp)) (by simp)) (by simp)
  have b2 : ∀ k, k < 4 → h2.1 10 k = nI 0 := by
    intro k hk
    have cs : k = 0 ∨ k = 1 ∨ k = 2 ∨ k = 3 := by omega
    subst e2
    rcases cs with e | e | e | e <;> subst e <;> simp [ab_w1] <;> rfl
  generalize e3 : ab_wI h2 9 2 0 = h3
  have f3 : fr [9] [] h2 h3 := by subst e3; exact fr_w (fr_r _ _ _) (by simp)
  have k9 : ∀ q, q ≠ 2 → h3.1 9 q = h0.1 9 q := fun q hq => by
    subst e3
    rw [ab_w1k hq, f2.1 9 (by decide), hr3.2.1 9 (by decide), f1.1 9 (by decide)]
  have k92 : h3.1 9 2 = nI 0 := by subst e3; rw [ab_w1e]; rfl
  have F : fr [5, 6, 7, 8, 9, 10] [] h h3 := fr_t f0 (fr_t (fr_m f1 (by simp) (by simp)) (fr_t (fr_m hr3.2 (by simp) (by simp)) (fr_t (fr_m f2 (by simp) (by simp)) (fr_m f3 (by simp) (by simp)))))
  have hT3 : TP T n 11 h3 := ⟨hT.1, fun k hk => by rw [F.1 11 (by decide)]; exact hT.2 k hk⟩
  have c5 : ∀ k, k < 7 → h3.1 5 k = nI 0 := fun k hk => by rw [f3.1 5 (by decide), f2.1 5 (by decide), hr3.2.1 5 (by decide)]; exact b1 k hk
  have c6 : ∀ k, k < 6 → h3.1 6 k = nI 0 := fun k hk => by rw [f3.1 6 (by decide), f2.1 6 (by decide)]; exact hr3.1 k hk
  have c10 : ∀ k, k < 4 → h3.1 10 k = nI 0 := fun k hk => by rw [f3.1 10 (by decide)]; exact b2 k hk
  have ha : atP T n 0 ≤ n := by
    have := (rnE_b (P := isB) (T := T) (k := n - 0) (b := 0)).2
    unfold atP
    omega
  refine Ok.bind (c_adv hT3 (by rw [k9 5 (by decide)]; exact a5) (by rw [k9 8 (by decide)]; exact a8) (Nat.zero_le _)) (fun h5 hr5 => ?_)
  have n5 : ∀ o, o ≠ 9 → h5.1 o = h3.1 o := fun o ho => hr5.2.1.1 o (by simp; omega)
  have hPC : PC T n (none, atP T n 0, []) h5 := by
    refine ⟨TP_f9 hT3 hr5.2, hr5.1, ha, ?_, fun i hi => absurd hi (Nat.not_lt_zero _), Nat.zero_le _, ?_, ?_⟩
    · rw [hr5.2.2 2 (by decide) (by decide) (by decide) (by decide)]; exact k92
    · rw [hr5.2.2 10 (by decide) (by decide) (by decide) (by decide), k9 10 (by decide)]; exact a10
    · rw [hr5.2.2 11 (by decide) (by decide) (by decide) (by decide), k9 11 (by decide)]; exact a11
  have hDC : DC 0 dr0 h5 := by
    unfold DC
    rw [n5 5 (by decide), n5 6 (by decide), n5 7 (by decide), n5 10 (by decide)]
    exact ⟨c5 0 (by omega), c5 1 (by omega), c5 2 (by omega), c6, fun p r _ hr => absurd hr (Nat.not_lt_zero _), ⟨c5 3 (by omega), c5 4 (by omega)⟩, ⟨c5 5 (by omega), c5 6 (by omega)⟩, c10 0 (by omega), c10 1 (by omega), c10 2 (by omega), c10 3 (by omega)⟩
  refine Ok.bind (c_rdHead (s := (none, atP T n 0, [])) rfl hPC hDC) (fun r6 hr6 => ?_)
  refine (c_lns 901 ab_N 0 _ h5 r6 hr6 (fun w => ⟨DI_0 (kgn T n) ha w, by omega, Nat.zero_le _⟩) (by unfold ab_N; omega)).mono (fun h' hr => ⟨fr_t F (fr_t (fr_m hr5.2.1 (by simp) (by simp)) hr.1.1), fDr_r _, hr.2⟩)
