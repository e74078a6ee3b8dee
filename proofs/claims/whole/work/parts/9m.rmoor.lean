/-! moor: the reference. -/
theorem r_plainK {o : Nat} (hL : 1034 ≤ ab_ln o) (hL2 : ab_ln o < 2 ^ 31) : ∀ (k N i : Nat) (h : abJ), i + k = 1034 → k < N → Ok (fX12_plain_L2 o N (nI i) h) (fun h' => h'.1 o 1 = nI 1 ∧ (∀ q, q ≠ 1 → i ≤ q → q < 1034 → h'.1 o q = nI 0) ∧ (∀ q, q ≠ 1 → q < i ∨ 1034 ≤ q → h'.1 o q = h.1 o q) ∧ fr [o] [] h h') := by
  intro k
  induction k with
  | zero =>
    intro n i h hi hn
    obtain ⟨n, rfl⟩ : ∃ n0, n = n0 + 1 := ⟨n - 1, by omega⟩
    rw [fX12_plain_L2, show (1 : Int32).toNatClampNeg = 1 from by decide]
    refine Ok.pos (by rw [show (1034 : Int32) = nI 1034 from rfl, nI_leI (by omega) (by omega)]; omega) (Ok.ask ?_ (Ok.some ⟨ab_w1e .., fun q h1 h2 h3 => by omega, fun q h1 _ => ab_w1k h1, fr_w (fr_r _ _ _) (by simp)⟩))
    rintro (w | w)
    · exact absurd w (by decide)
    · omega
  | succ k ih =>
    intro n i h hi hn
    obtain ⟨n, rfl⟩ : ∃ n0, n = n0 + 1 := ⟨n - 1, by omega⟩
    rw [fX12_plain_L2, nI_1, nI_clamp (show i < 2 ^ 31 by omega)]
    refine Ok.neg (by rw [show (1034 : Int32) = nI 1034 from rfl, nI_leI (by omega) (by omega)]; omega) (Ok.ask (ixN (by omega) (by omega)) ?_)
    refine (ih n (i + 1) _ (by omega) (by omega)).mono (fun h' hr => ⟨hr.1, fun q h1 h2 h3 => ?_, fun q h1 h2 => ?_, fr_t (fr_w (fr_r _ _ _) (by simp)) hr.2.2.2⟩)
    · by_cases e : q = i
      · subst e; rw [hr.2.2.1 q h1 (by omega), ab_w1e]; rfl
      · exact hr.2.1 q h1 (by omega) h3
    · rw [hr.2.2.1 q h1 (by omega), ab_w1k (by omega)]
theorem r_plain {o : Nat} (h : abJ) (hL : 1034 ≤ ab_ln o) (hL2 : ab_ln o < 2 ^ 31) : Ok (fX12_plain o h) (fun h' => h'.1 o 1 = nI 1 ∧ (∀ q, q ≠ 1 → q < 1034 → h'.1 o q = nI 0) ∧ (∀ q, 1034 ≤ q → h'.1 o q = h.1 o q) ∧ fr [o] [] h h') := by
  unfold fX12_plain
  exact (r_plainK hL hL2 1034 ab_N 0 h (by omega) (by unfold ab_N; omega)).mono (fun h' hr => ⟨hr.1, fun q h1 h2 => hr.2.1 q h1 (by omega) h2, fun q h1 => hr.2.2.1 q (by omega) (by omega), hr.2.2.2⟩)
theorem r_m155 : ∀ (k n i : Nat) (h : abJ), i + k = 1034 → k < n → Ok (fX12_moor_L155 n (nI i) h) (fun r => r.1 = r.2.1 65 0 ∧ (∀ q, i ≤ q → q < 1034 → r.2.1 65 q = h.1 68 q) ∧ (∀ q, q < i ∨ 1034 ≤ q → r.2.1 65 q = h.1 65 q) ∧ fr [65] [] h r.2) := by
  intro k
  induction k with
  | zero =>
    intro n i h hi hn
    obtain ⟨n, rfl⟩ : ∃ n0, n = n0 + 1 := ⟨n - 1, by omega⟩
    rw [fX12_moor_L155]
    exact Ok.pos (by rw [show (1034 : Int32) = nI 1034 from rfl, nI_leI (by omega) (by omega)]; omega) (Ok.some ⟨rfl, fun q h1 h2 => by omega, fun _ _ => rfl, fr_r _ _ _⟩)
  | succ k ih =>
    intro n i h hi hn
    obtain ⟨n, rfl⟩ : ∃ n0, n = n0 + 1 := ⟨n - 1, by omega⟩
    rw [fX12_moor_L155, nI_1, nI_clamp (show i < 2 ^ 31 by omega)]
    refine Ok.neg (by rw [show (1034 : Int32) = nI 1034 from rfl, nI_leI (by omega) (by omega)]; omega) (Ok.ask (ixN (by omega) (by omega)) (Ok.ask (ixN (by omega) (by omega)) ?_))
    refine (ih n (i + 1) _ (by omega) (by omega)).mono (fun r hr => ⟨hr.1, fun q h1 h2 => ?_, fun q hq => ?_, fr_t (fr_w (fr_r _ _ _) (by simp)) hr.2.2.2⟩)
    · by_cases e : q = i
      · subst e; rw [hr.2.2.1 q (by omega), ab_w1e]
      · rw [hr.2.1 q (by omega) h2, ab_w1n (by decide)]
    · rw [hr.2.2.1 q (by omega), ab_w1k (by omega)]
theorem rLw_L {c : Option (Nat × Nat)} {l : List Nat} {b : Bool} {g : Nat → Int32} {j : Nat} (hl : l.length ≤ 900) (h : dSl c l b) (hg : ∀ i, i < l.length → g (134 + i) = nI (l.getD i 0)) (hc : rLw c g j) : rL (moL c l) g j := by
  cases e : c with
  | none => rw [e] at hc; exact hc
  | some z =>
    obtain ⟨h1, h2, h3⟩ := h z e
    rw [e] at hc
    rw [moL_s rfl]
    refine ⟨hc.1, z.1, hc.2.1, by rw [sl_len h1]; exact hc.2.2, by rw [sl_len h1]; omega, fun i hi => ?_⟩
    rw [sl_len h1] at hi
    rw [sl_get hi, Nat.add_assoc]
    exact hg _ (by omega)
theorem r_told {T : Nat → Nat} {n P : Nat} {y : PsT × DrT} {h : abJ} (hn : y.1.1 = none) (hI : DI n P y) (hP : PR T n y.1 h) (hD : DQ P y.2 h) : rM (moM P y) (h.1 68) ∧ rS (moS y) (fun k => h.1 68 (33 + k)) ∧ h.1 68 42 = nI 0 := by
  have n900 := hP.1.1
  obtain ⟨d0, d1, d2, d3, d4, d5, d6, d7, d8, d9, d10, d11⟩ := hD
  obtain ⟨o, i2, i3, i4, i5, i6⟩ := hI
  have p := PR_n hn hP
  refine ⟨⟨d0, d1, d2, d3, fun a r hr => d4 a r ?_ hr, rLw_L (by omega) i4 p.2.2.2.2.1 d5, rLw_L (by omega) i5 p.2.2.2.2.1 d6⟩, ⟨d7, fun a ha => ?_, d9, d10⟩, d11⟩
  · have hr : r < dR y.2 a := hr
    refine Classical.byContradiction (fun w => ?_)
    rw [o.2.2.2.2.1 a (by have := o.2.1; omega)] at hr
    omega
  · show h.1 68 (33 + (1 + a)) = nI (dg (dA y.2) a)
    rw [show 33 + (1 + a) = 34 + a by omega]
    exact d8 a ha
theorem r_named {T : Nat → Nat} {n : Nat} {s : PsT} {h : abJ} (hP : PR T n s h) : Ok (fX12_named 1 1 6 h) (fun r => PR T n (pT (kdP T n) (kN T n) (kVl T n) 1 7 (pE (kdP T n) (kN T n) 1 s)) r.2 ∧ fQ h r.2 ∧ ((pT (kdP T n) (kN T n) (kVl T n) 1 7 (pE (kdP T n) (kN T n) 1 s)).1 = none → r.1 = nI (kVl T n (pE (kdP T n) (kN T n) 1 s).2.1))) := by
  unfold fX12_named
  refine r_eatsF (k := 1) (G := fun r3 => (fX12_takes 1 6 r3).bind (fun r4 => some (r4.1, r4.2))) (by omega) (by omega) hP (fQ_r h) (fun h' hP' f' => ?_)
  have tk : Ok (fX12_takes 1 6 h') (fun r => PR T n (pT (kdP T n) (kN T n) (kVl T n) 1 7 (pE (kdP T n) (kN T n) 1 s)) r.2 ∧ fQ h' r.2 ∧ ((pT (kdP T n) (kN T n) (kVl T n) 1 7 (pE (kdP T n) (kN T n) 1 s)).1 = none → r.1 = nI (kVl T n (pE (kdP T n) (kN T n) 1 s).2.1))) := r_takeN (lo := 1) (hx := 7) hP' (by omega) (by omega)
  exact Ok.bind tk (fun r hr => Ok.some ⟨hr.1, fQ_t f' hr.2.1, hr.2.2⟩)
theorem r_moor {T : Nat → Nat} {n L : Nat} {h : abJ} (hT : TP T n 67 h) (h5 : h.1 64 5 = nI L) (hnL : n ≤ L) (hL : L ≤ 900) : Ok (fX12_moor (nI n) h) (fun r => (∀ z, (mrs (kdP T n) (kN T n) (kVl T n) (atP T n 0)).2.1.1 = some z → (0 < z.1 ∧ z.1 < 5) ∧ r.1 = -30 - nI z.1 ∧ r.2.1 64 13 = nI z.1 ∧ r.2.1 64 14 = nI z.2 ∧ r.2.1 65 = h.1 65) ∧ ((mrs (kdP T n) (kN T n) (kVl T n) (atP T n 0)).2.1.1 = none → r.1 = nI (dN (mrs (kdP T n) (kN T n) (kVl T n) (atP T n 0)).2.2) ∧ r.2.1 64 13 = nI 0 ∧ r.2.1 64 14 = -1 ∧ rM (moM (mrs (kdP T n) (kN T n) (kVl T n) (atP T n 0)).1 (mrs (kdP T n) (kN T n) (kVl T n) (atP T n 0)).2) (r.2.1 65) ∧ rS (moS (mrs (kdP T n) (kN T n) (kVl T n) (atP T n 0)).2) (fun k => r.2.1 65 (33 + k)) ∧ r.2.1 65 42 = nI 0 ∧ ∀ q, 1034 ≤ q → r.2.1 65 q = h.1 65 q) ∧ r.2.1 64 5 = nI 0 ∧ frR [0, 5, 6, 7, 8, 9, 10, 11, 12, 13, 14] [65, 68] [] h r.2) := by
  have n900 := hT.1
  have ha : atP T n 0 ≤ n := by
    have := (rnE_b (P := isB) (T := T) (k := n - 0) (b := 0)).2
    unfold atP
    omega
  unfold fX12_moor
  rw [show (ab_wI h 64 0 0).1 64 5 = nI L from by rw [ab_w1k (by decide)]; exact h5, r_w03 (n := L) _ (by omega) (by omega) rfl, ab_bindS, decide_eq_true hnL]
  refine Ok.neg (by decide) ?_
  generalize e1 : ab_wI (ab_wI (ab_wI (ab_wI (ab_wI h 64 0 0) 64 8 (nI n)) 64 5 0) 64 7 0) 64 11 0 = h1
  have F1 : frR [0, 5, 6, 7, 8, 9, 10, 11, 12, 13, 14] [65, 68] [] h h1 := by subst e1; exact frR_64 (frR_64 (frR_64 (frR_64 (frR_64 (frR_r _ _ _ _) (by simp)) (by simp)) (by simp)) (by simp)) (by simp)
  have a8 : h1.1 64 8 = nI n := by subst e1; rw [ab_w1k (by decide), ab_w1k (by decide), ab_w1k (by decide), ab_w1e]
  have a5 : h1.1 64 5 = nI 0 := by subst e1; rw [ab_w1k (by decide), ab_w1k (by decide), ab_w1e]; rfl
  have a7 : h1.1 64 7 = nI 0 := by subst e1; rw [ab_w1k (by decide), ab_w1e]; rfl
  have a11 : h1.1 64 11 = nI 0 := by subst e1; rw [ab_w1e]; rfl
  refine Ok.bind (r_plain h1 (o := 68) (by decide) (by decide)) (fun r3 hr3 => ?_)
  have k64 : r3.1 64 = h1.1 64 := hr3.2.2.2.1 64 (by decide)
  have F3 : frR [0, 5, 6, 7, 8, 9, 10, 11, 12, 13, 14] [65, 68] [] h r3 := frR_t F1 (frR_m (frR_o (K := []) hr3.2.2.2 (by decide)) (by simp) (by simp) (by simp))
  have hT3 : TP T n 67 r3 := ⟨hT.1, fun k hk => by rw [F3.1 67 (by decide) (by decide)]; exact hT.2 k hk⟩
  refine Ok.bind (r_next hT3 (by rw [k64]; exact a8) (by rw [k64]; exact a7) (Nat.zero_le _)) (fun r4 hr4 => ?_)
  have k68 : r4.1 68 = r3.1 68 := hr4.2.1 68 (by simp) (by decide)
  have hP4 : PR T n (none, atP T n 0, []) r4 := by
    refine ⟨TP_fN hT3 hr4.2, by rw [fN_8 hr4.2, k64]; exact a8, ?_, hr4.1, ha, ?_, fun i hi => absurd hi (Nat.not_lt_zero _), Nat.zero_le _⟩
    · rw [hr4.2.2.1 11 (by decide), k64]; exact a11
    · rw [k68]; exact hr3.2.1 133 (by decide) (by decide)
  have z68 : ∀ q, q ≠ 1 → q < 1034 → r4.1 68 q = nI 0 := fun q h1 h2 => by rw [k68]; exact hr3.2.1 q h1 h2
  have F4 : frR [0, 5, 6, 7, 8, 9, 10, 11, 12, 13, 14] [65, 68] [] h r4 := frR_t F3 (frR_m hr4.2 (by simp) (by simp) (by simp))
  have b5 : r4.1 64 5 = nI 0 := by rw [hr4.2.2.1 5 (by decide), k64]; exact a5
  have b65 : r4.1 65 = h.1 65 := by
    rw [hr4.2.1 65 (by simp) (by decide), hr3.2.2.2.1 65 (by decide)]
    subst e1
    rw [ab_w1n (by decide), ab_w1n (by decide), ab_w1n (by decide), ab_w1n (by decide), ab_w1n (by decide)]
  refine r_eatsF (k := 0) (by omega) (by omega) hP4 (fQ_r r4) (fun r5 hP5 f5 => ?_)
  unfold fX12_moor_J66
  refine Ok.bind (r_named hP5) (fun r8 hr8 => ?_)
  have pk : pokR T n (kVl T n (pE (kdP T n) (kN T n) 1 (pE (kdP T n) (kN T n) 0 (none, atP T n 0, []))).2.1) (pT (kdP T n) (kN T n) (kVl T n) 1 7 (pE (kdP T n) (kN T n) 1 (pE (kdP T n) (kN T n) 0 (none, atP T n 0, []))), dr0) r4 (ab_wI r8.2 68 1 r8.1) := by
    refine ⟨fM_w (fM_t f5.1 hr8.2.1.1), PR_68 hr8.1 (by omega), fun w => ?_⟩
    have w : (pT (kdP T n) (kN T n) (kVl T n) 1 7 (pE (kdP T n) (kN T n) 1 (pE (kdP T n) (kN T n) 0 (none, atP T n 0, [])))).1 = none := w
    have zz : ∀ q, q ≠ 1 → q < 133 → (ab_wI r8.2 68 1 r8.1).1 68 q = nI 0 := fun q h1 h2 => by rw [ab_w1k h1, hr8.2.1.2 q h2, f5.2 q h2]; exact z68 q h1 (by omega)
    refine ⟨zz 0 (by omega) (by omega), ?_, zz 2 (by omega) (by omega), fun a ha => zz _ (by omega) (by omega), fun a r _ hr => absurd hr (Nat.not_lt_zero _), zz 3 (by omega) (by omega), zz 4 (by omega) (by omega), zz 33 (by omega) (by omega), fun a ha => ?_, zz 40 (by omega) (by omega), zz 41 (by omega) (by omega), zz 42 (by omega) (by omega)⟩
    · rw [ab_w1e]; exact hr8.2.2 w
    · show _ = nI (dg 0 a)
      rw [dg_z]; exact zz _ (by omega) (by omega)
  refine Ok.bind (r_close (fun _ p => Nat.zero_le _) pk) (fun r9 hr9 => ?_)
  refine r_lns 901 ab_N _ r9 hr9 (fun w => ⟨DI_0 (kgn T n) ha w, by omega⟩) (by unfold ab_N; omega) (fun h' hr => ?_)
  have hr : pokR T n (mrs (kdP T n) (kN T n) (kVl T n) (atP T n 0)).1 (mrs (kdP T n) (kN T n) (kVl T n) (atP T n 0)).2 r4 h' := hr
  have dI : (mrs (kdP T n) (kN T n) (kVl T n) (atP T n 0)).2.1.1 = none → DI n (mrs (kdP T n) (kN T n) (kVl T n) (atP T n 0)).1 (mrs (kdP T n) (kN T n) (kVl T n) (atP T n 0)).2 := fun w => DI_mrs (kgn T n) ha w
  generalize mrs (kdP T n) (kN T n) (kVl T n) (atP T n 0) = m at *
  have F5 : frR [0, 5, 6, 7, 8, 9, 10, 11, 12, 13, 14] [65, 68] [] h h' := frR_t F4 (frR_m hr.1 (by simp) (by simp) (by simp))
  have c5 : h'.1 64 5 = nI 0 := by rw [hr.1.2.1 5 (by decide)]; exact b5
  have c65 : h'.1 65 = h.1 65 := by rw [hr.1.1 65 (by decide) (by decide)]; exact b65
  unfold fX12_moor_J111
  cases e : m.2.1.1 with
  | some z =>
    have q := hr.2.1.2.2
    rw [e] at q
    obtain ⟨q1, q2, q3, q4⟩ := q
    have nz : ¬ nI z.1 = 0 := by rw [show (0 : Int32) = nI 0 from rfl, nI_eq (by omega) (by omega)]; omega
    unfold fX12_moor_J135
    rw [ab_w1k (show 11 ≠ 13 by decide), ab_w1k (show 12 ≠ 13 by decide), q1, q2]
    refine Ok.neg nz ?_
    rw [ab_w1k (show 11 ≠ 14 by decide), ab_w1k (show 11 ≠ 13 by decide), q1]
    refine Ok.neg nz (Ok.some ⟨fun z' hz => ?_, (fun w => by cases w), ?_, frR_64 (frR_64 F5 (by simp)) (by simp)⟩)
    · have hz := Option.some.inj hz
      subst hz
      refine ⟨⟨q3, q4⟩, rfl, ?_, ?_, ?_⟩
      · rw [ab_w1k (by decide), ab_w1e]
      · rw [ab_w1e]
      · rw [ab_w1n (by decide), ab_w1n (by decide)]; exact c65
    · rw [ab_w1k (by decide), ab_w1k (by decide)]; exact c5
  | none =>
    obtain ⟨p0, _⟩ := PR_n e hr.2.1
    have hI := dI e
    obtain ⟨t1, t2, t3⟩ := r_told e hI hr.2.1 (hr.2.2 e)
    unfold fX12_moor_J135
    rw [ab_w1k (show 11 ≠ 13 by decide), p0]
    refine Ok.pos rfl ?_
    rw [ab_w1k (show 11 ≠ 14 by decide), ab_w1k (show 11 ≠ 13 by decide), p0]
    refine Ok.pos rfl ((r_m155 1034 ab_N 0 _ (by omega) (by unfold ab_N; omega)).mono (fun r hrr => ?_))
    have g68 : ∀ q, q < 1034 → r.2.1 65 q = h'.1 68 q := fun q hq => by rw [hrr.2.1 q (by omega) hq, ab_w1n (by decide), ab_w1n (by decide)]
    have g64 : r.2.1 64 = (ab_wI (ab_wI h' 64 13 (nI 0)) 64 14 (-1)).1 64 := hrr.2.2.2.1 64 (by decide)
    refine ⟨(fun z hz => by cases hz), fun _ => ⟨?_, ?_, ?_, rM_big (moM_O n900 hI).1 t1 g68, rS_eq t2 (fun q hq => g68 _ (by omega)), ?_, fun q hq => ?_⟩, ?_, ?_⟩
    · rw [hrr.1, g68 0 (by omega)]; exact t1.1
    · rw [g64, ab_w1k (by decide), ab_w1e]
    · rw [g64, ab_w1e]
    · rw [g68 42 (by omega)]; exact t3
    · rw [hrr.2.2.1 q (by omega), ab_w1n (by decide), ab_w1n (by decide), c65]
    · rw [g64, ab_w1k (by decide), ab_w1k (by decide)]; exact c5
    · exact frR_t (frR_64 (frR_64 F5 (by simp)) (by simp)) (frR_m (frR_o (K := []) hrr.2.2.2 (by decide)) (by simp) (by simp) (by simp))
theorem mrs_z {T : Nat → Nat} {n : Nat} {z : Nat × Nat} (hn : n ≤ 900) (hT : ∀ k, k < n → T k < 256) (e : (mrs (kdP T n) (kN T n) (kVl T n) (atP T n 0)).2.1.1 = some z) : 0 < z.1 ∧ z.1 < 5 := by
  obtain ⟨r, _, hr⟩ := r_moor (T := T) (n := n) (L := n) (h := (fun o k => if o = 67 then nI (T k) else if k = 5 then nI n else 0, fun _ _ => 0)) ⟨hn, fun k hk => ⟨rfl, hT k hk⟩⟩ rfl (Nat.le_refl _) hn
  exact (hr.1 z e).1
