/-! ahead, from: the reference, the calls. -/
noncomputable def svb (m : MoT) (u : Nat) : Bool := decide (u % 6 < mP m) && avb m (u / 6)
theorem svb_t {m : MoT} {u : Nat} : svb m u = true ↔ SV m u := by
  unfold svb
  rw [Bool.and_eq_true, decide_eq_true_iff, avb_t]; rfl
theorem r_isStand1 {m : MoT} {h : abJ} {u : Nat} (hO : MO m) (hM : rM m (h.1 65)) (hu : u < 4374) : fX12_isStand1 (nI u) h = some (bI (svb m u)) := by
  have h6 := hO.2.1
  unfold fX12_isStand1 svb
  rw [hM.2.1, show (6 : Int32) = nI 6 from rfl, pk_rem (by omega) (by omega) (by omega), pk_div (by omega) (by omega) (by omega)]
  by_cases c : u % 6 < mP m
  · rw [if_neg (by rw [nI_leI (by omega) (by omega)]; omega), r_areArmsB hO hM (by omega), ab_bindS, decide_eq_true c]
    cases avb m (u / 6) <;> rfl
  · rw [if_pos (by rw [nI_leI (by omega) (by omega)]; omega), decide_eq_false c]; rfl
theorem nar_b (b : Bool) : vp_nar .boolean (bI b) = bI b := by cases b <;> rfl
theorem r_begin2 {A : AbT} {h0 : abJ} (hW : WF A) : ∀ (k n u : Nat) (h : abJ), u + k = 4374 → k < n → RR A h → (∀ x, x < u → h.1 77 x = bI (decide (x ∈ lv (aM A) (sF (aS A)) (aN A) 0))) → frR sk1 sc1 [80, 81] h0 h → Ok (fX12_beginsAhead_L2 n (nI u) h) (fun h' => (∀ x, x < 4374 → h'.1 77 x = bI (decide (x ∈ lv (aM A) (sF (aS A)) (aN A) 0))) ∧ RR A h' ∧ frR sk1 sc1 [80, 81] h0 h') := by
  intro k
  induction k with
  | zero =>
    intro n u h hu hn hR hx hfr
    obtain ⟨n, rfl⟩ : ∃ n0, n = n0 + 1 := ⟨n - 1, by omega⟩
    rw [fX12_beginsAhead_L2]
    exact Ok.pos (by rw [show (4374 : Int32) = nI 4374 from rfl, nI_leI (by omega) (by omega)]; omega) (Ok.some ⟨fun x h1 => hx x (by omega), hR, hfr⟩)
  | succ k ih =>
    intro n u h hu hn hR hx hfr
    obtain ⟨n, rfl⟩ : ∃ n0, n = n0 + 1 := ⟨n - 1, by omega⟩
    have hs4 := SV_lt hW.1 (aN_SV hW)
    rw [fX12_beginsAhead_L2, r_now hW hR, ab_bindS]
    refine Ok.neg (by rw [show (4374 : Int32) = nI 4374 from rfl, nI_leI (by omega) (by omega)]; omega) ?_
    have go : ∀ b : Bool, b = decide (u ∈ lv (aM A) (sF (aS A)) (aN A) 0) → Ok (fX12_beginsAhead_J27 (fun y1 h => fX12_beginsAhead_L2 n y1 h) (nI u) (nI u) (bI b) h) (fun h' => (∀ x, x < 4374 → h'.1 77 x = bI (decide (x ∈ lv (aM A) (sF (aS A)) (aN A) 0))) ∧ RR A h' ∧ frR sk1 sc1 [80, 81] h0 h') := by
      intro b hb
      unfold fX12_beginsAhead_J27
      rw [nI_clamp (by omega), nI_1, nar_b]
      refine Ok.ask (ixN (by omega) (by omega)) ?_
      have f1 : frR sk1 sc1 [80, 81] h (ab_wI h 77 u (bI b)) := frR_w (frR_r _ _ _ _) (by decide) (by decide)
      refine ih n (u + 1) _ (by omega) (by omega) (RR_sc hR f1).1 (fun x h1 => ?_) (frR_t hfr f1)
      by_cases e : x = u
      · subst e; rw [ab_w1e, hb]
      · rw [ab_w1k e]; exact hx x (by omega)
    by_cases c : u = aN A
    · refine Ok.pos (by rw [c]) (go true ?_)
      rw [lv, c]; simp
    · refine Ok.neg (by rw [nI_eq (by omega) (by omega)]; exact c) (go false ?_)
      rw [lv]; simp [c]
theorem r_begin {A : AbT} {h h0 : abJ} (hW : WF A) (hR : RR A h) (hf : frR sk1 sc1 [80, 81] h0 h) : Ok (fX12_beginsAhead h) (fun h' => (∀ x, x < 4374 → h'.1 77 x = bI (decide (x ∈ lv (aM A) (sF (aS A)) (aN A) 0))) ∧ RR A h' ∧ frR sk1 sc1 [80, 81] h0 h') := by
  unfold fX12_beginsAhead
  exact r_begin2 hW 4374 ab_N 0 h (by omega) (by unfold ab_N; omega) hR (fun x hx => by omega) hf
theorem r_J60 {c u : Nat} {b : Bool} {h : abJ} {K : Int32 → Int32 → abJ → Option (Int32 × abJ)} (hu : u < 4374) : fX12_laysAhead_J60 K (nI c) (nI u) (nI u) (bI b) h = K (nI (c + if b = true then 1 else 0)) (nI (u + 1)) (ab_wI h 78 u (bI b)) := by
  unfold fX12_laysAhead_J60 fX12_laysAhead_J76
  rw [nI_clamp (by omega), ab_askP (ixN (by omega) (by omega)), ab_askP (ixN (by omega) (by omega)), nar_b, ab_w1e, nI_1]
  cases b with
  | true => rw [if_neg (by decide), nI_1, if_pos rfl]
  | false => rw [if_pos (by decide), show nI c + 0 = nI c from Int32.add_zero _, if_neg (by decide)]; rfl
/-- from which one step leads to such -/
noncomputable def stb (m : MoT) (f : Nat) (C : Nat → Bool) (u : Nat) : Bool := if svb m u = true then (match nx m f u with | none => false | some t => C t) else false
theorem r_lays4 {A : AbT} {C : Nat → Bool} {h0 : abJ} {Q : Int32 × abJ → Prop} (hW : WF A) (hQ : ∀ h, RR A h → (∀ x, x < 4374 → h.1 78 x = bI (stb (aM A) (sF (aS A)) C x)) → frR sk1 sc1 [80, 81] h0 h → Ok (fX12_laysAhead_L86 ab_N (nI (sg (fun i => if stb (aM A) (sF (aS A)) C i = true then 1 else 0) 4374)) (nI 0) h) Q) : ∀ (k n u : Nat) (h : abJ), u + k = 4374 → k < n → RR A h → (∀ x, x < 4374 → h.1 77 x = bI (C x)) → (∀ x, x < u → h.1 78 x = bI (stb (aM A) (sF (aS A)) C x)) → frR sk1 sc1 [80, 81] h0 h → Ok (fX12_laysAhead_L4 n (nI (sg (fun i => if stb (aM A) (sF (aS A)) C i = true then 1 else 0) u)) (nI u) h) Q := by
  have hO := hW.1
  intro k
  induction k with
  | zero =>
    intro n u h hu hn hR h77 h78 hfr
    obtain ⟨n, rfl⟩ : ∃ n0, n = n0 + 1 := ⟨n - 1, by omega⟩
    rw [fX12_laysAhead_L4]
    have e : u = 4374 := by omega
    subst e
    exact Ok.pos (Int32.le_refl _) (hQ h hR h78 hfr)
  | succ k ih =>
    intro n u h hu hn hR h77 h78 hfr
    obtain ⟨n, rfl⟩ : ∃ n0, n = n0 + 1 := ⟨n - 1, by omega⟩
    have go : ∀ (b : Bool) (h1 : abJ), b = stb (aM A) (sF (aS A)) C u → fr [69, 70] [] h h1 → Ok (fX12_laysAhead_J60 (fun y1 y2 h => fX12_laysAhead_L4 n y1 y2 h) (nI (sg (fun i => if stb (aM A) (sF (aS A)) C i = true then 1 else 0) u)) (nI u) (nI u) (bI b) h1) Q := by
      intro b h1 hb hf1
      rw [r_J60 (by omega)]
      have f1 : frR sk1 sc1 [80, 81] h (ab_wI h1 78 u (bI b)) := frR_w (frR_m (frR_o (K := []) hf1 (by decide)) (by simp) (by decide) (by simp)) (by decide) (by decide)
      have ih := ih n (u + 1) (ab_wI h1 78 u (bI b)) (by omega) (by omega) (RR_sc hR f1).1 (fun x hx => by rw [ab_w1n (by decide), hf1.1 77 (by decide)]; exact h77 x hx) (fun x hx => by
        by_cases e : x = u
        · subst e; rw [ab_w1e, hb]
        · rw [ab_w1k e, hf1.1 78 (by decide)]; exact h78 x (by omega)) (frR_t hfr f1)
      rw [sg, ← hb] at ih
      exact ih
    rw [fX12_laysAhead_L4, r_isStand1 hO hR.1 (by omega), ab_bindS]
    refine Ok.neg (by rw [show (4374 : Int32) = nI 4374 from rfl, nI_leI (by omega) (by omega)]; omega) ?_
    by_cases c : svb (aM A) u = true
    · have hs := svb_t.mp c
      rw [c]
      refine Ok.neg (by decide) ?_
      rw [show (6 : Int32) = nI 6 from rfl, pk_rem (by omega) (by omega) (by omega), r_isRest hO hR.1 (by omega), ab_bindS]
      by_cases c2 : rs (aM A) (u % 6) = true
      · rw [c2]
        refine Ok.neg (by decide) (go false h ?_ (fr_r _ _ _))
        unfold stb nx
        rw [if_pos c, if_pos c2]
      · have hr0 : 0 < mR (aM A) (u % 6) := by simp [rs] at c2; omega
        rw [show rs (aM A) (u % 6) = false by simpa using c2, show h.1 65 40 = nI (sF (aS A)) from hR.2.1.2.2.1]
        refine Ok.pos rfl ?_
        refine Ok.bind (r_stepTo hO hR.1 hW.2.1.2.2 hs hr0) (fun r hr => ?_)
        have hx := SV_lt hO (sT_SV hO hs (f := sF (aS A)) hr0)
        have e : stb (aM A) (sF (aS A)) C u = C (sT (aM A) (sF (aS A)) u) := by
          unfold stb nx
          rw [if_pos c, if_neg c2]
        rw [hr.1, nI_clamp (by omega), hr.2.1 77 (by decide), h77 _ hx]
        refine Ok.ask (ixN (by omega) (by omega)) ?_
        cases c3 : C (sT (aM A) (sF (aS A)) u) with
        | false => exact Ok.pos rfl (go false r.2 (by rw [e, c3]) hr.2)
        | true => exact Ok.neg (by decide) (go true r.2 (by rw [e, c3]) hr.2)
    · rw [show svb (aM A) u = false by simpa using c]
      refine Ok.pos rfl (go false h ?_ (fr_r _ _ _))
      unfold stb
      rw [if_neg c]
theorem r_lays86 {A : AbT} {D : Nat → Bool} {c : Int32} {h0 : abJ} : ∀ (k n u : Nat) (h : abJ), u + k = 4374 → k < n → RR A h → (∀ x, x < 4374 → h.1 78 x = bI (D x)) → (∀ x, x < u → h.1 77 x = bI (D x)) → frR sk1 sc1 [80, 81] h0 h → Ok (fX12_laysAhead_L86 n c (nI u) h) (fun r => r.1 = c ∧ (∀ x, x < 4374 → r.2.1 77 x = bI (D x)) ∧ RR A r.2 ∧ frR sk1 sc1 [80, 81] h0 r.2) := by
  intro k
  induction k with
  | zero =>
    intro n u h hu hn hR h78 h77 hfr
    obtain ⟨n, rfl⟩ : ∃ n0, n = n0 + 1 := ⟨n - 1, by omega⟩
    rw [fX12_laysAhead_L86]
    exact Ok.pos (by rw [show (4374 : Int32) = nI 4374 from rfl, nI_leI (by omega) (by omega)]; omega) (Ok.some ⟨rfl, fun x hx => h77 x (by omega), hR, hfr⟩)
  | succ k ih =>
    intro n u h hu hn hR h78 h77 hfr
    obtain ⟨n, rfl⟩ : ∃ n0, n = n0 + 1 := ⟨n - 1, by omega⟩
    rw [fX12_laysAhead_L86, nI_clamp (by omega), h78 u (by omega), nar_b, nI_1]
    refine Ok.neg (by rw [show (4374 : Int32) = nI 4374 from rfl, nI_leI (by omega) (by omega)]; omega) (Ok.ask (ixN (by omega) (by omega)) (Ok.ask (ixN (by omega) (by omega)) ?_))
    have f1 : frR sk1 sc1 [80, 81] h (ab_wI h 77 u (bI (D u))) := frR_w (frR_r _ _ _ _) (by decide) (by decide)
    refine ih n (u + 1) _ (by omega) (by omega) (RR_sc hR f1).1 (fun x hx => by rw [ab_w1n (by decide)]; exact h78 x hx) (fun x hx => ?_) (frR_t hfr f1)
    by_cases e : x = u
    · subst e; rw [ab_w1e]
    · rw [ab_w1k e]; exact h77 x (by omega)
theorem stb_lv {m : MoT} {f s n u : Nat} (hO : MO m) (hs : SV m s) : stb m f (fun x => decide (x ∈ lv m f s n)) u = decide (u ∈ lv m f s (n + 1)) := by
  have e := lv_m (f := f) (n := n) (u := u) hO hs
  unfold stb
  by_cases c : svb m u = true
  · rw [if_pos c]
    cases hx : nx m f u with
    | none =>
      refine (decide_eq_false (fun q => ?_)).symm
      obtain ⟨_, t, e2, _⟩ := e.mp q
      rw [hx] at e2; cases e2
    | some t =>
      dsimp only
      by_cases c2 : t ∈ lv m f s n
      · rw [decide_eq_true c2, decide_eq_true (e.mpr ⟨svb_t.mp c, t, hx, c2⟩)]
      · rw [decide_eq_false c2, decide_eq_false (fun q => ?_)]
        obtain ⟨_, t2, e2, e3⟩ := e.mp q
        rw [hx] at e2
        cases e2
        exact c2 e3
  · rw [if_neg c]
    exact (decide_eq_false (fun q => c (svb_t.mpr (e.mp q).1))).symm
theorem r_laysAhead {A : AbT} {n : Nat} {h : abJ} (hW : WF A) (hR : RR A h) (h77 : ∀ x, x < 4374 → h.1 77 x = bI (decide (x ∈ lv (aM A) (sF (aS A)) (aN A) n))) : Ok (fX12_laysAhead h) (fun r => r.1 = nI (lv (aM A) (sF (aS A)) (aN A) (n + 1)).length ∧ (∀ x, x < 4374 → r.2.1 77 x = bI (decide (x ∈ lv (aM A) (sF (aS A)) (aN A) (n + 1)))) ∧ RR A r.2 ∧ frR sk1 sc1 [80, 81] h r.2) := by
  have hs := aN_SV hW
  obtain ⟨l1, l2⟩ := lv_s (f := sF (aS A)) hW.1 hs (n + 1)
  have e1 : (lv (aM A) (sF (aS A)) (aN A) (n + 1)).length = sg (fun i => if stb (aM A) (sF (aS A)) (fun x => decide (x ∈ lv (aM A) (sF (aS A)) (aN A) n)) i = true then 1 else 0) 4374 := by
    rw [nd_len (N := 4374) l1 (fun x hx => SV_lt hW.1 (l2 x hx))]
    exact sg_congr (fun i _ => by rw [stb_lv hW.1 hs])
  rw [e1]
  unfold fX12_laysAhead
  refine r_lays4 (C := fun x => decide (x ∈ lv (aM A) (sF (aS A)) (aN A) n)) hW (fun h1 hR1 h78 hf1 => ?_) 4374 ab_N 0 h (by omega) (by unfold ab_N; omega) hR h77 (fun x hx => by omega) (frR_r _ _ _ _)
  exact r_lays86 (D := fun x => decide (x ∈ lv (aM A) (sF (aS A)) (aN A) (n + 1))) 4374 ab_N 0 h1 (by omega) (by unfold ab_N; omega) hR1 (fun x hx => by rw [h78 x hx, stb_lv hW.1 hs]) (fun x hx => by omega) hf1
theorem r_ahead28 {A : AbT} {N : Nat} {h0 : abJ} (hW : WF A) (hN : N ≤ 6) : ∀ (k n i : Nat) (h : abJ), i + k = N → k < n → RR A h → (∀ x, x < 4374 → h.1 77 x = bI (decide (x ∈ lv (aM A) (sF (aS A)) (aN A) i))) → frR sk1 sc1 [80, 81] h0 h → Ok (fX12_ahead_L28 n (nI N) (nI (lv (aM A) (sF (aS A)) (aN A) i).length) (nI i) h) (fun r => r.1 = nI (lv (aM A) (sF (aS A)) (aN A) N).length ∧ frR sk1 sc1 [80, 81] h0 r.2) := by
  intro k
  induction k with
  | zero =>
    intro n i h hi hn hR h77 hfr
    obtain ⟨n, rfl⟩ : ∃ n0, n = n0 + 1 := ⟨n - 1, by omega⟩
    have e : i = N := by omega
    subst e
    rw [fX12_ahead_L28]
    exact Ok.pos (Int32.le_refl _) (Ok.some ⟨rfl, hfr⟩)
  | succ k ih =>
    intro n i h hi hn hR h77 hfr
    obtain ⟨n, rfl⟩ : ∃ n0, n = n0 + 1 := ⟨n - 1, by omega⟩
    rw [fX12_ahead_L28, nI_1]
    refine Ok.neg (by rw [nI_leI (by omega) (by omega)]; omega) ?_
    refine Ok.bind (r_laysAhead hW hR h77) (fun r hr => ?_)
    rw [hr.1]
    exact ih n (i + 1) r.2 (by omega) (by omega) hr.2.2.1 hr.2.1 (frR_t hfr hr.2.2.2)
theorem call_ahead (x : Int32) : call2 (fX11_ahead x) (fX12_ahead x) := by
  refine call2_ro (fun A hW => ?_)
  by_cases cx : x < nI 0 ∨ nI 6 < x
  · refine ⟨-3, fun h hR => ?_, fun h hR => ?_⟩
    · unfold fX11_ahead
      by_cases c1 : x < 0
      · exact Ok.pos c1 (Ok.some ⟨rfl, fr_r _ _ _⟩)
      · exact Ok.neg c1 (Ok.neg (by rw [Int32.not_le]; exact cx.resolve_left c1) (Ok.some ⟨rfl, fr_r _ _ _⟩))
    · unfold fX12_ahead
      generalize e0 : ab_wI h 64 0 0 = h0; have f0 : frR sk1 sc1 [80, 81] h h0 := (by subst e0; exact frR_64 (frR_r _ _ _ _) (by decide)); have hR0 : RR A h0 := (RR_sc hR f0).1
      rw [r_win h0 (a := nI 0) (b := nI 6) (A := 0) (B := 6) rfl rfl, ab_bindS, decide_eq_true cx]
      exact Ok.pos rfl (Ok.some ⟨rfl, f0⟩)
  rcases i_cs x with hx | ⟨N, hN, rfl⟩
  · exact absurd (Or.inl hx) cx
  have hN6 : N ≤ 6 := by
    have q2 : ¬ nI 6 < nI N := fun q => cx (Or.inr q)
    rw [nI_ltI (by omega) (by omega)] at q2
    omega
  have hs := aN_SV hW
  refine ⟨nI (lv (aM A) (sF (aS A)) (aN A) N).length, fun h hR => ?_, fun h hR => ?_⟩
  · unfold fX11_ahead
    refine Ok.neg (by rw [show (0 : Int32) = nI 0 from rfl, nI_ltI (by omega) (by omega)]; omega) (Ok.pos (by rw [show (6 : Int32) = nI 6 from rfl, nI_leI (by omega) (by omega)]; omega) ?_)
    rw [c_code hR, ab_bindS, hR.2.1.2.2.1]
    unfold fX8_countAhead
    have f1 : fr [30, 36] [] h (ab_wI h 30 0 (nI (aN A))) := fr_w (fr_r _ _ _) (by simp)
    refine Ok.bind (c_cnt23 hW.1 hW.2.1.2.2 hs hN6 hR.1 hR.2.2.2.1 N ab_N 0 30 36 _ (by omega) (by unfold ab_N; omega) (Or.inl ⟨rfl, rfl⟩) (fun i hi => ?_) f1) (fun r hr => Ok.some ⟨hr.1, fr_m hr.2 (by decide) (by simp)⟩)
    have hi : i < 1 := hi
    have e : i = 0 := by omega
    subst e
    rw [ab_w1e]; rfl
  · unfold fX12_ahead
    generalize e0 : ab_wI h 64 0 0 = h0; have f0 : frR sk1 sc1 [80, 81] h h0 := (by subst e0; exact frR_64 (frR_r _ _ _ _) (by decide)); have hR0 : RR A h0 := (RR_sc hR f0).1
    rw [r_win h0 (a := nI 0) (b := nI 6) (A := 0) (B := 6) rfl rfl, ab_bindS, decide_eq_false cx]
    refine Ok.neg (by decide) ?_
    refine Ok.bind (r_begin hW hR0 f0) (fun h1 hr => ?_)
    exact r_ahead28 hW hN6 N ab_N 0 h1 (by omega) (by unfold ab_N; omega) hr.2.1 hr.1 hr.2.2
def obr (B : Nat → Bool) : Nat → Nat → Nat → Nat
  | 0, _, acc => acc
  | k + 1, u, acc => obr B k (u + 1) (if B u = true then acc ||| 2 ^ (u % 6) else acc)
theorem obr_t {B : Nat → Bool} {q : Nat} : ∀ {k j acc : Nat}, (obr B k j acc).testBit q = true ↔ (acc.testBit q = true ∨ ∃ i, j ≤ i ∧ i < j + k ∧ B i = true ∧ i % 6 = q)
  | 0, j, acc => ⟨fun h => Or.inl h, fun h => by
      rcases h with h | ⟨i, a, b, _⟩
      · exact h
      · omega⟩
  | k + 1, j, acc => by
    rw [obr, obr_t]
    constructor
    · rintro (h | ⟨i, a, b, c⟩)
      · by_cases cb : B j = true
        · rw [if_pos cb, Nat.testBit_or, Nat.testBit_two_pow, Bool.or_eq_true, decide_eq_true_iff] at h
          rcases h with h | h
          · exact Or.inl h
          · exact Or.inr ⟨j, Nat.le_refl _, by omega, cb, h⟩
        · rw [if_neg cb] at h; exact Or.inl h
      · exact Or.inr ⟨i, by omega, by omega, c⟩
    · rintro (h | ⟨i, a, b, c, d⟩)
      · refine Or.inl ?_
        split
        · rw [Nat.testBit_or, h]; rfl
        · exact h
      · by_cases e : i = j
        · subst e
          refine Or.inl ?_
          rw [if_pos c, Nat.testBit_or, Nat.testBit_two_pow, Bool.or_eq_true, decide_eq_true_iff]
          exact Or.inr d
        · exact Or.inr ⟨i, by omega, by omega, c, d⟩
theorem r_from18 {B : Nat → Bool} {h : abJ} (h77 : ∀ x, x < 4374 → h.1 77 x = bI (B x)) : ∀ (k n u acc : Nat), u + k = 4374 → k < n → fX12_from_L18 n (nI acc) (nI u) h = some (nI (obr B k u acc), h) := by
  intro k
  induction k with
  | zero =>
    intro n u acc hu hn
    obtain ⟨n, rfl⟩ : ∃ n0, n = n0 + 1 := ⟨n - 1, by omega⟩
    rw [fX12_from_L18, if_pos (by rw [show (4374 : Int32) = nI 4374 from rfl, nI_leI (by omega) (by omega)]; omega)]; rfl
  | succ k ih =>
    intro n u acc hu hn
    obtain ⟨n, rfl⟩ : ∃ n0, n = n0 + 1 := ⟨n - 1, by omega⟩
    rw [fX12_from_L18, if_neg (by rw [show (4374 : Int32) = nI 4374 from rfl, nI_leI (by omega) (by omega)]; omega), nI_clamp (by omega), ab_askP (ixN (by omega) (by omega)), h77 u (by omega), show (6 : Int32) = nI 6 from rfl, pk_rem (by omega) (by omega) (by omega), show (31 : Int32) = nI 31 from rfl, obr]
    unfold fX12_from_J45
    rw [nI_1, show (1 : Int32) = nI 1 from rfl, b_shl (by omega), b_or, show (0 : Int32) = nI 0 from rfl, b_or, Nat.or_zero]
    cases B u with
    | true =>
      rw [if_neg (by decide), if_pos rfl]
      exact ih n (u + 1) _ (by omega) (by omega)
    | false =>
      rw [if_pos (by decide), if_neg (by decide)]
      exact ih n (u + 1) _ (by omega) (by omega)
theorem call_from : call2 fX11_from fX12_from := by
  refine call2_ro (fun A hW => ?_)
  have hs := aN_SV hW
  have hO := hW.1
  have e : obk (prd (aM A) (sF (aS A)) (aN A)) (prd (aM A) (sF (aS A)) (aN A)).length 0 0 = obr (fun x => decide (x ∈ lv (aM A) (sF (aS A)) (aN A) 1)) 4374 0 0 := by
    refine Nat.eq_of_testBit_eq (fun q => ?_)
    refine Bool.eq_iff_iff.mpr ?_
    rw [obk_t, obr_t]
    refine or_congr Iff.rfl ⟨?_, ?_⟩
    · rintro ⟨i, _, hi, e⟩
      have hm := (prd_m hO hs).mp (getD_mem (L := prd (aM A) (sF (aS A)) (aN A)) (i := i) (by omega))
      exact ⟨_, Nat.zero_le _, by have := SV_lt hO hm.1; omega, decide_eq_true ((lv_m hO hs).mpr ⟨hm.1, aN A, hm.2, by rw [lv]; simp⟩), e⟩
    · rintro ⟨u, _, hu, hB, e⟩
      obtain ⟨h1, t, h2, h3⟩ := (lv_m hO hs).mp (of_decide_eq_true hB)
      rw [lv, List.mem_singleton] at h3
      rw [h3] at h2
      obtain ⟨i, hi, e2⟩ := mem_getD ((prd_m hO hs).mpr ⟨h1, h2⟩)
      exact ⟨i, Nat.zero_le _, by omega, by rw [e2]; exact e⟩
  have hl : (prd (aM A) (sF (aS A)) (aN A)).length ≤ 4374 := nd_le (prd_nd hO) (fun x hx => SV_lt hO ((prd_m hO hs).mp hx).1)
  refine ⟨nI (obr (fun x => decide (x ∈ lv (aM A) (sF (aS A)) (aN A) 1)) 4374 0 0), fun h hR => ?_, fun h hR => ?_⟩
  · unfold fX11_from fX8_postsAhead
    rw [c_code hR, ab_bindS, hR.2.1.2.2.1, show (0 : Int32) = nI ([] : List Nat).length from rfl]
    refine Ok.bind (Ok.bind (c_addAhead (acc := []) hO hW.2.1.2.2 hs hR.1 hR.2.2.2.1 (Or.inl rfl) (by rw [List.length_nil]; omega) (fun i hi => by cases hi)) (fun r hr => ?_)) (fun r hr => Ok.some hr)
    rw [List.nil_append] at hr
    rw [hr.1, show nI ([] : List Nat).length = nI 0 from rfl, c_posts18 hl (fun x hx => SV_lt hO ((prd_m hO hs).mp hx).1) hr.2.1 (prd (aM A) (sF (aS A)) (aN A)).length ab_N 0 0 (by omega) (by unfold ab_N; omega), e]
    exact Ok.some ⟨rfl, fr_m hr.2.2 (by decide) (by simp)⟩
  · unfold fX12_from
    generalize e0 : ab_wI h 64 0 0 = h0; have f0 : frR sk1 sc1 [80, 81] h h0 := (by subst e0; exact frR_64 (frR_r _ _ _ _) (by decide)); have hR0 : RR A h0 := (RR_sc hR f0).1
    refine Ok.bind (r_begin hW hR0 f0) (fun h1 hr => ?_)
    refine Ok.bind (r_laysAhead hW hr.2.1 hr.1) (fun r hr2 => ?_)
    rw [show (0 : Int32) = nI 0 from rfl, r_from18 hr2.2.1 4374 ab_N 0 0 (by omega) (by unfold ab_N; omega)]
    exact Ok.some ⟨rfl, frR_t hr.2.2 hr2.2.2.2⟩
