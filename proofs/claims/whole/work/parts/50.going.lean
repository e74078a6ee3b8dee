/-! Longs; calls that go on: at, arms, round, first, rests. -/
theorem L_T {n : Nat} (h : n < 2 ^ 63) : (lN n).toInt = (n : Int) := lg_ofNat_toInt h
theorem L_le {a b : Nat} (ha : a < 2 ^ 63) (hb : b < 2 ^ 63) : lN a ≤ lN b ↔ a ≤ b := by
  rw [Int64.le_iff_toInt_le, L_T ha, L_T hb]; omega
theorem L_lt {a b : Nat} (ha : a < 2 ^ 63) (hb : b < 2 ^ 63) : lN a < lN b ↔ a < b := by
  rw [Int64.lt_iff_toInt_lt, L_T ha, L_T hb]; omega
theorem L_eq {a b : Nat} (ha : a < 2 ^ 63) (hb : b < 2 ^ 63) : lN a = lN b ↔ a = b := by
  rw [← Int64.toInt_inj, L_T ha, L_T hb]; omega
theorem L_div {a d : Nat} (ha : a < 2 ^ 63) (h0 : 0 < d) (hd : d < 2 ^ 63) : lN a / lN d = lN (a / d) := by
  have h1 : a / d ≤ a := Nat.div_le_self _ _
  apply Int64.toInt_inj.mp
  rw [lg_ldiv_nonneg (by rw [L_T ha]; omega) (by rw [L_T hd]; omega), L_T ha, L_T hd, L_T (by omega)]
  exact (Int.natCast_ediv a d).symm
theorem L_rem {a d : Nat} (ha : a < 2 ^ 63) (h0 : 0 < d) (hd : d < 2 ^ 63) : lN a - lN a / lN d * lN d = lN (a % d) := by
  rw [L_div ha h0 hd, lN_mul, lN_sub (Nat.div_mul_le_self _ _), k_mod]
theorem L_cs (x : Int64) {M : Nat} (hM : M < 2 ^ 63) : (x < 0 ∨ lN M < x) ∨ ∃ k, k ≤ M ∧ x = lN k := by
  by_cases h1 : x < 0
  · exact Or.inl (Or.inl h1)
  by_cases h2 : lN M < x
  · exact Or.inl (Or.inr h2)
  · right
    have e0 : (0 : Int64).toInt = 0 := by decide
    rw [Int64.lt_iff_toInt_lt, e0] at h1
    rw [Int64.lt_iff_toInt_lt, L_T hM] at h2
    refine ⟨x.toInt.toNat, by omega, ?_⟩
    apply Int64.toInt_inj.mp
    rw [L_T (by omega)]
    omega
theorem r_winL {x A B : Int64} (h : abJ) : fX12_within x A B h = some (bI (!decide (x < A ∨ B < x))) := by
  unfold fX12_within
  simp only [lg_cmp_lt, lg_cmp_gt]
  by_cases h1 : x < A
  · rw [if_pos h1]; simp [h1]; rfl
  · rw [if_neg h1]
    by_cases h2 : B < x
    · rw [if_pos h2]; simp [h2]; rfl
    · rw [if_neg h2]; simp [h1, h2]; rfl
theorem LN_exL {m : MoT} {f s : Nat} (hO : MO m) : ∀ (k L : Nat) (g : Nat → Nat) (c : Option Nat), L + k = 4374 → WI m f s L g c → ∃ L g t, LN m f s L g t := by
  intro k
  induction k with
  | zero =>
    intro L g c hL hW
    cases c with
    | none => exact ⟨L, g, none, WI_none hW⟩
    | some x =>
      by_cases hc : ∃ j, j < L ∧ g j = x
      · obtain ⟨j, hj, e⟩ := hc
        subst e
        exact ⟨L, g, some j, WI_some hW hj⟩
      · have := WI_lt hO hW (fun i hi e => hc ⟨i, hi, e⟩)
        omega
  | succ k ih =>
    intro L g c hL hW
    cases c with
    | none => exact ⟨L, g, none, WI_none hW⟩
    | some x =>
      by_cases hc : ∃ j, j < L ∧ g j = x
      · obtain ⟨j, hj, e⟩ := hc
        subst e
        exact ⟨L, g, some j, WI_some hW hj⟩
      · exact ih (L + 1) (ups g L x) (nx m f x) (by omega) (WI_push hO hW (fun i hi e => hc ⟨i, hi, e⟩))
theorem LN_ex {m : MoT} {f s : Nat} (hO : MO m) (hs : SV m s) : ∃ L g t, LN m f s L g t := LN_exL hO 4374 0 (fun _ => 0) (some s) (by omega) (WI_0 hs _)
/-- the stand of all that is -/
def aN (A : AbT) : Nat := 6 * sA (aS A) + sW (aS A)
theorem aN_SV {A : AbT} (hW : WF A) : SV (aM A) (aN A) := by
  have h1 := hW.2.1.1
  have h6 := hW.1.2.1
  unfold aN
  refine ⟨?_, ?_⟩
  · rw [show (6 * sA (aS A) + sW (aS A)) % 6 = sW (aS A) by omega]; exact h1
  · rw [show (6 * sA (aS A) + sW (aS A)) / 6 = sA (aS A) by omega]; exact hW.2.1.2.1
theorem c_code {A : AbT} {h : abJ} (hR : RC A h) : fX9_code 12 h = some (nI (aN A)) := by
  unfold fX9_code
  rw [hR.2.1.1, hR.2.1.2.1, show (6 : Int32) = nI 6 from rfl, pk_mul, nI_add, Nat.mul_comm]
  rfl
theorem r_now {A : AbT} {h : abJ} (hW : WF A) (hR : RR A h) : fX12_standNow h = some (nI (aN A)) := r_standNow hR.1 hW.1.2.1 (WF_a hW).1 hR.2.1
/-- the class's walk, the reference's line, with a line that is known -/
theorem c_walkA {A : AbT} {h : abJ} {s L : Nat} {g : Nat → Nat} {t : Option Nat} (hW : WF A) (hR : RC A h) (hs : SV (aM A) s) (hL : LN (aM A) (sF (aS A)) s L g t) : Ok (fX2_walk (h.1 12 2) (nI s) h) (fun h' => h'.1 32 4 = nI L ∧ h'.1 32 5 = oI t ∧ (∀ i, i < L → h'.1 30 i = nI (g i)) ∧ fr [30, 31, 32] [] h h') := by
  rw [hR.2.1.2.2.1]
  refine (c_walk hW.1 hW.2.1.2.2 hs hR.1 hR.2.2.1 hR.2.2.2.1).mono (fun h' hr => ?_)
  obtain ⟨L', g', t', q1, q2, q3, q4, q5⟩ := hr
  obtain ⟨e1, e2, e3⟩ := LN_u hL q1
  subst e1 e2
  exact ⟨q2, q3, fun i hi => by rw [q4 i hi, e3 i hi], q5⟩
theorem r_lineA {A : AbT} {h : abJ} {s L : Nat} {g : Nat → Nat} {t : Option Nat} (hW : WF A) (hR : RR A h) (hs : SV (aM A) s) (hL : LN (aM A) (sF (aS A)) s L g t) : Ok (fX12_laysLine (nI s) h) (fun h' => h'.1 64 22 = nI L ∧ h'.1 64 23 = oI t ∧ (∀ i, i < L → h'.1 72 i = nI (g i)) ∧ frR [22, 23] [69, 70, 72, 73] [] h h') := by
  refine (r_laysLine hW.1 hW.2.1.2.2 hs hR.1 hR.2.1.2.2.1).mono (fun h' hr => ?_)
  obtain ⟨L', g', t', q1, q2, q3, q4, q5⟩ := hr
  obtain ⟨e1, e2, e3⟩ := LN_u hL q1
  subst e1 e2
  exact ⟨q2, q3, fun i hi => by rw [q4 i hi, e3 i hi], q5⟩
/-- the stand behind n steps -/
def LA (L : Nat) (g : Nat → Nat) (t : Option Nat) (n : Nat) : Nat := if n < L then g n else match t with | none => g (L - 1) | some j => g (j + (n - j) % (L - j))
theorem LA_i {L : Nat} {g : Nat → Nat} {t : Option Nat} (n : Nat) (hL : 1 ≤ L) (ht : ∀ j, t = some j → j < L) : ∃ i, i < L ∧ LA L g t n = g i := by
  unfold LA
  by_cases h : n < L
  · rw [if_pos h]; exact ⟨n, h, rfl⟩
  · rw [if_neg h]
    cases t with
    | none => exact ⟨L - 1, by omega, rfl⟩
    | some j =>
      have := ht j rfl
      have h2 := Nat.mod_lt (n - j) (show 0 < L - j by omega)
      exact ⟨j + (n - j) % (L - j), by omega, rfl⟩
theorem oI_ne {j : Nat} (h : j < 2 ^ 31) : ¬ nI j = -1 := fun q => (ab_n_eq (b := 1) h (by omega) (by omega)).mp q
theorem c_standBehind {h : abJ} {L n : Nat} {g : Nat → Nat} {t : Option Nat} (hL : 1 ≤ L) (hL2 : L ≤ 4374) (ht : ∀ j, t = some j → j < L) (h4 : h.1 32 4 = nI L) (h5 : h.1 32 5 = oI t) (hp : ∀ i, i < L → h.1 30 i = nI (g i)) (hn : n ≤ 1000000000000000) : fX2_standBehind (lN n) h = some (nI (LA L g t n)) := by
  unfold fX2_standBehind LA
  simp only [lg_cmp_lt, lg_cmp_ge]
  rw [h4, h5, show (0 : Int64) = lN 0 from rfl, if_neg (by rw [L_lt (by omega) (by omega)]; omega), if_pos (by rw [show (1 : Int32) = nI 1 from rfl, nI_leI (by omega) (by omega)]; exact hL), nI_l (by omega)]
  by_cases c : n < L
  · rw [if_neg (by rw [L_le (by omega) (by omega)]; omega), if_pos c, lN_i, nI_clamp (by omega), ab_askP (ixN (by omega) (by omega)), hp n c]
  · rw [if_pos (by rw [L_le (by omega) (by omega)]; omega), if_neg c]
    cases t with
    | none => rw [if_pos (show oI none = -1 from rfl), pk_s1 hL, nI_clamp (by omega), ab_askP (ixN (by omega) (by omega)), hp _ (by omega)]
    | some j =>
      have hj := ht j rfl
      have h2 := Nat.mod_lt (n - j) (show 0 < L - j by omega)
      rw [show oI (some j) = nI j from rfl, if_neg (oI_ne (by omega)), pk_sub (by omega), if_pos (by rw [show (1 : Int32) = nI 1 from rfl, nI_leI (by omega) (by omega)]; omega), nI_l (by omega), nI_l (by omega), lN_sub (by omega), L_rem (by omega) (by omega) (by omega), lN_i, nI_add, nI_clamp (by omega), ab_askP (by rw [L_eq (by omega) (by omega)]; omega), ab_askP (ixN (by omega) (by omega)), hp _ (by omega)]
theorem r_lineAt {h : abJ} {L n : Nat} {g : Nat → Nat} {t : Option Nat} (hL : 1 ≤ L) (hL2 : L ≤ 4374) (ht : ∀ j, t = some j → j < L) (h4 : h.1 64 22 = nI L) (h5 : h.1 64 23 = oI t) (hp : ∀ i, i < L → h.1 72 i = nI (g i)) (hn : n ≤ 1000000000000000) : fX12_lineAt (lN n) h = some (nI (LA L g t n)) := by
  unfold fX12_lineAt LA
  simp only [lg_cmp_lt, lg_cmp_ge]
  rw [h4, h5, nI_l (by omega)]
  by_cases c : n < L
  · rw [if_neg (by rw [L_le (by omega) (by omega)]; omega), if_pos c, lN_i, nI_clamp (by omega), ab_askP (ixN (by omega) (by omega)), hp n c]
  · rw [if_pos (by rw [L_le (by omega) (by omega)]; omega), if_neg c]
    cases t with
    | none => rw [if_pos (show oI none = -1 from rfl), pk_s1 hL, nI_clamp (by omega), ab_askP (ixN (by omega) (by omega)), hp _ (by omega)]
    | some j =>
      have hj := ht j rfl
      have h2 := Nat.mod_lt (n - j) (show 0 < L - j by omega)
      rw [show oI (some j) = nI j from rfl, if_neg (oI_ne (by omega)), pk_sub (by omega), nI_l (by omega), nI_l (by omega), lN_sub (by omega), L_rem (by omega) (by omega) (by omega), lN_i, nI_add, nI_clamp (by omega), show (0 : Int64) = lN 0 from rfl, ab_askP (by rw [L_eq (by omega) (by omega)]; omega), ab_askP (ixN (by omega) (by omega)), hp _ (by omega)]
theorem far_ro {α : Type} {c r : Int64 → abJ → Option (α × abJ)} (x : Int64) {v0 : α} (hc : ∀ h x, (x < 0 ∨ lN 1000000000000000 < x) → c x h = some (v0, h)) (hr : ∀ h x, (x < 0 ∨ lN 1000000000000000 < x) → r x h = some (v0, ab_wI h 64 0 0)) (k : ∀ A n, WF A → n ≤ 1000000000000000 → ∃ v, (∀ h, RC A h → Ok (c (lN n) h) (fun x => x.1 = v ∧ fr sc0 [41] h x.2)) ∧ (∀ h, RR A h → Ok (r (lN n) h) (fun x => x.1 = v ∧ frR sk1 sc1 [80, 81] h x.2))) : call2 (c x) (r x) := by
  refine call2_ro (fun A hW => ?_)
  rcases L_cs x (M := 1000000000000000) (by omega) with hx | ⟨n, hn, rfl⟩
  · refine ⟨v0, fun h _ => ?_, fun h _ => ?_⟩
    · rw [hc h x hx]; exact Ok.some ⟨rfl, fr_r _ _ _⟩
    · rw [hr h x hx]; exact Ok.some ⟨rfl, frR_64 (frR_r _ _ _ _) (by decide)⟩
  · exact k A n hW hn
theorem far_c {α : Type} {x : Int64} {a b : Option α} (hx : x < 0 ∨ lN 1000000000000000 < x) : (if lg_cmp x 0 < 0 then a else if lg_cmp x 1000000000000000 ≤ 0 then b else a) = a := by
  simp only [lg_cmp_lt, lg_cmp_le]
  rcases hx with hx | hx
  · rw [if_pos hx]
  · by_cases c : x < 0
    · rw [if_pos c]
    · rw [if_neg c, if_neg (by rw [Int64.not_le]; exact hx)]
theorem far_d {α : Type} {n : Nat} {a b : Option α} (hn : n ≤ 1000000000000000) : (if lg_cmp (lN n) 0 < 0 then a else if lg_cmp (lN n) 1000000000000000 ≤ 0 then b else a) = b := by
  simp only [lg_cmp_lt, lg_cmp_le]
  rw [if_neg (by rw [show (0 : Int64) = lN 0 from rfl, L_lt (by omega) (by omega)]; omega), if_pos (by rw [show (1000000000000000 : Int64) = lN 1000000000000000 from rfl, L_le (by omega) (by omega)]; omega)]
theorem far_w {x : Int64} (h : abJ) (hx : x < 0 ∨ lN 1000000000000000 < x) : fX12_within x 0 1000000000000000 h = some (nI 0) := by
  rw [r_winL, decide_eq_true (show x < 0 ∨ 1000000000000000 < x from hx)]; rfl
theorem far_v {n : Nat} (h : abJ) (hn : n ≤ 1000000000000000) : fX12_within (lN n) 0 1000000000000000 h = some (nI 1) := by
  rw [r_winL, decide_eq_false (show ¬ (lN n < 0 ∨ 1000000000000000 < lN n) from fun q => by
    rw [show (0 : Int64) = lN 0 from rfl, show (1000000000000000 : Int64) = lN 1000000000000000 from rfl, L_lt (by omega) (by omega), L_lt (by omega) (by omega)] at q; omega)]; rfl
theorem fr30 {h h' : abJ} (a : fr [30, 31, 32] [] h h') : fr sc0 [41] h h' := fr_m a (by decide) (by simp)
theorem fr22 {h h0 h' : abJ} (f0 : frR sk1 sc1 [80, 81] h h0) (a : frR [22, 23] [69, 70, 72, 73] [] h0 h') : frR sk1 sc1 [80, 81] h h' := frR_t f0 (frR_m a (by decide) (by decide) (by simp))
theorem call_at (x : Int64) : call2 (fX11_at x) (fX12_at x) := by
  refine far_ro x (fun h x hx => by unfold fX11_at; exact far_c hx) (fun h x hx => by unfold fX12_at; rw [far_w _ hx]; rfl) (fun A n hW hn => ?_)
  obtain ⟨L, g, t, hL⟩ := LN_ex (f := sF (aS A)) hW.1 (aN_SV hW)
  have hL2 := LN_le hW.1 hL
  obtain ⟨i, hi, ei⟩ := LA_i (g := g) (t := t) n hL.1 hL.2.2.2.2.2.2
  have hv := SV_lt hW.1 (hL.2.2.1 i hi)
  refine ⟨nI (LA L g t n % 6), fun h hR => ?_, fun h hR => ?_⟩
  · unfold fX11_at
    rw [far_d hn, c_code hR, ab_bindS]
    refine Ok.bind (c_walkA hW hR (aN_SV hW) hL) (fun h1 hr => ?_)
    rw [c_standBehind hL.1 hL2 hL.2.2.2.2.2.2 hr.1 hr.2.1 hr.2.2.1 hn, ab_bindS, show (6 : Int32) = nI 6 from rfl, pk_rem (by omega) (by omega) (by omega)]
    exact Ok.some ⟨rfl, fr30 hr.2.2.2⟩
  · unfold fX12_at
    generalize e0 : ab_wI h 64 0 0 = h0; have f0 : frR sk1 sc1 [80, 81] h h0 := (by subst e0; exact frR_64 (frR_r _ _ _ _) (by decide)); have hR0 : RR A h0 := (RR_sc hR f0).1
    rw [far_v _ hn, ab_bindS]
    refine Ok.neg (by decide) ?_
    rw [r_now hW hR0, ab_bindS]
    refine Ok.bind (r_lineA hW hR0 (aN_SV hW) hL) (fun h1 hr => ?_)
    rw [r_lineAt hL.1 hL2 hL.2.2.2.2.2.2 hr.1 hr.2.1 hr.2.2.1 hn, ab_bindS, show (6 : Int32) = nI 6 from rfl, pk_rem (by omega) (by omega) (by omega)]
    exact Ok.some ⟨rfl, fr22 f0 hr.2.2.2⟩
theorem call_arms (x : Int64) : call2 (fX11_arms x) (fX12_arms x) := by
  refine far_ro x (fun h x hx => by unfold fX11_arms; exact far_c hx) (fun h x hx => by unfold fX12_arms; rw [far_w _ hx]; rfl) (fun A n hW hn => ?_)
  obtain ⟨L, g, t, hL⟩ := LN_ex (f := sF (aS A)) hW.1 (aN_SV hW)
  have hL2 := LN_le hW.1 hL
  obtain ⟨i, hi, ei⟩ := LA_i (g := g) (t := t) n hL.1 hL.2.2.2.2.2.2
  have hv := SV_lt hW.1 (hL.2.2.1 i hi)
  refine ⟨nI (LA L g t n / 6), fun h hR => ?_, fun h hR => ?_⟩
  · unfold fX11_arms
    rw [far_d hn, c_code hR, ab_bindS]
    refine Ok.bind (c_walkA hW hR (aN_SV hW) hL) (fun h1 hr => ?_)
    rw [c_standBehind hL.1 hL2 hL.2.2.2.2.2.2 hr.1 hr.2.1 hr.2.2.1 hn, ab_bindS, show (6 : Int32) = nI 6 from rfl, pk_div (by omega) (by omega) (by omega)]
    exact Ok.some ⟨rfl, fr30 hr.2.2.2⟩
  · unfold fX12_arms
    generalize e0 : ab_wI h 64 0 0 = h0; have f0 : frR sk1 sc1 [80, 81] h h0 := (by subst e0; exact frR_64 (frR_r _ _ _ _) (by decide)); have hR0 : RR A h0 := (RR_sc hR f0).1
    rw [far_v _ hn, ab_bindS]
    refine Ok.neg (by decide) ?_
    rw [r_now hW hR0, ab_bindS]
    refine Ok.bind (r_lineA hW hR0 (aN_SV hW) hL) (fun h1 hr => ?_)
    rw [r_lineAt hL.1 hL2 hL.2.2.2.2.2.2 hr.1 hr.2.1 hr.2.2.1 hn, ab_bindS, show (6 : Int32) = nI 6 from rfl, pk_div (by omega) (by omega) (by omega)]
    exact Ok.some ⟨rfl, fr22 f0 hr.2.2.2⟩
theorem call_rests : call2 fX11_rests fX12_rests := by
  refine call2_ro (fun A hW => ?_)
  obtain ⟨L, g, t, hL⟩ := LN_ex (f := sF (aS A)) hW.1 (aN_SV hW)
  have hL2 := LN_le hW.1 hL
  have h1L := hL.1
  refine ⟨if t = none then nI (L - 1) else -1, fun h hR => ?_, fun h hR => ?_⟩
  · unfold fX11_rests
    rw [c_code hR, ab_bindS]
    refine Ok.bind (c_walkA hW hR (aN_SV hW) hL) (fun h1 hr => ?_)
    rw [hr.1, hr.2.1, pk_s1 h1L]
    cases t with
    | none => exact Ok.pos rfl (Ok.some ⟨rfl, fr30 hr.2.2.2⟩)
    | some j =>
      have := hL.2.2.2.2.2.2 j rfl
      exact Ok.neg (oI_ne (by omega)) (Ok.some ⟨rfl, fr30 hr.2.2.2⟩)
  · unfold fX12_rests
    generalize e0 : ab_wI h 64 0 0 = h0; have f0 : frR sk1 sc1 [80, 81] h h0 := (by subst e0; exact frR_64 (frR_r _ _ _ _) (by decide)); have hR0 : RR A h0 := (RR_sc hR f0).1
    rw [r_now hW hR0, ab_bindS]
    refine Ok.bind (r_lineA hW hR0 (aN_SV hW) hL) (fun h1 hr => ?_)
    rw [hr.1, hr.2.1, pk_s1 h1L]
    cases t with
    | none => exact Ok.pos rfl (Ok.some ⟨rfl, fr22 f0 hr.2.2.2⟩)
    | some j =>
      have := hL.2.2.2.2.2.2 j rfl
      exact Ok.neg (oI_ne (by omega)) (Ok.some ⟨rfl, fr22 f0 hr.2.2.2⟩)
theorem call_round (x : Int32) : call2 (fX11_round x) (fX12_round x) := by
  refine call2_ro (fun A hW => ?_)
  by_cases cx : x < nI 0 ∨ nI 1 < x
  · refine ⟨-2, fun h hR => ?_, fun h hR => ?_⟩
    · unfold fX11_round
      by_cases c1 : x < 0
      · exact Ok.pos c1 (Ok.some ⟨rfl, fr_r _ _ _⟩)
      · exact Ok.neg c1 (Ok.neg (by rw [Int32.not_le]; exact cx.resolve_left c1) (Ok.some ⟨rfl, fr_r _ _ _⟩))
    · unfold fX12_round
      generalize e0 : ab_wI h 64 0 0 = h0; have f0 : frR sk1 sc1 [80, 81] h h0 := (by subst e0; exact frR_64 (frR_r _ _ _ _) (by decide)); have hR0 : RR A h0 := (RR_sc hR f0).1
      rw [r_win h0 (a := nI 0) (b := nI 1) (A := 0) (B := 1) rfl rfl, ab_bindS, decide_eq_true cx]
      exact Ok.pos rfl (Ok.some ⟨rfl, f0⟩)
  have c0 : ¬ x < 0 := fun q => cx (Or.inl q)
  have c1 : x ≤ 1 := Int32.not_lt.mp (fun q => cx (Or.inr q))
  obtain ⟨L, g, t, hL⟩ := LN_ex (f := sF (aS A)) hW.1 (aN_SV hW)
  have hL2 := LN_le hW.1 hL
  have h1L := hL.1
  refine ⟨match t with | none => -1 | some j => if x = 0 then nI j else nI (L - j), fun h hR => ?_, fun h hR => ?_⟩
  · unfold fX11_round
    refine Ok.neg c0 (Ok.pos c1 ?_)
    rw [c_code hR, ab_bindS]
    refine Ok.bind (c_walkA hW hR (aN_SV hW) hL) (fun h1 hr => ?_)
    rw [hr.1, hr.2.1]
    cases t with
    | none => exact Ok.pos rfl (Ok.some ⟨rfl, fr30 hr.2.2.2⟩)
    | some j =>
      have := hL.2.2.2.2.2.2 j rfl
      refine Ok.neg (oI_ne (by omega)) ?_
      rw [show oI (some j) = nI j from rfl, pk_sub (by omega)]
      by_cases cz : x = 0
      · exact Ok.pos cz (Ok.some ⟨by simp only [if_pos cz], fr30 hr.2.2.2⟩)
      · exact Ok.neg cz (Ok.some ⟨by simp only [if_neg cz], fr30 hr.2.2.2⟩)
  · unfold fX12_round
    generalize e0 : ab_wI h 64 0 0 = h0; have f0 : frR sk1 sc1 [80, 81] h h0 := (by subst e0; exact frR_64 (frR_r _ _ _ _) (by decide)); have hR0 : RR A h0 := (RR_sc hR f0).1
    rw [r_win h0 (a := nI 0) (b := nI 1) (A := 0) (B := 1) rfl rfl, ab_bindS, decide_eq_false cx]
    refine Ok.neg (by decide) ?_
    rw [r_now hW hR0, ab_bindS]
    refine Ok.bind (r_lineA hW hR0 (aN_SV hW) hL) (fun h1 hr => ?_)
    rw [hr.1, hr.2.1]
    cases t with
    | none => exact Ok.pos rfl (Ok.some ⟨rfl, fr22 f0 hr.2.2.2⟩)
    | some j =>
      have := hL.2.2.2.2.2.2 j rfl
      refine Ok.neg (oI_ne (by omega)) ?_
      rw [show oI (some j) = nI j from rfl, pk_sub (by omega)]
      by_cases cz : x = 0
      · exact Ok.pos cz (Ok.some ⟨by simp only [if_pos cz], fr22 f0 hr.2.2.2⟩)
      · exact Ok.neg cz (Ok.some ⟨by simp only [if_neg cz], fr22 f0 hr.2.2.2⟩)
