/-! again: the class, the reference, the call. -/
theorem c_ag130 {m : MoT} {f s S L p : Nat} {g g0 : Nat → Nat} {c : Option Nat} {F : List Nat} {y2 y5 : Int32} {h0 h : abJ} {K : Int32 → Int32 → Int32 → Int32 → Int32 → Int32 → abJ → Option (Int32 × abJ)} {Q : Int32 × abJ → Prop} (hO : MO m) (hL : L ≤ 4374) (hF : nd F) (hFm : ∀ u, u ∈ F ↔ cyc m f u ∧ ∃ i, i < S ∧ g i = u) (hA : AW m f s S L g c (h.1 31)) (hg0 : ∀ i, i < S → g i = g0 i) (hfr : fr [31] [] h0 h) (hc : ∀ x, c = some x → ∃ j, j < L ∧ g j = x ∧ h.1 31 x = nI j) (hK : ∀ L g F h', AG m f L g F h' → (∃ i, i < L ∧ g i = s) → (∀ i, i < S → g i = g0 i) → S ≤ L → L ≤ 4374 → fr [31] [] h0 h' → Ok (K (nI f) y2 (nI F.length) (nI L) y5 (nI (p + 1)) h') Q) : Ok (fX8_countAgain_J130 K (nI f) y2 (nI F.length) (nI L) y5 (nI p) (nI S) (oI c) h) Q := by
  have hS := hA.2.2.2.1
  obtain ⟨e1, e2⟩ := AW_end hO hL hA hF hFm (fun x hx => by obtain ⟨j, a, b, _⟩ := hc x hx; exact ⟨j, a, b⟩)
  have hd := SN_d hA.2.1 (by omega)
  have hst : ∃ i, i < L ∧ g i = s := by
    by_cases e : S = L
    · obtain ⟨j, a, b, _⟩ := hc s (hA.2.2.2.2.2.1 e)
      exact ⟨j, a, b⟩
    · exact ⟨S, by omega, (hA.2.2.2.2.2.2.1 (by omega)).1⟩
  unfold fX8_countAgain_J130 fX8_countAgain_J168
  rw [nI_1]
  cases c with
  | none => exact Ok.pos (by decide) (hK L g F h (e1 (fun j q => by cases q)) hst hg0 hS hL hfr)
  | some x =>
    obtain ⟨j, hj, ex, ej⟩ := hc x rfl
    have hx4 := SV_lt hO (hA.2.2.2.2.2.2.2 x rfl)
    rw [show oI (some x) = nI x from rfl, nI_clamp (by omega), ej]
    refine Ok.neg (by rw [show (0 : Int32) = nI 0 from rfl, nI_ltI (by omega) (by omega)]; omega) (Ok.neg (by rw [show (4374 : Int32) = nI 4374 from rfl, nI_leI (by omega) (by omega)]; omega) (Ok.ask (ixN (by omega) (by omega)) ?_))
    by_cases cj : j < S
    · refine Ok.pos (by rw [nI_ltI (by omega) (by omega)]; exact cj) (hK L g F h (e1 (fun q hq hqL => ?_)) hst hg0 hS hL hfr)
      have hq := Option.some.inj hq
      have := hd j q hj hqL (by rw [ex, hq])
      omega
    · refine Ok.neg (by rw [nI_ltI (by omega) (by omega)]; exact cj) (Ok.ask (ixN (by omega) (by omega)) ?_)
      rw [pk_sub (by omega), nI_add]
      have := hK L g (F ++ rng g (L - j) j) h (e2 j (by rw [ex]) (by omega) hj) hst hg0 hS hL hfr
      rw [List.length_append, rng_l] at this
      exact this
theorem ag_lt {m : MoT} {L x : Nat} {g : Nat → Nat} (hO : MO m) (hS : ∀ i, i < L → SV m (g i)) (hd : ∀ i j, i < L → j < L → g i = g j → i = j) (hxs : SV m x) (hx : ∀ i, i < L → g i ≠ x) : L < 4374 := by
  have := pig 4374 (L + 1) (ups g L x) (fun i hi => by
    by_cases e : i = L
    · subst e; rw [ups_s]; exact SV_lt hO hxs
    · rw [ups_n e]; exact SV_lt hO (hS i (by omega))) (fun i j h1 h2 e => by
    rw [ups_n (show i ≠ L by omega)] at e
    by_cases ej : j = L
    · subst ej; rw [ups_s] at e; exact hx i h1 e
    · rw [ups_n ej] at e
      have := hd i j (by omega) (by omega) e
      omega)
  omega
theorem c_ag71 {m : MoT} {f s S p : Nat} {g0 : Nat → Nat} {F : List Nat} {y2 y5 : Int32} {h0 : abJ} {K : Int32 → Int32 → Int32 → Int32 → Int32 → Int32 → abJ → Option (Int32 × abJ)} {Q : Int32 × abJ → Prop} (hO : MO m) (hf : f < 10) (hM0 : cM m 1 h0) (hK0 : cK m h0) (hR0 : rdy m f h0) (hF : nd F) (hFm : ∀ u, u ∈ F ↔ cyc m f u ∧ ∃ i, i < S ∧ g0 i = u) (hK : ∀ L g F h', AG m f L g F h' → (∃ i, i < L ∧ g i = s) → (∀ i, i < S → g i = g0 i) → S ≤ L → L ≤ 4374 → fr [31] [] h0 h' → Ok (K (nI f) y2 (nI F.length) (nI L) y5 (nI (p + 1)) h') Q) : ∀ (k n L : Nat) (g : Nat → Nat) (c : Option Nat) (h : abJ), L + k = 4374 → k < n → AW m f s S L g c (h.1 31) → (∀ i, i < S → g i = g0 i) → fr [31] [] h0 h → Ok (fX8_countAgain_L71 K n (nI f) y2 (nI F.length) (nI L) y5 (nI p) (nI S) (oI c) h) Q := by
  have mk : ∀ (L : Nat) (g : Nat → Nat) (c : Option Nat) (h : abJ), L ≤ 4374 → AW m f s S L g c (h.1 31) → (∀ i, i < S → g i = g0 i) → fr [31] [] h0 h → (∀ x, c = some x → ∃ j, j < L ∧ g j = x ∧ h.1 31 x = nI j) → Ok (fX8_countAgain_J130 K (nI f) y2 (nI F.length) (nI L) y5 (nI p) (nI S) (oI c) h) Q := by
    intro L g c h hL hA hg hfr hc
    refine c_ag130 hO hL hF (fun u => (hFm u).trans ?_) hA hg hfr hc hK
    exact ⟨fun ⟨a, i, hi, e⟩ => ⟨a, i, hi, by rw [hg i hi]; exact e⟩, fun ⟨a, i, hi, e⟩ => ⟨a, i, hi, by rw [← hg i hi]; exact e⟩⟩
  intro k
  induction k with
  | zero =>
    intro n L g c h hL hn hA hg hfr
    obtain ⟨n, rfl⟩ : ∃ n0, n = n0 + 1 := ⟨n - 1, by omega⟩
    rw [fX8_countAgain_L71]
    refine Ok.pos (by rw [show (4374 : Int32) = nI 4374 from rfl, nI_leI (by omega) (by omega)]; omega) (mk L g c h (by omega) hA hg hfr (fun x hx => ?_))
    have hxs := hA.2.2.2.2.2.2.2 x hx
    rcases SN_cs hA.2.1 (SV_N hO hxs) (by omega) with ⟨_, q⟩ | ⟨_, q⟩
    · have := ag_lt hO hA.1 (SN_d hA.2.1 (by omega)) hxs q
      omega
    · exact q
  | succ k ih =>
    intro n L g c h hL hn hA hg hfr
    obtain ⟨n, rfl⟩ : ∃ n0, n = n0 + 1 := ⟨n - 1, by omega⟩
    rw [fX8_countAgain_L71]
    refine Ok.neg (by rw [show (4374 : Int32) = nI 4374 from rfl, nI_leI (by omega) (by omega)]; omega) ?_
    cases c with
    | none => exact Ok.pos (by decide) (mk L g none h (by omega) hA hg hfr (fun x hx => by cases hx))
    | some x =>
      have hxs := hA.2.2.2.2.2.2.2 x rfl
      have hx4 := SV_lt hO hxs
      rw [show oI (some x) = nI x from rfl]
      refine Ok.neg (by rw [show (0 : Int32) = nI 0 from rfl, nI_ltI (by omega) (by omega)]; omega) (Ok.neg (by rw [show (4374 : Int32) = nI 4374 from rfl, nI_leI (by omega) (by omega)]; omega) ?_)
      rw [nI_clamp (show x < 2 ^ 31 by omega)]
      refine Ok.ask (ixN (by omega) (by omega)) ?_
      rcases SN_cs hA.2.1 (SV_N hO hxs) (by omega) with ⟨q1, q⟩ | ⟨q1, q⟩
      · refine Ok.pos q1 (Ok.ask (ixN (by omega) (by omega)) ?_)
        have f2 : fr [31] [] h0 (ab_wI h 31 x (nI L)) := fr_w hfr (by simp)
        rw [c_nextStand hO (cM_fr hM0 f2 (by decide) (by decide) (by decide) (by decide)) (cK_fr hK0 f2 (by decide) (by decide)) (rdy_fr hR0 f2 (by decide)) hf hxs, ab_bindS, nI_1]
        refine ih n (L + 1) (ups g L x) (nx m f x) _ (by omega) (by omega) ?_ (fun i hi => ?_) f2
        · rw [ab_w1f]; exact AW_push hO hA q
        · have := hA.2.2.2.1
          rw [ups_n (by omega)]; exact hg i hi
      · refine Ok.neg q1 (mk L g (some x) h (by omega) hA hg hfr (fun y hy => ?_))
        cases hy
        exact q
theorem AG_AW {m : MoT} {f s L : Nat} {g : Nat → Nat} {F : List Nat} {h : abJ} (hA : AG m f L g F h) (hs : SV m s) : AW m f s L L g (some s) (h.1 31) := ⟨hA.1, hA.2.1, fun i t hi e => hA.2.2.1 i t hi e, Nat.le_refl _, fun i h1 h2 => by omega, fun _ => rfl, fun q => by omega, fun x hx => by cases hx; exact hs⟩
theorem c_ag45 {m : MoT} {f a : Nat} {y2 : Int32} {h0 : abJ} {K : Int32 → Int32 → Int32 → Int32 → Int32 → abJ → Option (Int32 × abJ)} {Q : Int32 × abJ → Prop} (hO : MO m) (hf : f < 10) (hM0 : cM m 1 h0) (hK0 : cK m h0) (hR0 : rdy m f h0) (ha : AV m a) (hK : ∀ L g F h', AG m f L g F h' → L ≤ 4374 → (∀ u, SV m u → u / 6 < a + 1 → ∃ i, i < L ∧ g i = u) → fr [31] [] h0 h' → Ok (K (nI f) y2 (nI F.length) (nI L) (nI (a + 1)) h') Q) : ∀ (k n p L : Nat) (g : Nat → Nat) (F : List Nat) (h : abJ), p + k = mP m → k < n → AG m f L g F h → L ≤ 4374 → (∀ u, SV m u → (u / 6 < a ∨ u / 6 = a ∧ u % 6 < p) → ∃ i, i < L ∧ g i = u) → fr [31] [] h0 h → Ok (fX8_countAgain_L45 K n (nI f) y2 (nI F.length) (nI L) (nI a) (nI p) h) Q := by
  have h6 := hO.2.1
  intro k
  induction k with
  | zero =>
    intro n p L g F h hp hn hA hL hv hfr
    obtain ⟨n, rfl⟩ : ∃ n0, n = n0 + 1 := ⟨n - 1, by omega⟩
    have hM := cM_fr hM0 hfr (by decide) (by decide) (by decide) (by decide)
    rw [fX8_countAgain_L45, hM.1]
    refine Ok.pos (by rw [nI_leI (by omega) (by omega)]; omega) ?_
    unfold fX8_countAgain_J174
    rw [nI_1]
    exact hK L g F h hA hL (fun u hu hu2 => hv u hu (by have := hu.1; omega)) hfr
  | succ k ih =>
    intro n p L g F h hp hn hA hL hv hfr
    obtain ⟨n, rfl⟩ : ∃ n0, n = n0 + 1 := ⟨n - 1, by omega⟩
    have hM := cM_fr hM0 hfr (by decide) (by decide) (by decide) (by decide)
    have hs := lnl_a hO ha (show p < mP m by omega)
    rw [fX8_countAgain_L45, hM.1, show (6 : Int32) = nI 6 from rfl, pk_mul, nI_add, Nat.mul_comm a 6]
    refine Ok.neg (by rw [nI_leI (by omega) (by omega)]; omega) ?_
    refine c_ag71 (s := 6 * a + p) (g0 := g) hO hf hM0 hK0 hR0 hA.2.2.2.1 hA.2.2.2.2 (fun L' g' F' h' hA' hst hg' hL1 hL2 hf' => ?_) (4374 - L) ab_N L g (some (6 * a + p)) h (by omega) (by unfold ab_N; omega) (AG_AW hA hs) (fun _ _ => rfl) hfr
    refine ih n (p + 1) L' g' F' h' (by omega) (by omega) hA' hL2 (fun u hu hu2 => ?_) hf'
    by_cases e : u = 6 * a + p
    · rw [e]; exact hst
    · obtain ⟨i, hi, ei⟩ := hv u hu (by omega)
      exact ⟨i, by omega, by rw [hg' i hi]; exact ei⟩
theorem c_ag21 {m : MoT} {f : Nat} {h0 : abJ} (hO : MO m) (hf : f < 10) (hM0 : cM m 1 h0) (hK0 : cK m h0) (hR0 : rdy m f h0) : ∀ (k n a L : Nat) (g : Nat → Nat) (F : List Nat) (h : abJ), a + k = 3 ^ mP m → k < n → AG m f L g F h → L ≤ 4374 → (∀ u, SV m u → u / 6 < a → ∃ i, i < L ∧ g i = u) → fr [31] [] h0 h → Ok (fX8_countAgain_L21 n (nI f) (nI (3 ^ mP m)) (nI F.length) (nI L) (nI a) h) (fun r => r.1 = nI (sg (fun i => if cyb m f i = true then 1 else 0) 4374) ∧ fr [31] [] h0 r.2) := by
  have h6 := hO.2.1
  have h7 := MO_729 hO
  intro k
  induction k with
  | zero =>
    intro n a L g F h ha hn hA hL hv hfr
    obtain ⟨n, rfl⟩ : ∃ n0, n = n0 + 1 := ⟨n - 1, by omega⟩
    rw [fX8_countAgain_L21]
    refine Ok.pos (by rw [nI_leI (by omega) (by omega)]; omega) (Ok.some ⟨?_, hfr⟩)
    have hm : ∀ u, u ∈ F ↔ cyc m f u := fun u => (hA.2.2.2.2 u).trans ⟨fun q => q.1, fun q => ⟨q, hv u q.1 (by have := AV_lt hO q.1.2; omega)⟩⟩
    show nI F.length = _
    rw [nd_len (N := 4374) hA.2.2.2.1 (fun x hx => SV_lt hO ((hm x).mp hx).1)]
    refine congrArg nI (sg_congr (fun i _ => ?_))
    have : decide (i ∈ F) = cyb m f i := by
      refine Bool.eq_iff_iff.mpr ?_
      rw [decide_eq_true_iff, cyb_t, hm]
    rw [this]
  | succ k ih =>
    intro n a L g F h ha hn hA hL hv hfr
    obtain ⟨n, rfl⟩ : ∃ n0, n = n0 + 1 := ⟨n - 1, by omega⟩
    have hM := cM_fr hM0 hfr (by decide) (by decide) (by decide) (by decide)
    rw [fX8_countAgain_L21, c_canShow hO hM (by omega), ab_bindS]
    refine Ok.neg (by rw [nI_leI (by omega) (by omega)]; omega) ?_
    by_cases c : avb m a = true
    · rw [c]
      refine Ok.neg (by decide) ?_
      refine c_ag45 hO hf hM0 hK0 hR0 (avb_t.mp c) (fun L' g' F' h' hA' hL' hv' hf' => ?_) (mP m) ab_N 0 L g F h (by omega) (by unfold ab_N; omega) hA hL (fun u hu hu2 => hv u hu (by omega)) hfr
      exact ih n (a + 1) L' g' F' h' (by omega) (by omega) hA' hL' hv' hf'
    · rw [show avb m a = false by simpa using c]
      refine Ok.pos rfl ?_
      unfold fX8_countAgain_J174
      rw [nI_1]
      refine ih n (a + 1) L g F h (by omega) (by omega) hA hL (fun u hu hu2 => hv u hu ?_) hfr
      have : u / 6 ≠ a := fun e => c (avb_t.mpr (by rw [← e]; exact hu.2))
      omega
