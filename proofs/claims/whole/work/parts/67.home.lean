/-! homing. -/
def hk (m : MoT) (f : Nat) : Nat → Nat → Prop
  | 0, s => hm m (s % 6) = true
  | k + 1, s => hm m (s % 6) = false ∧ ∃ t, nx m f s = some t ∧ hk m f k t
theorem hk_0 {m : MoT} {f s : Nat} : hk m f 0 s ↔ hm m (s % 6) = true := Iff.rfl
theorem hk_s {m : MoT} {f k s : Nat} : hk m f (k + 1) s ↔ (hm m (s % 6) = false ∧ ∃ t, nx m f s = some t ∧ hk m f k t) := Iff.rfl
theorem hk_u {m : MoT} {f : Nat} : ∀ {k k' s : Nat}, hk m f k s → hk m f k' s → k = k'
  | 0, 0, _, _, _ => rfl
  | 0, k' + 1, s, h, h' => by
    have h := hk_0.mp h
    have h' := (hk_s.mp h').1
    rw [h] at h'; cases h'
  | k + 1, 0, s, h, h' => by
    have h' := hk_0.mp h'
    have h := (hk_s.mp h).1
    rw [h] at h'; cases h'
  | k + 1, k' + 1, s, h, h' => by
    obtain ⟨_, t, e, a⟩ := hk_s.mp h
    obtain ⟨_, t', e', a'⟩ := hk_s.mp h'
    rw [e] at e'
    cases e'
    rw [hk_u a a']
def itn (m : MoT) (f s : Nat) : Nat → Nat
  | 0 => s
  | i + 1 => (nx m f (itn m f s i)).getD 0
theorem hk_it {m : MoT} {f k s : Nat} (hO : MO m) (hs : SV m s) (h : hk m f k s) : ∀ i, i ≤ k → hk m f (k - i) (itn m f s i) ∧ SV m (itn m f s i)
  | 0, _ => ⟨h, hs⟩
  | i + 1, hi => by
    obtain ⟨a, b⟩ := hk_it hO hs h i (by omega)
    rw [show k - i = (k - (i + 1)) + 1 by omega] at a
    obtain ⟨_, t, e, a⟩ := hk_s.mp a
    rw [itn, e]
    exact ⟨a, nx_SV hO b e⟩
theorem hk_b {m : MoT} {f k s : Nat} (hO : MO m) (hs : SV m s) (h : hk m f k s) : k < 4374 := by
  have := pig 4374 (k + 1) (itn m f s) (fun i hi => SV_lt hO (hk_it hO hs h i (by omega)).2) (fun i j h1 h2 e => by
    have a := (hk_it hO hs h i (by omega)).1
    have b := (hk_it hO hs h j (by omega)).1
    rw [e] at a
    have := hk_u a b
    omega)
  omega
def HV (m : MoT) (f s : Nat) (o : Option Nat) : Prop := match o with | none => ∀ k, ¬ hk m f k s | some k => hk m f k s
noncomputable def hsO (m : MoT) (f s : Nat) : Option Nat := Classical.epsilon (fun o => HV m f s o)
theorem hsO_s (m : MoT) (f s : Nat) : HV m f s (hsO m f s) := by
  have : ∃ o, HV m f s o := by
    by_cases c : ∃ k, hk m f k s
    · obtain ⟨k, hk⟩ := c
      exact ⟨some k, hk⟩
    · exact ⟨none, fun k hk => c ⟨k, hk⟩⟩
  exact Classical.epsilon_spec this
theorem hsO_n {m : MoT} {f s : Nat} (h : ∀ k, ¬ hk m f k s) : hsO m f s = none := by
  have a := hsO_s m f s
  cases e : hsO m f s with
  | none => rfl
  | some k => rw [e] at a; exact absurd a (h k)
theorem hsO_k {m : MoT} {f s k : Nat} (h : hk m f k s) : hsO m f s = some k := by
  have a := hsO_s m f s
  cases e : hsO m f s with
  | none => rw [e] at a; exact absurd h (a k)
  | some k' => rw [e] at a; rw [hk_u h a]
theorem hsO_b {m : MoT} {f s k : Nat} (hO : MO m) (hs : SV m s) (h : hsO m f s = some k) : k < 4374 := by
  have a := hsO_s m f s
  rw [h] at a
  exact hk_b hO hs a
/-- a way that is gone: its steps -/
theorem WI_up {m : MoT} {f s L x k : Nat} {g : Nat → Nat} (h : WI m f s L g (some x)) (hh : ∀ i, i < L → hm m (g i % 6) = false) (hx : hk m f k x) : ∀ d i, i + d + 1 = L → hk m f (k + d + 1) (g i)
  | 0, i, e => hk_s.mpr ⟨hh i (by omega), x, by have := (h.2.2.2.2.1 (by omega)).2; rw [show L - 1 = i by omega] at this; exact this, hx⟩
  | d + 1, i, e => hk_s.mpr ⟨hh i (by omega), g (i + 1), h.2.2.1 i (by omega), WI_up h hh hx d (i + 1) (by omega)⟩
theorem WI_dn {m : MoT} {f s L : Nat} {g : Nat → Nat} {c : Option Nat} (h : WI m f s L g c) (hh : ∀ i, i < L → hm m (g i % 6) = false) (hx : ∀ x, c = some x → ∀ k, ¬ hk m f k x) : ∀ d i, i + d + 1 = L → ∀ k, ¬ hk m f k (g i)
  | 0, i, e, 0, q => by have := hk_0.mp q; rw [hh i (by omega)] at this; cases this
  | 0, i, e, k + 1, q => by
    obtain ⟨_, t, e1, a⟩ := hk_s.mp q
    have := (h.2.2.2.2.1 (by omega)).2
    rw [show L - 1 = i by omega, e1] at this
    exact hx t this.symm k a
  | d + 1, i, e, 0, q => by have := hk_0.mp q; rw [hh i (by omega)] at this; cases this
  | d + 1, i, e, k + 1, q => by
    obtain ⟨_, t, e1, a⟩ := hk_s.mp q
    rw [h.2.2.1 i (by omega)] at e1
    cases e1
    exact WI_dn h hh hx d (i + 1) (by omega) k a
theorem WI_s {m : MoT} {f s L : Nat} {g : Nat → Nat} {c : Option Nat} (h : WI m f s L g c) : (L = 0 ∧ c = some s) ∨ (0 < L ∧ g 0 = s) := by
  by_cases c0 : L = 0
  · exact Or.inl ⟨c0, h.2.2.2.1 c0⟩
  · exact Or.inr ⟨by omega, (h.2.2.2.2.1 (by omega)).1⟩
def hI (o : Option Nat) : Int32 := match o with | none => -nI 2 | some k => nI k
/-- what is kept of a stand -/
def hin (m : MoT) (f : Nat) (a : Nat → Int32) (x : Nat) : Prop := a x = -nI 1 ∨ a x = hI (hsO m f x)
def pI (i : Nat) : Int32 := if i = 0 then -nI 1 else nI (i - 1)
theorem c_home134 {L k : Nat} {g : Nat → Nat} {h0 : abJ} (hL : L ≤ 4374) (hg : ∀ i, i < L → g i < 4374) (hd : ∀ i j, i < j → j < L → g i ≠ g j) (hp : ∀ i, i < L → h0.1 30 i = nI (g i)) : ∀ (i n : Nat) (h : abJ), i ≤ L → i < n → (∀ q, i ≤ q → q < L → h.1 31 (g q) = nI (k + (L - q))) → (∀ x, (∀ q, q < L → g q ≠ x) → h.1 31 x = h0.1 31 x) → fr [31] [] h0 h → Ok (fX8_stepsHome_L134 n (nI (k + (L - i))) (pI i) h) (fun r => r.1 = nI (k + L) ∧ (∀ q, q < L → r.2.1 31 (g q) = nI (k + (L - q))) ∧ (∀ x, (∀ q, q < L → g q ≠ x) → r.2.1 31 x = h0.1 31 x) ∧ fr [31] [] h0 r.2) := by
  intro i
  induction i with
  | zero =>
    intro n h hi hn h1 h2 h3
    obtain ⟨n, rfl⟩ : ∃ n0, n = n0 + 1 := ⟨n - 1, by omega⟩
    rw [fX8_stepsHome_L134]
    exact Ok.pos (by decide) (Ok.some ⟨rfl, fun q hq => h1 q (by omega) hq, h2, h3⟩)
  | succ i ih =>
    intro n h hi hn h1 h2 h3
    obtain ⟨n, rfl⟩ : ∃ n0, n = n0 + 1 := ⟨n - 1, by omega⟩
    have hgi := hg i (by omega)
    have e30 : h.1 30 i = nI (g i) := by rw [h3.1 30 (by decide)]; exact hp i (by omega)
    have ep : nI i + Int32.ofInt (-1) = pI i := by
      unfold pI
      by_cases c : i = 0
      · subst c; decide
      · rw [if_neg c, ab_d1 (by omega)]
    rw [fX8_stepsHome_L134, show pI (i + 1) = nI i from rfl, ep, nI_clamp (by omega), e30, nI_clamp (by omega), nI_1]
    refine Ok.neg (by rw [show (0 : Int32) = nI 0 from rfl, nI_ltI (by omega) (by omega)]; omega) (Ok.ask (ixN (by omega) (by omega)) (Ok.ask (ixN (by omega) (by omega)) ?_))
    rw [show k + (L - (i + 1)) + 1 = k + (L - i) by omega]
    refine ih n _ (by omega) (by omega) (fun q h4 h5 => ?_) (fun x hx => ?_) (fr_w h3 (by simp))
    · by_cases e : q = i
      · subst e; rw [ab_w1e]
      · rw [ab_w1k (fun e2 => hd i q (by omega) h5 e2.symm)]
        exact h1 q (by omega) h5
    · rw [ab_w1k (fun e2 => hx i (by omega) e2.symm)]
      exact h2 x hx
theorem c_home80 {m : MoT} {f s L : Nat} {g : Nat → Nat} {c : Option Nat} {h : abJ} (hO : MO m) (hM : cM m 1 h) (hW : WI m f s L g c) (hL : L ≤ 4374) (hh : ∀ i, i < L → hm m (g i % 6) = false) (h31 : ∀ i, i < L → h.1 31 (g i) = -nI 2) (hi : ∀ x, SV m x → (∀ i, i < L → g i ≠ x) → hin m f (h.1 31) x) (hp : ∀ i, i < L → h.1 30 i = nI (g i)) (hc : ∀ x, c = some x → hm m (x % 6) = false → h.1 31 x ≠ -nI 1) : Ok (fX8_stepsHome_J80 (oI c) (nI L) h) (fun r => r.1 = hI (hsO m f s) ∧ (∀ x, SV m x → hin m f (r.2.1 31) x) ∧ fr [30, 31] [] h r.2) := by
  have hg : ∀ i, i < L → g i < 4374 := fun i hi => SV_lt hO (hW.1 i hi)
  have never : (∀ x, c = some x → ∀ k, ¬ hk m f k x) → (-2 : Int32) = hI (hsO m f s) ∧ (∀ x, SV m x → hin m f (h.1 31) x) ∧ fr [30, 31] [] h h := by
    intro hx
    have hn := WI_dn hW hh hx
    refine ⟨?_, fun x hx => ?_, fr_r _ _ _⟩
    · rcases WI_s hW with ⟨e0, ec⟩ | ⟨e0, eg⟩
      · rw [hsO_n (hx s ec)]; rfl
      · rw [← eg, hsO_n (hn (L - 1) 0 (by omega))]; rfl
    · by_cases cx : ∃ i, i < L ∧ g i = x
      · obtain ⟨i, hi, rfl⟩ := cx
        exact Or.inr (by rw [h31 i hi, hsO_n (hn (L - 1 - i) i (by omega))]; rfl)
      · exact hi x hx (fun i hi e => cx ⟨i, hi, e⟩)
  have found : ∀ x k, c = some x → hk m f k x → Ok (fX8_stepsHome_J118 (nI L) (nI k) h) (fun r => r.1 = hI (hsO m f s) ∧ (∀ x, SV m x → hin m f (r.2.1 31) x) ∧ fr [30, 31] [] h r.2) := by
    intro x k ec hx
    subst ec
    have hk4 := hk_b hO (hW.2.2.2.2.2 x rfl) hx
    have hu := WI_up hW hh hx
    have ep : nI L - 1 = pI L := by
      unfold pI
      by_cases c : L = 0
      · subst c; decide
      · rw [if_neg c, pk_s1 (by omega)]
    unfold fX8_stepsHome_J118
    rw [ep]
    refine Ok.pos (by rw [show (0 : Int32) = nI 0 from rfl, nI_leI (by omega) (by omega)]; omega) ?_
    have := c_home134 (k := k) hL hg hW.2.1 hp L ab_N h (Nat.le_refl _) (by unfold ab_N; omega) (fun q h1 h2 => by omega) (fun _ _ => rfl) (fr_r _ _ _)
    rw [Nat.sub_self, Nat.add_zero] at this
    refine this.mono (fun r hr => ?_)
    obtain ⟨q1, q2, q3, q4⟩ := hr
    refine ⟨?_, fun y hy => ?_, fr_m q4 (by simp) (by simp)⟩
    · rcases WI_s hW with ⟨e0, ec⟩ | ⟨e0, eg⟩
      · cases ec
        rw [q1, hsO_k hx, e0]; rfl
      · have := hu (L - 1) 0 (by omega)
        rw [eg, show k + (L - 1) + 1 = k + L by omega] at this
        rw [q1, hsO_k this]; rfl
    · by_cases cx : ∃ i, i < L ∧ g i = y
      · obtain ⟨i, hi, rfl⟩ := cx
        have := hu (L - 1 - i) i (by omega)
        rw [show k + (L - 1 - i) + 1 = k + (L - i) by omega] at this
        exact Or.inr (by rw [q2 i hi, hsO_k this]; rfl)
      · have := hi y hy (fun i hi e => cx ⟨i, hi, e⟩)
        unfold hin at this ⊢
        rw [q3 y (fun i hi e => cx ⟨i, hi, e⟩)]
        exact this
  unfold fX8_stepsHome_J80
  cases c with
  | none => exact Ok.pos (by decide) (Ok.some (never (fun x hx => by cases hx)))
  | some x =>
    have hx := hW.2.2.2.2.2 x rfl
    have hx4 := SV_lt hO hx
    rw [show oI (some x) = nI x from rfl, show (6 : Int32) = nI 6 from rfl, pk_rem (show x < 2 ^ 31 by omega) (by omega) (by omega), c_isHome hO hM (by omega), ab_bindS, nI_clamp (by omega)]
    refine Ok.neg (by rw [show (0 : Int32) = nI 0 from rfl, nI_ltI (by omega) (by omega)]; omega) (Ok.pos (by rw [show (4374 : Int32) = nI 4374 from rfl, nI_ltI (by omega) (by omega)]; omega) ?_)
    by_cases ch : hm m (x % 6) = true
    · rw [ch]
      exact Ok.neg (by decide) (found x 0 rfl (hk_0.mpr ch))
    · rw [show hm m (x % 6) = false by simpa using ch]
      refine Ok.pos rfl (Ok.ask (ixN (by omega) (by omega)) ?_)
      have hnev : (∀ k, ¬ hk m f k x) → h.1 31 x = -nI 2 → Ok (fX8_stepsHome_J118 (nI L) (h.1 31 x) h) (fun r => r.1 = hI (hsO m f s) ∧ (∀ x, SV m x → hin m f (r.2.1 31) x) ∧ fr [30, 31] [] h r.2) := by
        intro hn e
        unfold fX8_stepsHome_J118
        rw [e]
        exact Ok.neg (by decide) (Ok.some (never (fun y hy => by cases hy; exact hn)))
      by_cases cx : ∃ i, i < L ∧ g i = x
      · obtain ⟨j, hj, ej⟩ := cx
        refine hnev (fun k hk => ?_) (by rw [← ej]; exact h31 j hj)
        have := WI_up hW hh hk (L - 1 - j) j (by omega)
        rw [ej] at this
        have := hk_u hk this
        omega
      · have hix := (hi x hx (fun i hi e => cx ⟨i, hi, e⟩)).resolve_left (hc x rfl (by simpa using ch))
        have hv := hsO_s m f x
        cases e : hsO m f x with
        | none =>
          rw [e] at hv hix
          exact hnev hv hix
        | some k =>
          rw [e] at hv hix
          rw [hix]
          exact found x k rfl hv
theorem c_home5 {m : MoT} {f s : Nat} {h0 : abJ} (hO : MO m) (hf : f < 10) (hM0 : cM m 1 h0) (hK0 : cK m h0) (hR0 : rdy m f h0) : ∀ (k n L : Nat) (g : Nat → Nat) (c : Option Nat) (h : abJ), L + k = 4374 → k < n → WI m f s L g c → (∀ i, i < L → hm m (g i % 6) = false) → (∀ i, i < L → h.1 31 (g i) = -nI 2) → (∀ x, SV m x → (∀ i, i < L → g i ≠ x) → hin m f (h.1 31) x) → (∀ i, i < L → h.1 30 i = nI (g i)) → fr [30, 31] [] h0 h → Ok (fX8_stepsHome_L5 n (nI f) (oI c) (nI L) h) (fun r => r.1 = hI (hsO m f s) ∧ (∀ x, SV m x → hin m f (r.2.1 31) x) ∧ fr [30, 31] [] h0 r.2) := by
  intro k
  induction k with
  | zero =>
    intro n L g c h hL hn hW hh h31 hi hp hfr
    obtain ⟨n, rfl⟩ : ∃ n0, n = n0 + 1 := ⟨n - 1, by omega⟩
    have hM := cM_fr hM0 hfr (by decide) (by decide) (by decide) (by decide)
    rw [fX8_stepsHome_L5]
    refine Ok.pos (by rw [show (4374 : Int32) = nI 4374 from rfl, nI_leI (by omega) (by omega)]; omega) ?_
    refine (c_home80 hO hM hW (by omega) hh h31 hi hp (fun x hx hhx e => ?_)).mono (fun r hr => ⟨hr.1, hr.2.1, fr_t hfr hr.2.2⟩)
    subst hx
    by_cases cx : ∃ i, i < L ∧ g i = x
    · obtain ⟨i, hi, rfl⟩ := cx
      rw [h31 i hi] at e
      exact absurd e (by decide)
    · have := WI_lt hO hW (fun i hi e => cx ⟨i, hi, e⟩)
      omega
  | succ k ih =>
    intro n L g c h hL hn hW hh h31 hi hp hfr
    obtain ⟨n, rfl⟩ : ∃ n0, n = n0 + 1 := ⟨n - 1, by omega⟩
    have hM := cM_fr hM0 hfr (by decide) (by decide) (by decide) (by decide)
    rw [fX8_stepsHome_L5]
    refine Ok.neg (by rw [show (4374 : Int32) = nI 4374 from rfl, nI_leI (by omega) (by omega)]; omega) ?_
    cases c with
    | none => exact Ok.pos (by decide) ((c_home80 hO hM hW (by omega) hh h31 hi hp (fun x hx => by cases hx)).mono (fun r hr => ⟨hr.1, hr.2.1, fr_t hfr hr.2.2⟩))
    | some x =>
      have hx := hW.2.2.2.2.2 x rfl
      have hx4 := SV_lt hO hx
      rw [show oI (some x) = nI x from rfl]
      refine Ok.neg (by rw [show (0 : Int32) = nI 0 from rfl, nI_ltI (by omega) (by omega)]; omega) (Ok.neg (by rw [show (4374 : Int32) = nI 4374 from rfl, nI_leI (by omega) (by omega)]; omega) ?_)
      rw [nI_clamp (show x < 2 ^ 31 by omega)]
      refine Ok.ask (ixN (by omega) (by omega)) ?_
      by_cases c1 : h.1 31 x = -1
      · refine Ok.pos c1 ?_
        rw [show (6 : Int32) = nI 6 from rfl, pk_rem (show x < 2 ^ 31 by omega) (by omega) (by omega), c_isHome hO hM (by omega), ab_bindS]
        by_cases ch : hm m (x % 6) = true
        · rw [ch]
          exact Ok.neg (by decide) ((c_home80 (c := some x) hO hM hW (by omega) hh h31 hi hp (fun y hy hf => by cases hy; rw [ch] at hf; cases hf)).mono (fun r hr => ⟨hr.1, hr.2.1, fr_t hfr hr.2.2⟩))
        · have ch' : hm m (x % 6) = false := by simpa using ch
          rw [ch', nI_clamp (show L < 2 ^ 31 by omega), nI_1]
          refine Ok.pos rfl (Ok.ask (ixN (by omega) (by omega)) (Ok.ask (ixN (by omega) (by omega)) ?_))
          have hxn : ∀ i, i < L → g i ≠ x := fun i hi e => by
            rw [← e, h31 i hi] at c1
            exact absurd c1 (by decide)
          have f2 : fr [30, 31] [] h0 (ab_wI (ab_wI h 31 x (-2)) 30 L (nI x)) := fr_w (fr_w hfr (by simp)) (by simp)
          have hM2 := cM_fr hM0 f2 (by decide) (by decide) (by decide) (by decide)
          have hK2 := cK_fr hK0 f2 (by decide) (by decide)
          have hR2 := rdy_fr hR0 f2 (by decide)
          rw [c_nextStand hO hM2 hK2 hR2 hf hx, ab_bindS]
          refine ih n (L + 1) (ups g L x) (nx m f x) _ (by omega) (by omega) (WI_push hO hW hxn) (fun i hi => ?_) (fun i hi => ?_) (fun y hy hyn => ?_) (fun i hi => ?_) f2
          · by_cases e : i = L
            · subst e; rw [ups_s]; exact ch'
            · rw [ups_n e]; exact hh i (by omega)
          · rw [ab_w1n (by decide)]
            by_cases e : i = L
            · subst e; rw [ups_s, ab_w1e]; rfl
            · rw [ups_n e, ab_w1k (hxn i (by omega))]; exact h31 i (by omega)
          · have e1 : x ≠ y := by have := hyn L (by omega); rwa [ups_s] at this
            have := hi y hy (fun i hi => by have := hyn i (by omega); rwa [ups_n (by omega)] at this)
            unfold hin at this ⊢
            rw [ab_w1n (by decide), ab_w1k (fun e => e1 e.symm)]
            exact this
          · by_cases e : i = L
            · subst e; rw [ups_s, ab_w1e]
            · rw [ups_n e, ab_w1k e, ab_w1n (by decide)]; exact hp i (by omega)
      · exact Ok.neg c1 ((c_home80 (c := some x) hO hM hW (by omega) hh h31 hi hp (fun y hy hf => by cases hy; exact c1)).mono (fun r hr => ⟨hr.1, hr.2.1, fr_t hfr hr.2.2⟩))
theorem c_stepsHome {m : MoT} {f s : Nat} {h : abJ} (hO : MO m) (hf : f < 10) (hM : cM m 1 h) (hK : cK m h) (hR : rdy m f h) (hs : SV m s) (hi : ∀ x, SV m x → hin m f (h.1 31) x) : Ok (fX8_stepsHome (nI f) (nI s) h) (fun r => r.1 = hI (hsO m f s) ∧ (∀ x, SV m x → hin m f (r.2.1 31) x) ∧ fr [30, 31] [] h r.2) := by
  unfold fX8_stepsHome
  exact c_home5 hO hf hM hK hR 4374 ab_N 0 (fun _ => 0) (some s) h (by omega) (by unfold ab_N; omega) (WI_0 hs _) (fun i hi => by omega) (fun i hi => by omega) (fun x hx _ => hi x hx) (fun i hi => by omega) (fr_r _ _ _)
