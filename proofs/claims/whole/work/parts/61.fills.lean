/-! fills, filling, score. -/
/-- the line from a stand, chosen once -/
noncomputable def lnL (m : MoT) (f s : Nat) : Nat × (Nat → Nat) × Option Nat := Classical.epsilon (fun x => LN m f s x.1 x.2.1 x.2.2)
theorem lnL_s {m : MoT} {f s : Nat} (hO : MO m) (hs : SV m s) : LN m f s (lnL m f s).1 (lnL m f s).2.1 (lnL m f s).2.2 := by
  obtain ⟨L, g, t, h⟩ := LN_ex (f := f) hO hs
  exact Classical.epsilon_spec (p := fun x : Nat × (Nat → Nat) × Option Nat => LN m f s x.1 x.2.1 x.2.2) ⟨(L, g, t), h⟩
/-- the first place of a line, from one on, whose post isn't in a set -/
def fo (g : Nat → Nat) (F : Nat) : Nat → Nat → Option Nat
  | 0, _ => none
  | k + 1, j => if F.testBit (g j % 6) = true then fo g F k (j + 1) else some j
theorem fo_s {g : Nat → Nat} {F : Nat} : ∀ {k j i : Nat}, fo g F k j = some i → j ≤ i ∧ i < j + k ∧ F.testBit (g i % 6) = false ∧ ∀ q, j ≤ q → q < i → F.testBit (g q % 6) = true
  | 0, j, i, h => by cases h
  | k + 1, j, i, h => by
    rw [fo] at h
    by_cases c : F.testBit (g j % 6) = true
    · rw [if_pos c] at h
      obtain ⟨a, b, d, e⟩ := fo_s h
      refine ⟨by omega, by omega, d, fun q h1 h2 => ?_⟩
      by_cases e2 : q = j
      · subst e2; exact c
      · exact e q (by omega) h2
    · rw [if_neg c] at h
      cases h
      exact ⟨Nat.le_refl _, by omega, by simpa using c, fun q h1 h2 => by omega⟩
theorem fo_n {g : Nat → Nat} {F : Nat} : ∀ {k j : Nat}, fo g F k j = none → ∀ q, j ≤ q → q < j + k → F.testBit (g q % 6) = true
  | 0, j, _ => fun q h1 h2 => by omega
  | k + 1, j, h => by
    rw [fo] at h
    by_cases c : F.testBit (g j % 6) = true
    · rw [if_pos c] at h
      intro q h1 h2
      by_cases e2 : q = j
      · subst e2; exact c
      · exact fo_n h q (by omega) (by omega)
    · rw [if_neg c] at h; cases h
/-- where one is behind so many steps, if one isn't at rest before -/
def cv (L : Nat) (g : Nat → Nat) (t : Option Nat) (n : Nat) : Option Nat := if n < L then some (g n) else match t with | none => none | some _ => some (LA L g t n)
theorem cv_s {m : MoT} {f s L : Nat} {g : Nat → Nat} {t : Option Nat} (hL : LN m f s L g t) {n x : Nat} (h : cv L g t n = some x) : nx m f x = cv L g t (n + 1) ∧ SV m x := by
  have hs := LA_s hL n
  obtain ⟨h1, h2, h3, h4, h5, h6, h7⟩ := hL
  unfold cv at h ⊢
  by_cases c : n < L
  · rw [if_pos c] at h
    cases h
    refine ⟨?_, h3 n c⟩
    by_cases c2 : n + 1 < L
    · rw [if_pos c2]; exact h5 n c2
    · rw [if_neg c2, show n = L - 1 by omega, h6]
      cases t with
      | none => rfl
      | some j =>
        have hj := h7 j rfl
        show some (g j) = some (LA L g (some j) (L - 1 + 1))
        unfold LA
        rw [if_neg (by omega)]
        dsimp only
        rw [show L - 1 + 1 - j = L - j by omega, Nat.mod_self]
        rfl
  · rw [if_neg c] at h
    rw [if_neg (show ¬ n + 1 < L by omega)]
    cases t with
    | none => cases h
    | some j =>
      have h : some (LA L g (some j) n) = some x := h
      have h := Option.some.inj h
      obtain ⟨i, hi, ei⟩ := LA_i (g := g) (t := some j) n h1 h7
      rw [h] at hs ei
      subst ei
      refine ⟨?_, h3 i hi⟩
      show _ = some (LA L g (some j) (n + 1))
      rw [hs]
      by_cases c2 : i + 1 < L
      · rw [h5 i c2]; rfl
      · rw [show i = L - 1 by omega, h6]; rfl
theorem cv_g {L : Nat} {g : Nat → Nat} {t : Option Nat} {n x : Nat} (h1 : 1 ≤ L) (h7 : ∀ j, t = some j → j < L) (h : cv L g t n = some x) : ∃ i, i < L ∧ x = g i ∧ (n < L → i = n) := by
  unfold cv at h
  by_cases c : n < L
  · rw [if_pos c] at h; cases h; exact ⟨n, c, rfl, fun _ => rfl⟩
  · rw [if_neg c] at h
    cases t with
    | none => cases h
    | some j =>
      have h : some (LA L g (some j) n) = some x := h
      obtain ⟨i, hi, ei⟩ := LA_i (g := g) (t := some j) n h1 h7
      exact ⟨i, hi, (Option.some.inj h).symm.trans ei, fun q => absurd q c⟩
theorem c_stepsOut {m : MoT} {h : abJ} {f s F L : Nat} {g : Nat → Nat} {t : Option Nat} (hO : MO m) (hM : cM m 1 h) (hK : cK m h) (hR : rdy m f h) (hf : f < 10) (hF : F < 64) (hL : LN m f s L g t) : fX2_stepsOut (nI f) (nI s) (nI F) h = some (oI (fo g F L 0)) := by
  have hL2 := LN_le hO hL
  have step : ∀ (n j : Nat), j ≤ 4374 → ∀ x, cv L g t j = some x → fX2_stepsOut_L6 h (n + 1) (nI f) (nI F) (nI x) (nI j) = if F.testBit (x % 6) = true then fX2_stepsOut_L6 h n (nI f) (nI F) (oI (cv L g t (j + 1))) (nI (j + 1)) else some (nI j) := by
    intro n j hj x hx
    obtain ⟨e, hs⟩ := cv_s hL hx
    have hx4 := SV_lt hO hs
    rw [fX2_stepsOut_L6, if_neg (by rw [show (4374 : Int32) = nI 4374 from rfl, nI_ltI (by omega) (by omega)]; omega), if_neg (oI_ne (by omega)), show (6 : Int32) = nI 6 from rfl, pk_rem (by omega) (by omega) (by omega), c_isIn h (by omega) (by omega), ab_bindS, c_nextStand hO hM hK hR hf hs, ab_bindS, e, nI_1]
    cases F.testBit (x % 6) <;> rfl
  have stop : ∀ (n j : Nat), fX2_stepsOut_L6 h (n + 1) (nI f) (nI F) (-nI 1) (nI j) = some (-nI 1) := by
    intro n j
    rw [fX2_stepsOut_L6]
    by_cases c : 4374 < nI j
    · rw [if_pos c]; rfl
    · rw [if_neg c, if_pos (show -nI 1 = -1 from rfl)]; rfl
  have e0 : nI s = oI (cv L g t 0) := by
    unfold cv
    rw [if_pos (show 0 < L from hL.1), hL.2.1]; rfl
  unfold fX2_stepsOut
  rw [e0, show (0 : Int32) = nI 0 from rfl]
  cases hfo : fo g F L 0 with
  | none =>
    have hall := fo_n hfo
    have key : ∀ (k n j : Nat), j + k = 4375 → k < n → fX2_stepsOut_L6 h n (nI f) (nI F) (oI (cv L g t j)) (nI j) = some (-nI 1) := by
      intro k
      induction k with
      | zero =>
        intro n j hj hn
        obtain ⟨n, rfl⟩ : ∃ n0, n = n0 + 1 := ⟨n - 1, by omega⟩
        rw [fX2_stepsOut_L6, if_pos (by rw [show (4374 : Int32) = nI 4374 from rfl, nI_ltI (by omega) (by omega)]; omega)]; rfl
      | succ k ih =>
        intro n j hj hn
        obtain ⟨n, rfl⟩ : ∃ n0, n = n0 + 1 := ⟨n - 1, by omega⟩
        cases hc : cv L g t j with
        | none => exact stop n j
        | some x =>
          obtain ⟨i, hi, ex, _⟩ := cv_g hL.1 hL.2.2.2.2.2.2 hc
          have := hall i (by omega) (by omega)
          rw [← ex] at this
          show fX2_stepsOut_L6 h (n + 1) (nI f) (nI F) (nI x) (nI j) = _
          rw [step n j (by omega) x hc, if_pos this]
          exact ih n (j + 1) (by omega) (by omega)
    exact key 4375 ab_N 0 (by omega) (by unfold ab_N; omega)
  | some i =>
    obtain ⟨_, hi, hb, hall⟩ := fo_s hfo
    have key : ∀ (k n j : Nat), j + k = i → k < n → fX2_stepsOut_L6 h n (nI f) (nI F) (oI (cv L g t j)) (nI j) = some (nI i) := by
      intro k
      induction k with
      | zero =>
        intro n j hj hn
        obtain ⟨n, rfl⟩ : ∃ n0, n = n0 + 1 := ⟨n - 1, by omega⟩
        have e : j = i := by omega
        subst e
        have hc : cv L g t j = some (g j) := by unfold cv; rw [if_pos (by omega)]
        rw [hc]
        show fX2_stepsOut_L6 h (n + 1) (nI f) (nI F) (nI (g j)) (nI j) = _
        rw [step n j (by omega) _ hc, if_neg (by rw [hb]; decide)]
      | succ k ih =>
        intro n j hj hn
        obtain ⟨n, rfl⟩ : ∃ n0, n = n0 + 1 := ⟨n - 1, by omega⟩
        have hc : cv L g t j = some (g j) := by unfold cv; rw [if_pos (by omega)]
        rw [hc]
        show fX2_stepsOut_L6 h (n + 1) (nI f) (nI F) (nI (g j)) (nI j) = _
        rw [step n j (by omega) _ hc, if_pos (hall j (by omega) (by omega))]
        exact ih n (j + 1) (by omega) (by omega)
    exact key i ab_N 0 (by omega) (by unfold ab_N; omega)
theorem c_standAfter {m : MoT} {h : abJ} {f s L k : Nat} {g : Nat → Nat} {t : Option Nat} (hO : MO m) (hM : cM m 1 h) (hK : cK m h) (hR : rdy m f h) (hf : f < 10) (hL : LN m f s L g t) (hk : k < L) : fX2_standAfter (nI f) (nI s) (nI k) h = some (nI (g k)) := by
  have hL2 := LN_le hO hL
  have key : ∀ (d n j : Nat), j + d = k → d < n → fX2_standAfter_L6 h n (nI f) (nI k) (nI (g j)) (nI j) = some (nI (g k)) := by
    intro d
    induction d with
    | zero =>
      intro n j hj hn
      obtain ⟨n, rfl⟩ : ∃ n0, n = n0 + 1 := ⟨n - 1, by omega⟩
      have e : j = k := by omega
      subst e
      have := SV_lt hO (hL.2.2.1 j hk)
      rw [fX2_standAfter_L6, if_pos (Int32.le_refl _)]
      unfold fJ9_max_7cf53
      by_cases c : (0 : Int32) < nI (g j)
      · rw [if_pos c]; rfl
      · rw [if_neg c]
        rw [show (0 : Int32) = nI 0 from rfl, nI_ltI (by omega) (by omega)] at c
        rw [show g j = 0 by omega]; rfl
    | succ d ih =>
      intro n j hj hn
      obtain ⟨n, rfl⟩ : ∃ n0, n = n0 + 1 := ⟨n - 1, by omega⟩
      rw [fX2_standAfter_L6, if_neg (by rw [nI_leI (by omega) (by omega)]; omega), c_nextStand hO hM hK hR hf (hL.2.2.1 j (by omega)), ab_bindS, hL.2.2.2.2.1 j (by omega), nI_1]
      exact ih n (j + 1) (by omega) (by omega)
  unfold fX2_standAfter
  have := key k ab_N 0 (by omega) (by unfold ab_N; omega)
  rw [hL.2.1] at this
  exact this
/-- walkers sent out one after another: posts filled, steps -/
noncomputable def fil (m : MoT) (f p : Nat) : Nat → Nat → Nat → List Nat × Nat
  | 0, _, _ => ([], 0)
  | n + 1, a, F => match fo (lnL m f (6 * a + p)).2.1 F (lnL m f (6 * a + p)).1 0 with
    | none => ([], 0)
    | some k => ((lnL m f (6 * a + p)).2.1 k % 6 :: (fil m f p n ((lnL m f (6 * a + p)).2.1 k / 6) (F ||| 2 ^ ((lnL m f (6 * a + p)).2.1 k % 6))).1, k + (fil m f p n ((lnL m f (6 * a + p)).2.1 k / 6) (F ||| 2 ^ ((lnL m f (6 * a + p)).2.1 k % 6))).2)
theorem fil_0 {m : MoT} {f p n a F : Nat} (e : fo (lnL m f (6 * a + p)).2.1 F (lnL m f (6 * a + p)).1 0 = none) : fil m f p (n + 1) a F = ([], 0) := by rw [fil, e]
theorem fil_1 {m : MoT} {f p n a F k : Nat} (e : fo (lnL m f (6 * a + p)).2.1 F (lnL m f (6 * a + p)).1 0 = some k) : fil m f p (n + 1) a F = ((lnL m f (6 * a + p)).2.1 k % 6 :: (fil m f p n ((lnL m f (6 * a + p)).2.1 k / 6) (F ||| 2 ^ ((lnL m f (6 * a + p)).2.1 k % 6))).1, k + (fil m f p n ((lnL m f (6 * a + p)).2.1 k / 6) (F ||| 2 ^ ((lnL m f (6 * a + p)).2.1 k % 6))).2) := by rw [fil, e]
/-- how many posts are in a set -/
def pc6 (F : Nat) : Nat := sg (fun i => if F.testBit i then 1 else 0) 6
theorem pc6_or' : ∀ F < 64, ∀ p < 6, F.testBit p = false → pc6 (F ||| 2 ^ p) = pc6 F + 1 := by decide +kernel
theorem pc6_f' : ∀ F < 64, pc6 F = 6 → ∀ p < 6, F.testBit p = true := by decide +kernel
theorem or64 {F p : Nat} (hF : F < 64) (hp : p < 6) : F ||| 2 ^ p < 64 := Nat.or_lt_two_pow (n := 6) hF (Nat.pow_lt_pow_right (by omega) hp)
theorem pc6_le (F : Nat) : pc6 F ≤ 6 := by
  have h := sg_le (F := fun i => if F.testBit i then 1 else 0) (G := fun _ => 1) (n := 6) (fun i _ => by split <;> omega)
  exact h
theorem lnl_a {m : MoT} {a p : Nat} (hO : MO m) (ha : AV m a) (hp : p < mP m) : SV m (6 * a + p) := by
  have h6 := hO.2.1
  refine ⟨?_, ?_⟩
  · rw [show (6 * a + p) % 6 = p by omega]; exact hp
  · rw [show (6 * a + p) / 6 = a by omega]; exact ha
theorem c_fill_L {m : MoT} {f p : Nat} {h0 : abJ} (hO : MO m) (hp : p < mP m) (hf : f < 10) (hM : cM m 1 h0) (hK : cK m h0) (hR : rdy m f h0) (h12 : h0.1 12 2 = nI f) : ∀ (k n c a F S : Nat) (h : abJ), c + k = 6 → k < n → AV m a → F < 64 → pc6 F = c → h.1 32 7 = nI c → h.1 32 8 = nI S → fr [32, 33] [] h0 h → Ok (fX2_fill_L18 n (nI p) (nI F) (nI a) h) (fun h' => h'.1 32 7 = nI (c + (fil m f p k a F).1.length) ∧ h'.1 32 8 = nI (S + (fil m f p k a F).2) ∧ (∀ i, i < (fil m f p k a F).1.length → h'.1 33 (c + i) = nI ((fil m f p k a F).1.getD i 0)) ∧ (∀ i, i < c → h'.1 33 i = h.1 33 i) ∧ c + (fil m f p k a F).1.length ≤ 6 ∧ fr [32, 33] [] h0 h') := by
  have h6 := hO.2.1
  intro k
  induction k with
  | zero =>
    intro n c a F S h hc hn ha hF hpc h7 h8 hfr
    obtain ⟨n, rfl⟩ : ∃ n0, n = n0 + 1 := ⟨n - 1, by omega⟩
    rw [fX2_fill_L18, h7]
    exact Ok.pos (by rw [show (6 : Int32) = nI 6 from rfl, nI_leI (by omega) (by omega)]; omega) (Ok.some ⟨h7, h8, fun i hi => absurd hi (Nat.not_lt_zero _), fun _ _ => rfl, by show c + 0 ≤ 6; omega, hfr⟩)
  | succ k ih =>
    intro n c a F S h hc hn ha hF hpc h7 h8 hfr
    obtain ⟨n, rfl⟩ : ∃ n0, n = n0 + 1 := ⟨n - 1, by omega⟩
    have hM1 := cM_fr hM hfr (by decide) (by decide) (by decide) (by decide)
    have hK1 := cK_fr hK hfr (by decide) (by decide)
    have hR1 := rdy_fr hR hfr (by decide)
    have hsv := lnl_a hO ha hp
    have hLN := lnL_s (f := f) hO hsv
    have ha7 := AV_lt hO ha
    have h7' := MO_729 hO
    rw [fX2_fill_L18, h7, hfr.1 12 (by decide), h12, show (6 : Int32) = nI 6 from rfl, pk_mul, nI_add, Nat.mul_comm a 6, c_stepsOut hO hM1 hK1 hR1 hf hF hLN, ab_bindS]
    refine Ok.neg (by rw [nI_leI (by omega) (by omega)]; omega) ?_
    cases e : fo (lnL m f (6 * a + p)).2.1 F (lnL m f (6 * a + p)).1 0 with
    | none =>
      rw [fil_0 e]
      exact Ok.pos rfl (Ok.some ⟨h7, h8, fun i hi => absurd hi (Nat.not_lt_zero _), fun _ _ => rfl, by show c + 0 ≤ 6; omega, hfr⟩)
    | some i =>
      obtain ⟨_, hi, hb, _⟩ := fo_s e
      rw [Nat.zero_add] at hi
      have hL2 := LN_le hO hLN
      have hsi := hLN.2.2.1 i hi
      have hgi := SV_lt hO hsi
      rw [show oI (some i) = nI i from rfl, fil_1 e]
      refine Ok.neg (oI_ne (by omega)) ?_
      rw [c_standAfter hO hM1 hK1 hR1 hf hLN hi, ab_bindS, nI_clamp (by omega), pk_rem (by omega) (by omega) (by omega), pk_div (by omega) (by omega) (by omega), show (1 : Int32) = nI 1 from rfl, show (31 : Int32) = nI 31 from rfl, b_shl (by omega), b_or]
      generalize hx : (lnL m f (6 * a + p)).2.1 i = x at *
      refine Ok.ask (ixN (by omega) (by omega)) ?_
      rw [ab_w1n (show 32 ≠ 33 by decide), h7, nI_add, ab_w1k (show 8 ≠ 7 by decide), ab_w1n (show 32 ≠ 33 by decide), h8, nI_add]
      have hpc2 := pc6_or' F hF (x % 6) (by omega) hb
      refine (ih n (c + 1) (x / 6) (F ||| 2 ^ (x % 6)) (S + i) _ (by omega) (by omega) hsi.2 (or64 hF (by omega)) (by omega) (by rw [ab_w1k (by decide), ab_w1e]) (by rw [ab_w1e]) (fr_w (fr_w (fr_w hfr (by simp)) (by simp)) (by simp))).mono (fun h' hr => ?_)
      obtain ⟨q1, q2, q3, q4, q5, q6⟩ := hr
      refine ⟨?_, ?_, fun w hw => ?_, fun w hw => ?_, ?_, q6⟩
      · rw [q1, List.length_cons]; congr 1; omega
      · rw [q2]; congr 1; omega
      · cases w with
        | zero =>
          rw [Nat.add_zero, q4 c (by omega), ab_w1n (by decide), ab_w1n (by decide), ab_w1e]; rfl
        | succ w =>
          rw [List.length_cons] at hw
          rw [show c + (w + 1) = c + 1 + w by omega, q3 w (by omega)]; rfl
      · rw [q4 w (by omega), ab_w1n (by decide), ab_w1n (by decide), ab_w1k (by omega)]
      · rw [List.length_cons]; omega
