/-! lists; filling; scores. -/
theorem LA_s {m : MoT} {f s L : Nat} {g : Nat → Nat} {t : Option Nat} (hL : LN m f s L g t) (n : Nat) : LA L g t (n + 1) = (nx m f (LA L g t n)).getD (LA L g t n) := by
  obtain ⟨h1, h2, h3, h4, h5, h6, h7⟩ := hL
  unfold LA
  by_cases c : n + 1 < L
  · rw [if_pos c, if_pos (show n < L by omega), h5 n c]; rfl
  rw [if_neg c]
  by_cases c2 : n < L
  · have e : n = L - 1 := by omega
    rw [if_pos c2, e, h6]
    cases t with
    | none => rfl
    | some j =>
      have hj := h7 j rfl
      show g (j + (L - 1 + 1 - j) % (L - j)) = g j
      rw [show L - 1 + 1 - j = L - j by omega, Nat.mod_self]
      rfl
  · rw [if_neg c2]
    cases t with
    | none => dsimp only; rw [h6]; rfl
    | some j =>
      have hj := h7 j rfl
      have hm := Nat.mod_lt (n - j) (show 0 < L - j by omega)
      have e : n + 1 - j = (n - j) + 1 := by omega
      dsimp only
      rw [e]
      by_cases c3 : (n - j) % (L - j) + 1 < L - j
      · rw [Nat.add_mod, Nat.mod_eq_of_lt (show 1 < L - j by omega), Nat.mod_eq_of_lt c3, h5 (j + (n - j) % (L - j)) (by omega)]
        rfl
      · have e2 : (n - j) % (L - j) + 1 = L - j := by omega
        have e3 : (n - j + 1) % (L - j) = 0 := by
          rw [← Nat.mod_add_mod, e2, Nat.mod_self]
        rw [e3, show j + (n - j) % (L - j) = L - 1 by omega, h6]
        rfl
theorem r_goesTo {m : MoT} {f s : Nat} {h : abJ} (hO : MO m) (hf : f < 10) (hs : SV m s) (hM : rM m (h.1 65)) (h40 : h.1 65 40 = nI f) : Ok (fX12_goesTo (nI s) h) (fun r => r.1 = nI ((nx m f s).getD s) ∧ fr [69, 70] [] h r.2) := by
  have hs4 := SV_lt hO hs
  unfold fX12_goesTo
  rw [show (6 : Int32) = nI 6 from rfl, pk_rem (by omega) (by omega) (by omega), r_isRest hO hM (by omega), ab_bindS, h40]
  unfold nx
  by_cases c : rs m (s % 6) = true
  · rw [c, if_pos rfl]
    exact Ok.neg (by decide) (Ok.some ⟨rfl, fr_r _ _ _⟩)
  · have hr0 : 0 < mR m (s % 6) := by simp [rs] at c; omega
    rw [if_neg c]
    refine Ok.pos (by rw [show rs m (s % 6) = false by simpa using c]; rfl) ?_
    exact Ok.bind (r_stepTo hO hM hf hs hr0) (fun r hr => Ok.some ⟨hr.1, hr.2⟩)
theorem cutv_s' : ∀ s < 4, ∀ v < 6, cutv s (lN v) = lN v := by decide
theorem cutv_s {s v : Nat} (hs : s ≤ 3) (hv : v < 6) : cutv s (lN v) = lN v := cutv_s' s (by omega) v hv
def lv' (L : Nat) (g : Nat → Nat) (t : Option Nat) (f : Nat → Int64) (i : Nat) : Nat → Int64 := fun k => if k < i then lN (LA L g t (k + 1) % 6) else f k
theorem lv_0 {L : Nat} {g : Nat → Nat} {u : Option Nat} {f : Nat → Int64} (k : Nat) : lv' L g u f 0 k = f k := if_neg (Nat.not_lt_zero k)
theorem c_lists_L {L j : Nat} {g : Nat → Nat} {u : Option Nat} {t : Nat × Nat × (Nat → Int64)} {h0 : abJ} (hj : j < 4) (hs : t.1 ≤ 3) (hn : t.2.1 ≤ 40) (hL : 1 ≤ L) (hL2 : L ≤ 4374) (hu : ∀ i, u = some i → i < L) (hv : ∀ i, i < L → g i < 4374) (h4 : h0.1 32 4 = nI L) (h5 : h0.1 32 5 = oI u) (hp : ∀ i, i < L → h0.1 30 i = nI (g i)) : ∀ (k n i : Nat) (h : abJ), i + k = t.2.1 → k < n → cY (some (t.1, t.2.1, lv' L g u t.2.2 i)) j h → fr [] [45 + 2 * j] h0 h → Ok (fX11_lists_L48 n (nI j) (nI i) h) (fun r => r.1 = nI t.2.1 ∧ cY (some (t.1, t.2.1, lv' L g u t.2.2 t.2.1)) j r.2 ∧ fr [] [45 + 2 * j] h0 r.2) := by
  intro k
  induction k with
  | zero =>
    intro n i h hi hn2 ht hf
    obtain ⟨n, rfl⟩ : ∃ n0, n = n0 + 1 := ⟨n - 1, by omega⟩
    rw [fX11_lists_L48, nI_clamp (by omega), ab_tr_n (by omega), ht.2.2.1]
    have e : i = t.2.1 := by omega
    subst e
    exact Ok.ask (ixN (by omega) (by omega)) (Ok.pos (Int32.le_refl _) (Ok.ask (ixN (by omega) (by omega)) (Ok.some ⟨rfl, ht, hf⟩)))
  | succ k ih =>
    intro n i h hi hn2 ht hf
    obtain ⟨n, rfl⟩ : ∃ n0, n = n0 + 1 := ⟨n - 1, by omega⟩
    obtain ⟨q, hq, eq⟩ := LA_i (g := g) (t := u) (i + 1) hL hu
    have hvq := hv q hq
    rw [fX11_lists_L48, nI_clamp (by omega), ab_tr_n (by omega), ht.2.2.1, nI_l (by omega), show (1 : Int64) = lN 1 from rfl, lN_add, c_standBehind hL hL2 hu (by rw [hf.1 32 (by simp)]; exact h4) (by rw [hf.1 32 (by simp)]; exact h5) (fun i hi => by rw [hf.1 30 (by simp)]; exact hp i hi) (by omega), ab_bindS, show (6 : Int32) = nI 6 from rfl, pk_rem (by omega) (by omega) (by omega), nI_l (by omega), nI_1]
    refine Ok.ask (ixN (by omega) (by omega)) (Ok.neg (by rw [nI_leI (show t.2.1 < 2 ^ 31 by omega) (by omega)]; omega) (Ok.ask (ixN (by omega) (by omega)) ?_))
    refine Ok.bind (c_put hj ht hs hn (show i < t.2.1 by omega)) (fun h1 hr => ?_)
    refine ih n (i + 1) h1 (by omega) (by omega) ?_ (fr_t hf hr.2)
    obtain ⟨a, b, c, d⟩ := hr.1
    refine ⟨a, b, c, fun k hk => (d k hk).trans ?_⟩
    show (if k = i then cutv t.1 (lN (LA L g u (i + 1) % 6)) else lv' L g u t.2.2 i k) = lv' L g u t.2.2 (i + 1) k
    unfold lv'
    by_cases e : k = i
    · subst e
      rw [if_pos rfl, if_pos (by omega), cutv_s hs (by omega)]
    · rw [if_neg e]
      by_cases e2 : k < i
      · rw [if_pos e2, if_pos (by omega)]
      · rw [if_neg e2, if_neg (by omega)]
theorem r_lists_L {m : MoT} {f s0 L j : Nat} {g : Nat → Nat} {u : Option Nat} {t : Nat × Nat × (Nat → Int64)} {h0 : abJ} (hO : MO m) (hf : f < 10) (hLN : LN m f s0 L g u) (hj : j < 4) (hn : t.2.1 ≤ 40) (hM : rM m (h0.1 65)) (h40 : h0.1 65 40 = nI f) (h85 : h0.1 85 j = nI t.1) (h86 : h0.1 86 j = nI t.2.1) : ∀ (k n i : Nat) (h : abJ), i + k = t.2.1 → k < n → (∀ q, q < t.2.1 → h.2 87 (40 * j + q) = lv' L g u t.2.2 i q) → (∀ q, q < 40 * j ∨ 40 * j + 40 ≤ q → h.2 87 q = h0.2 87 q) → fr [69, 70] [87] h0 h → Ok (fX12_lists_L25 n (nI j) (nI (LA L g u i)) (nI i) h) (fun r => r.1 = nI t.2.1 ∧ (∀ q, q < t.2.1 → r.2.2 87 (40 * j + q) = lv' L g u t.2.2 t.2.1 q) ∧ (∀ q, q < 40 * j ∨ 40 * j + 40 ≤ q → r.2.2 87 q = h0.2 87 q) ∧ fr [69, 70] [87] h0 r.2) := by
  have hL2 := LN_le hO hLN
  intro k
  induction k with
  | zero =>
    intro n i h hi hn2 ht hq hfr
    obtain ⟨n, rfl⟩ : ∃ n0, n = n0 + 1 := ⟨n - 1, by omega⟩
    rw [fX12_lists_L25, nI_clamp (by omega), hfr.1 86 (by decide), h86]
    have e : i = t.2.1 := by omega
    subst e
    exact Ok.ask (ixN (by omega) (by omega)) (Ok.pos (Int32.le_refl _) (Ok.ask (ixN (by omega) (by omega)) (Ok.some ⟨rfl, ht, hq, hfr⟩)))
  | succ k ih =>
    intro n i h hi hn2 ht hq hfr
    obtain ⟨n, rfl⟩ : ∃ n0, n = n0 + 1 := ⟨n - 1, by omega⟩
    obtain ⟨q1, hq1, eq1⟩ := LA_i (g := g) (t := u) i hLN.1 hLN.2.2.2.2.2.2
    obtain ⟨q2, hq2, eq2⟩ := LA_i (g := g) (t := u) (i + 1) hLN.1 hLN.2.2.2.2.2.2
    have hs1 : SV m (LA L g u i) := by rw [eq1]; exact hLN.2.2.1 q1 hq1
    have hs2 := SV_lt hO (by rw [eq2]; exact hLN.2.2.1 q2 hq2 : SV m (LA L g u (i + 1)))
    rw [fX12_lists_L25, nI_clamp (by omega), hfr.1 86 (by decide), h86]
    refine Ok.ask (ixN (by omega) (by omega)) (Ok.neg (by rw [nI_leI (by omega) (by omega)]; omega) ?_)
    refine Ok.bind (r_goesTo hO hf hs1 (by rw [hfr.1 65 (by decide)]; exact hM) (by rw [hfr.1 65 (by decide)]; exact h40)) (fun r hr => ?_)
    rw [hr.1, ← LA_s hLN i, show (40 : Int32) = nI 40 from rfl, pk_mul, nI_add, nI_clamp (by omega), show (6 : Int32) = nI 6 from rfl, pk_rem (by omega) (by omega) (by omega), nI_l (by omega), nI_1]
    refine Ok.ask (ixN (by omega) (by omega)) ?_
    have e87 : r.2.2 87 = h.2 87 := hr.2.2 87 (by simp)
    refine ih n (i + 1) _ (by omega) (by omega) (fun q hq0 => ?_) (fun q hq0 => ?_) (fr_v (fr_t hfr (fr_m hr.2 (by simp) (by simp))) (by simp))
    · unfold lv'
      by_cases e : q = i
      · subst e
        rw [ab_v2e, if_pos (by omega)]
      · rw [ab_v2k (by omega), e87, ht q hq0]
        unfold lv'
        by_cases e2 : q < i
        · rw [if_pos e2, if_pos (by omega)]
        · rw [if_neg e2, if_neg (by omega)]
    · rw [ab_v2k (by omega), e87]; exact hq q hq0
theorem call_lists (x : Int32) : call2 (fX11_lists x) (fX12_lists x) := by
  intro A hW
  have hO := hW.1
  have hs := hW.2.1
  refine tray2 (v2 := -2) (v6 := -6) x hW (fun h x hx => by unfold fX11_lists; rw [c_noTray_n h hx]; rfl) (fun h x hx => by unfold fX12_lists; rw [r_noTray_o _ hx]; rfl) (fun h j hj ht => by unfold fX11_lists; rw [c_noTray h hj, ab_bindS, nI_clamp (by omega), ab_tr_n (by omega), ht, if_pos (show nI 0 = 0 from rfl), ab_askP (ixN (by omega) (by omega))]; rfl) (fun h j hj hR e => by unfold fX12_lists; rw [r_noTray_n (RR0 hR).1 hj e]; rfl) (fun j t hj e => ?_)
  obtain ⟨ht3, hn⟩ := hW.2.2.2.2.2 j t hj e
  obtain ⟨L, g, u, hL⟩ := LN_ex (f := sF (aS A)) hO (aN_SV hW)
  have hL2 := LN_le hO hL
  have hv : ∀ i, i < L → g i < 4374 := fun i hi => SV_lt hO (hL.2.2.1 i hi)
  refine ⟨nI t.2.1, upY A j (some (t.1, t.2.1, lv' L g u t.2.2 t.2.1)), WF_Y hW ht3 hn, fun h hR => ?_, fun h hR => ?_⟩
  · have ht := hR.2.2.2.2.2.2.2.2 j hj
    rw [e] at ht
    unfold fX11_lists
    rw [c_noTray h hj, ab_bindS, nI_clamp (by omega), ab_tr_n (by omega), ht.1, c_code hR, ab_bindS]
    refine Ok.pos rfl (Ok.ask (ixN (by omega) (by omega)) (Ok.pos rfl (Ok.bind (c_walkA hW hR (aN_SV hW) hL) (fun h1 hr => ?_))))
    obtain ⟨hR1, a1⟩ := RC_sc hW hR (fr30 hr.2.2.2)
    have ht1 := hR1.2.2.2.2.2.2.2.2 j hj
    rw [e] at ht1
    have ht1 : cY (some (t.1, t.2.1, lv' L g u t.2.2 0)) j h1 := ⟨ht1.1, ht1.2.1, ht1.2.2.1, fun k hk => (ht1.2.2.2 k hk).trans (lv_0 (L := L) (g := g) (u := u) k).symm⟩
    refine (c_lists_L hj ht3 hn hL.1 hL2 hL.2.2.2.2.2.2 hv hr.1 hr.2.1 hr.2.2.1 t.2.1 ab_N 0 h1 (by omega) (by unfold ab_N; omega) ht1 (fr_r _ _ _)).mono (fun r hr2 => ?_)
    exact ⟨hr2.1, RC_Y hW hR1 hj hr2.2.1 (fun o ho => hr2.2.2.1 o (by simp)) (fun o ho => hr2.2.2.2 o (by simpa using ho)), abv_t a1 (abv_fr hr2.2.2 (by simp) (by simp; omega))⟩
  · obtain ⟨hR0, b0⟩ := RR0 hR
    unfold fX12_lists
    rw [r_noTray_s hR0 hW hj e, ab_bindS, r_now hW hR0, ab_bindS]
    refine Ok.pos rfl ?_
    generalize ab_wI h 64 0 0 = h0 at *
    have ht := hR0.2.2.2.2.2.2 j hj
    rw [e] at ht
    have e0 : aN A = LA L g u 0 := by
      unfold LA
      rw [if_pos (show 0 < L from hL.1), hL.2.1]
    rw [e0]
    refine (r_lists_L hO hs.2.2 hL hj hn hR0.1 hR0.2.1.2.2.1 ht.1 ht.2.1 t.2.1 ab_N 0 h0 (by omega) (by unfold ab_N; omega) (fun q hq => (ht.2.2 q hq).trans (lv_0 (L := L) (g := g) (u := u) q).symm) (fun _ _ => rfl) (fr_r _ _ _)).mono (fun r hr => ?_)
    obtain ⟨q1, q2, q3, q4⟩ := hr
    have f1 : frR sk1 sc1 [] h0 (r.2.1, h0.2) := ⟨fun o ho h6 => q4.1 o (fun q => ho (by revert q; simp; intro q; rcases q with q | q <;> subst q <;> decide)), fun k _ => by show r.2.1 64 k = _; rw [q4.1 64 (by decide)], fun _ _ => rfl⟩
    obtain ⟨hR1, a1⟩ := RR_sc hR0 (frR_m f1 (by simp) (by simp) (by simp))
    refine ⟨q1, RR_Y hR1 hj ⟨by rw [q4.1 85 (by decide)]; exact ht.1, by rw [q4.1 86 (by decide)]; exact ht.2.1, q2⟩ (fun o _ _ => rfl) (fun i hi => ⟨rfl, rfl⟩) q3 (fun i t hi e => (hW.2.2.2.2.2 i t hi e).2), blw_t b0 (fun o ho => ⟨q4.1 o (by simp; omega), q4.2 o (by simp; omega)⟩)⟩
