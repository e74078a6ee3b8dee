/-! look, fogs. -/
def mxr (S : Nat → Nat) : Nat → Nat → Nat → Nat
  | 0, _, acc => acc
  | k + 1, r, acc => mxr S k (r + 1) (if S r ≤ acc then acc else S r)
theorem mxr_m (S : Nat → Nat) : mxr S 3 0 0 = max (S 0) (max (S 1) (S 2)) := by
  simp only [mxr]
  by_cases c0 : S 0 ≤ 0 <;> by_cases c1 : S 1 ≤ S 0 <;> by_cases c2 : S 2 ≤ S 0 <;> by_cases c3 : S 2 ≤ S 1 <;> simp [c0, c1, c2, c3] <;> (repeat' split) <;> omega
def mtl (M : Nat → Nat) : Nat → Nat → Int32 → Nat → Int32
  | 0, _, best, _ => best
  | k + 1, p, best, least => if M p < least then mtl M k (p + 1) (nI p) (M p) else mtl M k (p + 1) best least
theorem c_max {a b : Nat} (h : abJ) (ha : a < 2 ^ 31) (hb : b < 2 ^ 31) : fJ9_max_7cf53 (nI a) (nI b) h = some (nI (max a b)) := by
  unfold fJ9_max_7cf53
  by_cases c : a < b
  · rw [if_pos (by rw [nI_ltI ha hb]; exact c), show max a b = b by omega]
  · rw [if_neg (by rw [nI_ltI ha hb]; exact c), show max a b = a by omega]
theorem c_times {h : abJ} {p r : Nat} {v : Nat} (hp : p < 6) (hr : r < 3) (hS : h.1 38 (p * 3 + r) = nI v) : fX5_timesShown (nI p) (nI r) h = some (nI v) := by
  unfold fX5_timesShown
  rw [if_neg (by rw [show (0 : Int32) = nI 0 from rfl, nI_ltI (by omega) (by omega)]; omega), if_neg (by rw [show (6 : Int32) = nI 6 from rfl, nI_leI (by omega) (by omega)]; omega), if_neg (by rw [show (0 : Int32) = nI 0 from rfl, nI_ltI (by omega) (by omega)]; omega), if_pos (by rw [show (3 : Int32) = nI 3 from rfl, nI_ltI (by omega) (by omega)]; omega), show (3 : Int32) = nI 3 from rfl, pk_mul, nI_add, nI_clamp (by omega), ab_askP (ixN (by omega) (by omega)), hS]
theorem c_look_L {h : abJ} {P T : Nat} {S : Nat → Nat → Nat} (hP : P ≤ 6) (hT : 0 < T) (hT2 : T ≤ 729) (hM : h.1 1 0 = nI P) (h37 : h.1 37 3 = nI T) (hb : ∀ p r, S p r ≤ T) (hS : ∀ p r, p < 6 → r < 3 → h.1 38 (p * 3 + r) = nI (S p r)) : ∀ (k n p least : Nat) (best : Int32), p + k = P → k < n → least < 2 ^ 30 → fX5_mostTelling_L11 h n best (nI least) (nI p) = some (mtl (fun p => mxr (S p) 3 0 0) k p best least) := by
  intro k
  induction k with
  | zero =>
    intro n p least best hp hn hl
    obtain ⟨n, rfl⟩ : ∃ n0, n = n0 + 1 := ⟨n - 1, by omega⟩
    rw [fX5_mostTelling_L11, hM, if_pos (by rw [nI_leI (by omega) (by omega)]; omega)]; rfl
  | succ k ih =>
    intro n p least best hp hn hl
    obtain ⟨n, rfl⟩ : ∃ n0, n = n0 + 1 := ⟨n - 1, by omega⟩
    have b0 := hb p 0
    have b1 := hb p 1
    have b2 := hb p 2
    rw [fX5_mostTelling_L11, hM, if_neg (by rw [nI_leI (by omega) (by omega)]; omega), h37, if_neg (by rw [show (0 : Int32) = nI 0 from rfl, nI_leI (by omega) (by omega)]; omega), show (0 : Int32) = nI 0 from rfl, show (1 : Int32) = nI 1 from rfl, show (2 : Int32) = nI 2 from rfl, c_times (by omega) (by omega) (hS p 0 (by omega) (by omega)), ab_bindS, c_times (by omega) (by omega) (hS p 1 (by omega) (by omega)), ab_bindS, c_times (by omega) (by omega) (hS p 2 (by omega) (by omega)), ab_bindS, c_max h (by omega) (by omega), ab_bindS, c_max h (by omega) (by omega), ab_bindS]
    unfold fX5_mostTelling_J66
    rw [mtl, show (1 : Int32) = nI 1 from rfl, nI_add, mxr_m]
    by_cases c : max (S p 0) (max (S p 1) (S p 2)) < least
    · rw [if_neg (by rw [nI_leI (by omega) (by omega)]; omega), if_pos c]
      exact ih n (p + 1) _ _ (by omega) (by omega) (by omega)
    · rw [if_pos (by rw [nI_leI (by omega) (by omega)]; omega), if_neg c]
      exact ih n (p + 1) _ _ (by omega) (by omega) hl
theorem r_look54 {h : abJ} {p least : Nat} {best : Int32} {S : Nat → Nat} {k37 : Int32 → Int32 → Int32 → abJ → Option (Int32 × abJ)} (hp : p < 6) (hb : ∀ r, r < 3 → S r ≤ 729) (hl : least < 2 ^ 30) (hS : ∀ r, r < 3 → h.1 76 (3 * p + r) = nI (S r)) : ∀ (k n r acc : Nat), r + k = 3 → k < n → acc ≤ 729 → fX12_look_L54 k37 n best (nI least) (nI p) (nI acc) (nI r) h = if mxr S k r acc < least then k37 (nI p) (nI (mxr S k r acc)) (nI (p + 1)) h else k37 best (nI least) (nI (p + 1)) h := by
  intro k
  induction k with
  | zero =>
    intro n r acc hr hn ha
    obtain ⟨n, rfl⟩ : ∃ n0, n = n0 + 1 := ⟨n - 1, by omega⟩
    rw [fX12_look_L54, if_pos (by rw [show (3 : Int32) = nI 3 from rfl, nI_leI (by omega) (by omega)]; omega), mxr]
    unfold fX12_look_J119
    rw [nI_1]
    by_cases c : acc < least
    · rw [if_pos (by rw [nI_ltI (by omega) (by omega)]; exact c), if_pos c]
    · rw [if_neg (by rw [nI_ltI (by omega) (by omega)]; exact c), if_neg c]
  | succ k ih =>
    intro n r acc hr hn ha
    obtain ⟨n, rfl⟩ : ∃ n0, n = n0 + 1 := ⟨n - 1, by omega⟩
    have hbr := hb r (by omega)
    rw [fX12_look_L54, if_neg (by rw [show (3 : Int32) = nI 3 from rfl, nI_leI (by omega) (by omega)]; omega), show (3 : Int32) = nI 3 from rfl, pk_mul, nI_add, nI_clamp (by omega), ab_askP (ixN (by omega) (by omega)), hS r (by omega), mxr]
    unfold fX12_look_J94
    rw [nI_1]
    by_cases c : S r ≤ acc
    · rw [if_pos (by rw [nI_leI (by omega) (by omega)]; exact c), if_pos c]
      exact ih n (r + 1) acc (by omega) (by omega) ha
    · rw [if_neg (by rw [nI_leI (by omega) (by omega)]; exact c), if_neg c, ab_askP (ixN (by omega) (by omega))]
      exact ih n (r + 1) _ (by omega) (by omega) hbr
theorem mxr_le {S : Nat → Nat} {T : Nat} (hS : ∀ r, S r ≤ T) : ∀ (k r acc : Nat), acc ≤ T → mxr S k r acc ≤ T
  | 0, _, _, h => h
  | k + 1, r, acc, h => by
    rw [mxr]
    exact mxr_le hS k (r + 1) _ (by split; exact h; exact hS r)
theorem r_look37 {h : abJ} {P T : Nat} {S : Nat → Nat → Nat} (hP : P ≤ 6) (hT2 : T ≤ 729) (hM : h.1 65 1 = nI P) (hb : ∀ p r, S p r ≤ T) (hS : ∀ p r, p < P → r < 3 → h.1 76 (3 * p + r) = nI (S p r)) : ∀ (k n p least : Nat) (best : Int32), p + k = P → k < n → least < 2 ^ 30 → fX12_look_L37 n best (nI least) (nI p) h = some (mtl (fun p => mxr (S p) 3 0 0) k p best least, h) := by
  intro k
  induction k with
  | zero =>
    intro n p least best hp hn hl
    obtain ⟨n, rfl⟩ : ∃ n0, n = n0 + 1 := ⟨n - 1, by omega⟩
    rw [fX12_look_L37, hM, if_pos (by rw [nI_leI (by omega) (by omega)]; omega)]; rfl
  | succ k ih =>
    intro n p least best hp hn hl
    obtain ⟨n, rfl⟩ : ∃ n0, n = n0 + 1 := ⟨n - 1, by omega⟩
    have hmx := mxr_le (hb p) 3 0 0 (Nat.zero_le _)
    rw [fX12_look_L37, hM, if_neg (by rw [nI_leI (by omega) (by omega)]; omega), show (0 : Int32) = nI 0 from rfl, r_look54 (by omega) (fun r _ => by have := hb p r; omega) hl (fun r hr => hS p r (by omega) hr) 3 ab_N 0 0 (by omega) (by unfold ab_N; omega) (by omega), mtl]
    by_cases c : mxr (S p) 3 0 0 < least
    · rw [if_pos c, if_pos c]
      exact ih n (p + 1) _ _ (by omega) (by omega) (by omega)
    · rw [if_neg c, if_neg c]
      exact ih n (p + 1) _ _ (by omega) (by omega) hl
theorem call_look (x : Int32) : call2 (fX11_look x) (fX12_look x) := by
  refine call2_ro (fun A hW => ?_)
  have hO := hW.1
  have h6 := hO.2.1
  have h1 := hO.1
  refine tray_ro (v2 := -2) (v6 := -6) x (fun h x hx => by unfold fX11_look; rw [c_ref2 h hx]; rfl) (fun h x hx => by unfold fX12_look; rw [r_ref2 _ hx]; rfl) (fun h j hj hR e => by unfold fX11_look; rw [c_ref6 hj hR e]; rfl) (fun h j hj hR e => by unfold fX12_look; rw [r_ref6 hj (RR_0 hR) e]; rfl) (fun j t hj e => ?_)
  have hb := fun p r => fs_b hO (f := sF (aS A)) (w := sW (aS A)) (t := t) p r
  generalize hT : sg (fe (aM A) (sF (aS A)) (sW (aS A)) t) (3 ^ mP (aM A)) = T at *
  generalize hSS : (fun p r => sg (fs (aM A) (sF (aS A)) (sW (aS A)) t p r) (3 ^ mP (aM A))) = S
  have hS' : ∀ p r, sg (fs (aM A) (sF (aS A)) (sW (aS A)) t p r) (3 ^ mP (aM A)) = S p r := fun p r => by subst hSS; rfl
  have hbT : ∀ p r, S p r ≤ T := fun p r => by rw [← hS']; exact (hb p r).1
  have hT2 : T ≤ 729 := (hb 0 0).2
  have hm0 := mxr_le (hbT 0) 3 0 0 (Nat.zero_le _)
  have eM : ∀ least, T < least → mtl (fun p => mxr (S p) 3 0 0) (mP (aM A)) 0 (-1) least = mtl (fun p => mxr (S p) 3 0 0) (mP (aM A) - 1) 1 (nI 0) (mxr (S 0) 3 0 0) := by
    intro least hl
    obtain ⟨q, hq⟩ : ∃ q, mP (aM A) = q + 1 := ⟨mP (aM A) - 1, by omega⟩
    rw [hq, mtl, if_pos (by omega)]; rfl
  refine ⟨if rf (mP (aM A)) t = 0 then (if T = 0 then -1 else mtl (fun p => mxr (S p) 3 0 0) (mP (aM A) - 1) 1 (nI 0) (mxr (S 0) 3 0 0)) else rf (mP (aM A)) t, fun h hR => ?_, fun h hR => ?_⟩
  · unfold fX11_look
    rw [c_refused hW hR hj e, ab_bindS, nI_clamp (by omega), ab_tr_n (by omega)]
    by_cases c : rf (mP (aM A)) t = 0
    · rw [if_pos c, if_pos c]
      refine Ok.ask (ixN (by omega) (by omega)) (Ok.bind (c_tally hW hR hj e) (fun h1 hr => ?_))
      rw [hT] at hr
      have hM1 : h1.1 1 0 = nI (mP (aM A)) := by rw [hr.2.2.1 1 (by decide)]; exact hR.1.1
      unfold fX5_mostTelling
      rw [hr.1, nI_1, show (0 : Int32) = nI 0 from rfl]
      by_cases c0 : T = 0
      · rw [if_pos c0, show ab_N = 999999 + 1 from rfl, fX5_mostTelling_L11, hM1, if_neg (by rw [nI_leI (by omega) (by omega)]; omega), hr.1, if_pos (by rw [c0]; decide), ab_bindS]
        exact Ok.some ⟨rfl, fr37 hr.2.2⟩
      · rw [if_neg c0, c_look_L h6 (by omega) hT2 hM1 hr.1 hbT (fun p r hp hr2 => by rw [← hS']; exact hr.2.1 p r hp hr2) (mP (aM A)) ab_N 0 (T + 1) (-1) (by omega) (by unfold ab_N; omega) (by omega), ab_bindS, eM _ (by omega)]
        exact Ok.some ⟨rfl, fr37 hr.2.2⟩
    · rw [if_neg c, if_neg c]
      exact Ok.some ⟨rfl, fr_r _ _ _⟩
  · unfold fX12_look
    generalize e0 : ab_wI h 64 0 0 = h0; have f0 : frR sk1 sc1 [80, 81] h h0 := (by subst e0; exact frR_64 (frR_r _ _ _ _) (by decide)); have hR0 : RR A h0 := (RR_sc hR f0).1
    rw [r_noFeet hW hR0 hj e, ab_bindS]
    by_cases c : rf (mP (aM A)) t = 0
    · rw [if_pos c, if_pos c]
      refine Ok.bind (r_laysFeet hW hR0 hj e) (fun r hr => ?_)
      rw [hT] at hr
      have hM1 : r.2.1 65 1 = nI (mP (aM A)) := by rw [hr.2.2.1 65 (by decide) (by decide)]; exact hR0.1.2.1
      rw [hr.1]
      by_cases c0 : T = 0
      · rw [if_pos c0, c0]
        exact Ok.pos rfl (Ok.some ⟨rfl, fr76 f0 hr.2.2⟩)
      · rw [if_neg c0]
        refine Ok.neg (by rw [show (0 : Int32) = nI 0 from rfl, nI_eq (by omega) (by omega)]; exact c0) ?_
        rw [show (268435456 : Int32) = nI 268435456 from rfl, show (0 : Int32) = nI 0 from rfl, r_look37 h6 hT2 hM1 hbT (fun p r' hp hr2 => by rw [← hS']; exact hr.2.1 p r' hp hr2) (mP (aM A)) ab_N 0 268435456 (-1) (by omega) (by unfold ab_N; omega) (by omega), eM _ (by omega)]
        exact Ok.some ⟨rfl, fr76 f0 hr.2.2⟩
    · rw [if_neg c, if_neg c]
      exact Ok.some ⟨rfl, f0⟩
def fgb (F : Nat → Bool) : Nat → Nat → Nat → Nat
  | 0, _, acc => acc
  | k + 1, f, acc => fgb F k (f + 1) (if F f then acc ||| 2 ^ f else acc)
theorem c_fogs_L {A : AbT} {j : Nat} {t : Nat × Nat × (Nat → Int64)} {h0 : abJ} (hW : WF A) (hR : RC A h0) (hj : j < 4) (e : aY A j = some t) : ∀ (k n f acc : Nat) (h : abJ), f + k = 10 → k < n → RC A h → fr [13, 14, 15] [] h0 h → Ok (fX11_fogs_L17 n (nI j) (nI acc) (nI f) h) (fun r => r.1 = nI (fgb (fun f => ft (aM A) f t.2.2 t.2.1 0 (aN A)) k f acc) ∧ RC A r.2 ∧ fr [13, 14, 15] [] h0 r.2) := by
  obtain ⟨ht3, hn⟩ := hW.2.2.2.2.2 j t hj e
  have hO := hW.1
  intro k
  induction k with
  | zero =>
    intro n f acc h hf hn2 hR1 hfr
    obtain ⟨n, rfl⟩ : ∃ n0, n = n0 + 1 := ⟨n - 1, by omega⟩
    rw [fX11_fogs_L17]
    exact Ok.pos (by rw [show (10 : Int32) = nI 10 from rfl, nI_leI (by omega) (by omega)]; omega) (Ok.some ⟨rfl, hR1, hfr⟩)
  | succ k ih =>
    intro n f acc h hf hn2 hR1 hfr
    obtain ⟨n, rfl⟩ : ∃ n0, n = n0 + 1 := ⟨n - 1, by omega⟩
    rw [fX11_fogs_L17]
    refine Ok.neg (by rw [show (10 : Int32) = nI 10 from rfl, nI_leI (by omega) (by omega)]; omega) (Ok.bind (c_prepare hO (show f < 10 by omega) hR1.1 hR1.2.2.1) (fun h1 hr => ?_))
    obtain ⟨p1, p2, p3, p4⟩ := hr
    have h10 := hW.2.2.1.1
    have hR2 : RC A h1 := by
      refine ⟨cM_fr hR1.1 p4 (by decide) (by decide) (by decide) (by decide), cS_fr hR1.2.1 p4 (by decide), p1, p3 _ hW.2.1.2.2 hR1.2.2.2.1, ⟨by rw [p4.1 16 (by decide)]; exact hR1.2.2.2.2.1.1, fun i hi => ⟨cS_fr (hR1.2.2.2.2.1.2 i hi).1 p4 (by simp; omega), p3 _ (hW.2.2.1.2 i hi).2.2 (hR1.2.2.2.2.1.2 i hi).2⟩⟩, cRest_eq (A := A) (RC_rest hR1) (fun o ho => p4.1 o (by revert ho; revert o; decide)) (fun o ho => p4.2 o (by simp))⟩
    have ht := hR2.2.2.2.2.2.2.2.2 j hj
    rw [e] at ht
    unfold fX5_fits
    rw [c_code hR2, ab_bindS, nI_clamp (by omega), ab_tr_n (by omega), show (0 : Int32) = nI 0 from rfl, c_fits hO (show f < 10 by omega) hR2.1 hR2.2.2.1 p2 ht hn t.2.1 ab_N 0 (aN A) (by omega) (by unfold ab_N; omega) (aN_SV hW), ab_bindS, show (1 : Int32) = nI 1 from rfl, show (31 : Int32) = nI 31 from rfl, b_shl (by omega), b_or, fgb]
    unfold fX11_fogs_J65
    rw [show (1 : Int32) = nI 1 from rfl, nI_add]
    refine Ok.ask (ixN (by omega) (by omega)) ?_
    cases c : ft (aM A) f t.2.2 t.2.1 0 (aN A) with
    | false => exact Ok.pos rfl (ih n (f + 1) acc h1 (by omega) (by omega) hR2 (fr_t hfr p4))
    | true => exact Ok.neg (by decide) (ih n (f + 1) _ h1 (by omega) (by omega) hR2 (fr_t hfr p4))
theorem r_fogs_L {A : AbT} {j : Nat} {t : Nat × Nat × (Nat → Int64)} {h0 : abJ} (hW : WF A) (hR : RR A h0) (hj : j < 4) (e : aY A j = some t) : ∀ (k n f acc : Nat) (h : abJ), f + k = 10 → k < n → fr [69, 70] [] h0 h → Ok (fX12_fogs_L22 n (nI j) (nI acc) (nI f) h) (fun r => r.1 = nI (fgb (fun f => ft (aM A) f t.2.2 t.2.1 0 (aN A)) k f acc) ∧ fr [69, 70] [] h0 r.2) := by
  obtain ⟨ht3, hn⟩ := hW.2.2.2.2.2 j t hj e
  have hO := hW.1
  intro k
  induction k with
  | zero =>
    intro n f acc h hf hn2 hfr
    obtain ⟨n, rfl⟩ : ∃ n0, n = n0 + 1 := ⟨n - 1, by omega⟩
    rw [fX12_fogs_L22]
    exact Ok.pos (by rw [show (10 : Int32) = nI 10 from rfl, nI_leI (by omega) (by omega)]; omega) (Ok.some ⟨rfl, hfr⟩)
  | succ k ih =>
    intro n f acc h hf hn2 hfr
    obtain ⟨n, rfl⟩ : ∃ n0, n = n0 + 1 := ⟨n - 1, by omega⟩
    have hR1 : RR A h := (RR_sc hR (frR_m (frR_o (K := []) hfr (by decide)) (by simp) (by decide) (by simp))).1
    have ht := hR1.2.2.2.2.2.2 j hj
    rw [e] at ht
    rw [fX12_fogs_L22, r_armsNow hR1.1 hO.2.1 (WF_a hW).1 (fun p hp => rS_a hR1.2.1 hp), ab_bindS]
    refine Ok.neg (by rw [show (10 : Int32) = nI 10 from rfl, nI_leI (by omega) (by omega)]; omega) ?_
    unfold fX12_areFeet fX12_standOf
    rw [show h.1 65 33 = nI (sW (aS A)) from hR1.2.1.1, show (6 : Int32) = nI 6 from rfl, pk_mul, nI_add, ab_bindS, show (0 : Int32) = nI 0 from rfl]
    refine Ok.bind (r_areFeet_L hO (show f < 10 by omega) hj hR1.1 ht hn t.2.1 ab_N 0 (aN A) h (by omega) (by unfold ab_N; omega) (aN_SV hW) (fr_r _ _ _)) (fun r hr => ?_)
    rw [hr.1, show (31 : Int32) = nI 31 from rfl, fgb]
    unfold fX12_fogs_J52
    rw [nI_1, show (1 : Int32) = nI 1 from rfl, b_shl (by omega), b_or, b_or, Nat.or_zero]
    cases c : ft (aM A) f t.2.2 t.2.1 0 (aN A) with
    | false => exact Ok.pos rfl (ih n (f + 1) acc r.2 (by omega) (by omega) (fr_t hfr hr.2))
    | true => exact Ok.neg (by decide) (ih n (f + 1) _ r.2 (by omega) (by omega) (fr_t hfr hr.2))
theorem call_fogs (x : Int32) : call2 (fX11_fogs x) (fX12_fogs x) := by
  intro A hW
  refine tray2 (v2 := -2) (v6 := -6) x hW (fun h x hx => by unfold fX11_fogs; rw [c_ref2 h hx]; rfl) (fun h x hx => by unfold fX12_fogs; rw [r_ref2 _ hx]; rfl) (fun h j hj ht => by
    unfold fX11_fogs fX11_printsRefused
    rw [c_noTray h hj, ab_bindS, nI_clamp (by omega), ab_tr_n (by omega), ht, if_pos (show nI 0 = 0 from rfl), ab_askP (ixN (by omega) (by omega)), if_neg (by decide)]; rfl) (fun h j hj hR e => by unfold fX12_fogs; rw [r_ref6 hj (RR_0 hR) e]; rfl) (fun j t hj e => ?_)
  refine ⟨if rf (mP (aM A)) t = 0 then nI (fgb (fun f => ft (aM A) f t.2.2 t.2.1 0 (aN A)) 10 0 0) else rf (mP (aM A)) t, A, hW, fun h hR => ?_, fun h hR => ?_⟩
  · unfold fX11_fogs
    rw [c_refused hW hR hj e, ab_bindS]
    by_cases c : rf (mP (aM A)) t = 0
    · rw [if_pos c, if_pos c]
      exact (c_fogs_L hW hR hj e 10 ab_N 0 0 h (by omega) (by unfold ab_N; omega) hR (fr_r _ _ _)).mono (fun r hr => ⟨hr.1, hr.2.1, abv_fr hr.2.2 (by decide) (by simp)⟩)
    · rw [if_neg c, if_neg c]
      exact Ok.some ⟨rfl, hR, abv_r _⟩
  · obtain ⟨hR0, b0⟩ := RR0 hR
    unfold fX12_fogs
    rw [r_noFeet hW hR0 hj e, ab_bindS]
    by_cases c : rf (mP (aM A)) t = 0
    · rw [if_pos c, if_pos c]
      refine (r_fogs_L hW hR0 hj e 10 ab_N 0 0 _ (by omega) (by unfold ab_N; omega) (fr_r _ _ _)).mono (fun r hr => ?_)
      obtain ⟨a, b⟩ := RR_sc hR0 (frR_m (frR_o (K := []) hr.2 (by decide)) (by simp) (by decide) (by simp))
      exact ⟨hr.1, a, blw_t b0 b⟩
    · rw [if_neg c, if_neg c]
      exact Ok.some ⟨rfl, hR0, b0⟩
