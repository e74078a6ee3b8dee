/-! Footprints of the reference; the calls. -/
theorem sg_ext {F : Nat → Nat} {n : Nat} : ∀ {N : Nat}, n ≤ N → (∀ i, n ≤ i → i < N → F i = 0) → sg F N = sg F n
  | 0, h, _ => by rw [show n = 0 by omega]
  | N + 1, h, hz => by
    rcases Nat.eq_or_lt_of_le h with e | e
    · rw [e]
    · rw [sg, hz N (by omega) (by omega), sg_ext (N := N) (by omega) (fun i h1 h2 => hz i h1 (by omega))]; rfl
theorem r_feet65 {y1 y2 : Int32} {a P : Nat} {k25 : Int32 → Int32 → Int32 → abJ → Option (Int32 × abJ)} {Q : Int32 × abJ → Prop} {h0 : abJ} {S : Nat → Nat → Nat} (ha : a < 729) (hP : P ≤ 6) (hk : ∀ h, (∀ p r, p < P → r < 3 → h.1 76 (3 * p + r) = nI (S p r + if dg a p = r then 1 else 0)) → fr [76] [] h0 h → Ok (k25 y1 y2 (nI (a + 1)) h) Q) : ∀ (k n j : Nat) (h : abJ), j + k = P → k < n → h.1 65 1 = nI P → (∀ p r, p < P → r < 3 → h.1 76 (3 * p + r) = nI (S p r + if p < j ∧ dg a p = r then 1 else 0)) → fr [76] [] h0 h → Ok (fX12_laysFeet_L65 k25 n y1 y2 (nI a) (nI j) h) Q := by
  intro k
  induction k with
  | zero =>
    intro n j h hj hn h1 hS hfr
    obtain ⟨n, rfl⟩ : ∃ n0, n = n0 + 1 := ⟨n - 1, by omega⟩
    rw [fX12_laysFeet_L65, h1]
    refine Ok.pos (by rw [nI_leI (by omega) (by omega)]; omega) ?_
    unfold fX12_laysFeet_J102
    rw [nI_1]
    refine hk h (fun p r hp hr => ?_) hfr
    rw [hS p r hp hr]
    by_cases c : dg a p = r
    · rw [if_pos c, if_pos ⟨by omega, c⟩]
    · rw [if_neg c, if_neg (fun q => c q.2)]
  | succ k ih =>
    intro n j h hj hn h1 hS hfr
    obtain ⟨n, rfl⟩ : ∃ n0, n = n0 + 1 := ⟨n - 1, by omega⟩
    have hd := dg_lt a j
    rw [fX12_laysFeet_L65, h1, r_armIn h (by omega) (by omega), ab_bindS, show (3 : Int32) = nI 3 from rfl, pk_mul, nI_add, nI_clamp (by omega), hS j (dg a j) (by omega) hd, nI_1, nI_1]
    refine Ok.neg (by rw [nI_leI (by omega) (by omega)]; omega) (Ok.ask (ixN (by omega) (by omega)) (Ok.ask (ixN (by omega) (by omega)) ?_))
    refine ih n (j + 1) _ (by omega) (by omega) (by rw [ab_w1n (by decide)]; exact h1) (fun p r hp hr => ?_) (fr_w hfr (by simp))
    by_cases c : p = j ∧ r = dg a j
    · obtain ⟨rfl, rfl⟩ := c
      rw [ab_w1e, if_neg (by omega), if_pos ⟨by omega, rfl⟩]
    · rw [ab_w1k (by omega), hS p r hp hr]
      congr 2
      by_cases c2 : p < j ∧ dg a p = r
      · rw [if_pos c2, if_pos ⟨by omega, c2.2⟩]
      · rw [if_neg c2, if_neg (fun q => c2 ⟨by
          apply Decidable.byContradiction
          intro q2
          have : p = j := by omega
          subst this
          exact c ⟨rfl, q.2.symm⟩, q.2⟩)]
theorem r_laysFeet {A : AbT} {j : Nat} {h0 : abJ} {t : Nat × Nat × (Nat → Int64)} (hW : WF A) (hR : RR A h0) (hj : j < 4) (e : aY A j = some t) : Ok (fX12_laysFeet (nI j) h0) (fun r => r.1 = nI (sg (fe (aM A) (sF (aS A)) (sW (aS A)) t) (3 ^ mP (aM A))) ∧ (∀ p r', p < mP (aM A) → r' < 3 → r.2.1 76 (3 * p + r') = nI (sg (fs (aM A) (sF (aS A)) (sW (aS A)) t p r') (3 ^ mP (aM A)))) ∧ frR [] [69, 70, 76] [] h0 r.2) := by
  obtain ⟨ht3, hn⟩ := hW.2.2.2.2.2 j t hj e
  have hO := hW.1
  have h6 := hO.2.1
  have h7 := MO_729 hO
  have ht := hR.2.2.2.2.2.2 j hj
  rw [e] at ht
  have eT : sg (fe (aM A) (sF (aS A)) (sW (aS A)) t) 729 = sg (fe (aM A) (sF (aS A)) (sW (aS A)) t) (3 ^ mP (aM A)) := sg_ext h7 (fun i h1 _ => fe_0 (avb_hi hO h1))
  have eS : ∀ p r, sg (fs (aM A) (sF (aS A)) (sW (aS A)) t p r) 729 = sg (fs (aM A) (sF (aS A)) (sW (aS A)) t p r) (3 ^ mP (aM A)) := fun p r => sg_ext h7 (fun i h1 _ => by unfold fs; rw [fe_0 (avb_hi hO h1)]; split <;> rfl)
  have key : ∀ (k n a : Nat) (h : abJ), a + k = 729 → k < n → (∀ p r, p < mP (aM A) → r < 3 → h.1 76 (3 * p + r) = nI (sg (fs (aM A) (sF (aS A)) (sW (aS A)) t p r) a)) → fr [69, 70, 76] [] h0 h → Ok (fX12_laysFeet_L25 n (nI j) (nI (sg (fe (aM A) (sF (aS A)) (sW (aS A)) t) a)) (nI a) h) (fun r => r.1 = nI (sg (fe (aM A) (sF (aS A)) (sW (aS A)) t) 729) ∧ (∀ p r', p < mP (aM A) → r' < 3 → r.2.1 76 (3 * p + r') = nI (sg (fs (aM A) (sF (aS A)) (sW (aS A)) t p r') 729)) ∧ fr [69, 70, 76] [] h0 r.2) := by
    intro k
    induction k with
    | zero =>
      intro n a h ha hn2 hS hfr
      obtain ⟨n, rfl⟩ : ∃ n0, n = n0 + 1 := ⟨n - 1, by omega⟩
      rw [fX12_laysFeet_L25]
      have ea : a = 729 := by omega
      subst ea
      exact Ok.pos (by decide) (Ok.some ⟨rfl, hS, hfr⟩)
    | succ k ih =>
      intro n a h ha hn2 hS hfr
      obtain ⟨n, rfl⟩ : ∃ n0, n = n0 + 1 := ⟨n - 1, by omega⟩
      have e65 := hfr.1 65 (by decide)
      have hM1 : rM (aM A) (h.1 65) := by rw [e65]; exact hR.1
      have ht1 : rY (some t) j h := ⟨by rw [hfr.1 85 (by decide)]; exact ht.1, by rw [hfr.1 86 (by decide)]; exact ht.2.1, fun q hq => by rw [hfr.2 87 (by simp)]; exact ht.2.2 q hq⟩
      have skip : ∀ h1 : abJ, fr [69, 70, 76] [] h0 h1 → h1.1 76 = h.1 76 → fe (aM A) (sF (aS A)) (sW (aS A)) t a = 0 → Ok (fX12_laysFeet_J102 (fun y1 y2 y3 h => fX12_laysFeet_L25 n y1 y2 y3 h) (nI j) (nI (sg (fe (aM A) (sF (aS A)) (sW (aS A)) t) a)) (nI a) h1) (fun r => r.1 = nI (sg (fe (aM A) (sF (aS A)) (sW (aS A)) t) 729) ∧ (∀ p r', p < mP (aM A) → r' < 3 → r.2.1 76 (3 * p + r') = nI (sg (fs (aM A) (sF (aS A)) (sW (aS A)) t p r') 729)) ∧ fr [69, 70, 76] [] h0 r.2) := by
        intro h1 hf1 e76 hz
        unfold fX12_laysFeet_J102
        rw [nI_1]
        have := ih n (a + 1) h1 (by omega) (by omega) (fun p r hp hr => ?_) hf1
        · rw [sg, hz] at this
          exact this
        · rw [sg, e76, hS p r hp hr]
          unfold fs
          rw [hz]
          split <;> rfl
      rw [fX12_laysFeet_L25, r_areArmsB hO hM1 (by omega), ab_bindS]
      refine Ok.neg (by rw [show (729 : Int32) = nI 729 from rfl, nI_leI (by omega) (by omega)]; omega) ?_
      cases ca : avb (aM A) a with
      | false => exact Ok.pos rfl (skip h hfr rfl (fe_0 ca))
      | true =>
        refine Ok.neg (by decide) ?_
        unfold fX12_areFeet fX12_standOf
        rw [show h.1 65 33 = nI (sW (aS A)) by rw [e65]; exact hR.2.1.1, show h.1 65 40 = nI (sF (aS A)) by rw [e65]; exact hR.2.1.2.2.1, show (6 : Int32) = nI 6 from rfl, pk_mul, nI_add, ab_bindS, show (0 : Int32) = nI 0 from rfl]
        refine Ok.bind (r_areFeet_L hO hW.2.1.2.2 hj hM1 ht1 hn t.2.1 ab_N 0 (6 * a + sW (aS A)) h (by omega) (by unfold ab_N; omega) (lnl_a hO (avb_t.mp ca) hW.2.1.1) (fr_r _ _ _)) (fun r hr => ?_)
        rw [hr.1]
        have f2 : fr [69, 70, 76] [] h0 r.2 := fr_t hfr (fr_m hr.2 (by simp) (by simp))
        have e76 : r.2.1 76 = h.1 76 := hr.2.1 76 (by decide)
        cases cf : ft (aM A) (sF (aS A)) t.2.2 t.2.1 0 (6 * a + sW (aS A)) with
        | false => exact Ok.pos rfl (skip r.2 f2 e76 (fe_0' cf))
        | true =>
          have h1 := fe_1 (t := t) (f := sF (aS A)) (w := sW (aS A)) ca cf
          refine Ok.neg (by decide) ?_
          rw [nI_1]
          refine r_feet65 (h0 := r.2) (S := fun p r => sg (fs (aM A) (sF (aS A)) (sW (aS A)) t p r) a) (by omega) h6 (fun h2 hS2 hf2 => ?_) (mP (aM A)) ab_N 0 _ (by omega) (by unfold ab_N; omega) (by rw [hr.2.1 65 (by decide)]; exact hM1.2.1) (fun p r hp hr => ?_) (fr_r _ _ _)
          · have := ih n (a + 1) h2 (by omega) (by omega) (fun p r hp hr => ?_) (fr_t f2 (fr_m hf2 (by simp) (by simp)))
            · rw [sg, h1] at this
              exact this
            · rw [hS2 p r hp hr, sg]
              congr 2
              unfold fs
              rw [h1]
          · rw [e76, hS p r hp hr, if_neg (by omega)]; rfl
  have key4 : ∀ (k n i : Nat) (h : abJ), i + k = 18 → k < n → (∀ q, q < i → h.1 76 q = 0) → fr [69, 70, 76] [] h0 h → Ok (fX12_laysFeet_L4 n (nI j) 0 (nI i) h) (fun r => r.1 = nI (sg (fe (aM A) (sF (aS A)) (sW (aS A)) t) 729) ∧ (∀ p r', p < mP (aM A) → r' < 3 → r.2.1 76 (3 * p + r') = nI (sg (fs (aM A) (sF (aS A)) (sW (aS A)) t p r') 729)) ∧ fr [69, 70, 76] [] h0 r.2) := by
    intro k
    induction k with
    | zero =>
      intro n i h hi hn2 hz hfr
      obtain ⟨n, rfl⟩ : ∃ n0, n = n0 + 1 := ⟨n - 1, by omega⟩
      rw [fX12_laysFeet_L4]
      refine Ok.pos (by rw [show (18 : Int32) = nI 18 from rfl, nI_leI (by omega) (by omega)]; omega) ?_
      exact key 729 ab_N 0 h (by omega) (by unfold ab_N; omega) (fun p r hp hr => by rw [hz _ (by omega)]; rfl) hfr
    | succ k ih =>
      intro n i h hi hn2 hz hfr
      obtain ⟨n, rfl⟩ : ∃ n0, n = n0 + 1 := ⟨n - 1, by omega⟩
      rw [fX12_laysFeet_L4, nI_clamp (by omega), nI_1]
      refine Ok.neg (by rw [show (18 : Int32) = nI 18 from rfl, nI_leI (by omega) (by omega)]; omega) (Ok.ask (ixN (by omega) (by omega)) ?_)
      refine ih n (i + 1) _ (by omega) (by omega) (fun q hq => ?_) (fr_w hfr (by simp))
      by_cases c : q = i
      · subst c; rw [ab_w1e]
      · rw [ab_w1k c]; exact hz q (by omega)
  unfold fX12_laysFeet
  refine (key4 18 ab_N 0 h0 (by omega) (by unfold ab_N; omega) (fun q hq => by omega) (fr_r _ _ _)).mono (fun r hr => ?_)
  rw [eT] at hr
  exact ⟨hr.1, fun p r' hp hr' => by rw [hr.2.1 p r' hp hr', eS], frR_o hr.2.2 (by decide)⟩
theorem fr37 {h h' : abJ} (a : fr [37, 38] [] h h') : fr sc0 [41] h h' := fr_m a (by decide) (by simp)
theorem fr76 {h h0 h' : abJ} (f0 : frR sk1 sc1 [80, 81] h h0) (a : frR [] [69, 70, 76] [] h0 h') : frR sk1 sc1 [80, 81] h h' := frR_t f0 (frR_m a (by simp) (by decide) (by simp))
/-- calls on a tray that change nothing -/
theorem tray_ro {α : Type} {c r : Int32 → abJ → Option (α × abJ)} (x : Int32) {v2 v6 : α} {A : AbT} (hc2 : ∀ h x, (x < 0 ∨ nI 4 ≤ x) → c x h = some (v2, h)) (hr2 : ∀ h x, (x < 0 ∨ nI 4 ≤ x) → r x h = some (v2, ab_wI h 64 0 0)) (hc6 : ∀ h j, j < 4 → RC A h → aY A j = none → c (nI j) h = some (v6, h)) (hr6 : ∀ h j, j < 4 → RR A h → aY A j = none → r (nI j) h = some (v6, ab_wI h 64 0 0)) (k : ∀ j t, j < 4 → aY A j = some t → ∃ v, (∀ h, RC A h → Ok (c (nI j) h) (fun x => x.1 = v ∧ fr sc0 [41] h x.2)) ∧ (∀ h, RR A h → Ok (r (nI j) h) (fun x => x.1 = v ∧ frR sk1 sc1 [80, 81] h x.2))) : ∃ v, (∀ h, RC A h → Ok (c x h) (fun x => x.1 = v ∧ fr sc0 [41] h x.2)) ∧ (∀ h, RR A h → Ok (r x h) (fun x => x.1 = v ∧ frR sk1 sc1 [80, 81] h x.2)) := by
  have out : (x < 0 ∨ nI 4 ≤ x) → ∃ v, (∀ h, RC A h → Ok (c x h) (fun x => x.1 = v ∧ fr sc0 [41] h x.2)) ∧ (∀ h, RR A h → Ok (r x h) (fun x => x.1 = v ∧ frR sk1 sc1 [80, 81] h x.2)) := fun hx => ⟨v2, fun h _ => by rw [hc2 h x hx]; exact Ok.some ⟨rfl, fr_r _ _ _⟩, fun h _ => by rw [hr2 h x hx]; exact Ok.some ⟨rfl, frR_64 (frR_r _ _ _ _) (by decide)⟩⟩
  rcases pk_ix x (n := 4) (by omega) with hx | hx | ⟨j, hj, rfl⟩
  · exact out (Or.inl hx)
  · exact out (Or.inr hx)
  cases e : aY A j with
  | none => exact ⟨v6, fun h hR => by rw [hc6 h j hj hR e]; exact Ok.some ⟨rfl, fr_r _ _ _⟩, fun h hR => by rw [hr6 h j hj hR e]; exact Ok.some ⟨rfl, frR_64 (frR_r _ _ _ _) (by decide)⟩⟩
  | some t => exact k j t hj e
theorem c_ref2 {x : Int32} (h : abJ) (hx : x < 0 ∨ nI 4 ≤ x) : fX11_printsRefused x h = some (-2) := by unfold fX11_printsRefused; rw [c_noTray_n h hx]; rfl
theorem c_ref6 {A : AbT} {h : abJ} {j : Nat} (hj : j < 4) (hR : RC A h) (e : aY A j = none) : fX11_printsRefused (nI j) h = some (-6) := by
  have ht := hR.2.2.2.2.2.2.2.2 j hj
  rw [e] at ht
  have ht : h.1 (44 + 2 * j) 0 = nI 1 := ht
  unfold fX11_printsRefused
  rw [c_noTray h hj, ab_bindS, nI_clamp (by omega), ab_tr_n (by omega), ht, if_pos (show nI 0 = 0 from rfl), ab_askP (ixN (by omega) (by omega)), if_neg (by decide)]
theorem r_ref2 {x : Int32} (h : abJ) (hx : x < 0 ∨ nI 4 ≤ x) : fX12_noFeet x h = some (-2) := by unfold fX12_noFeet; rw [r_noTray_o h hx]; rfl
theorem r_ref6 {A : AbT} {h : abJ} {j : Nat} (hj : j < 4) (hR : RR A h) (e : aY A j = none) : fX12_noFeet (nI j) h = some (-6) := by unfold fX12_noFeet; rw [r_noTray_n hR hj e]; rfl
theorem call_footprints (x : Int32) : call2 (fX11_footprints x) (fX12_footprints x) := by
  refine call2_ro (fun A hW => ?_)
  refine tray_ro (v2 := -2) (v6 := -6) x (fun h x hx => by unfold fX11_footprints; rw [c_ref2 h hx]; rfl) (fun h x hx => by unfold fX12_footprints; rw [r_ref2 _ hx]; rfl) (fun h j hj hR e => by unfold fX11_footprints; rw [c_ref6 hj hR e]; rfl) (fun h j hj hR e => by unfold fX12_footprints; rw [r_ref6 hj (RR_0 hR) e]; rfl) (fun j t hj e => ?_)
  refine ⟨if rf (mP (aM A)) t = 0 then nI (sg (fe (aM A) (sF (aS A)) (sW (aS A)) t) (3 ^ mP (aM A))) else rf (mP (aM A)) t, fun h hR => ?_, fun h hR => ?_⟩
  · unfold fX11_footprints
    rw [c_refused hW hR hj e, ab_bindS, nI_clamp (by omega), ab_tr_n (by omega)]
    by_cases c : rf (mP (aM A)) t = 0
    · rw [if_pos c, if_pos c]
      exact Ok.ask (ixN (by omega) (by omega)) (Ok.bind (c_tally hW hR hj e) (fun h1 hr => Ok.some ⟨hr.1, fr37 hr.2.2⟩))
    · rw [if_neg c, if_neg c]
      exact Ok.some ⟨rfl, fr_r _ _ _⟩
  · unfold fX12_footprints
    generalize e0 : ab_wI h 64 0 0 = h0; have f0 : frR sk1 sc1 [80, 81] h h0 := (by subst e0; exact frR_64 (frR_r _ _ _ _) (by decide)); have hR0 : RR A h0 := (RR_sc hR f0).1
    rw [r_noFeet hW hR0 hj e, ab_bindS]
    by_cases c : rf (mP (aM A)) t = 0
    · rw [if_pos c, if_pos c]
      exact Ok.bind (r_laysFeet hW hR0 hj e) (fun r hr => Ok.some ⟨hr.1, fr76 f0 hr.2.2⟩)
    · rw [if_neg c, if_neg c]
      exact Ok.some ⟨rfl, f0⟩
/-- roads that were shown, as bits -/
def sbf (S : Nat → Nat) : Nat → Nat → Nat → Nat
  | 0, _, acc => acc
  | k + 1, r, acc => sbf S k (r + 1) (if S r ≤ 0 then acc else acc ||| 2 ^ r)
theorem c_shownBy {h : abJ} {p : Nat} {S : Nat → Nat} (hp : p < 6) (hb : ∀ r, r < 3 → S r ≤ 729) (hS : ∀ r, r < 3 → h.1 38 (p * 3 + r) = nI (S r)) : ∀ (k n r acc : Nat), r + k = 3 → k < n → fX5_shownBy_L4 h n (nI p) (nI acc) (nI r) = some (nI (sbf S k r acc)) := by
  intro k
  induction k with
  | zero =>
    intro n r acc hr hn
    obtain ⟨n, rfl⟩ : ∃ n0, n = n0 + 1 := ⟨n - 1, by omega⟩
    rw [fX5_shownBy_L4, if_pos (by rw [show (3 : Int32) = nI 3 from rfl, nI_leI (by omega) (by omega)]; omega)]; rfl
  | succ k ih =>
    intro n r acc hr hn
    obtain ⟨n, rfl⟩ : ∃ n0, n = n0 + 1 := ⟨n - 1, by omega⟩
    have hbr := hb r (by omega)
    have et : fX5_timesShown (nI p) (nI r) h = some (nI (S r)) := by
      unfold fX5_timesShown
      rw [if_neg (by rw [show (0 : Int32) = nI 0 from rfl, nI_ltI (by omega) (by omega)]; omega), if_neg (by rw [show (6 : Int32) = nI 6 from rfl, nI_leI (by omega) (by omega)]; omega), if_neg (by rw [show (0 : Int32) = nI 0 from rfl, nI_ltI (by omega) (by omega)]; omega), if_pos (by rw [show (3 : Int32) = nI 3 from rfl, nI_ltI (by omega) (by omega)]; omega), show (3 : Int32) = nI 3 from rfl, pk_mul, nI_add, nI_clamp (by omega), ab_askP (ixN (by omega) (by omega)), hS r (by omega)]
    rw [fX5_shownBy_L4, if_neg (by rw [show (3 : Int32) = nI 3 from rfl, nI_leI (by omega) (by omega)]; omega), et, ab_bindS, show (1 : Int32) = nI 1 from rfl, show (31 : Int32) = nI 31 from rfl, b_shl (by omega), b_or, sbf]
    unfold fX5_shownBy_J24
    rw [show (1 : Int32) = nI 1 from rfl, nI_add]
    by_cases c : S r ≤ 0
    · rw [if_pos (by rw [show (0 : Int32) = nI 0 from rfl, nI_leI (by omega) (by omega)]; exact c), if_pos c]
      exact ih n (r + 1) acc (by omega) (by omega)
    · rw [if_neg (by rw [show (0 : Int32) = nI 0 from rfl, nI_leI (by omega) (by omega)]; exact c), if_neg c]
      exact ih n (r + 1) _ (by omega) (by omega)
theorem r_shownBy {h : abJ} {p : Nat} {S : Nat → Nat} (hp : p < 6) (hb : ∀ r, r < 3 → S r ≤ 729) (hS : ∀ r, r < 3 → h.1 76 (3 * p + r) = nI (S r)) : ∀ (k n r acc : Nat), r + k = 3 → k < n → fX12_shown_L53 n (nI p) (nI acc) (nI r) h = some (nI (sbf S k r acc), h) := by
  intro k
  induction k with
  | zero =>
    intro n r acc hr hn
    obtain ⟨n, rfl⟩ : ∃ n0, n = n0 + 1 := ⟨n - 1, by omega⟩
    rw [fX12_shown_L53, if_pos (by rw [show (3 : Int32) = nI 3 from rfl, nI_leI (by omega) (by omega)]; omega)]; rfl
  | succ k ih =>
    intro n r acc hr hn
    obtain ⟨n, rfl⟩ : ∃ n0, n = n0 + 1 := ⟨n - 1, by omega⟩
    have hbr := hb r (by omega)
    rw [fX12_shown_L53, if_neg (by rw [show (3 : Int32) = nI 3 from rfl, nI_leI (by omega) (by omega)]; omega), show (3 : Int32) = nI 3 from rfl, pk_mul, nI_add, nI_clamp (by omega), ab_askP (ixN (by omega) (by omega)), hS r (by omega), show (31 : Int32) = nI 31 from rfl, sbf]
    unfold fX12_shown_J83
    rw [nI_1, show (1 : Int32) = nI 1 from rfl, b_shl (by omega), show (0 : Int32) = nI 0 from rfl, b_or, b_or, Nat.or_zero]
    by_cases c : S r ≤ 0
    · rw [if_pos (by rw [nI_leI (by omega) (by omega)]; exact c), if_pos c]
      exact ih n (r + 1) acc (by omega) (by omega)
    · rw [if_neg (by rw [nI_leI (by omega) (by omega)]; exact c), if_neg c]
      exact ih n (r + 1) _ (by omega) (by omega)
theorem sg_1 {F : Nat → Nat} (hF : ∀ i, F i ≤ 1) : ∀ n, sg F n ≤ n
  | 0 => Nat.le_refl _
  | n + 1 => by have := sg_1 hF n; have := hF n; rw [sg]; omega
theorem fe_le {m : MoT} {f w : Nat} {t : Nat × Nat × (Nat → Int64)} (a : Nat) : fe m f w t a ≤ 1 := by unfold fe; split <;> omega
theorem fs_le {m : MoT} {f w : Nat} {t : Nat × Nat × (Nat → Int64)} (p r a : Nat) : fs m f w t p r a ≤ fe m f w t a := by unfold fs; split <;> omega
theorem fs_b {m : MoT} (hO : MO m) {f w : Nat} {t : Nat × Nat × (Nat → Int64)} (p r : Nat) : sg (fs m f w t p r) (3 ^ mP m) ≤ sg (fe m f w t) (3 ^ mP m) ∧ sg (fe m f w t) (3 ^ mP m) ≤ 729 := by
  have h7 := MO_729 hO
  have := sg_1 (F := fe m f w t) fe_le (3 ^ mP m)
  exact ⟨sg_le (fun i _ => fs_le p r i), by omega⟩
theorem call_shown (x y : Int32) : call2 (fX11_shown x y) (fX12_shown x y) := by
  refine call2_ro (fun A hW => ?_)
  have hO := hW.1
  have h6 := hO.2.1
  have outy : (y < 0 ∨ nI (mP (aM A)) ≤ y) → ∃ v, (∀ h, RC A h → Ok (fX11_shown x y h) (fun x => x.1 = v ∧ fr sc0 [41] h x.2)) ∧ (∀ h, RR A h → Ok (fX12_shown x y h) (fun x => x.1 = v ∧ frR sk1 sc1 [80, 81] h x.2)) := by
    intro hy
    refine ⟨-2, fun h hR => ?_, fun h hR => ?_⟩
    · unfold fX11_shown
      rcases pk_ix x (n := 4) (by omega) with hx | hx | ⟨j, hj, rfl⟩
      · rw [c_noTray_n h (Or.inl hx), ab_bindS]; exact Ok.neg (by decide) (Ok.some ⟨rfl, fr_r _ _ _⟩)
      · rw [c_noTray_n h (Or.inr hx), ab_bindS]; exact Ok.neg (by decide) (Ok.some ⟨rfl, fr_r _ _ _⟩)
      · rw [c_noTray h hj, ab_bindS]
        refine Ok.pos rfl ?_
        rw [c_has_out hR.1 hy, ab_bindS]; exact Ok.pos rfl (Ok.some ⟨rfl, fr_r _ _ _⟩)
    · unfold fX12_shown
      generalize e0 : ab_wI h 64 0 0 = h0; have f0 : frR sk1 sc1 [80, 81] h h0 := (by subst e0; exact frR_64 (frR_r _ _ _ _) (by decide)); have hR0 : RR A h0 := (RR_sc hR f0).1
      rcases pk_ix x (n := 4) (by omega) with hx | hx | ⟨j, hj, rfl⟩
      · rw [r_w03n (n := 3) (B := 3) _ rfl (x_ge (by omega) (Or.inl hx)), ab_bindS]; exact Ok.pos rfl (Ok.some ⟨rfl, f0⟩)
      · rw [r_w03n (n := 3) (B := 3) _ rfl (x_ge (by omega) (Or.inr hx)), ab_bindS]; exact Ok.pos rfl (Ok.some ⟨rfl, f0⟩)
      · rw [r_w03 (n := 3) (B := 3) _ (by omega) (by omega) rfl, ab_bindS, decide_eq_true (show j ≤ 3 by omega)]
        refine Ok.neg (by decide) ?_
        rw [r_isPost_out hO hR0.1 hy, ab_bindS]; exact Ok.pos rfl (Ok.some ⟨rfl, f0⟩)
  rcases pk_ix y (n := mP (aM A)) (by omega) with hy | hy | ⟨p, hp, rfl⟩
  · exact outy (Or.inl hy)
  · exact outy (Or.inr hy)
  refine tray_ro (c := fun x => fX11_shown x (nI p)) (r := fun x => fX12_shown x (nI p)) (A := A) (v2 := -2) (v6 := -6) x (fun h x hx => by unfold fX11_shown; rw [c_noTray_n h hx]; rfl) (fun h x hx => by unfold fX12_shown; rw [r_w03n (n := 3) (B := 3) _ rfl (x_ge (by omega) hx)]; rfl) (fun h j hj hR e => by unfold fX11_shown; rw [c_noTray h hj, ab_bindS, if_pos (show nI 0 = 0 from rfl), c_has_in hO hR.1 hp, ab_bindS, if_neg (by decide), c_ref6 hj hR e]; rfl) (fun h j hj hR e => by unfold fX12_shown; rw [r_w03 (n := 3) (B := 3) _ (by omega) (by omega) rfl, ab_bindS, decide_eq_true (show j ≤ 3 by omega), if_neg (by decide), r_isPost_in hO (RR_0 hR).1 hp, ab_bindS, if_neg (by decide), r_ref6 hj (RR_0 hR) e]; rfl) (fun j t hj e => ?_)
  have hb := fun r => fs_b hO (f := sF (aS A)) (w := sW (aS A)) (t := t) p r
  refine ⟨if rf (mP (aM A)) t = 0 then nI (sbf (fun r => sg (fs (aM A) (sF (aS A)) (sW (aS A)) t p r) (3 ^ mP (aM A))) 3 0 0) else rf (mP (aM A)) t, fun h hR => ?_, fun h hR => ?_⟩
  · unfold fX11_shown
    rw [c_noTray h hj, ab_bindS, if_pos (show nI 0 = 0 from rfl), c_has_in hO hR.1 hp, ab_bindS, if_neg (by decide), c_refused hW hR hj e, ab_bindS, nI_clamp (by omega), ab_tr_n (by omega)]
    by_cases c : rf (mP (aM A)) t = 0
    · rw [if_pos c, if_pos c]
      refine Ok.ask (ixN (by omega) (by omega)) (Ok.bind (c_tally hW hR hj e) (fun h1 hr => ?_))
      unfold fX5_shownBy
      rw [show (0 : Int32) = nI 0 from rfl, c_shownBy (by omega) (fun r _ => by have := hb r; omega) (fun r hr2 => hr.2.1 p r (by omega) hr2) 3 ab_N 0 0 (by omega) (by unfold ab_N; omega), ab_bindS]
      exact Ok.some ⟨rfl, fr37 hr.2.2⟩
    · rw [if_neg c, if_neg c]
      exact Ok.some ⟨rfl, fr_r _ _ _⟩
  · unfold fX12_shown
    generalize e0 : ab_wI h 64 0 0 = h0; have f0 : frR sk1 sc1 [80, 81] h h0 := (by subst e0; exact frR_64 (frR_r _ _ _ _) (by decide)); have hR0 : RR A h0 := (RR_sc hR f0).1
    rw [r_w03 (n := 3) (B := 3) _ (by omega) (by omega) rfl, ab_bindS, decide_eq_true (show j ≤ 3 by omega), if_neg (by decide), r_isPost_in hO hR0.1 hp, ab_bindS, if_neg (by decide), r_noFeet hW hR0 hj e, ab_bindS]
    by_cases c : rf (mP (aM A)) t = 0
    · rw [if_pos c, if_pos c]
      refine Ok.bind (r_laysFeet hW hR0 hj e) (fun r hr => ?_)
      rw [show (0 : Int32) = nI 0 from rfl, r_shownBy (by omega) (fun r _ => by have := hb r; omega) (fun r' hr2 => hr.2.1 p r' hp hr2) 3 ab_N 0 0 (by omega) (by unfold ab_N; omega)]
      exact Ok.some ⟨rfl, fr76 f0 hr.2.2⟩
    · rw [if_neg c, if_neg c]
      exact Ok.some ⟨rfl, f0⟩
