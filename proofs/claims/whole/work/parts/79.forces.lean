/-! forces, best: the calls. -/
theorem tb_u {d e : Nat → Nat} {h : abJ} {p v w : Nat} (ht : tb d e h) : tb (ups d p v) (ups e p w) (ab_wI (ab_wI h 83 p (nI v)) 84 p (nI w)) := by
  refine ⟨fun q hq => ?_, fun q hq => ?_⟩
  · rw [ab_w1n (by decide)]
    by_cases e1 : q = p
    · subst e1; rw [ab_w1e, ups_s]
    · rw [ab_w1k e1, ups_n e1]; exact ht.1 q hq
  · by_cases e1 : q = p
    · subst e1; rw [ab_w1e, ups_s]
    · rw [ab_w1k e1, ab_w1n (by decide), ups_n e1]; exact ht.2 q hq
theorem PV_y {m : MoT} {g j y : Nat} {d0 e0 d e : Nat → Nat} (h : PV m g d0 e0 j d e y) : y = 0 ∨ y = 1 := h.2.2.2.imp (fun q => q.1) (fun q => q.1)
theorem r_force54 {A : AbT} {g : Nat} {d0 e0 : Nat → Nat} {h0 : abJ} {K : Int32 → Int32 → abJ → Option (Int32 × abJ)} {Q : Int32 × abJ → Prop} (hW : WF A) (hg : g < mP (aM A)) (hb : ∀ q, d0 q ≤ 268435456 ∧ e0 q ≤ 268435456) (hg0 : d0 g = 0 ∧ e0 g = 0) (hK : ∀ d e y h, PV (aM A) g d0 e0 (mP (aM A)) d e y → tb d e h → RR A h → frR sk1 sc1 [80, 81] h0 h → Ok (K (nI g) (nI y) h) Q) : ∀ (k n j y : Nat) (d e : Nat → Nat) (h : abJ), j + k = mP (aM A) → k < n → PV (aM A) g d0 e0 j d e y → tb d e h → RR A h → frR sk1 sc1 [80, 81] h0 h → Ok (fX12_laysForce_L54 K n (nI g) (nI y) (nI j) h) Q := by
  have hO := hW.1
  have h6 := hO.2.1
  intro k
  induction k with
  | zero =>
    intro n j y d e h hj hn hP ht hR hfr
    obtain ⟨n, rfl⟩ : ∃ n0, n = n0 + 1 := ⟨n - 1, by omega⟩
    have e1 : j = mP (aM A) := by omega
    subst e1
    rw [fX12_laysForce_L54, hR.1.2.1]
    exact Ok.pos (Int32.le_refl _) (hK d e y h hP ht hR hfr)
  | succ k ih =>
    intro n j y d e h hj hn hP ht hR hfr
    obtain ⟨n, rfl⟩ : ∃ n0, n = n0 + 1 := ⟨n - 1, by omega⟩
    have hd : ∀ q, d q ≤ 268435456 := fun q => by have := hP.1 q; have := hb q; omega
    have he : ∀ q, e q ≤ 268435456 := fun q => by have := hP.1 q; have := hb q; omega
    rw [fX12_laysForce_L54, hR.1.2.1]
    refine Ok.neg (by rw [nI_leI (by omega) (by omega)]; omega) ?_
    by_cases c : j = g
    · refine Ok.pos (by rw [c]) ?_
      unfold fX12_laysForce_J210
      rw [nI_1]
      exact ih n (j + 1) y d e h (by omega) (by omega) (PV_skip hP hg0 (Or.inl c)) ht hR hfr
    · refine Ok.neg (by rw [nI_eq (by omega) (by omega)]; exact c) ?_
      rw [r_isRest hO hR.1 (by omega), ab_bindS]
      by_cases c2 : rs (aM A) j = true
      · rw [c2]
        refine Ok.neg (by decide) ?_
        unfold fX12_laysForce_J210
        rw [nI_1]
        exact ih n (j + 1) y d e h (by omega) (by omega) (PV_skip hP hg0 (Or.inr c2)) ht hR hfr
      · have c3 : rs (aM A) j = false := by simpa using c2
        rw [c3]
        refine Ok.pos rfl ?_
        rw [r_otherAt hO hR.1 (by omega) hd ht.1, ab_bindS, nI_clamp (by omega), ht.1 j (by omega)]
        refine Ok.ask (ixN (by omega) (by omega)) ?_
        rw [show (0 : Int32) = nI 0 from rfl, r_force98 hO hR.1 (by omega) (PV_y hP) hd he ht (inc_b _) (mR (aM A) j) ab_N 0 (d j) (by omega) (by have := hO.2.2.2.2.1 j; unfold ab_N; omega) (hd j)]
        have f1 : frR sk1 sc1 [80, 81] h (ab_wI (ab_wI h 83 j (nI (mnd (aM A) j e (mR (aM A) j) 0 (d j)))) 84 j (nI (min (e j) (inc (mxd (aM A) j d (mR (aM A) j) 0 0))))) := frR_w (frR_w (frR_r _ _ _ _) (by decide) (by decide)) (by decide) (by decide)
        exact ih n (j + 1) _ _ _ _ (by omega) (by omega) (PV_step hP hb (by omega) c c3) (tb_u ht) (RR_sc hR f1).1 (frR_t hfr f1)
theorem PV_CK {m : MoT} {g y k : Nat} {d0 e0 d e : Nat → Nat} (hg : g < mP m) (h : PV m g d0 e0 (mP m) d e y) (hk : k < 1000) (hC : CK m g k d0 e0) : CK m g (k + 1) d e := by
  intro n p hn
  by_cases c : p < mP m
  · exact h.2.2.1 k hk hC n p hn c
  · have hpg : p ≠ g := by omega
    cases n with
    | zero => exact ⟨fun q => absurd (f0_m.1.mp q) hpg, fun q => absurd (f0_m.2.mp q) hpg⟩
    | succ n =>
      refine ⟨fun q => ?_, fun q => ?_⟩
      · rcases fF_m.mp q with a | ⟨b, _⟩
        · exact absurd a hpg
        · exact absurd b c
      · rcases fO_m.mp q with a | ⟨b, _⟩
        · exact absurd a hpg
        · exact absurd b c
/-- the tables as they end -/
def FX (m : MoT) (g : Nat) (d e : Nat → Nat) : Prop := SD m g d e ∧ (∀ k, k ≤ 1000 → CK m g k d e) ∧ ∀ q, d q ≤ 268435456 ∧ e q ≤ 268435456
theorem r_force46 {A : AbT} {g : Nat} {h0 : abJ} (hW : WF A) (hg : g < mP (aM A)) : ∀ (c k n : Nat) (d0 e0 : Nat → Nat) (h : abJ), k + c = 12 → c + 1 < n → SD (aM A) g d0 e0 → CK (aM A) g 0 d0 e0 → CK (aM A) g k d0 e0 → (∀ q, d0 q ≤ 268435456 ∧ e0 q ≤ 268435456) → (d0 g = 0 ∧ e0 g = 0) → tb d0 e0 h → RR A h → frR sk1 sc1 [80, 81] h0 h → Ok (fX12_laysForce_L46 n (nI g) (nI 1) h) (fun r => ∃ d e, r.1 = nI (d (sW (aS A))) ∧ FX (aM A) g d e ∧ tb d e r.2 ∧ RR A r.2 ∧ frR sk1 sc1 [80, 81] h0 r.2) := by
  have hO := hW.1
  have h6 := hO.2.1
  have hw := hW.2.1.1
  have pass : ∀ (k n : Nat) (d0 e0 : Nat → Nat) (h : abJ), k ≤ 12 → SD (aM A) g d0 e0 → CK (aM A) g 0 d0 e0 → CK (aM A) g k d0 e0 → (∀ q, d0 q ≤ 268435456 ∧ e0 q ≤ 268435456) → (d0 g = 0 ∧ e0 g = 0) → tb d0 e0 h → RR A h → frR sk1 sc1 [80, 81] h0 h → (k < 12 → ∀ d e h', SD (aM A) g d e → CK (aM A) g 0 d e → CK (aM A) g (k + 1) d e → (∀ q, d q ≤ 268435456 ∧ e q ≤ 268435456) → (d g = 0 ∧ e g = 0) → tb d e h' → RR A h' → frR sk1 sc1 [80, 81] h0 h' → Ok (fX12_laysForce_L46 (n + 1) (nI g) (nI 1) h') (fun r => ∃ d e, r.1 = nI (d (sW (aS A))) ∧ FX (aM A) g d e ∧ tb d e r.2 ∧ RR A r.2 ∧ frR sk1 sc1 [80, 81] h0 r.2)) → Ok (fX12_laysForce_L46 (n + 2) (nI g) (nI 1) h) (fun r => ∃ d e, r.1 = nI (d (sW (aS A))) ∧ FX (aM A) g d e ∧ tb d e r.2 ∧ RR A r.2 ∧ frR sk1 sc1 [80, 81] h0 r.2) := by
    intro k n d0 e0 h hk hS hC0 hC hb hg0 ht hR hfr hnext
    rw [fX12_laysForce_L46]
    refine Ok.neg (by decide) ?_
    refine r_force54 (d0 := d0) (e0 := e0) hW hg hb hg0 (fun d e y h1 hP ht1 hR1 hf1 => ?_) (mP (aM A)) ab_N 0 0 d0 e0 h (by omega) (by unfold ab_N; omega) ⟨fun q => ⟨Nat.le_refl _, Nat.le_refl _⟩, hS, fun k hk hC n p hn hp => by omega, Or.inl ⟨rfl, fun q => ⟨rfl, rfl⟩⟩⟩ ht hR hfr
    have hb1 : ∀ q, d q ≤ 268435456 ∧ e q ≤ 268435456 := fun q => by have := hP.1 q; have := hb q; omega
    rcases hP.2.2.2 with ⟨rfl, eq⟩ | ⟨rfl, q, hq⟩
    · have ed : d = d0 := funext (fun q => (eq q).1)
      have ee : e = e0 := funext (fun q => (eq q).2)
      have hall : ∀ k, k ≤ 1000 → CK (aM A) g k d e := by
        intro k
        induction k with
        | zero => intro _; rw [ed, ee]; exact hC0
        | succ k ih => intro hk; exact PV_CK hg hP (by omega) (by rw [← ed, ← ee]; exact ih (by omega))
      show Ok (fX12_laysForce_L46 (n + 1) (nI g) (nI 0) h1) _
      rw [fX12_laysForce_L46, show h1.1 65 33 = nI (sW (aS A)) from hR1.2.1.1, nI_clamp (by omega), ht1.1 _ (by omega)]
      exact Ok.pos rfl (Ok.ask (ixN (by omega) (by omega)) (Ok.some ⟨d, e, rfl, ⟨hP.2.1, hall, hb1⟩, ht1, hR1, hf1⟩))
    · by_cases c : k < 12
      · refine hnext c d e h1 hP.2.1 ?_ (PV_CK hg hP (by omega) hC) hb1 ?_ ht1 hR1 hf1
        · intro n p hn
          exact PV_CK hg hP (by omega) hC n p (by omega)
        · have := hP.1 g
          rw [hg0.1, hg0.2] at this
          omega
      · exfalso
        have hk12 : k = 12 := by omega
        subst hk12
        have hbq := hb q
        rcases hq with hq | hq
        · have hF := (hP.2.1 (d q) q (by omega)).1 (Nat.le_refl _)
          by_cases c2 : d q ≤ 12
          · have := (hC (d q) q c2).1 hF
            omega
          · rw [fFO_12 hO (by omega) (by omega)] at hF
            have := (hC 12 q (Nat.le_refl _)).1 hF
            omega
        · have hF := (hP.2.1 (e q) q (by omega)).2 (Nat.le_refl _)
          by_cases c2 : e q ≤ 12
          · have := (hC (e q) q c2).2 hF
            omega
          · rw [fFO_12 hO (by omega) (by omega)] at hF
            have := (hC 12 q (Nat.le_refl _)).2 hF
            omega
  intro c
  induction c with
  | zero =>
    intro k n d0 e0 h hk hn hS hC0 hC hb hg0 ht hR hfr
    obtain ⟨n, rfl⟩ : ∃ n0, n = n0 + 2 := ⟨n - 2, by omega⟩
    exact pass k n d0 e0 h (by omega) hS hC0 hC hb hg0 ht hR hfr (fun q => by omega)
  | succ c ih =>
    intro k n d0 e0 h hk hn hS hC0 hC hb hg0 ht hR hfr
    obtain ⟨n, rfl⟩ : ∃ n0, n = n0 + 2 := ⟨n - 2, by omega⟩
    exact pass k n d0 e0 h (by omega) hS hC0 hC hb hg0 ht hR hfr (fun _ d e h' a1 a2 a3 a4 a5 a6 a7 a8 => ih (k + 1) (n + 1) d e h' (by omega) (by omega) a1 a2 a3 a4 a5 a6 a7 a8)
def dgi (g : Nat) : Nat → Nat := fun q => if q = g then 0 else 268435456
theorem r_force2 {A : AbT} {g : Nat} {h0 : abJ} (hW : WF A) (hg : g < mP (aM A)) : ∀ (k n j : Nat) (h : abJ), j + k = 6 → k < n → (∀ q, q < j → h.1 83 q = nI (dgi g q) ∧ h.1 84 q = nI (dgi g q)) → RR A h → frR sk1 sc1 [80, 81] h0 h → Ok (fX12_laysForce_L2 n (nI g) (nI j) h) (fun r => ∃ d e, r.1 = nI (d (sW (aS A))) ∧ FX (aM A) g d e ∧ tb d e r.2 ∧ RR A r.2 ∧ frR sk1 sc1 [80, 81] h0 r.2) := by
  have hO := hW.1
  have h6 := hO.2.1
  intro k
  induction k with
  | zero =>
    intro n j h hj hn hq hR hfr
    obtain ⟨n, rfl⟩ : ∃ n0, n = n0 + 1 := ⟨n - 1, by omega⟩
    rw [fX12_laysForce_L2]
    refine Ok.pos (by rw [show (6 : Int32) = nI 6 from rfl, nI_leI (by omega) (by omega)]; omega) ?_
    have hC0 : CK (aM A) g 0 (dgi g) (dgi g) := by
      intro n p hn
      have e : n = 0 := by omega
      subst e
      exact ⟨fun q => by rw [f0_m.1.mp q]; show dgi g g ≤ 0; unfold dgi; rw [if_pos rfl]; exact Nat.le_refl _, fun q => by rw [f0_m.2.mp q]; show dgi g g ≤ 0; unfold dgi; rw [if_pos rfl]; exact Nat.le_refl _⟩
    have hS : SD (aM A) g (dgi g) (dgi g) := by
      intro n p hn
      have key : dgi g p ≤ n → p = g := fun q => by
        unfold dgi at q
        by_cases c : p = g
        · exact c
        · rw [if_neg c] at q; omega
      exact ⟨fun q => by rw [key q]; exact (fFO_g n).1, fun q => by rw [key q]; exact (fFO_g n).2⟩
    have hg0 : dgi g g = 0 := if_pos rfl
    exact r_force46 hW hg 12 0 ab_N (dgi g) (dgi g) h (by omega) (by unfold ab_N; omega) hS hC0 hC0 (fun q => by unfold dgi; split <;> omega) ⟨hg0, hg0⟩ ⟨fun q h1 => (hq q (by omega)).1, fun q h1 => (hq q (by omega)).2⟩ hR hfr
  | succ k ih =>
    intro n j h hj hn hq hR hfr
    obtain ⟨n, rfl⟩ : ∃ n0, n = n0 + 1 := ⟨n - 1, by omega⟩
    rw [fX12_laysForce_L2]
    refine Ok.neg (by rw [show (6 : Int32) = nI 6 from rfl, nI_leI (by omega) (by omega)]; omega) ?_
    have go : ∀ v, v = dgi g j → Ok (fX12_laysForce_J25 (fun y1 y2 h => fX12_laysForce_L2 n y1 y2 h) (nI g) (nI j) (nI j) (nI v) h) (fun r => ∃ d e, r.1 = nI (d (sW (aS A))) ∧ FX (aM A) g d e ∧ tb d e r.2 ∧ RR A r.2 ∧ frR sk1 sc1 [80, 81] h0 r.2) := by
      intro v hv
      unfold fX12_laysForce_J25
      rw [nI_clamp (by omega), nI_1, ab_w1e]
      refine Ok.ask (ixN (by omega) (by omega)) (Ok.ask (ixN (by omega) (by omega)) (Ok.ask (ixN (by omega) (by omega)) ?_))
      have f1 : frR sk1 sc1 [80, 81] h (ab_wI (ab_wI h 83 j (nI v)) 84 j (nI v)) := frR_w (frR_w (frR_r _ _ _ _) (by decide) (by decide)) (by decide) (by decide)
      refine ih n (j + 1) _ (by omega) (by omega) (fun q h1 => ?_) (RR_sc hR f1).1 (frR_t hfr f1)
      rw [ab_w1n (show 83 ≠ 84 by decide)]
      by_cases e : q = j
      · subst e; rw [ab_w1e, ab_w1e, hv]; exact ⟨rfl, rfl⟩
      · rw [ab_w1k e, ab_w1k e, ab_w1n (show 84 ≠ 83 by decide)]; exact hq q (by omega)
    by_cases c : j = g
    · exact Ok.pos (by rw [c]) (go 0 (by unfold dgi; rw [if_pos c]))
    · exact Ok.neg (by rw [nI_eq (by omega) (by omega)]; exact c) (go 268435456 (by unfold dgi; rw [if_neg c]))
theorem FX_w {m : MoT} {g w : Nat} {d e : Nat → Nat} (hO : MO m) (hg : g < 6) (h : FX m g d e) : d w = (match fsr m g w 13 0 with | none => 268435456 | some j => j) := by
  obtain ⟨hS, hC, hb⟩ := h
  cases ef : fsr m g w 13 0 with
  | none =>
    have hn := fsr_n ef
    have hbw := (hb w).1
    show d w = 268435456
    refine Classical.byContradiction (fun q => ?_)
    have hF := (hS (d w) w (by omega)).1 (Nat.le_refl _)
    by_cases c : d w ≤ 12
    · rw [hn (d w) (by omega) (by omega)] at hF; cases hF
    · rw [fFO_12 hO hg (by omega), hn 12 (by omega) (by omega)] at hF; cases hF
  | some j =>
    obtain ⟨_, hj, hF, hn⟩ := fsr_s ef
    show d w = j
    have h1 := (hC 12 (by omega) j w (by omega)).1 hF
    refine Classical.byContradiction (fun q => ?_)
    have hF2 := (hS (d w) w (by omega)).1 (Nat.le_refl _)
    rw [hn (d w) (by omega) (by omega)] at hF2
    cases hF2
theorem r_forces {A : AbT} {g : Nat} {h0 h : abJ} (hW : WF A) (hg : g < mP (aM A)) (hR : RR A h) (hf : frR sk1 sc1 [80, 81] h0 h) : Ok (fX12_laysForce (nI g) h) (fun r => ∃ d e, r.1 = nI (d (sW (aS A))) ∧ FX (aM A) g d e ∧ tb d e r.2 ∧ RR A r.2 ∧ frR sk1 sc1 [80, 81] h0 r.2) := by
  unfold fX12_laysForce
  exact r_force2 hW hg 6 ab_N 0 h (by omega) (by unfold ab_N; omega) (fun q hq => by omega) hR hf
theorem call_forces (x : Int32) : call2 (fX11_forces x) (fX12_forces x) := by
  refine post_ro (c := fX11_forces) (r := fX12_forces) (v0 := -2) x (fun A h x hW hR hx => ?_) (fun A h x hW hR hx => ?_) (fun A p hW hp => ⟨oI (fsr (aM A) p (sW (aS A)) 13 0), fun h hR => ?_, fun h hR => ?_⟩)
  · unfold fX11_forces
    rw [c_has_out hR.1 hx]; rfl
  · unfold fX12_forces
    rw [r_isPost_out hW.1 (RR_0 hR).1 hx]; rfl
  · have h6 := hW.1.2.1
    have hw := hW.2.1.1
    unfold fX11_forces
    rw [c_has_in hW.1 hR.1 hp, ab_bindS, hR.2.1.1]
    refine Ok.neg (by decide) ?_
    exact Ok.bind (c_force hW.1 hR.1 (by omega) (by omega)) (fun r hr => Ok.some ⟨hr.1, fr_m hr.2.2 (by decide) (by simp)⟩)
  · have h6 := hW.1.2.1
    unfold fX12_forces
    generalize e0 : ab_wI h 64 0 0 = h0; have f0 : frR sk1 sc1 [80, 81] h h0 := (by subst e0; exact frR_64 (frR_r _ _ _ _) (by decide)); have hR0 : RR A h0 := (RR_sc hR f0).1
    rw [r_isPost_in hW.1 hR0.1 hp, ab_bindS]
    refine Ok.neg (by decide) ?_
    refine Ok.bind (r_forces hW hp hR0 f0) (fun r hr => ?_)
    obtain ⟨d, e, q1, q2, q3, q4, q5⟩ := hr
    have hd := FX_w (w := sW (aS A)) hW.1 (by omega) q2
    rw [q1, hd]
    cases ef : fsr (aM A) p (sW (aS A)) 13 0 with
    | none => exact Ok.pos rfl (Ok.some ⟨rfl, q5⟩)
    | some j =>
      have hj := (fsr_s ef).2.1
      exact Ok.neg (by rw [show (268435456 : Int32) = nI 268435456 from rfl]; show ¬ nI j = nI 268435456; rw [nI_eq (by omega) (by omega)]; omega) (Ok.some ⟨rfl, q5⟩)
theorem call_best (x : Int32) : call2 (fX11_best x) (fX12_best x) := by
  refine post_ro (c := fX11_best) (r := fX12_best) (v0 := -2) x (fun A h x hW hR hx => ?_) (fun A h x hW hR hx => ?_) (fun A p hW hp => ⟨fbv (aM A) p (sW (aS A)), fun h hR => ?_, fun h hR => ?_⟩)
  · unfold fX11_best
    rw [c_has_out hR.1 hx]; rfl
  · unfold fX12_best
    rw [r_isPost_out hW.1 (RR_0 hR).1 hx]; rfl
  · have h6 := hW.1.2.1
    have hw := hW.2.1.1
    unfold fX11_best
    rw [c_has_in hW.1 hR.1 hp, ab_bindS, hR.2.1.1]
    refine Ok.neg (by decide) ?_
    exact Ok.bind (c_forcing hW.1 hR.1 (by omega) (by omega)) (fun r hr => Ok.some ⟨hr.1, fr_m hr.2 (by decide) (by simp)⟩)
  · have h6 := hW.1.2.1
    have hO := hW.1
    have hw := hW.2.1.1
    have h3 := hO.2.2.2.2.1 (sW (aS A))
    unfold fX12_best
    generalize e0 : ab_wI h 64 0 0 = h0; have f0 : frR sk1 sc1 [80, 81] h h0 := (by subst e0; exact frR_64 (frR_r _ _ _ _) (by decide)); have hR0 : RR A h0 := (RR_sc hR f0).1
    rw [r_isPost_in hW.1 hR0.1 hp, ab_bindS]
    refine Ok.neg (by decide) ?_
    refine Ok.bind (r_forces hW hp hR0 f0) (fun r hr => ?_)
    obtain ⟨d, e, q1, q2, q3, q4, q5⟩ := hr
    have hd := FX_w (w := sW (aS A)) hW.1 (by omega) q2
    rw [q1]
    unfold fbv
    cases ef : fsr (aM A) p (sW (aS A)) 13 0 with
    | none =>
      rw [ef] at hd
      rw [show d (sW (aS A)) = 268435456 from hd]
      exact Ok.neg (by decide) (Ok.pos rfl (Ok.some ⟨rfl, q5⟩))
    | some j =>
      rw [ef] at hd
      rw [show d (sW (aS A)) = j from hd]
      obtain ⟨_, hj, hF, hn⟩ := fsr_s ef
      cases j with
      | zero => exact Ok.pos rfl (Ok.some ⟨rfl, q5⟩)
      | succ j =>
        refine Ok.neg (by rw [show (0 : Int32) = nI 0 from rfl, nI_eq (by omega) (by omega)]; omega) (Ok.neg (by rw [show (268435456 : Int32) = nI 268435456 from rfl, nI_eq (by omega) (by omega)]; omega) ?_)
        have hne : sW (aS A) ≠ p := fun q => by
          have := hn 0 (by omega) (by omega)
          rw [f0_m.1.mpr q] at this
          cases this
        obtain ⟨_, hrs, r0, hr0, hO0⟩ : sW (aS A) < mP (aM A) ∧ rs (aM A) (sW (aS A)) = false ∧ ∃ r, r < mR (aM A) (sW (aS A)) ∧ (fFO (aM A) p j).2.testBit (mL (aM A) (sW (aS A)) r) = true := by
          rcases fF_m.mp hF with a | a
          · exact absurd a hne
          · exact a
        have heq : ∀ r, r < mR (aM A) (sW (aS A)) → (inc (e (mL (aM A) (sW (aS A)) r)) = j + 1 ↔ (fFO (aM A) p j).2.testBit (mL (aM A) (sW (aS A)) r) = true) := by
          intro r hr
          constructor
          · intro q
            have : e (mL (aM A) (sW (aS A)) r) ≤ j := by unfold inc at q; split at q <;> omega
            exact (q2.1 j _ (by omega)).2 this
          · intro q
            have h1 := (q2.2.1 12 (by omega) j _ (by omega)).2 q
            have h2 : ¬ e (mL (aM A) (sW (aS A)) r) < j := fun q3 => by
              obtain ⟨j', ej⟩ : ∃ j', j = j' + 1 := ⟨j - 1, by omega⟩
              have h4 := (q2.1 j' (mL (aM A) (sW (aS A)) r) (by omega)).2 (by omega)
              have h5 := hn (j' + 1) (by omega) (by omega)
              rw [fF_m.mpr (Or.inr ⟨hw, hrs, r, hr, h4⟩)] at h5
              cases h5
            unfold inc
            rw [if_pos (by omega)]; omega
        have key : ∀ (k n x : Nat), x + k = mR (aM A) (sW (aS A)) → k < n → (∃ r, x ≤ r ∧ r < mR (aM A) (sW (aS A)) ∧ (fFO (aM A) p j).2.testBit (mL (aM A) (sW (aS A)) r) = true) → fX12_best_L38 n (nI (j + 1)) (nI x) r.2 = some (oI (frd (aM A) (fFO (aM A) p j).2 (sW (aS A)) k x), r.2) := by
          intro k
          induction k with
          | zero =>
            intro n x hx hn2 hex
            obtain ⟨r, a, b, _⟩ := hex
            omega
          | succ k ih =>
            intro n x hx hn2 hex
            obtain ⟨n, rfl⟩ : ∃ n0, n = n0 + 1 := ⟨n - 1, by omega⟩
            have hib := inc_b (e (mL (aM A) (sW (aS A)) x))
            rw [fX12_best_L38, show r.2.1 65 33 = nI (sW (aS A)) from q4.2.1.1, r_firstBy hO q4.1 (by omega) (by omega) (fun q => (q2.2.2 q).2) q3.2, ab_bindS, nI_1, frd]
            by_cases c : (fFO (aM A) p j).2.testBit (mL (aM A) (sW (aS A)) x) = true
            · rw [if_pos (by rw [(heq x (by omega)).mpr c]), if_pos c]; rfl
            · rw [if_neg (by rw [nI_eq (by omega) (by omega)]; exact fun q => c ((heq x (by omega)).mp q)), if_neg c]
              obtain ⟨r', a, b, c2⟩ := hex
              refine ih n (x + 1) (by omega) (by omega) ⟨r', ?_, b, c2⟩
              by_cases e3 : r' = x
              · subst e3; exact absurd c2 c
              · omega
        rw [show (0 : Int32) = nI 0 from rfl, key (mR (aM A) (sW (aS A))) ab_N 0 (by omega) (by unfold ab_N; omega) ⟨r0, by omega, hr0, hO0⟩]
        exact Ok.some ⟨rfl, q5⟩
