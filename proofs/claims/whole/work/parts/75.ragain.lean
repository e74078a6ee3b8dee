/-! again: the reference, the call. -/
theorem sg_pos {F : Nat → Nat} : ∀ {N : Nat}, 0 < sg F N ↔ ∃ v, v < N ∧ 0 < F v
  | 0 => ⟨fun q => absurd q (Nat.lt_irrefl _), fun ⟨v, a, _⟩ => by omega⟩
  | N + 1 => by
    rw [sg]
    constructor
    · intro q
      by_cases c : 0 < F N
      · exact ⟨N, by omega, c⟩
      · obtain ⟨v, a, b⟩ := (sg_pos (F := F) (N := N)).mp (by omega)
        exact ⟨v, by omega, b⟩
    · rintro ⟨v, a, b⟩
      by_cases c : v = N
      · subst c; omega
      · have := (sg_pos (F := F) (N := N)).mpr ⟨v, by omega, b⟩
        omega
theorem sg_upd {F G : Nat → Nat} {u : Nat} (h : ∀ i, i ≠ u → F i = G i) : ∀ {N : Nat}, u < N → sg F N + G u = sg G N + F u
  | 0, q => by omega
  | N + 1, q => by
    rw [sg, sg]
    by_cases c : u = N
    · subst c
      rw [sg_congr (F := F) (G := G) (fun i hi => h i (by omega))]
      omega
    · have := sg_upd h (N := N) (by omega)
      rw [h N (fun e => c e.symm)]
      omega
noncomputable def lds (m : MoT) (f : Nat) (X : Nat → Bool) (t n : Nat) : Nat := sg (fun v => if X v = true ∧ nx m f v = some t then 1 else 0) n
def scb (X : Nat → Bool) (n : Nat) : Nat := sg (fun v => if X v = true then 1 else 0) n
theorem lds_s {m : MoT} {f : Nat} {X : Nat → Bool} {t n : Nat} : lds m f X t (n + 1) = lds m f X t n + (if X n = true ∧ nx m f n = some t then 1 else 0) := rfl
theorem scb_s {X : Nat → Bool} {n : Nat} : scb X (n + 1) = scb X n + (if X n = true then 1 else 0) := rfl
theorem lds_b {m : MoT} {f : Nat} {X : Nat → Bool} {t n : Nat} : lds m f X t n ≤ n := sg_1 (fun i => by split <;> omega) n
theorem scb_b {X : Nat → Bool} {n : Nat} : scb X n ≤ n := sg_1 (fun i => by split <;> omega) n
theorem lds_p {m : MoT} {f : Nat} {X : Nat → Bool} {t n : Nat} : 0 < lds m f X t n ↔ ∃ v, v < n ∧ X v = true ∧ nx m f v = some t := by
  unfold lds
  rw [sg_pos]
  constructor
  · rintro ⟨v, a, b⟩
    by_cases c : X v = true ∧ nx m f v = some t
    · exact ⟨v, a, c⟩
    · rw [if_neg c] at b; omega
  · rintro ⟨v, a, b⟩
    exact ⟨v, a, by rw [if_pos b]; omega⟩
def rmv (X : Nat → Bool) (u : Nat) : Nat → Bool := fun x => if x = u then false else X x
theorem rmv_s (X : Nat → Bool) (u : Nat) : rmv X u u = false := if_pos rfl
theorem rmv_n {X : Nat → Bool} {u x : Nat} (h : x ≠ u) : rmv X u x = X x := if_neg h
theorem lds_r {m : MoT} {f : Nat} {X : Nat → Bool} {u t n : Nat} (hu : u < n) (hX : X u = true) : lds m f X t n = lds m f (rmv X u) t n + (if nx m f u = some t then 1 else 0) := by
  have := sg_upd (F := fun v => if X v = true ∧ nx m f v = some t then 1 else 0) (G := fun v => if rmv X u v = true ∧ nx m f v = some t then 1 else 0) (u := u) (fun i hi => by simp only [rmv_n hi]) hu
  rw [rmv_s, hX, if_neg (show ¬ (false = true ∧ nx m f u = some t) from fun q => by cases q.1)] at this
  unfold lds
  rw [Nat.add_zero] at this
  rw [this]
  by_cases c : nx m f u = some t
  · rw [if_pos c, if_pos ⟨rfl, c⟩]
  · rw [if_neg c, if_neg (fun q => c q.2)]
theorem scb_r {X : Nat → Bool} {u n : Nat} (hu : u < n) (hX : X u = true) : scb X n = scb (rmv X u) n + 1 := by
  have := sg_upd (F := fun v => if X v = true then 1 else 0) (G := fun v => if rmv X u v = true then 1 else 0) (u := u) (fun i hi => by simp only [rmv_n hi]) hu
  rw [rmv_s, hX, if_pos rfl, if_neg (by decide)] at this
  exact this
theorem r_ag31 {A : AbT} {h0 : abJ} {Q : Int32 × abJ → Prop} (hW : WF A) (hQ : ∀ h, RR A h → (∀ x, x < 4374 → h.1 77 x = bI (svb (aM A) x)) → (∀ t, t < 4374 → h.1 79 t = nI (lds (aM A) (sF (aS A)) (svb (aM A)) t 4374)) → frR sk1 sc1 [80, 81] h0 h → Ok (fX12_again_L104 ab_N (nI (scb (svb (aM A)) 4374)) (nI 1) h) Q) : ∀ (k n u : Nat) (h : abJ), u + k = 4374 → k < n → RR A h → (∀ x, x < u → h.1 77 x = bI (svb (aM A) x)) → (∀ t, t < 4374 → h.1 79 t = nI (lds (aM A) (sF (aS A)) (svb (aM A)) t u)) → frR sk1 sc1 [80, 81] h0 h → Ok (fX12_again_L31 n (nI (scb (svb (aM A)) u)) (nI u) h) Q := by
  have hO := hW.1
  intro k
  induction k with
  | zero =>
    intro n u h hu hn hR h77 h79 hfr
    obtain ⟨n, rfl⟩ : ∃ n0, n = n0 + 1 := ⟨n - 1, by omega⟩
    have e : u = 4374 := by omega
    subst e
    rw [fX12_again_L31]
    exact Ok.pos (Int32.le_refl _) (hQ h hR h77 h79 hfr)
  | succ k ih =>
    intro n u h hu hn hR h77 h79 hfr
    obtain ⟨n, rfl⟩ : ∃ n0, n = n0 + 1 := ⟨n - 1, by omega⟩
    have f1 : frR sk1 sc1 [80, 81] h (ab_wI h 77 u (bI (svb (aM A) u))) := frR_w (frR_r _ _ _ _) (by decide) (by decide)
    have hR1 := (RR_sc hR f1).1
    have h77' : ∀ x, x < u + 1 → (ab_wI h 77 u (bI (svb (aM A) u))).1 77 x = bI (svb (aM A) x) := fun x hx => by
      by_cases e : x = u
      · subst e; rw [ab_w1e]
      · rw [ab_w1k e]; exact h77 x (by omega)
    have e79 : (ab_wI h 77 u (bI (svb (aM A) u))).1 79 = h.1 79 := ab_w1n (by decide)
    rw [fX12_again_L31, r_isStand1 hO hR.1 (by omega), ab_bindS, nI_clamp (by omega), nar_b, ab_w1e]
    refine Ok.neg (by rw [show (4374 : Int32) = nI 4374 from rfl, nI_leI (by omega) (by omega)]; omega) (Ok.ask (ixN (by omega) (by omega)) (Ok.ask (ixN (by omega) (by omega)) ?_))
    unfold fX12_again_J96
    rw [nI_1, nI_1]
    generalize ab_wI h 77 u (bI (svb (aM A) u)) = h1 at *
    by_cases c : svb (aM A) u = true
    · have hs := svb_t.mp c
      have hsc : scb (svb (aM A)) (u + 1) = scb (svb (aM A)) u + 1 := by rw [scb_s, if_pos c]
      rw [c]
      refine Ok.neg (by decide) ?_
      rw [show (6 : Int32) = nI 6 from rfl, pk_rem (by omega) (by omega) (by omega), r_isRest hO hR1.1 (by omega), ab_bindS]
      by_cases c2 : rs (aM A) (u % 6) = true
      · rw [c2]
        refine Ok.neg (by decide) ?_
        have := ih n (u + 1) h1 (by omega) (by omega) hR1 h77' (fun t ht => ?_) (frR_t hfr f1)
        · rw [hsc] at this
          exact this
        · rw [e79, h79 t ht, lds_s, if_neg (fun q => by have := q.2; unfold nx at this; rw [if_pos c2] at this; cases this), Nat.add_zero]
      · have hr0 : 0 < mR (aM A) (u % 6) := by simp [rs] at c2; omega
        have en : nx (aM A) (sF (aS A)) u = some (sT (aM A) (sF (aS A)) u) := by unfold nx; rw [if_neg c2]
        rw [show rs (aM A) (u % 6) = false by simpa using c2, show h1.1 65 40 = nI (sF (aS A)) from hR1.2.1.2.2.1]
        refine Ok.pos rfl ?_
        refine Ok.bind (r_stepTo hO hR1.1 hW.2.1.2.2 hs hr0) (fun r hr => ?_)
        have hx := SV_lt hO (sT_SV hO hs (f := sF (aS A)) hr0)
        rw [hr.1, nI_clamp (by omega), hr.2.1 79 (by decide), e79, h79 _ hx, nI_1]
        refine Ok.ask (ixN (by omega) (by omega)) (Ok.ask (ixN (by omega) (by omega)) ?_)
        have f2 : frR sk1 sc1 [80, 81] h1 (ab_wI r.2 79 (sT (aM A) (sF (aS A)) u) (nI (lds (aM A) (sF (aS A)) (svb (aM A)) (sT (aM A) (sF (aS A)) u) u + 1))) := frR_w (frR_m (frR_o (K := []) hr.2 (by decide)) (by simp) (by decide) (by simp)) (by decide) (by decide)
        have := ih n (u + 1) _ (by omega) (by omega) (RR_sc hR1 f2).1 (fun x hx => by rw [ab_w1n (by decide), hr.2.1 77 (by decide)]; exact h77' x hx) (fun t ht => ?_) (frR_t (frR_t hfr f1) f2)
        · rw [hsc] at this
          exact this
        · rw [lds_s]
          by_cases e : t = sT (aM A) (sF (aS A)) u
          · rw [e, ab_w1e, if_pos ⟨c, en⟩]
          · rw [ab_w1k e, hr.2.1 79 (by decide), e79, h79 t ht, if_neg (fun q => by have q2 := q.2; rw [en] at q2; exact e (Option.some.inj q2).symm), Nat.add_zero]
    · have hsc : scb (svb (aM A)) (u + 1) = scb (svb (aM A)) u := by rw [scb_s, if_neg c, Nat.add_zero]
      rw [show svb (aM A) u = false by simpa using c]
      refine Ok.pos rfl ?_
      have := ih n (u + 1) h1 (by omega) (by omega) hR1 h77' (fun t ht => ?_) (frR_t hfr f1)
      · rw [hsc] at this
        exact this
      · rw [e79, h79 t ht, lds_s, if_neg (fun q => c q.1), Nat.add_zero]
def AX (A : AbT) (X : Nat → Bool) (h0 h : abJ) : Prop := RR A h ∧ (∀ x, x < 4374 → h.1 77 x = bI (X x)) ∧ (∀ t, t < 4374 → h.1 79 t = nI (lds (aM A) (sF (aS A)) X t 4374)) ∧ (∀ u, X u = true → SV (aM A) u) ∧ (∀ u, cyc (aM A) (sF (aS A)) u → X u = true) ∧ frR sk1 sc1 [80, 81] h0 h
theorem r_ag112 {A : AbT} {M : Nat} {h0 : abJ} {K : Int32 → Int32 → abJ → Option (Int32 × abJ)} {Q : Int32 × abJ → Prop} (hW : WF A) (hK : ∀ X y h, ((y = 0 ∧ ∀ u, u < 4374 → X u = true → 0 < lds (aM A) (sF (aS A)) X u 4374) ∨ (y = 1 ∧ scb X 4374 < M)) → AX A X h0 h → Ok (K (nI (scb X 4374)) (nI y) h) Q) : ∀ (k n j y : Nat) (X : Nat → Bool) (h : abJ), j + k = 4374 → k < n → ((y = 0 ∧ (∀ u, u < j → X u = true → 0 < lds (aM A) (sF (aS A)) X u 4374) ∧ scb X 4374 ≤ M) ∨ (y = 1 ∧ scb X 4374 < M)) → AX A X h0 h → Ok (fX12_again_L112 K n (nI (scb X 4374)) (nI y) (nI j) h) Q := by
  have hO := hW.1
  intro k
  induction k with
  | zero =>
    intro n j y X h hj hn hy hA
    obtain ⟨n, rfl⟩ : ∃ n0, n = n0 + 1 := ⟨n - 1, by omega⟩
    have e : j = 4374 := by omega
    subst e
    rw [fX12_again_L112]
    exact Ok.pos (Int32.le_refl _) (hK X y h (hy.imp (fun q => ⟨q.1, q.2.1⟩) id) hA)
  | succ k ih =>
    intro n j y X h hj hn hy hA
    obtain ⟨n, rfl⟩ : ∃ n0, n = n0 + 1 := ⟨n - 1, by omega⟩
    obtain ⟨hR, h77, h79, hXS, hXc, hfr⟩ := hA
    have hlb := lds_b (m := aM A) (f := sF (aS A)) (X := X) (t := j) (n := 4374)
    rw [fX12_again_L112, nI_clamp (by omega), h77 j (by omega), h79 j (by omega)]
    refine Ok.neg (by rw [show (4374 : Int32) = nI 4374 from rfl, nI_leI (by omega) (by omega)]; omega) (Ok.ask (ixN (by omega) (by omega)) ?_)
    by_cases c : X j = true
    · rw [c]
      refine Ok.neg (by decide) (Ok.ask (ixN (by omega) (by omega)) ?_)
      by_cases c0 : lds (aM A) (sF (aS A)) X j 4374 = 0
      · refine Ok.pos (by rw [show (0 : Int32) = nI 0 from rfl, nI_leI (by omega) (by omega)]; omega) (Ok.ask (ixN (by omega) (by omega)) ?_)
        have hs := hXS j c
        have hsc := scb_r (X := X) (n := 4374) (by omega) c
        have hXS' : ∀ u, rmv X j u = true → SV (aM A) u := fun u hu => by
          by_cases e : u = j
          · subst e; exact hs
          · rw [rmv_n e] at hu; exact hXS u hu
        have hXc' : ∀ u, cyc (aM A) (sF (aS A)) u → rmv X j u = true := fun u hu => by
          by_cases e : u = j
          · exfalso
            subst e
            obtain ⟨v, hv, ev⟩ := cyc_p hO hu
            have := lds_p.mpr ⟨v, SV_lt hO hv.1, hXc v hv, ev⟩
            omega
          · rw [rmv_n e]; exact hXc u hu
        have hy' : (1 = 0 ∧ (∀ u, u < j + 1 → rmv X j u = true → 0 < lds (aM A) (sF (aS A)) (rmv X j) u 4374) ∧ scb (rmv X j) 4374 ≤ M) ∨ (1 = 1 ∧ scb (rmv X j) 4374 < M) := Or.inr ⟨rfl, by rcases hy with ⟨_, _, q⟩ | ⟨_, q⟩ <;> omega⟩
        rw [show (0 : Int32) = bI false from rfl, nar_b, ab_d1 (by omega), show scb X 4374 - 1 = scb (rmv X j) 4374 by omega]
        have f1 : frR sk1 sc1 [80, 81] h (ab_wI h 77 j (bI false)) := frR_w (frR_r _ _ _ _) (by decide) (by decide)
        have hR1 := (RR_sc hR f1).1
        have h77' : ∀ x, x < 4374 → (ab_wI h 77 j (bI false)).1 77 x = bI (rmv X j x) := fun x hx => by
          by_cases e : x = j
          · subst e; rw [ab_w1e, rmv_s]
          · rw [ab_w1k e, rmv_n e]; exact h77 x hx
        have e79 : (ab_wI h 77 j (bI false)).1 79 = h.1 79 := ab_w1n (by decide)
        generalize ab_wI h 77 j (bI false) = h1 at *
        unfold fX12_again_J150 fX12_again_J182 fX12_again_J184
        rw [nI_1, show (6 : Int32) = nI 6 from rfl, pk_rem (by omega) (by omega) (by omega), r_isRest hO hR1.1 (by omega), ab_bindS]
        by_cases c2 : rs (aM A) (j % 6) = true
        · rw [c2]
          refine Ok.neg (by decide) ?_
          refine ih n (j + 1) 1 (rmv X j) h1 (by omega) (by omega) hy' ⟨hR1, h77', fun t ht => ?_, hXS', hXc', frR_t hfr f1⟩
          rw [e79, h79 t ht, lds_r (by omega) c, if_neg (fun q => by unfold nx at q; rw [if_pos c2] at q; cases q), Nat.add_zero]
        · have hr0 : 0 < mR (aM A) (j % 6) := by simp [rs] at c2; omega
          have en : nx (aM A) (sF (aS A)) j = some (sT (aM A) (sF (aS A)) j) := by unfold nx; rw [if_neg c2]
          rw [show rs (aM A) (j % 6) = false by simpa using c2, show h1.1 65 40 = nI (sF (aS A)) from hR1.2.1.2.2.1]
          refine Ok.pos rfl ?_
          refine Ok.bind (r_stepTo hO hR1.1 hW.2.1.2.2 hs hr0) (fun r hr => ?_)
          have hx := SV_lt hO (sT_SV hO hs (f := sF (aS A)) hr0)
          have hl := lds_r (m := aM A) (f := sF (aS A)) (X := X) (u := j) (t := sT (aM A) (sF (aS A)) j) (n := 4374) (by omega) c
          rw [if_pos en] at hl
          rw [hr.1, nI_clamp (by omega), hr.2.1 79 (by decide), e79, h79 _ hx, pk_s1 (by omega), hl, Nat.add_sub_cancel]
          refine Ok.ask (ixN (by omega) (by omega)) (Ok.ask (ixN (by omega) (by omega)) ?_)
          have f2 : frR sk1 sc1 [80, 81] h1 (ab_wI r.2 79 (sT (aM A) (sF (aS A)) j) (nI (lds (aM A) (sF (aS A)) (rmv X j) (sT (aM A) (sF (aS A)) j) 4374))) := frR_w (frR_m (frR_o (K := []) hr.2 (by decide)) (by simp) (by decide) (by simp)) (by decide) (by decide)
          refine ih n (j + 1) 1 (rmv X j) _ (by omega) (by omega) hy' ⟨(RR_sc hR1 f2).1, fun x hx => by rw [ab_w1n (by decide), hr.2.1 77 (by decide)]; exact h77' x hx, fun t ht => ?_, hXS', hXc', frR_t (frR_t hfr f1) f2⟩
          by_cases e : t = sT (aM A) (sF (aS A)) j
          · rw [e, ab_w1e]
          · rw [ab_w1k e, hr.2.1 79 (by decide), e79, h79 t ht, lds_r (by omega) c, if_neg (fun q => by rw [en] at q; exact e (Option.some.inj q).symm), Nat.add_zero]
      · refine Ok.neg (by rw [show (0 : Int32) = nI 0 from rfl, nI_leI (by omega) (by omega)]; omega) ?_
        unfold fX12_again_J184
        rw [nI_1]
        refine ih n (j + 1) y X h (by omega) (by omega) (hy.imp (fun q => ⟨q.1, fun u hu hXu => ?_, q.2.2⟩) id) ⟨hR, h77, h79, hXS, hXc, hfr⟩
        by_cases e : u = j
        · subst e; omega
        · exact q.2.1 u (by omega) hXu
    · rw [show X j = false by simpa using c]
      refine Ok.pos rfl ?_
      unfold fX12_again_J184
      rw [nI_1]
      refine ih n (j + 1) y X h (by omega) (by omega) (hy.imp (fun q => ⟨q.1, fun u hu hXu => ?_, q.2.2⟩) id) ⟨hR, h77, h79, hXS, hXc, hfr⟩
      by_cases e : u = j
      · subst e; exact absurd hXu c
      · exact q.2.1 u (by omega) hXu
theorem r_ag104 {A : AbT} {h0 : abJ} (hW : WF A) : ∀ (M n : Nat) (X : Nat → Bool) (h : abJ), scb X 4374 ≤ M → M + 1 < n → AX A X h0 h → Ok (fX12_again_L104 n (nI (scb X 4374)) (nI 1) h) (fun r => r.1 = nI (sg (fun i => if cyb (aM A) (sF (aS A)) i = true then 1 else 0) 4374) ∧ frR sk1 sc1 [80, 81] h0 r.2) := by
  have hO := hW.1
  have fin : ∀ (n : Nat) (X : Nat → Bool) (h : abJ), (∀ u, u < 4374 → X u = true → 0 < lds (aM A) (sF (aS A)) X u 4374) → AX A X h0 h → Ok (fX12_again_L104 (n + 1) (nI (scb X 4374)) (nI 0) h) (fun r => r.1 = nI (sg (fun i => if cyb (aM A) (sF (aS A)) i = true then 1 else 0) 4374) ∧ frR sk1 sc1 [80, 81] h0 r.2) := by
    intro n X h hp hA
    rw [fX12_again_L104]
    refine Ok.pos rfl (Ok.some ⟨congrArg nI (sg_congr (fun i _ => ?_)), hA.2.2.2.2.2⟩)
    have : X i = cyb (aM A) (sF (aS A)) i := by
      refine Bool.eq_iff_iff.mpr ?_
      rw [cyb_t]
      refine ⟨fun q => ?_, hA.2.2.2.2.1 i⟩
      refine cyc_X (X := fun u => X u = true) hO hA.2.2.2.1 (fun u hu => ?_) q
      obtain ⟨v, _, a, b⟩ := lds_p.mp (hp u (SV_lt hO (hA.2.2.2.1 u hu)) hu)
      exact ⟨v, a, b⟩
    rw [this]
  intro M
  induction M with
  | zero =>
    intro n X h hM hn hA
    obtain ⟨n, rfl⟩ : ∃ n0, n = n0 + 1 := ⟨n - 1, by omega⟩
    rw [fX12_again_L104]
    refine Ok.neg (by decide) ?_
    obtain ⟨n, rfl⟩ : ∃ n0, n = n0 + 1 := ⟨n - 1, by omega⟩
    refine r_ag112 (M := 0) hW (fun X' y h' hy hA' => ?_) 4374 ab_N 0 0 X h (by omega) (by unfold ab_N; omega) (Or.inl ⟨rfl, fun u hu => by omega, hM⟩) hA
    rcases hy with ⟨rfl, hp⟩ | ⟨_, q⟩
    · exact fin n X' h' hp hA'
    · omega
  | succ M ih =>
    intro n X h hM hn hA
    obtain ⟨n, rfl⟩ : ∃ n0, n = n0 + 1 := ⟨n - 1, by omega⟩
    rw [fX12_again_L104]
    refine Ok.neg (by decide) ?_
    obtain ⟨n, rfl⟩ : ∃ n0, n = n0 + 1 := ⟨n - 1, by omega⟩
    refine r_ag112 (M := M + 1) hW (fun X' y h' hy hA' => ?_) 4374 ab_N 0 0 X h (by omega) (by unfold ab_N; omega) (Or.inl ⟨rfl, fun u hu => by omega, hM⟩) hA
    rcases hy with ⟨rfl, hp⟩ | ⟨rfl, q⟩
    · exact fin n X' h' hp hA'
    · exact ih (n + 1) X' h' (by omega) (by omega) hA'
theorem r_ag9 {A : AbT} {h0 : abJ} (hW : WF A) : ∀ (k n u : Nat) (h : abJ), u + k = 4374 → k < n → RR A h → (∀ x, x < u → h.1 79 x = nI 0) → frR sk1 sc1 [80, 81] h0 h → Ok (fX12_again_L9 n (nI 0) (nI u) h) (fun r => r.1 = nI (sg (fun i => if cyb (aM A) (sF (aS A)) i = true then 1 else 0) 4374) ∧ frR sk1 sc1 [80, 81] h0 r.2) := by
  have hO := hW.1
  intro k
  induction k with
  | zero =>
    intro n u h hu hn hR hx hfr
    obtain ⟨n, rfl⟩ : ∃ n0, n = n0 + 1 := ⟨n - 1, by omega⟩
    rw [fX12_again_L9]
    refine Ok.pos (by rw [show (4374 : Int32) = nI 4374 from rfl, nI_leI (by omega) (by omega)]; omega) ?_
    refine r_ag31 (h0 := h0) hW (fun h1 hR1 h77 h79 hf1 => ?_) 4374 ab_N 0 h (by omega) (by unfold ab_N; omega) hR (fun x hx => by omega) (fun t ht => hx t (by omega)) hfr
    exact r_ag104 hW 4374 ab_N (svb (aM A)) h1 scb_b (by unfold ab_N; omega) ⟨hR1, h77, h79, fun u hu => svb_t.mp hu, fun u hu => svb_t.mpr hu.1, hf1⟩
  | succ k ih =>
    intro n u h hu hn hR hx hfr
    obtain ⟨n, rfl⟩ : ∃ n0, n = n0 + 1 := ⟨n - 1, by omega⟩
    rw [fX12_again_L9, nI_clamp (by omega), nI_1]
    refine Ok.neg (by rw [show (4374 : Int32) = nI 4374 from rfl, nI_leI (by omega) (by omega)]; omega) (Ok.ask (ixN (by omega) (by omega)) ?_)
    have f1 : frR sk1 sc1 [80, 81] h (ab_wI h 79 u 0) := frR_w (frR_r _ _ _ _) (by decide) (by decide)
    refine ih n (u + 1) _ (by omega) (by omega) (RR_sc hR f1).1 (fun x h1 => ?_) (frR_t hfr f1)
    by_cases e : x = u
    · subst e; rw [ab_w1e]; rfl
    · rw [ab_w1k e]; exact hx x (by omega)
theorem call_again : call2 fX11_again fX12_again := by
  refine call2_ro (fun A hW => ?_)
  have hO := hW.1
  have h7 := MO_729 hO
  refine ⟨nI (sg (fun i => if cyb (aM A) (sF (aS A)) i = true then 1 else 0) 4374), fun h hR => ?_, fun h hR => ?_⟩
  · unfold fX11_again fX8_countAgain fX8_clearSeen
    rw [c_armLimit hO hR.1, ab_bindS, hR.2.1.2.2.1, show (6 : Int32) = nI 6 from rfl, pk_mul, show (0 : Int32) = nI 0 from rfl]
    refine Ok.bind (Ok.bind (Ok.bind (c_fillS h (by omega)) (fun r hr => Ok.some hr)) (fun h1 hr => ?_)) (fun r hr => Ok.some hr)
    rw [c_armLimit hO (cM_fr hR.1 hr.2 (by decide) (by decide) (by decide) (by decide)), ab_bindS]
    refine (c_ag21 hO hW.2.1.2.2 hR.1 hR.2.2.1 hR.2.2.2.1 (3 ^ mP (aM A)) ab_N 0 0 (fun _ => 0) [] h1 (by omega) (by unfold ab_N; omega) ⟨fun i hi => by omega, ⟨fun i hi => by omega, fun x hx _ => hr.1 x hx⟩, fun i t hi => by omega, trivial, fun u => ⟨fun q => (by cases q), fun ⟨_, i, hi, _⟩ => (by omega)⟩⟩ (by omega) (fun u hu q => by omega) hr.2).mono (fun r hr2 => ⟨hr2.1, fr_m hr2.2 (by decide) (by simp)⟩)
  · unfold fX12_again
    generalize e0 : ab_wI h 64 0 0 = h0; have f0 : frR sk1 sc1 [80, 81] h h0 := (by subst e0; exact frR_64 (frR_r _ _ _ _) (by decide)); have hR0 : RR A h0 := (RR_sc hR f0).1
    exact r_ag9 hW 4374 ab_N 0 h0 (by omega) (by unfold ab_N; omega) hR0 (fun x hx => by omega) f0
