/-! hands: the reference's table. -/
def tc (c : Nat → Nat) (h : abJ) : Prop := ∀ u, u < 4374 → h.1 74 u = nI (c u)
def PRV (m : MoT) (f : Nat) (c0 : Nat → Nat) (j : Nat) (c : Nat → Nat) : Prop := ∀ v, v < j → c0 v < 268435456 → ∀ r, eg m v r → c (ed m f v r) ≤ c0 v + ew v r
theorem r_hand82 {A : AbT} {s v : Nat} {c0 : Nat → Nat} {h0 : abJ} {K : Int32 → Int32 → abJ → Option abJ} {Q : abJ → Prop} (hW : WF A) (hs : SV (aM A) v) (hr : rs (aM A) (v % 6) = false) (hb : ∀ u, c0 u ≤ 268435456) (hK : ∀ c y h, BV (aM A) (sF (aS A)) s c0 c y → PRV (aM A) (sF (aS A)) c0 (v + 1) c → tc c h → RR A h → frR sk1 sc1 [80, 81] h0 h → Ok (K (nI y) (nI (v + 1)) h) Q) : ∀ (k n r y : Nat) (c : Nat → Nat) (h : abJ), r + k = mR (aM A) (v % 6) → k < n → BV (aM A) (sF (aS A)) s c0 c y → c v < 268435456 → PRV (aM A) (sF (aS A)) c0 v c → (∀ q, q < r → c (ed (aM A) (sF (aS A)) v q) ≤ c0 v + ew v q) → tc c h → RR A h → frR sk1 sc1 [80, 81] h0 h → Ok (fX12_laysCost_L82 K n (nI y) (nI v) (nI (v % 6)) (nI r) h) Q := by
  have hO := hW.1
  have h6 := hO.2.1
  have h3 := hO.2.2.2.2.1 (v % 6)
  have hv4 := SV_lt hO hs
  intro k
  induction k with
  | zero =>
    intro n r y c h hrk hn hB hcv hP hq ht hR hfr
    obtain ⟨n, rfl⟩ : ∃ n0, n = n0 + 1 := ⟨n - 1, by omega⟩
    rw [fX12_laysCost_L82, show (9 : Int32) = nI 9 from rfl, nI_add, nI_clamp (by omega), hR.1.2.2.2.1 (v % 6) (by omega)]
    refine Ok.ask (ixN (by omega) (by omega)) (Ok.pos (by rw [nI_leI (by omega) (by omega)]; omega) ?_)
    unfold fX12_laysCost_J186
    rw [nI_1]
    refine hK c y h hB (fun w hw hw2 q he => ?_) ht hR hfr
    by_cases e : w = v
    · subst e; exact hq q (by have := he.2.2; omega)
    · exact hP w (by omega) hw2 q he
  | succ k ih =>
    intro n r y c h hrk hn hB hcv hP hq ht hR hfr
    obtain ⟨n, rfl⟩ : ∃ n0, n = n0 + 1 := ⟨n - 1, by omega⟩
    have hg : eg (aM A) v r := ⟨hs, hr, by omega⟩
    have hes := ed_SV (f := sF (aS A)) hO hg
    have he4 := SV_lt hO hes
    have hcb : ∀ u, c u ≤ 268435456 := fun u => by have := hB.1 u; have := hb u; omega
    have hce := hcb (ed (aM A) (sF (aS A)) v r)
    have hwb := ew_b v r
    have hd := dg_lt (v / 6) (v % 6)
    have B2 := BV_step hB hg hcv
    rw [fX12_laysCost_L82, show (9 : Int32) = nI 9 from rfl, nI_add, nI_clamp (by omega), hR.1.2.2.2.1 (v % 6) (by omega), nI_clamp (by omega), show (6 : Int32) = nI 6 from rfl, pk_div (by omega) (by omega) (by omega), r_armIn h (by omega) (by omega), ab_bindS, ht v hv4, nI_1]
    refine Ok.ask (ixN (by omega) (by omega)) (Ok.neg (by rw [nI_leI (by omega) (by omega)]; omega) (Ok.ask (ixN (by omega) (by omega)) ?_))
    have go : ∀ t0 t1 : Int32, t0 + t1 = nI (c v + ew v r) → Ok (fX12_laysCost_J124 (fun y1 y2 y3 y4 h => fX12_laysCost_L82 K n y1 y2 y3 y4 h) (nI y) (nI v) (nI (v % 6)) (nI r) t0 t1 h) Q := by
      intro t0 t1 et
      unfold fX12_laysCost_J124 fX12_standOf fX12_laysCost_J180
      have es := eg_SV hO hg
      rw [show (6 : Int32) = nI 6 from rfl, pk_div (by omega) (by omega) (by omega), r_withArm h (by omega) (by omega), ab_bindS, pk_mul, nI_add, ab_bindS, show h.1 65 40 = nI (sF (aS A)) from hR.2.1.2.2.1, et, nI_1]
      refine Ok.bind (r_stepTo hO hR.1 hW.2.1.2.2 es.1 (by rw [es.2]; omega)) (fun x hx => ?_)
      rw [show sT (aM A) (sF (aS A)) (6 * pt (v / 6) (v % 6) r + v % 6) = ed (aM A) (sF (aS A)) v r from rfl] at hx
      rw [hx.1, nI_clamp (by omega), hx.2.1 74 (by decide), ht _ he4, show (1 : Int32) = nI 1 from rfl]
      refine Ok.ask (ixN (by omega) (by omega)) ?_
      have f1 : frR sk1 sc1 [80, 81] h x.2 := frR_m (frR_o (K := []) hx.2 (by decide)) (by simp) (by decide) (by simp)
      by_cases q : c v + ew v r < c (ed (aM A) (sF (aS A)) v r)
      · refine Ok.pos (by rw [nI_ltI (by omega) (by omega)]; exact q) (Ok.ask (ixN (by omega) (by omega)) ?_)
        rw [if_pos q, if_pos q] at B2
        have f2 : frR sk1 sc1 [80, 81] h (ab_wI x.2 74 (ed (aM A) (sF (aS A)) v r) (nI (c v + ew v r))) := frR_w f1 (by decide) (by decide)
        have hle : ∀ u, ups c (ed (aM A) (sF (aS A)) v r) (c v + ew v r) u ≤ c u := fun u => by
          by_cases e : u = ed (aM A) (sF (aS A)) v r
          · rw [e, ups_s]; omega
          · rw [ups_n e]; exact Nat.le_refl _
        refine ih n (r + 1) 1 (ups c (ed (aM A) (sF (aS A)) v r) (c v + ew v r)) _ (by omega) (by omega) B2 (by have := hle v; omega) (fun w hw hw2 q he => Nat.le_trans (hle _) (hP w hw hw2 q he)) (fun q hq2 => ?_) (fun u hu => ?_) (RR_sc hR f2).1 (frR_t hfr f2)
        · by_cases e : q = r
          · subst e
            have := hB.1 v
            rw [ups_s]; omega
          · exact Nat.le_trans (hle _) (hq q (by omega))
        · by_cases e : u = ed (aM A) (sF (aS A)) v r
          · rw [e, ab_w1e, ups_s]
          · rw [ab_w1k e, ups_n e, hx.2.1 74 (by decide)]; exact ht u hu
      · refine Ok.neg (by rw [nI_ltI (by omega) (by omega)]; exact q) ?_
        refine ih n (r + 1) y c x.2 (by omega) (by omega) hB hcv hP (fun q2 hq2 => ?_) (fun u hu => by rw [hx.2.1 74 (by decide)]; exact ht u hu) (RR_sc hR f1).1 (frR_t hfr f1)
        by_cases e : q2 = r
        · subst e
          have := hB.1 v
          omega
        · exact hq q2 (by omega)
    by_cases cr : r = dg (v / 6) (v % 6)
    · refine Ok.pos (by rw [← cr]) (go _ _ ?_)
      unfold ew
      rw [if_pos cr]
      exact Int32.add_zero _
    · refine Ok.neg (by rw [nI_eq (by omega) (by omega)]; exact cr) (go _ _ ?_)
      unfold ew
      rw [if_neg cr]
      exact (nI_add (c v + 1) 10000).trans (congrArg nI (by omega))
theorem r_hand44 {A : AbT} {s : Nat} {c0 : Nat → Nat} {h0 : abJ} {K : Int32 → abJ → Option abJ} {Q : abJ → Prop} (hW : WF A) (hs : SV (aM A) s) (hb : ∀ u, c0 u ≤ 268435456) (hK : ∀ c y h, BV (aM A) (sF (aS A)) s c0 c y → PRV (aM A) (sF (aS A)) c0 4374 c → tc c h → RR A h → frR sk1 sc1 [80, 81] h0 h → Ok (K (nI y) h) Q) : ∀ (k n v y : Nat) (c : Nat → Nat) (h : abJ), v + k = 4374 → k < n → BV (aM A) (sF (aS A)) s c0 c y → PRV (aM A) (sF (aS A)) c0 v c → tc c h → RR A h → frR sk1 sc1 [80, 81] h0 h → Ok (fX12_laysCost_L44 K n (nI y) (nI v) h) Q := by
  have hO := hW.1
  intro k
  induction k with
  | zero =>
    intro n v y c h hv hn hB hP ht hR hfr
    obtain ⟨n, rfl⟩ : ∃ n0, n = n0 + 1 := ⟨n - 1, by omega⟩
    have e : v = 4374 := by omega
    subst e
    rw [fX12_laysCost_L44]
    exact Ok.pos (Int32.le_refl _) (hK c y h hB hP ht hR hfr)
  | succ k ih =>
    intro n v y c h hv hn hB hP ht hR hfr
    obtain ⟨n, rfl⟩ : ∃ n0, n = n0 + 1 := ⟨n - 1, by omega⟩
    have hcv : c v ≤ 268435456 := by have := hB.1 v; have := hb v; omega
    rw [fX12_laysCost_L44, nI_clamp (by omega), ht v (by omega)]
    refine Ok.neg (by rw [show (4374 : Int32) = nI 4374 from rfl, nI_leI (by omega) (by omega)]; omega) (Ok.ask (ixN (by omega) (by omega)) ?_)
    have skip : (∀ r, c0 v < 268435456 → ¬ eg (aM A) v r) → Ok (fX12_laysCost_J186 (fun y1 y2 h => fX12_laysCost_L44 K n y1 y2 h) (nI y) (nI v) h) Q := by
      intro hne
      unfold fX12_laysCost_J186
      rw [nI_1]
      refine ih n (v + 1) y c h (by omega) (by omega) hB (fun w hw hw2 q he => ?_) ht hR hfr
      by_cases e : w = v
      · subst e; exact absurd he (hne q hw2)
      · exact hP w (by omega) hw2 q he
    by_cases ci : c v = 268435456
    · refine Ok.pos (by rw [ci]; rfl) (skip (fun r hr _ => ?_))
      have := hB.1 v
      omega
    · refine Ok.neg (by rw [show (268435456 : Int32) = nI 268435456 from rfl, nI_eq (by omega) (by omega)]; exact ci) ?_
      obtain ⟨k0, hk0⟩ := hB.2.1 v (by omega)
      have hvs := pw_SV hO hs hk0
      rw [show (6 : Int32) = nI 6 from rfl, pk_rem (by omega) (by omega) (by omega), r_isRest hO hR.1 (by omega), ab_bindS]
      by_cases cr : rs (aM A) (v % 6) = true
      · rw [cr]
        exact Ok.neg (by decide) (skip (fun r _ he => by have := he.2.1; rw [cr] at this; cases this))
      · have cr' : rs (aM A) (v % 6) = false := by simpa using cr
        rw [cr']
        refine Ok.pos rfl ?_
        refine r_hand82 hW hvs cr' hb (fun c' y' h' hB' hP' ht' hR' hf' => ?_) (mR (aM A) (v % 6)) ab_N 0 y c h (by omega) (by have := hO.2.2.2.2.1 (v % 6); unfold ab_N; omega) hB (by omega) hP (fun q hq => by omega) ht hR hfr
        exact ih n (v + 1) y' c' h' (by omega) (by omega) hB' hP' ht' hR' hf'
theorem PRV_CB {m : MoT} {f s k : Nat} {c0 c : Nat → Nat} {y : Nat} (hO : MO m) (hs : SV m s) (hb : ∀ u, c0 u ≤ 268435456) (hB : BV m f s c0 c y) (hP : PRV m f c0 4374 c) (hC : CB m f s k c0) : CB m f s (k + 1) c := by
  intro n X u hn h
  cases n with
  | zero =>
    have := hC 0 X u (by omega) h
    have := hB.1 u
    omega
  | succ n =>
    obtain ⟨v, Y, r, h1, h2, h3, h4⟩ := h
    have a := hC n Y v (by omega) h1
    have b := hB.1 u
    have b2 := hb u
    by_cases c1 : c0 v < 268435456
    · have := hP v (SV_lt hO h2.1) c1 r h2
      rw [h3]; omega
    · omega
/-- the least weights -/
def WX (m : MoT) (f s : Nat) (c : Nat → Nat) : Prop := SC m f s c ∧ (∀ n X u, pw m f s n X u → c u ≤ X) ∧ ∀ u, c u ≤ 268435456
theorem r_hand36 {A : AbT} {s : Nat} {h0 : abJ} (hW : WF A) (hs : SV (aM A) s) : ∀ (t k n : Nat) (c0 : Nat → Nat) (h : abJ), k + t = 4373 → t + 1 < n → SC (aM A) (sF (aS A)) s c0 → CB (aM A) (sF (aS A)) s 0 c0 → CB (aM A) (sF (aS A)) s k c0 → (∀ u, c0 u ≤ 268435456) → tc c0 h → RR A h → frR sk1 sc1 [80, 81] h0 h → Ok (fX12_laysCost_L36 n (nI 1) h) (fun h' => ∃ c, WX (aM A) (sF (aS A)) s c ∧ tc c h' ∧ RR A h' ∧ frR sk1 sc1 [80, 81] h0 h') := by
  have hO := hW.1
  intro t
  induction t with
  | zero =>
    intro k n c0 h hk hn hS hC0 hC hb ht hR hfr
    obtain ⟨n, rfl⟩ : ∃ n0, n = n0 + 2 := ⟨n - 2, by omega⟩
    rw [fX12_laysCost_L36]
    refine Ok.neg (by decide) ?_
    refine r_hand44 (s := s) (c0 := c0) hW hs hb (fun c y h1 hB hP ht1 hR1 hf1 => ?_) 4374 ab_N 0 0 c0 h (by omega) (by unfold ab_N; omega) ⟨fun u => Nat.le_refl _, hS, Or.inl ⟨rfl, fun u => rfl⟩⟩ (fun v hv => by omega) ht hR hfr
    rcases hB.2.2 with ⟨rfl, eq⟩ | ⟨rfl, u, hu⟩
    · have ec : c = c0 := funext eq
      have hall : ∀ k, CB (aM A) (sF (aS A)) s k c := by
        intro k
        induction k with
        | zero => rw [ec]; exact hC0
        | succ k ih => exact PRV_CB hO hs hb hB hP (by rw [← ec]; exact ih)
      show Ok (fX12_laysCost_L36 (n + 1) (nI 0) h1) _
      rw [fX12_laysCost_L36]
      exact Ok.pos rfl (Ok.some ⟨c, ⟨hB.2.1, fun n X u hp => hall n n X u (Nat.le_refl _) hp, fun u => by rw [ec]; exact hb u⟩, ht1, hR1, hf1⟩)
    · have e : k = 4373 := by omega
      subst e
      exact absurd hu (CB_st hO hs hB.2.1 hb hC u)
  | succ t iht =>
    intro k n c0 h hk hn hS hC0 hC hb ht hR hfr
    obtain ⟨n, rfl⟩ : ∃ n0, n = n0 + 2 := ⟨n - 2, by omega⟩
    rw [fX12_laysCost_L36]
    refine Ok.neg (by decide) ?_
    refine r_hand44 (s := s) (c0 := c0) hW hs hb (fun c y h1 hB hP ht1 hR1 hf1 => ?_) 4374 ab_N 0 0 c0 h (by omega) (by unfold ab_N; omega) ⟨fun u => Nat.le_refl _, hS, Or.inl ⟨rfl, fun u => rfl⟩⟩ (fun v hv => by omega) ht hR hfr
    rcases hB.2.2 with ⟨rfl, eq⟩ | ⟨rfl, u, hu⟩
    · have ec : c = c0 := funext eq
      have hall : ∀ k, CB (aM A) (sF (aS A)) s k c := by
        intro k
        induction k with
        | zero => rw [ec]; exact hC0
        | succ k ih => exact PRV_CB hO hs hb hB hP (by rw [← ec]; exact ih)
      show Ok (fX12_laysCost_L36 (n + 1) (nI 0) h1) _
      rw [fX12_laysCost_L36]
      exact Ok.pos rfl (Ok.some ⟨c, ⟨hB.2.1, fun n X u hp => hall n n X u (Nat.le_refl _) hp, fun u => by rw [ec]; exact hb u⟩, ht1, hR1, hf1⟩)
    · have C1 := PRV_CB hO hs hb hB hP hC
      exact iht (k + 1) (n + 1) c h1 (by omega) (by omega) hB.2.1 (fun n X u hn => C1 n X u (by omega)) C1 (fun u => by have := hB.1 u; have := hb u; omega) ht1 hR1 hf1
def cgi (s : Nat) : Nat → Nat := fun u => if u = s then 0 else 268435456
theorem r_laysCost2 {A : AbT} {h0 : abJ} (hW : WF A) : ∀ (k n j : Nat) (h : abJ), j + k = 4374 → k < n → (∀ u, u < j → h.1 74 u = nI 268435456) → RR A h → frR sk1 sc1 [80, 81] h0 h → Ok (fX12_laysCost_L2 n (nI j) h) (fun h' => ∃ c, WX (aM A) (sF (aS A)) (aN A) c ∧ tc c h' ∧ RR A h' ∧ frR sk1 sc1 [80, 81] h0 h') := by
  have hO := hW.1
  have hs := aN_SV hW
  have hs4 := SV_lt hO hs
  intro k
  induction k with
  | zero =>
    intro n j h hj hn hq hR hfr
    obtain ⟨n, rfl⟩ : ∃ n0, n = n0 + 1 := ⟨n - 1, by omega⟩
    rw [fX12_laysCost_L2, r_now hW hR, ab_bindS, nI_clamp (by omega)]
    refine Ok.pos (by rw [show (4374 : Int32) = nI 4374 from rfl, nI_leI (by omega) (by omega)]; omega) (Ok.ask (ixN (by omega) (by omega)) ?_)
    have f1 : frR sk1 sc1 [80, 81] h (ab_wI h 74 (aN A) 0) := frR_w (frR_r _ _ _ _) (by decide) (by decide)
    have c0 : CB (aM A) (sF (aS A)) (aN A) 0 (cgi (aN A)) := by
      intro n X u hn hp
      have e : n = 0 := by omega
      subst e
      rw [hp.2]
      unfold cgi
      rw [if_pos rfl]; omega
    refine r_hand36 hW hs 4373 0 ab_N (cgi (aN A)) _ (by omega) (by unfold ab_N; omega) (fun u hu => ?_) c0 c0 (fun u => by unfold cgi; split <;> omega) (fun u hu => ?_) (RR_sc hR f1).1 (frR_t hfr f1)
    · unfold cgi at hu ⊢
      by_cases e : u = aN A
      · rw [if_pos e]; exact ⟨0, rfl, e⟩
      · rw [if_neg e] at hu; omega
    · unfold cgi
      by_cases e : u = aN A
      · rw [e, ab_w1e, if_pos rfl]; rfl
      · rw [ab_w1k e, if_neg e]; exact hq u (by omega)
  | succ k ih =>
    intro n j h hj hn hq hR hfr
    obtain ⟨n, rfl⟩ : ∃ n0, n = n0 + 1 := ⟨n - 1, by omega⟩
    rw [fX12_laysCost_L2, nI_clamp (by omega), nI_1]
    refine Ok.neg (by rw [show (4374 : Int32) = nI 4374 from rfl, nI_leI (by omega) (by omega)]; omega) (Ok.ask (ixN (by omega) (by omega)) ?_)
    have f1 : frR sk1 sc1 [80, 81] h (ab_wI h 74 j 268435456) := frR_w (frR_r _ _ _ _) (by decide) (by decide)
    refine ih n (j + 1) _ (by omega) (by omega) (fun u hu => ?_) (RR_sc hR f1).1 (frR_t hfr f1)
    by_cases e : u = j
    · subst e; rw [ab_w1e]; rfl
    · rw [ab_w1k e]; exact hq u (by omega)
