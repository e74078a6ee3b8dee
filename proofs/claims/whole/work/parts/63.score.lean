/-! score. -/
/-- all posts but two -/
def obit (a b : Nat) : Nat := sg (fun i => if i = a ∨ i = b then 0 else 2 ^ i) 6
theorem obit_c' : ∀ a < 6, ∀ b < 6, ((63 &&& ((nI 1 <<< (nI a &&& nI 31)) ^^^ (-1))) &&& ((nI 1 <<< (nI b &&& nI 31)) ^^^ (-1))) = nI (obit a b) ∧ obit a b < 64 := by decide +kernel
theorem obit_t' : ∀ a < 6, ∀ b < 6, ∀ p < 6, (obit a b).testBit p = decide (p ≠ a ∧ p ≠ b) := by decide +kernel
theorem obit_t {a b p : Nat} (ha : a < 6) (hb : b < 6) (hp : p < 6) : (obit a b).testBit p = decide (p ≠ a ∧ p ≠ b) := obit_t' a ha b hb p hp
/-- so many walkers: how many come to a; none: one comes to neither -/
noncomputable def sco (m : MoT) (f w a b : Nat) : Nat → Nat → Nat → Option Nat
  | 0, _, c => some c
  | n + 1, x, c => match fo (lnL m f (6 * x + w)).2.1 (obit a b) (lnL m f (6 * x + w)).1 0 with
    | none => none
    | some k => sco m f w a b n ((lnL m f (6 * x + w)).2.1 k / 6) (if (lnL m f (6 * x + w)).2.1 k % 6 = a then c + 1 else c)
theorem sco_0 {m : MoT} {f w a b n x c : Nat} (e : fo (lnL m f (6 * x + w)).2.1 (obit a b) (lnL m f (6 * x + w)).1 0 = none) : sco m f w a b (n + 1) x c = none := by rw [sco, e]
theorem sco_1 {m : MoT} {f w a b n x c k : Nat} (e : fo (lnL m f (6 * x + w)).2.1 (obit a b) (lnL m f (6 * x + w)).1 0 = some k) : sco m f w a b (n + 1) x c = sco m f w a b n ((lnL m f (6 * x + w)).2.1 k / 6) (if (lnL m f (6 * x + w)).2.1 k % 6 = a then c + 1 else c) := by rw [sco, e]
def sI (o : Option Nat) : Int32 := match o with | none => -5 | some c => nI c
/-- ends that are kept -/
def eK (m : MoT) (f w a b : Nat) (h : abJ) : Prop := ∀ x, AV m x → h.1 34 x = -nI 1 ∨ ∃ k, fo (lnL m f (6 * x + w)).2.1 (obit a b) (lnL m f (6 * x + w)).1 0 = some k ∧ h.1 34 x = nI ((lnL m f (6 * x + w)).2.1 k)
theorem c_score_L {m : MoT} {f w a b N : Nat} {h0 : abJ} (hO : MO m) (hw : w < mP m) (ha : a < 6) (hb : b < 6) (hN : N ≤ 999) (hf : f < 10) (hM : cM m 1 h0) (hK : cK m h0) (hR : rdy m f h0) (h12 : h0.1 12 2 = nI f) (h10 : h0.1 12 0 = nI w) : ∀ (k n i x c : Nat) (h : abJ), i + k = N → k < n → c ≤ i → AV m x → eK m f w a b h → fr [34] [] h0 h → Ok (fX2_countHits_L36 n (nI a) (nI N) (nI (obit a b)) (nI x) (nI c) (nI i) h) (fun r => r.1 = sI (sco m f w a b k x c) ∧ fr [34] [] h0 r.2) := by
  have hob := (obit_c' a ha b hb).2
  intro k
  induction k with
  | zero =>
    intro n i x c h hi hn hc hx hE hfr
    obtain ⟨n, rfl⟩ : ∃ n0, n = n0 + 1 := ⟨n - 1, by omega⟩
    rw [fX2_countHits_L36]
    exact Ok.pos (by rw [nI_leI (by omega) (by omega)]; omega) (Ok.some ⟨rfl, hfr⟩)
  | succ k ih =>
    intro n i x c h hi hn hc hx hE hfr
    obtain ⟨n, rfl⟩ : ∃ n0, n = n0 + 1 := ⟨n - 1, by omega⟩
    have hM1 := cM_fr hM hfr (by decide) (by decide) (by decide) (by decide)
    have hK1 := cK_fr hK hfr (by decide) (by decide)
    have hR1 := rdy_fr hR hfr (by decide)
    have hsv := lnl_a hO hx hw
    have hLN := lnL_s (f := f) hO hsv
    have hL2 := LN_le hO hLN
    have hx7 := AV_lt hO hx
    have h7' := MO_729 hO
    have go : ∀ (q : Nat) (h1 : abJ), fo (lnL m f (6 * x + w)).2.1 (obit a b) (lnL m f (6 * x + w)).1 0 = some q → h1.1 34 x = nI ((lnL m f (6 * x + w)).2.1 q) → eK m f w a b h1 → fr [34] [] h0 h1 → Ok (fX2_countHits_J125 (fun y2 y4 y5 y6 y7 y8 h => fX2_countHits_L36 n y2 y4 y5 y6 y7 y8 h) (nI a) (nI N) (nI (obit a b)) (nI x) (nI c) (nI i) h1) (fun r => r.1 = sI (sco m f w a b (k + 1) x c) ∧ fr [34] [] h0 r.2) := by
      intro q h1 e ex hE1 hf1
      obtain ⟨_, hq, hbq, _⟩ := fo_s e
      rw [Nat.zero_add] at hq
      have hsq := hLN.2.2.1 q hq
      have hgq := SV_lt hO hsq
      rw [sco_1 e]
      generalize (lnL m f (6 * x + w)).2.1 q = y at *
      unfold fX2_countHits_J125 fX2_countHits_J142
      rw [nI_clamp (by omega), ex, show (6 : Int32) = nI 6 from rfl, pk_rem (by omega) (by omega) (by omega), pk_div (by omega) (by omega) (by omega), nI_1, nI_1]
      refine Ok.ask (ixN (by omega) (by omega)) ?_
      by_cases c1 : y % 6 = a
      · rw [if_pos c1]
        exact Ok.pos (by rw [c1]) (Ok.ask (ixN (by omega) (by omega)) (ih n (i + 1) (y / 6) (c + 1) h1 (by omega) (by omega) (by omega) hsq.2 hE1 hf1))
      · rw [if_neg c1]
        exact Ok.neg (by rw [nI_eq (by omega) (by omega)]; exact c1) (Ok.ask (ixN (by omega) (by omega)) (ih n (i + 1) (y / 6) c h1 (by omega) (by omega) (by omega) hsq.2 hE1 hf1))
    rw [fX2_countHits_L36, nI_clamp (by omega)]
    refine Ok.neg (by rw [nI_leI (by omega) (by omega)]; omega) (Ok.neg (by rw [show (0 : Int32) = nI 0 from rfl, nI_ltI (by omega) (by omega)]; omega) (Ok.neg (by rw [show (729 : Int32) = nI 729 from rfl, nI_leI (by omega) (by omega)]; omega) (Ok.ask (ixN (by omega) (by omega)) ?_)))
    rcases hE x hx with e1 | ⟨q, e, e1⟩
    · rw [hfr.1 12 (by decide), h12, h10, show (6 : Int32) = nI 6 from rfl, pk_mul, nI_add, Nat.mul_comm x 6, c_stepsOut hO hM1 hK1 hR1 hf hob hLN, ab_bindS]
      refine Ok.pos e1 ?_
      cases e : fo (lnL m f (6 * x + w)).2.1 (obit a b) (lnL m f (6 * x + w)).1 0 with
      | none =>
        rw [sco_0 e]
        exact Ok.pos rfl (Ok.some ⟨rfl, hfr⟩)
      | some q =>
        obtain ⟨_, hq, hbq, _⟩ := fo_s e
        rw [Nat.zero_add] at hq
        rw [show oI (some q) = nI q from rfl]
        refine Ok.neg (oI_ne (by omega)) ?_
        rw [c_standAfter hO hM1 hK1 hR1 hf hLN hq, ab_bindS]
        refine Ok.ask (ixN (by omega) (by omega)) (go q _ e (ab_w1e _ _ _ _) (fun z hz => ?_) (fr_w hfr (by simp)))
        by_cases ez : z = x
        · subst ez
          exact Or.inr ⟨q, e, ab_w1e _ _ _ _⟩
        · rw [ab_w1k ez]; exact hE z hz
    · refine Ok.neg (by rw [e1]; obtain ⟨_, hq, _, _⟩ := fo_s e; exact oI_ne (by have := SV_lt hO (hLN.2.2.1 q (by omega)); omega)) (go q h e e1 hE hfr)
theorem r_score_L {m : MoT} {f w a b N : Nat} {h0 : abJ} (hO : MO m) (hw : w < mP m) (ha : a < 6) (hb : b < 6) (hN : N ≤ 999) (hf : f < 10) (hM : rM m (h0.1 65)) (h40 : h0.1 65 40 = nI f) (h33 : h0.1 65 33 = nI w) : ∀ (k n i x c : Nat) (h : abJ), i + k = N → k < n → c ≤ i → AV m x → fr [69, 70] [] h0 h → Ok (fX12_score_L58 n (nI a) (nI b) (nI N) (nI x) (nI c) (nI i) h) (fun r => r.1 = sI (sco m f w a b k x c) ∧ fr [69, 70] [] h0 r.2) := by
  intro k
  induction k with
  | zero =>
    intro n i x c h hi hn hc hx hfr
    obtain ⟨n, rfl⟩ : ∃ n0, n = n0 + 1 := ⟨n - 1, by omega⟩
    rw [fX12_score_L58]
    exact Ok.pos (by rw [nI_leI (by omega) (by omega)]; omega) (Ok.some ⟨rfl, hfr⟩)
  | succ k ih =>
    intro n i x c h hi hn hc hx hfr
    obtain ⟨n, rfl⟩ : ∃ n0, n = n0 + 1 := ⟨n - 1, by omega⟩
    have hsv := lnl_a hO hx hw
    have hLN := lnL_s (f := f) hO hsv
    have hL2 := LN_le hO hLN
    have e0 : nI (6 * x + w) = nI (LA (lnL m f (6 * x + w)).1 (lnL m f (6 * x + w)).2.1 (lnL m f (6 * x + w)).2.2 0) := by
      unfold LA
      rw [if_pos (show 0 < (lnL m f (6 * x + w)).1 from hLN.1), hLN.2.1]
    rw [fX12_score_L58]
    unfold fX12_standOf
    rw [hfr.1 65 (by decide), h33, show (6 : Int32) = nI 6 from rfl, pk_mul, nI_add, ab_bindS, e0, show (0 : Int32) = nI 0 from rfl]
    refine Ok.neg (by rw [nI_leI (by omega) (by omega)]; omega) ?_
    generalize hG : lnL m f (6 * x + w) = G at *
    have inpost : ∀ j, j < G.1 → ((obit a b).testBit (G.2.1 j % 6) = true ↔ (G.2.1 j % 6 ≠ a ∧ G.2.1 j % 6 ≠ b)) := fun j hj => by rw [obit_t ha hb (by omega)]; simp
    have key : ∀ (d n2 j : Nat) (h1 : abJ), j + d = 4375 → d < n2 → fr [69, 70] [] h0 h1 → (∀ q, q < j → q < G.1 → (obit a b).testBit (G.2.1 q % 6) = true) → Ok (fX12_score_L81 (fun y1 y2 y3 y4 y5 y6 h => fX12_score_L58 n y1 y2 y3 y4 y5 y6 h) n2 (nI a) (nI b) (nI N) (nI c) (nI i) (nI (LA G.1 G.2.1 G.2.2 j)) (nI j) h1) (fun r => r.1 = sI (sco m f w a b (k + 1) x c) ∧ fr [69, 70] [] h0 r.2) := by
      intro d
      induction d with
      | zero =>
        intro n2 j h1 hj hn2 hf1 hall
        obtain ⟨n2, rfl⟩ : ∃ n0, n2 = n0 + 1 := ⟨n2 - 1, by omega⟩
        have enone : fo G.2.1 (obit a b) G.1 0 = none := by
          cases e : fo G.2.1 (obit a b) G.1 0 with
          | none => rfl
          | some q =>
            obtain ⟨_, hq, hbq, _⟩ := fo_s e
            rw [hall q (by omega) (by omega)] at hbq; cases hbq
        obtain ⟨q, hq, eq⟩ := LA_i (g := G.2.1) (t := G.2.2) j hLN.1 hLN.2.2.2.2.2.2
        have hgq := SV_lt hO (hLN.2.2.1 q hq)
        have hin := (inpost q hq).mp (hall q (by omega) hq)
        rw [sco_0 (by rw [hG]; exact enone), fX12_score_L81, if_pos (by rw [show (4374 : Int32) = nI 4374 from rfl, nI_ltI (by omega) (by omega)]; omega), eq]
        unfold fX12_score_J121
        rw [show (6 : Int32) = nI 6 from rfl, pk_rem (by omega) (by omega) (by omega)]
        exact Ok.neg (by rw [nI_eq (by omega) (by omega)]; exact hin.1) (Ok.neg (by rw [nI_eq (by omega) (by omega)]; exact hin.2) (Ok.some ⟨rfl, hf1⟩))
      | succ d ihd =>
        intro n2 j h1 hj hn2 hf1 hall
        obtain ⟨n2, rfl⟩ : ∃ n0, n2 = n0 + 1 := ⟨n2 - 1, by omega⟩
        obtain ⟨q, hq, eq⟩ := LA_i (g := G.2.1) (t := G.2.2) j hLN.1 hLN.2.2.2.2.2.2
        have hsq := hLN.2.2.1 q hq
        have hgq := SV_lt hO hsq
        have hjL : ¬ j < G.1 → (obit a b).testBit (G.2.1 q % 6) = true := fun hj2 => hall q (by omega) hq
        have hjq : j < G.1 → q = j ∨ G.2.1 q = G.2.1 j := fun hj2 => by
          right
          rw [← eq]
          unfold LA
          rw [if_pos hj2]
        have hM1 : rM m (h1.1 65) := by rw [hf1.1 65 (by decide)]; exact hM
        have h41 : h1.1 65 40 = nI f := by rw [hf1.1 65 (by decide)]; exact h40
        have hst : SV m (LA G.1 G.2.1 G.2.2 j) := by rw [eq]; exact hsq
        rw [fX12_score_L81, if_neg (by rw [show (4374 : Int32) = nI 4374 from rfl, nI_ltI (by omega) (by omega)]; omega), show (6 : Int32) = nI 6 from rfl, pk_rem (show LA G.1 G.2.1 G.2.2 j < 2 ^ 31 by rw [eq]; omega) (by omega) (by omega), nI_1]
        have stopped : (LA G.1 G.2.1 G.2.2 j % 6 = a ∨ LA G.1 G.2.1 G.2.2 j % 6 = b) → Ok (fX12_score_J121 (fun y1 y2 y3 y4 y5 y6 h => fX12_score_L58 n y1 y2 y3 y4 y5 y6 h) (nI a) (nI b) (nI N) (nI c) (nI i) (nI (LA G.1 G.2.1 G.2.2 j)) h1) (fun r => r.1 = sI (sco m f w a b (k + 1) x c) ∧ fr [69, 70] [] h0 r.2) := by
          intro hab
          rw [eq] at hab
          have hnb : (obit a b).testBit (G.2.1 q % 6) = false := by
            cases e : (obit a b).testBit (G.2.1 q % 6) with
            | false => rfl
            | true =>
              have := (inpost q hq).mp e
              omega
          have hj2 : j < G.1 := by
            apply Decidable.byContradiction
            intro hj2
            rw [hjL hj2] at hnb; cases hnb
          have eqj : G.2.1 q = G.2.1 j := by
            rcases hjq hj2 with e | e
            · rw [e]
            · exact e
          rw [eqj] at hnb hab
          have efo : fo G.2.1 (obit a b) G.1 0 = some j := by
            cases e : fo G.2.1 (obit a b) G.1 0 with
            | none =>
              have := fo_n e j (by omega) (by omega)
              rw [this] at hnb; cases hnb
            | some z =>
              obtain ⟨_, hz, hbz, hzz⟩ := fo_s e
              rcases Nat.lt_trichotomy z j with q1 | q1 | q1
              · rw [hall z q1 (by omega)] at hbz; cases hbz
              · rw [q1]
              · rw [hzz j (by omega) q1] at hnb; cases hnb
          have hsj := hLN.2.2.1 j hj2
          have hgj := SV_lt hO hsj
          rw [sco_1 (by rw [hG]; exact efo), hG, eq, eqj]
          unfold fX12_score_J121 fX12_score_J142 fX12_score_J158
          rw [show (6 : Int32) = nI 6 from rfl, pk_rem (by omega) (by omega) (by omega), pk_div (by omega) (by omega) (by omega), nI_1, show (1 : Int32) = nI 1 from rfl, nI_add, show (0 : Int32) = nI 0 from rfl, nI_add, Nat.add_zero]
          have fin1 : ∀ c2, c2 = (if G.2.1 j % 6 = a then c + 1 else c) → Ok (fX12_score_L58 n (nI a) (nI b) (nI N) (nI (G.2.1 j / 6)) (nI c2) (nI (i + 1)) h1) (fun r => r.1 = sI (sco m f w a b k (G.2.1 j / 6) (if G.2.1 j % 6 = a then c + 1 else c)) ∧ fr [69, 70] [] h0 r.2) := by
            intro c2 hc2
            subst hc2
            exact ih n (i + 1) (G.2.1 j / 6) _ h1 (by omega) (by omega) (by split <;> omega) hsj.2 hf1
          by_cases c1 : G.2.1 j % 6 = a
          · exact Ok.pos (by rw [c1]) (Ok.pos (by rw [c1]) (fin1 (c + 1) (by rw [if_pos c1])))
          · have c2 : G.2.1 j % 6 = b := hab.resolve_left c1
            exact Ok.neg (by rw [nI_eq (by omega) (by omega)]; exact c1) (Ok.pos (by rw [c2]) (Ok.neg (by rw [nI_eq (by omega) (by omega)]; exact c1) (fin1 c (by rw [if_neg c1]))))
        by_cases c1 : LA G.1 G.2.1 G.2.2 j % 6 = a
        · exact Ok.pos (by rw [c1]) (stopped (Or.inl c1))
        refine Ok.neg (by rw [nI_eq (by omega) (by omega)]; exact c1) ?_
        by_cases c2 : LA G.1 G.2.1 G.2.2 j % 6 = b
        · exact Ok.pos (by rw [c2]) (stopped (Or.inr c2))
        refine Ok.neg (by rw [nI_eq (by omega) (by omega)]; exact c2) ?_
        refine Ok.bind (r_goesTo hO hf hst hM1 h41) (fun r hr => ?_)
        rw [hr.1, ← LA_s hLN j]
        refine ihd n2 (j + 1) r.2 (by omega) (by omega) (fr_t hf1 hr.2) (fun z hz1 hz2 => ?_)
        by_cases ez : z = j
        · subst ez
          have : LA G.1 G.2.1 G.2.2 z = G.2.1 z := by unfold LA; rw [if_pos hz2]
          rw [this] at c1 c2
          exact (inpost z hz2).mpr ⟨c1, c2⟩
        · exact hall z (by omega) hz2
    exact key 4375 ab_N 0 h (by omega) (by unfold ab_N; omega) hfr (fun q hq => by omega)
theorem fr34 {h h' : abJ} (a : fr [34] [] h h') : fr sc0 [41] h h' := fr_m a (by decide) (by simp)
theorem call_score (x y z : Int32) : call2 (fX11_score x y z) (fX12_score x y z) := by
  refine post_ro (c := fun x => fX11_score x y z) (r := fun x => fX12_score x y z) x (v0 := -2) (fun A h x hW hR hx => by unfold fX11_score; rw [c_has_out hR.1 hx]; rfl) (fun A h x hW hR hx => by unfold fX12_score; rw [r_isPost_out hW.1 (RR_0 hR).1 hx]; rfl) (fun A a hW ha => ?_)
  have hO := hW.1
  have h6 := hO.2.1
  have no : ∀ v : Int32, (∀ h, RC A h → fX11_score (nI a) y z h = some (v, h)) → (∀ h, RR A h → fX12_score (nI a) y z h = some (v, ab_wI h 64 0 0)) → ∃ v, (∀ h, RC A h → Ok (fX11_score (nI a) y z h) (fun x => x.1 = v ∧ fr sc0 [41] h x.2)) ∧ (∀ h, RR A h → Ok (fX12_score (nI a) y z h) (fun x => x.1 = v ∧ frR sk1 sc1 [80, 81] h x.2)) := fun v h1 h2 => ⟨v, fun h hR => by rw [h1 h hR]; exact Ok.some ⟨rfl, fr_r _ _ _⟩, fun h hR => by rw [h2 h hR]; exact Ok.some ⟨rfl, frR_64 (frR_r _ _ _ _) (by decide)⟩⟩
  have outy : (y < 0 ∨ nI (mP (aM A)) ≤ y) → _ := fun hy => no (-2) (fun h hR => by unfold fX11_score; rw [c_has_in hO hR.1 ha, ab_bindS, if_neg (by decide), c_has_out hR.1 hy]; rfl) (fun h hR => by unfold fX12_score; rw [r_isPost_in hO (RR_0 hR).1 ha, ab_bindS, if_neg (by decide), r_isPost_out hO (RR_0 hR).1 hy]; rfl)
  rcases pk_ix y (n := mP (aM A)) (by omega) with hy | hy | ⟨b, hb, rfl⟩
  · exact outy (Or.inl hy)
  · exact outy (Or.inr hy)
  by_cases cab : a = b
  · subst cab
    exact no (-2) (fun h hR => by unfold fX11_score; rw [c_has_in hO hR.1 ha, ab_bindS, if_neg (by decide), ab_bindS, if_neg (by decide), if_pos rfl]) (fun h hR => by unfold fX12_score; rw [r_isPost_in hO (RR_0 hR).1 ha, ab_bindS, if_neg (by decide), ab_bindS, if_neg (by decide), if_pos rfl])
  have nab : ¬ nI a = nI b := by rw [nI_eq (by omega) (by omega)]; exact cab
  by_cases cz : z < nI 0 ∨ nI 999 < z
  · refine no (-3) (fun h hR => ?_) (fun h hR => ?_)
    · unfold fX11_score
      rw [c_has_in hO hR.1 ha, ab_bindS, if_neg (by decide), c_has_in hO hR.1 hb, ab_bindS, if_neg (by decide), if_neg nab]
      by_cases c1 : z < 0
      · rw [if_pos c1]
      · rw [if_neg c1, if_neg (by rw [Int32.not_le]; exact cz.resolve_left c1)]
    · unfold fX12_score
      rw [r_isPost_in hO (RR_0 hR).1 ha, ab_bindS, if_neg (by decide), r_isPost_in hO (RR_0 hR).1 hb, ab_bindS, if_neg (by decide), if_neg nab, r_win _ (a := nI 0) (b := nI 999) (A := 0) (B := 999) rfl rfl, ab_bindS, decide_eq_true cz]; rfl
  obtain ⟨N, hN, rfl⟩ : ∃ N, N < 2 ^ 31 ∧ z = nI N := nI_of (fun q => cz (Or.inl q))
  have cz' := cz
  rw [nI_ltI (by omega) (by omega), nI_ltI (by omega) (by omega)] at cz'
  refine ⟨sI (sco (aM A) (sF (aS A)) (sW (aS A)) a b N (sA (aS A)) 0), fun h hR => ?_, fun h hR => ?_⟩
  · unfold fX11_score
    rw [c_has_in hO hR.1 ha, ab_bindS, if_neg (by decide), c_has_in hO hR.1 hb, ab_bindS, if_neg (by decide), if_neg nab]
    refine Ok.neg (by rw [show (0 : Int32) = nI 0 from rfl, nI_ltI (by omega) (by omega)]; omega) (Ok.pos (by rw [show (999 : Int32) = nI 999 from rfl, nI_leI (by omega) (by omega)]; omega) ?_)
    unfold fX2_countHits
    refine Ok.bind (P := fun r => r.1 = sI (sco (aM A) (sF (aS A)) (sW (aS A)) a b N (sA (aS A)) 0) ∧ fr [34] [] h r.2) ?_ (fun r hr => Ok.some ⟨hr.1, fr34 hr.2⟩)
    refine Ok.bind (c_fillA h (o := 34) (N := 729) (x := -1) (by decide) (by omega)) (fun h1 hr => ?_)
    have hob := (obit_c' a (by omega) b (by omega)).1
    rw [show (1 : Int32) = nI 1 from rfl, show (31 : Int32) = nI 31 from rfl] at *
    rw [show ((63 &&& ((nI 1 <<< (nI a &&& nI 31)) ^^^ (-nI 1))) &&& ((nI 1 <<< (nI b &&& nI 31)) ^^^ (-nI 1))) = nI (obit a b) from hob, show (h1.1 12 1) = nI (sA (aS A)) by rw [hr.2.1 12 (by decide)]; exact hR.2.1.2.1]
    have hav := AV_lt hO hW.2.1.2.1
    have h7 := MO_729 hO
    refine (c_score_L hO hW.2.1.1 (by omega) (by omega) (show N ≤ 999 by omega) hW.2.1.2.2 (cM_fr hR.1 hr.2 (by decide) (by decide) (by decide) (by decide)) (cK_fr hR.2.2.1 hr.2 (by decide) (by decide)) (rdy_fr hR.2.2.2.1 hr.2 (by decide)) (by rw [hr.2.1 12 (by decide)]; exact hR.2.1.2.2.1) (by rw [hr.2.1 12 (by decide)]; exact hR.2.1.1) N ab_N 0 (sA (aS A)) 0 h1 (by omega) (by unfold ab_N; omega) (by omega) hW.2.1.2.1 (fun q hq => Or.inl ?_) (fr_r _ _ _)).mono (fun r hr2 => ⟨hr2.1, fr_t hr.2 hr2.2⟩)
    have := AV_lt hO hq
    exact hr.1 q (by omega)
  · unfold fX12_score
    generalize e0 : ab_wI h 64 0 0 = h0; have f0 : frR sk1 sc1 [80, 81] h h0 := (by subst e0; exact frR_64 (frR_r _ _ _ _) (by decide)); have hR0 : RR A h0 := (RR_sc hR f0).1
    rw [r_isPost_in hO hR0.1 ha, ab_bindS, if_neg (by decide), r_isPost_in hO hR0.1 hb, ab_bindS, if_neg (by decide), if_neg nab, r_win _ (a := nI 0) (b := nI 999) (A := 0) (B := 999) rfl rfl, ab_bindS, decide_eq_false cz]
    refine Ok.neg (by decide) ?_
    rw [r_armsNow hR0.1 h6 (WF_a hW).1 (fun p hp => rS_a hR0.2.1 hp), ab_bindS]
    exact (r_score_L hO hW.2.1.1 (by omega) (by omega) (show N ≤ 999 by omega) hW.2.1.2.2 hR0.1 hR0.2.1.2.2.1 hR0.2.1.1 N ab_N 0 (sA (aS A)) 0 h0 (by omega) (by unfold ab_N; omega) (by omega) hW.2.1.2.1 (fr_r _ _ _)).mono (fun r hr => ⟨hr.1, frR_t f0 (frR_m (frR_o (K := []) hr.2 (by decide)) (by simp) (by decide) (by simp))⟩)
