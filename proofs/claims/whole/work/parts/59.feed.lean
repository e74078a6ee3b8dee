/-! count, feed, lists. -/
theorem c_allRoads_L {m : MoT} {h : abJ} (hO : MO m) (hM : cM m 1 h) : ∀ (k n j : Nat), j + k = mP m → k < n → fX3_allRoads_L4 h n (nI (sg (mR m) j)) (nI j) = some (nI (sg (mR m) (mP m))) := by
  have h6 := hO.2.1
  intro k
  induction k with
  | zero =>
    intro n j hj hn
    obtain ⟨n, rfl⟩ : ∃ n0, n = n0 + 1 := ⟨n - 1, by omega⟩
    rw [fX3_allRoads_L4, hM.1, if_pos (by rw [nI_leI (by omega) (by omega)]; omega), show j = mP m by omega]
  | succ k ih =>
    intro n j hj hn
    obtain ⟨n, rfl⟩ : ∃ n0, n = n0 + 1 := ⟨n - 1, by omega⟩
    rw [fX3_allRoads_L4, hM.1, if_neg (by rw [nI_leI (by omega) (by omega)]; omega), c_roadsOf hO hM (by omega), ab_bindS, nI_add, nI_1]
    exact ih n (j + 1) (by omega) (by omega)
theorem r_count_L {m : MoT} {h : abJ} (hO : MO m) (hM : rM m (h.1 65)) : ∀ (k n j : Nat), j + k = mP m → k < n → fX12_count_L71 n (nI (sg (mR m) j)) (nI j) h = some (nI (sg (mR m) (mP m)), h) := by
  have h6 := hO.2.1
  intro k
  induction k with
  | zero =>
    intro n j hj hn
    obtain ⟨n, rfl⟩ : ∃ n0, n = n0 + 1 := ⟨n - 1, by omega⟩
    rw [fX12_count_L71, hM.2.1, if_pos (by rw [nI_leI (by omega) (by omega)]; omega), show j = mP m by omega]
  | succ k ih =>
    intro n j hj hn
    obtain ⟨n, rfl⟩ : ∃ n0, n = n0 + 1 := ⟨n - 1, by omega⟩
    rw [fX12_count_L71, hM.2.1, if_neg (by rw [nI_leI (by omega) (by omega)]; omega), show (9 : Int32) = nI 9 from rfl, nI_add, nI_clamp (by omega), ab_askP (ixN (by omega) (by omega)), hM.2.2.2.1 j (by omega), nI_add, nI_1]
    exact ih n (j + 1) (by omega) (by omega)
theorem call_count (x : Int32) : call2 (pure1 (fX11_count x)) (fX12_count x) := by
  refine call2_ro (fun A hW => ?_)
  have hO := hW.1
  have h6 := hO.2.1
  have key : ∀ (v : Int32), (∀ h, RC A h → fX11_count x h = some v) → (∀ h, RR A h → fX12_count x h = some (v, ab_wI h 64 0 0)) → ∃ v, (∀ h, RC A h → Ok (pure1 (fX11_count x) h) (fun x => x.1 = v ∧ fr sc0 [41] h x.2)) ∧ (∀ h, RR A h → Ok (fX12_count x h) (fun x => x.1 = v ∧ frR sk1 sc1 [80, 81] h x.2)) := fun v h1 h2 => ⟨v, fun h hR => Ok_p1 (h1 h hR), fun h hR => by rw [h2 h hR]; exact Ok.some ⟨rfl, frR_64 (frR_r _ _ _ _) (by decide)⟩⟩
  by_cases c0 : x = 0
  · subst c0
    refine key (nI (mP (aM A))) (fun h hR => ?_) (fun h hR => ?_)
    · unfold fX11_count; rw [if_pos rfl, hR.1.1]
    · unfold fX12_count; rw [if_pos rfl, (RR0 hR).1.1.2.1]
  by_cases c1 : x = 1
  · subst c1
    refine key (nI (sg (mR (aM A)) (mP (aM A)))) (fun h hR => ?_) (fun h hR => ?_)
    · unfold fX11_count fX3_allRoads
      have := c_allRoads_L hO hR.1 (mP (aM A)) ab_N 0 (by omega) (by unfold ab_N; omega)
      have this : fX3_allRoads_L4 h ab_N 0 0 = some (nI (sg (mR (aM A)) (mP (aM A)))) := this
      rw [if_neg (by decide), if_pos rfl, this]; rfl
    · unfold fX12_count
      have := r_count_L hO (RR0 hR).1.1 (mP (aM A)) ab_N 0 (by omega) (by unfold ab_N; omega)
      rw [if_neg (by decide), if_pos rfl]
      exact this
  by_cases c2 : x = 2
  · subst c2
    refine key (nI (mH (aM A))) (fun h hR => ?_) (fun h hR => ?_)
    · unfold fX11_count; rw [if_neg (by decide), if_neg (by decide), if_pos rfl, hR.1.2.2.1]
    · unfold fX12_count; rw [if_neg (by decide), if_neg (by decide), if_pos rfl, (RR0 hR).1.1.2.2.1]
  by_cases c3 : x = 3
  · subst c3
    refine key (nI (sW (aS A))) (fun h hR => ?_) (fun h hR => ?_)
    · unfold fX11_count; rw [if_neg (by decide), if_neg (by decide), if_neg (by decide), if_pos rfl, hR.2.1.1]
    · unfold fX12_count; rw [if_neg (by decide), if_neg (by decide), if_neg (by decide), if_pos rfl, show (ab_wI h 64 0 0).1 65 33 = nI (sW (aS A)) from (RR0 hR).1.2.1.1]
  by_cases c4 : x = 4
  · subst c4
    refine key (nI (sA (aS A))) (fun h hR => ?_) (fun h hR => ?_)
    · unfold fX11_count; rw [if_neg (by decide), if_neg (by decide), if_neg (by decide), if_neg (by decide), if_pos rfl, hR.2.1.2.1]
    · have hR0 := (RR0 hR).1
      unfold fX12_count; rw [if_neg (by decide), if_neg (by decide), if_neg (by decide), if_neg (by decide), if_pos rfl, r_armsNow hR0.1 h6 (WF_a hW).1 (fun p hp => rS_a hR0.2.1 hp)]; rfl
  by_cases c5 : x = 5
  · subst c5
    refine key (nI (sF (aS A))) (fun h hR => ?_) (fun h hR => ?_)
    · unfold fX11_count; rw [if_neg (by decide), if_neg (by decide), if_neg (by decide), if_neg (by decide), if_neg (by decide), if_pos rfl, hR.2.1.2.2.1]
    · unfold fX12_count; rw [if_neg (by decide), if_neg (by decide), if_neg (by decide), if_neg (by decide), if_neg (by decide), if_pos rfl, show (ab_wI h 64 0 0).1 65 40 = nI (sF (aS A)) from (RR0 hR).1.2.1.2.2.1]
  by_cases c6 : x = 6
  · subst c6
    refine key (nI (sN (aS A))) (fun h hR => ?_) (fun h hR => ?_)
    · unfold fX11_count; rw [if_neg (by decide), if_neg (by decide), if_neg (by decide), if_neg (by decide), if_neg (by decide), if_neg (by decide), if_pos rfl, hR.2.1.2.2.2]
    · unfold fX12_count; rw [if_neg (by decide), if_neg (by decide), if_neg (by decide), if_neg (by decide), if_neg (by decide), if_neg (by decide), if_pos rfl, show (ab_wI h 64 0 0).1 65 41 = nI (sN (aS A)) from (RR0 hR).1.2.1.2.2.2]
  by_cases c7 : x = 7
  · subst c7
    refine key (nI (aU A).length) (fun h hR => ?_) (fun h hR => ?_)
    · unfold fX11_count; rw [if_neg (by decide), if_neg (by decide), if_neg (by decide), if_neg (by decide), if_neg (by decide), if_neg (by decide), if_neg (by decide), if_pos rfl, hR.2.2.2.2.1.1]
    · unfold fX12_count; rw [if_neg (by decide), if_neg (by decide), if_neg (by decide), if_neg (by decide), if_neg (by decide), if_neg (by decide), if_neg (by decide), if_pos rfl, (RR0 hR).1.2.2.1.1]
  by_cases c8 : x = 8
  · subst c8
    refine key (nI (aT A).1) (fun h hR => ?_) (fun h hR => ?_)
    · unfold fX11_count; rw [if_neg (by decide), if_neg (by decide), if_neg (by decide), if_neg (by decide), if_neg (by decide), if_neg (by decide), if_neg (by decide), if_neg (by decide), if_pos rfl, hR.2.2.2.2.2.2.1.1]
    · unfold fX12_count; rw [if_neg (by decide), if_neg (by decide), if_neg (by decide), if_neg (by decide), if_neg (by decide), if_neg (by decide), if_neg (by decide), if_neg (by decide), if_pos rfl, (RR0 hR).1.2.2.2.2.1.1]
  by_cases c9 : x = 9
  · subst c9
    refine key (nI (mN (aM A))) (fun h hR => ?_) (fun h hR => ?_)
    · unfold fX11_count; rw [if_neg (by decide), if_neg (by decide), if_neg (by decide), if_neg (by decide), if_neg (by decide), if_neg (by decide), if_neg (by decide), if_neg (by decide), if_neg (by decide), if_pos rfl, hR.1.2.1]
    · unfold fX12_count; rw [if_neg (by decide), if_neg (by decide), if_neg (by decide), if_neg (by decide), if_neg (by decide), if_neg (by decide), if_neg (by decide), if_neg (by decide), if_neg (by decide), if_pos rfl, (RR0 hR).1.1.1]
  refine key (-1) (fun h hR => ?_) (fun h hR => ?_)
  · unfold fX11_count; rw [if_neg c0, if_neg c1, if_neg c2, if_neg c3, if_neg c4, if_neg c5, if_neg c6, if_neg c7, if_neg c8, if_neg c9]
  · unfold fX12_count; rw [if_neg c0, if_neg c1, if_neg c2, if_neg c3, if_neg c4, if_neg c5, if_neg c6, if_neg c7, if_neg c8, if_neg c9]
/-! The tape. -/
abbrev TpT : Type := Nat × (Nat → Nat)
def ap1 (T : TpT) (b : Nat) : TpT := (T.1 + 1, fun k => if k = T.1 then b else T.2 k)
/-- a byte of an int -/
def fb (v : Int32) (s : Nat) : Nat := (v >>> (nI s &&& nI 31)).toBitVec.toNat % 2 ^ 8
theorem fb_e (v : Int32) (s : Nat) : (v >>> (nI s &&& 31)) &&& 255 = nI (fb v s) := pk_and _ 8 (by decide)
theorem fb_lt (v : Int32) (s : Nat) : fb v s < 256 := Nat.mod_lt _ (by omega)
def ap4 (T : TpT) (v : Int32) : TpT := ap1 (ap1 (ap1 (ap1 T (fb v 24)) (fb v 16)) (fb v 8)) (fb v 0)
def tpC (T : TpT) (h : abJ) : Prop := h.1 9 4 = nI T.1 ∧ ∀ k, k < T.1 → h.1 11 k = nI (T.2 k)
def tpR (T : TpT) (h : abJ) : Prop := h.1 64 5 = nI T.1 ∧ ∀ k, k < T.1 → h.1 67 k = nI (T.2 k)
theorem c_app1 {T : TpT} {v : Int32} {h : abJ} {n s : Nat} (hT : tpC T h) (hl : T.1 < 900) (hs : s < 2 ^ 31) : ∃ h', fX6_append_L3 (n + 1) v (nI s) h = fX6_append_L3 n v (nI s + Int32.ofInt (-8)) h' ∧ tpC (ap1 T (fb v s)) h' ∧ (∀ o, o ≠ 9 → o ≠ 11 → h'.1 o = h.1 o) ∧ (∀ k, k ≠ 4 → h'.1 9 k = h.1 9 k) ∧ h'.2 = h.2 := by
  refine ⟨ab_wI (ab_wI h 11 T.1 (nI (fb v s))) 9 4 (nI (T.1 + 1)), ?_, ⟨ab_w1e _ _ _ _, fun k hk => ?_⟩, fun o h1 h2 => by rw [ab_w1n h1, ab_w1n h2], fun k hk => by rw [ab_w1k hk, ab_w1n (by decide)], rfl⟩
  · rw [fX6_append_L3, hT.1, if_neg (by rw [show (0 : Int32) = nI 0 from rfl, nI_ltI (by omega) (by omega)]; omega), if_neg (by rw [show (900 : Int32) = nI 900 from rfl, nI_leI (by omega) (by omega)]; omega), nI_clamp (by omega), ab_askP (ixN (by omega) (by omega)), fb_e, ab_w1n (by decide), hT.1, nI_1]
  · rw [ab_w1n (by decide)]
    by_cases e : k = T.1
    · subst e; rw [ab_w1e]; exact congrArg nI (if_pos rfl).symm
    · rw [ab_w1k e, hT.2 k (by have : k < T.1 + 1 := hk; omega)]; exact congrArg nI (if_neg e).symm
theorem c_app4 {T : TpT} {v : Int32} {h : abJ} (hT : tpC T h) (hl : T.1 + 4 ≤ 900) : Ok (fX6_append v h) (fun h' => tpC (ap4 T v) h' ∧ (∀ o, o ≠ 9 → o ≠ 11 → h'.1 o = h.1 o) ∧ (∀ k, k ≠ 4 → h'.1 9 k = h.1 9 k) ∧ h'.2 = h.2) := by
  unfold fX6_append
  obtain ⟨h1, e1, t1, a1, b1, d1⟩ := c_app1 (n := 999999) (v := v) (s := 24) hT (by omega) (by omega)
  obtain ⟨h2, e2, t2, a2, b2, d2⟩ := c_app1 (n := 999998) (v := v) (s := 16) t1 (by show T.1 + 1 < 900; omega) (by omega)
  obtain ⟨h3, e3, t3, a3, b3, d3⟩ := c_app1 (n := 999997) (v := v) (s := 8) t2 (by show T.1 + 1 + 1 < 900; omega) (by omega)
  obtain ⟨h4, e4, t4, a4, b4, d4⟩ := c_app1 (n := 999996) (v := v) (s := 0) t3 (by show T.1 + 1 + 1 + 1 < 900; omega) (by omega)
  have e : fX6_append_L3 ab_N v 24 h = some h4 := by
    refine e1.trans ?_
    rw [ab_d8 (by omega)]
    refine e2.trans ?_
    rw [ab_d8 (by omega)]
    refine e3.trans ?_
    rw [ab_d8 (by omega)]
    refine e4.trans ?_
    rw [fX6_append_L3, if_pos (by decide)]
  rw [e]
  refine Ok.some ⟨t4, fun o x y => ?_, fun k x => ?_, ?_⟩
  · rw [a4 o x y, a3 o x y, a2 o x y, a1 o x y]
  · rw [b4 k x, b3 k x, b2 k x, b1 k x]
  · rw [d4, d3, d2, d1]
def sel (a b c d e : Int32) (i : Nat) : Int32 := if i < 4 then a else if i < 8 then b else if i < 12 then c else if i < 16 then d else e
def fT (a b c d e : Int32) : Nat → Nat → TpT → TpT
  | 0, _, T => T
  | k + 1, i, T => fT a b c d e k (i + 1) (ap1 T (fb (sel a b c d e i) (24 - 8 * (i % 4))))
theorem r_feed_L {a b c d e : Int32} : ∀ (k n i : Nat) (T : TpT) (h : abJ), i + k = 20 → k < n → tpR T h → T.1 + k ≤ 900 → Ok (fX12_feed_L24 n a b c d e (nI i) h) (fun r => r.1 = nI (fT a b c d e k i T).1 ∧ tpR (fT a b c d e k i T) r.2 ∧ frR [5] [67] [] h r.2) := by
  intro k
  induction k with
  | zero =>
    intro n i T h hi hn hT hl
    obtain ⟨n, rfl⟩ : ∃ n0, n = n0 + 1 := ⟨n - 1, by omega⟩
    rw [fX12_feed_L24]
    exact Ok.pos (by rw [show (20 : Int32) = nI 20 from rfl, nI_leI (by omega) (by omega)]; omega) (Ok.some ⟨hT.1, hT, frR_r _ _ _ _⟩)
  | succ k ih =>
    intro n i T h hi hn hT hl
    obtain ⟨n, rfl⟩ : ∃ n0, n = n0 + 1 := ⟨n - 1, by omega⟩
    have key : ∀ v, v = sel a b c d e i → Ok (fX12_feed_J77 (fun y1 y2 y3 y4 y5 y6 h => fX12_feed_L24 n y1 y2 y3 y4 y5 y6 h) a b c d e (nI i) v h) (fun r => r.1 = nI (fT a b c d e (k + 1) i T).1 ∧ tpR (fT a b c d e (k + 1) i T) r.2 ∧ frR [5] [67] [] h r.2) := by
      intro v hv
      unfold fX12_feed_J77
      rw [hT.1, nI_clamp (by omega), ab_w1n (by decide), hT.1, nI_1, nI_1, show (4 : Int32) = nI 4 from rfl, pk_rem (by omega) (by omega) (by omega), show (8 : Int32) = nI 8 from rfl, show (24 : Int32) = nI 24 from rfl, pk_mul, pk_sub (by omega), fb_e]
      refine Ok.ask (ixN (by omega) (by omega)) ?_
      refine (ih n (i + 1) (ap1 T (fb v (24 - 8 * (i % 4)))) _ (by omega) (by omega) ⟨ab_w1e _ _ _ _, fun q hq => ?_⟩ (by show T.1 + 1 + k ≤ 900; omega)).mono (fun r hr => ?_)
      · rw [ab_w1n (by decide)]
        by_cases e : q = T.1
        · subst e; rw [ab_w1e]; exact congrArg nI (if_pos rfl).symm
        · rw [ab_w1k e, hT.2 q (by have : q < T.1 + 1 := hq; omega)]; exact congrArg nI (if_neg e).symm
      · rw [hv] at hr
        exact ⟨hr.1, hr.2.1, frR_t (frR_64 (frR_w (frR_r _ _ _ _) (by simp) (by decide)) (by simp)) hr.2.2⟩
    rw [fX12_feed_L24]
    refine Ok.neg (by rw [show (20 : Int32) = nI 20 from rfl, nI_leI (by omega) (by omega)]; omega) ?_
    unfold sel at key
    by_cases c1 : i < 4
    · exact Ok.neg (by rw [show (4 : Int32) = nI 4 from rfl, nI_leI (by omega) (by omega)]; omega) (key a (by rw [if_pos c1]))
    refine Ok.pos (by rw [show (4 : Int32) = nI 4 from rfl, nI_leI (by omega) (by omega)]; omega) ?_
    by_cases c2 : i < 8
    · exact Ok.neg (by rw [show (8 : Int32) = nI 8 from rfl, nI_leI (by omega) (by omega)]; omega) (key b (by rw [if_neg c1, if_pos c2]))
    refine Ok.pos (by rw [show (8 : Int32) = nI 8 from rfl, nI_leI (by omega) (by omega)]; omega) ?_
    by_cases c3 : i < 12
    · exact Ok.neg (by rw [show (12 : Int32) = nI 12 from rfl, nI_leI (by omega) (by omega)]; omega) (key c (by rw [if_neg c1, if_neg c2, if_pos c3]))
    refine Ok.pos (by rw [show (12 : Int32) = nI 12 from rfl, nI_leI (by omega) (by omega)]; omega) ?_
    by_cases c4 : i < 16
    · exact Ok.neg (by rw [show (16 : Int32) = nI 16 from rfl, nI_leI (by omega) (by omega)]; omega) (key d (by rw [if_neg c1, if_neg c2, if_neg c3, if_pos c4]))
    · exact Ok.pos (by rw [show (16 : Int32) = nI 16 from rfl, nI_leI (by omega) (by omega)]; omega) (key e (by rw [if_neg c1, if_neg c2, if_neg c3, if_neg c4]))
def upT (A : AbT) (T : TpT) : AbT := (A.1, A.2.1, A.2.2.1, A.2.2.2.1, T, A.2.2.2.2.2)
theorem ap1_b {T : TpT} {b : Nat} (h : ∀ k, k < T.1 → T.2 k < 256) (hb : b < 256) : ∀ k, k < (ap1 T b).1 → (ap1 T b).2 k < 256 := by
  intro k hk
  have hk : k < T.1 + 1 := hk
  show (if k = T.1 then b else T.2 k) < 256
  split
  · exact hb
  · exact h k (by omega)
theorem ap4_b {T : TpT} {v : Int32} (h : ∀ k, k < T.1 → T.2 k < 256) : ∀ k, k < (ap4 T v).1 → (ap4 T v).2 k < 256 := ap1_b (ap1_b (ap1_b (ap1_b h (fb_lt _ _)) (fb_lt _ _)) (fb_lt _ _)) (fb_lt _ _)
theorem fT_e (a b c d e : Int32) (T : TpT) : fT a b c d e 20 0 T = ap4 (ap4 (ap4 (ap4 (ap4 T a) b) c) d) e := rfl
theorem call_feed (a b c d e : Int32) : call2 (fX11_feed a b c d e) (fX12_feed a b c d e) := by
  intro A hW
  have h9 := hW.2.2.2.2.1.1
  by_cases cx : (aT A).1 + 20 ≤ 900
  · generalize hT5 : ap4 (ap4 (ap4 (ap4 (ap4 (aT A) a) b) c) d) e = T5
    have hT51 : T5.1 = (aT A).1 + 20 := by subst hT5; rfl
    refine ⟨nI T5.1, upT A T5, ⟨hW.1, hW.2.1, hW.2.2.1, hW.2.2.2.1, ⟨?_, ?_⟩, hW.2.2.2.2.2⟩, fun h hR => ?_, fun h hR => ?_⟩
    · show T5.1 ≤ 900; omega
    · subst hT5
      exact ap4_b (ap4_b (ap4_b (ap4_b (ap4_b hW.2.2.2.2.1.2))))
    · have hT0 : tpC (aT A) h := hR.2.2.2.2.2.2.1
      unfold fX11_feed
      rw [hT0.1, show (20 : Int32) = nI 20 from rfl, nI_add]
      refine Ok.pos (by rw [show (900 : Int32) = nI 900 from rfl, nI_leI (by omega) (by omega)]; exact cx) ?_
      refine Ok.bind (c_app4 hT0 (by omega)) (fun h1 r1 => Ok.bind (c_app4 r1.1 (by show (aT A).1 + 4 + 4 ≤ 900; omega)) (fun h2 r2 => Ok.bind (c_app4 r2.1 (by show (aT A).1 + 4 + 4 + 4 ≤ 900; omega)) (fun h3 r3 => Ok.bind (c_app4 r3.1 (by show (aT A).1 + 4 + 4 + 4 + 4 ≤ 900; omega)) (fun h4 r4 => Ok.bind (c_app4 r4.1 (by show (aT A).1 + 4 + 4 + 4 + 4 + 4 ≤ 900; omega)) (fun h5 r5 => ?_)))))
      have e1 : ∀ o, o ≠ 9 → o ≠ 11 → h5.1 o = h.1 o := fun o x y => by rw [r5.2.1 o x y, r4.2.1 o x y, r3.2.1 o x y, r2.2.1 o x y, r1.2.1 o x y]
      have e9 : ∀ k, k ≠ 4 → h5.1 9 k = h.1 9 k := fun k x => by rw [r5.2.2.1 k x, r4.2.2.1 k x, r3.2.2.1 k x, r2.2.2.1 k x, r1.2.2.1 k x]
      have e2 : h5.2 = h.2 := by rw [r5.2.2.2, r4.2.2.2, r3.2.2.2, r2.2.2.2, r1.2.2.2]
      have ht5 := r5.1
      rw [hT5] at ht5
      have ff : fr [9, 11] [] h h5 := ⟨fun o ho => e1 o (by simp at ho; omega) (by simp at ho; omega), fun o _ => by rw [e2]⟩
      obtain ⟨r1', r2', r3', r4', r5', r6', r7', r8', r9'⟩ := hR
      have h10 := hW.2.2.1.1
      refine Ok.some ⟨ht5.1, ⟨cM_fr r1' ff (by decide) (by decide) (by decide) (by decide), cS_fr r2' ff (by decide), cK_fr r3' ff (by decide) (by decide), rdy_fr r4' ff (by decide), ⟨by rw [ff.1 16 (by decide)]; exact r5'.1, fun i hi => ?_⟩, fun i hi => ?_, ht5, ⟨by rw [e9 10 (by decide)]; exact r8'.1, by rw [e9 11 (by decide)]; exact r8'.2⟩, fun i hi => ?_⟩, abv_fr ff (by decide) (by simp)⟩
      · have hi : i < (aU A).length := hi
        exact ⟨cS_fr (r5'.2 i hi).1 ff (by simp; omega), rdy_fr (r5'.2 i hi).2 ff (by decide)⟩
      · have := r6' i hi
        show cI (aI A i) i h5
        unfold cI cM cS at this ⊢
        rw [e1 (54 + 5 * i) (by omega) (by omega), e1 (54 + 5 * i + 1) (by omega) (by omega), e1 (54 + 5 * i + 2) (by omega) (by omega), e1 (54 + 5 * i + 3) (by omega) (by omega), e1 (58 + 5 * i) (by omega) (by omega)]; exact this
      · have := r9' i hi
        show cY (aY A i) i h5
        unfold cY at this ⊢
        rw [e1 (44 + 2 * i) (by omega) (by omega), e2]; exact this
    · obtain ⟨hR0, b0⟩ := RR0 hR
      unfold fX12_feed
      generalize ab_wI h 64 0 0 = h0 at *
      have hT0 : tpR (aT A) h0 := hR0.2.2.2.2.1
      rw [hT0.1, show (20 : Int32) = nI 20 from rfl, nI_add]
      refine Ok.pos (by rw [show (900 : Int32) = nI 900 from rfl, nI_leI (by omega) (by omega)]; exact cx) ?_
      refine (r_feed_L (a := a) (b := b) (c := c) (d := d) (e := e) 20 ab_N 0 (aT A) h0 (by omega) (by unfold ab_N; omega) hT0 cx).mono (fun r hr => ?_)
      rw [fT_e, hT5] at hr
      obtain ⟨q1, q2, q3⟩ := hr
      obtain ⟨r1, r2, r3, r4, r5, r6, r7⟩ := hR0
      have c65 := q3.1 65 (by decide) (by decide)
      refine ⟨q1, ⟨by rw [c65]; exact r1, by rw [c65]; exact r2, ⟨by rw [c65]; exact r3.1, fun i hi => by rw [c65]; exact r3.2 i hi⟩, fun i hi => ?_, q2, ⟨by rw [q3.2.1 13 (by decide)]; exact r6.1, by rw [q3.2.1 14 (by decide)]; exact r6.2⟩, fun i hi => ?_⟩, blw_t b0 (blw_fr q3 (by decide) (by simp))⟩
      · have := r4 i hi
        show rI (aI A i) i r.2
        unfold rI at this ⊢
        rw [c65, q3.1 66 (by decide) (by decide)]; exact this
      · have := r7 i hi
        show rY (aY A i) i r.2
        unfold rY at this ⊢
        rw [q3.1 85 (by decide) (by decide), q3.1 86 (by decide) (by decide), q3.2.2 87 (by simp)]; exact this
  · refine call2_no (v := -5) hW (fun h hR => ?_) (fun h hR => ?_)
    · unfold fX11_feed
      rw [hR.2.2.2.2.2.2.1.1, show (20 : Int32) = nI 20 from rfl, nI_add]
      exact Ok.neg (by rw [show (900 : Int32) = nI 900 from rfl, nI_leI (by omega) (by omega)]; exact cx) (Ok.some ⟨rfl, hR, abv_r _⟩)
    · obtain ⟨hR0, b0⟩ := RR0 hR
      unfold fX12_feed
      rw [hR0.2.2.2.2.1.1, show (20 : Int32) = nI 20 from rfl, nI_add]
      exact Ok.neg (by rw [show (900 : Int32) = nI 900 from rfl, nI_leI (by omega) (by omega)]; exact cx) (Ok.some ⟨rfl, hR0, b0⟩)
