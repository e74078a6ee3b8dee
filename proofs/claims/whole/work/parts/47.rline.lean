/-! The reference lays a line. -/
def frR (K S T : List Nat) (h h' : abJ) : Prop := (∀ o, o ∉ S → o ≠ 64 → h'.1 o = h.1 o) ∧ (∀ k, k ∉ K → h'.1 64 k = h.1 64 k) ∧ (∀ o, o ∉ T → h'.2 o = h.2 o)
theorem frR_r (K S T : List Nat) (h : abJ) : frR K S T h h := ⟨fun _ _ _ => rfl, fun _ _ => rfl, fun _ _ => rfl⟩
theorem frR_t {K S T : List Nat} {h h1 h2 : abJ} (a : frR K S T h h1) (b : frR K S T h1 h2) : frR K S T h h2 := ⟨fun o q q2 => (b.1 o q q2).trans (a.1 o q q2), fun o q => (b.2.1 o q).trans (a.2.1 o q), fun o q => (b.2.2 o q).trans (a.2.2 o q)⟩
theorem frR_m {K S T K' S' T' : List Nat} {h h' : abJ} (a : frR K S T h h') (hk : ∀ o, o ∈ K → o ∈ K') (hs : ∀ o, o ∈ S → o ∈ S') (ht : ∀ o, o ∈ T → o ∈ T') : frR K' S' T' h h' := ⟨fun o q q2 => a.1 o (fun r => q (hs o r)) q2, fun o q => a.2.1 o (fun r => q (hk o r)), fun o q => a.2.2 o (fun r => q (ht o r))⟩
theorem frR_w {K S T : List Nat} {h h' : abJ} (a : frR K S T h h') {o k : Nat} {v : Int32} (ho : o ∈ S) (h6 : o ≠ 64) : frR K S T h (ab_wI h' o k v) := ⟨fun q hq q2 => by rw [ab_w1n (fun e => hq (by rw [e]; exact ho))]; exact a.1 q hq q2, fun q hq => by rw [ab_w1n (fun e => h6 e.symm)]; exact a.2.1 q hq, a.2.2⟩
theorem frR_64 {K S T : List Nat} {h h' : abJ} (a : frR K S T h h') {k : Nat} {v : Int32} (hk : k ∈ K) : frR K S T h (ab_wI h' 64 k v) := ⟨fun q hq q2 => by rw [ab_w1n q2]; exact a.1 q hq q2, fun q hq => by rw [ab_w1k (fun e => hq (by rw [e]; exact hk))]; exact a.2.1 q hq, a.2.2⟩
theorem frR_v {K S T : List Nat} {h h' : abJ} (a : frR K S T h h') {o k : Nat} {v : Int64} (ho : o ∈ T) : frR K S T h (ab_wL h' o k v) := ⟨a.1, a.2.1, fun q hq => by rw [ab_v2n (fun e => hq (by rw [e]; exact ho))]; exact a.2.2 q hq⟩
theorem frR_o {K S T : List Nat} {h h' : abJ} (a : fr S T h h') (h6 : 64 ∉ S) : frR K S T h h' := ⟨fun o q _ => a.1 o q, fun k _ => by rw [a.1 64 h6], a.2⟩
theorem r_line_L {m : MoT} {f s : Nat} (hO : MO m) (hf : f < 10) : ∀ (k n L x : Nat) (g : Nat → Nat) (h : abJ), L + k = 4374 → k + 1 < n → rM m (h.1 65) → h.1 65 40 = nI f → WI m f s L g (some x) → SN (h.1 73) 4374 L g → h.1 64 22 = nI L → h.1 64 23 = -nI 1 → (∀ i, i < L → h.1 72 i = nI (g i)) → Ok (fX12_laysLine_L34 n (nI x) h) (fun h' => ∃ L g t, LN m f s L g t ∧ h'.1 64 22 = nI L ∧ h'.1 64 23 = oI t ∧ (∀ i, i < L → h'.1 72 i = nI (g i)) ∧ frR [22, 23] [69, 70, 72, 73] [] h h') := by
  intro k
  induction k with
  | zero =>
    intro n L x g h hL hn hM h40 hW hS h4 h5 hp
    obtain ⟨n, rfl⟩ : ∃ n0, n = n0 + 1 := ⟨n - 1, by omega⟩
    have hx := hW.2.2.2.2.2 x rfl
    have hx4 := SV_lt hO hx
    rw [fX12_laysLine_L34]
    simp (disch := omega) only [ab_lits, nI_add, pk_mul, pk_sub, pk_div, nI_clamp, ab_ixO]
    rcases SN_cs hS hx4 (by omega) with ⟨_, c2⟩ | ⟨c1, j, hj, e, e2⟩
    · have := WI_lt hO hW c2; omega
    · refine Ok.neg c1 (Ok.some ⟨L, g, some j, ?_, ?_, ?_, fun i hi => ?_, frR_64 (frR_r _ _ _ _) (by simp)⟩)
      · subst e; exact WI_some hW hj
      · rw [ab_w1k (by decide)]; exact h4
      · rw [ab_w1e, e2]; exact rfl
      · rw [ab_w1n (by decide)]; exact hp i hi
  | succ k ih =>
    intro n L x g h hL hn hM h40 hW hS h4 h5 hp
    obtain ⟨n, rfl⟩ : ∃ n0, n = n0 + 1 := ⟨n - 1, by omega⟩
    have hx := hW.2.2.2.2.2 x rfl
    have hx4 := SV_lt hO hx
    rw [fX12_laysLine_L34]
    simp (disch := omega) only [ab_lits, nI_add, pk_mul, pk_sub, pk_div, nI_clamp, ab_ixO, k_mod]
    rcases SN_cs hS hx4 (by omega) with ⟨c1, c2⟩ | ⟨c1, j, hj, e, e2⟩
    · have hlt := WI_lt hO hW c2
      refine Ok.pos c1 ?_
      rw [ab_w1n (show 64 ≠ 73 by decide), ab_w1n (show 64 ≠ 72 by decide), ab_w1n (show 64 ≠ 73 by decide), h4, nI_clamp (by omega), nI_add, ab_ixO (by omega) (by omega)]
      generalize e1 : ab_wI (ab_wI (ab_wI h 73 x (nI L)) 72 L (nI x)) 64 22 (nI (L + 1)) = h1
      have f1 : frR [22, 23] [69, 70, 72, 73] [] h h1 := by subst e1; exact frR_64 (frR_w (frR_w (frR_r _ _ _ _) (by simp) (by decide)) (by simp) (by decide)) (by simp)
      have hM1 : rM m (h1.1 65) := by rw [f1.1 65 (by decide) (by decide)]; exact hM
      have g22 : h1.1 64 22 = nI (L + 1) := by subst e1; rw [ab_w1e]
      have g23 : h1.1 64 23 = -nI 1 := by subst e1; rw [ab_w1k (by decide), ab_w1n (by decide), ab_w1n (by decide)]; exact h5
      have gS : SN (h1.1 73) 4374 (L + 1) (ups g L x) := by
        subst e1
        rw [ab_w1n (by decide), ab_w1n (by decide), ab_w1f]
        exact SN_push hS c2
      have gp : ∀ i, i < L + 1 → h1.1 72 i = nI (ups g L x i) := by
        intro i hi
        subst e1
        rw [ab_w1n (by decide)]
        by_cases q : i = L
        · subst q; rw [ab_w1e, ups_s]
        · rw [ab_w1k q, ab_w1n (by decide), ups_n q]; exact hp i (by omega)
      have hW1 := WI_push hO hW c2
      rw [r_isRest hO hM1 (by omega), ab_bindS]
      by_cases c3 : rs m (x % 6) = true
      · refine Ok.neg (by rw [bI_0]; simp [c3]) (Ok.some ⟨L + 1, ups g L x, none, ?_, g22, g23, gp, f1⟩)
        have e3 : nx m f x = none := by unfold nx; rw [if_pos c3]
        rw [e3] at hW1
        exact WI_none hW1
      · refine Ok.pos (by rw [bI_0]; simpa using c3) ?_
        have e3 : nx m f x = some (sT m f x) := by unfold nx; rw [if_neg c3]
        have hr0 : 0 < mR m (x % 6) := by simp [rs] at c3; omega
        rw [f1.1 65 (by decide) (by decide), h40]
        refine Ok.bind (r_stepTo hO hM1 hf hx hr0) (fun r hr => ?_)
        rw [hr.1]
        rw [e3] at hW1
        have f2 : frR [22, 23] [69, 70, 72, 73] [] h1 r.2 := frR_m (frR_o (K := []) hr.2 (by decide)) (by simp) (by simp) (by simp)
        refine (ih n (L + 1) (sT m f x) (ups g L x) r.2 (by omega) (by omega) (by rw [hr.2.1 65 (by decide)]; exact hM1) (by rw [hr.2.1 65 (by decide), f1.1 65 (by decide) (by decide)]; exact h40) hW1 (by rw [hr.2.1 73 (by decide)]; exact gS) (by rw [hr.2.1 64 (by decide)]; exact g22) (by rw [hr.2.1 64 (by decide)]; exact g23) (fun i hi => by rw [hr.2.1 72 (by decide)]; exact gp i hi)).mono (fun h' hr => ?_)
        obtain ⟨L', g', t', q1, q2, q3, q4, q5⟩ := hr
        exact ⟨L', g', t', q1, q2, q3, q4, frR_t f1 (frR_t f2 q5)⟩
    · refine Ok.neg c1 (Ok.some ⟨L, g, some j, ?_, ?_, ?_, fun i hi => ?_, frR_64 (frR_r _ _ _ _) (by simp)⟩)
      · subst e; exact WI_some hW hj
      · rw [ab_w1k (by decide)]; exact h4
      · rw [ab_w1e, e2]; exact rfl
      · rw [ab_w1n (by decide)]; exact hp i hi
theorem r_line2 {x : Nat} {Q : abJ → Prop} {h0 : abJ} (hk : ∀ h, (∀ i, i < 4374 → h.1 73 i = -nI 1) → frR [] [73] [] h0 h → Ok (fX12_laysLine_L34 ab_N (nI x) (ab_wI (ab_wI h 64 22 (nI 0)) 64 23 (-nI 1))) Q) : ∀ (k n j : Nat) (h : abJ), j + k = 4374 → k < n → (∀ i, i < j → h.1 73 i = -nI 1) → frR [] [73] [] h0 h → Ok (fX12_laysLine_L2 n (nI x) (nI j) h) Q := by
  intro k
  induction k with
  | zero =>
    intro n j h hj hn hs hfr
    obtain ⟨n, rfl⟩ : ∃ n0, n = n0 + 1 := ⟨n - 1, by omega⟩
    rw [fX12_laysLine_L2]
    exact Ok.pos (by rw [show (4374 : Int32) = nI 4374 from rfl, nI_leI (by omega) (by omega)]; omega) (hk h (fun i hi => hs i (by omega)) hfr)
  | succ k ih =>
    intro n j h hj hn hs hfr
    obtain ⟨n, rfl⟩ : ∃ n0, n = n0 + 1 := ⟨n - 1, by omega⟩
    rw [fX12_laysLine_L2]
    refine Ok.neg (by rw [show (4374 : Int32) = nI 4374 from rfl, nI_leI (by omega) (by omega)]; omega) ?_
    simp (disch := omega) only [ab_lits, nI_add, pk_mul, pk_sub, pk_div, nI_clamp, ab_ixO]
    refine ih n (j + 1) _ (by omega) (by omega) (fun i hi => ?_) (frR_w hfr (by simp) (by decide))
    by_cases e : i = j
    · subst e; rw [ab_w1e]
    · rw [ab_w1k e]; exact hs i (by omega)
theorem r_laysLine {m : MoT} {f s : Nat} {h : abJ} (hO : MO m) (hf : f < 10) (hs : SV m s) (hM : rM m (h.1 65)) (h40 : h.1 65 40 = nI f) : Ok (fX12_laysLine (nI s) h) (fun h' => ∃ L g t, LN m f s L g t ∧ h'.1 64 22 = nI L ∧ h'.1 64 23 = oI t ∧ (∀ i, i < L → h'.1 72 i = nI (g i)) ∧ frR [22, 23] [69, 70, 72, 73] [] h h') := by
  unfold fX12_laysLine
  refine r_line2 (h0 := h) (fun h1 hs1 hfr => ?_) 4374 ab_N 0 h (by omega) (by unfold ab_N; omega) (fun i hi => by omega) (frR_r _ _ _ _)
  have f1 : frR [22, 23] [69, 70, 72, 73] [] h (ab_wI (ab_wI h1 64 22 (nI 0)) 64 23 (-nI 1)) := frR_64 (frR_64 (frR_m hfr (by simp) (by simp) (by simp)) (by simp)) (by simp)
  refine (r_line_L (m := m) (f := f) (s := s) hO hf 4374 ab_N 0 s (fun _ => 0) _ (by omega) (by unfold ab_N; omega) (by rw [f1.1 65 (by decide) (by decide)]; exact hM) (by rw [f1.1 65 (by decide) (by decide)]; exact h40) (WI_0 hs _) ⟨fun i hi => by omega, fun x hx _ => ?_⟩ ?_ ?_ (fun i hi => by omega)).mono (fun h' hr => ?_)
  · rw [ab_w1n (by decide), ab_w1n (by decide)]; exact hs1 x hx
  · rw [ab_w1k (by decide), ab_w1e]
  · rw [ab_w1e]
  · obtain ⟨L', g', t', q1, q2, q3, q4, q5⟩ := hr
    exact ⟨L', g', t', q1, q2, q3, q4, frR_t f1 q5⟩
