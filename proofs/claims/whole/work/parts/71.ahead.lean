/-! ahead, from. -/
def arr (o : Nat) (L : List Nat) (h : abJ) : Prop := ∀ i, i < L.length → h.1 o i = nI (L.getD i 0)
theorem arr_app {o x : Nat} {L : List Nat} {h : abJ} (ha : arr o L h) : arr o (L ++ [x]) (ab_wI h o L.length (nI x)) := by
  intro i hi
  rw [List.length_append, List.length_singleton] at hi
  by_cases e : i = L.length
  · subst e
    rw [ab_w1e, List.getD_eq_getElem?_getD, List.getElem?_append_right (Nat.le_refl _), Nat.sub_self]; rfl
  · rw [ab_w1k e, ha i (by omega), List.getD_eq_getElem?_getD, List.getD_eq_getElem?_getD, List.getElem?_append_left (by omega)]
theorem arr_fr {o : Nat} {L : List Nat} {S T : List Nat} {h h' : abJ} (ha : arr o L h) (a : fr S T h h') (ho : o ∉ S) : arr o L h' := fun i hi => by rw [a.1 o ho]; exact ha i hi
theorem c_add71 {m : MoT} {f s p o R : Nat} {h0 : abJ} {K : Int32 → Int32 → Int32 → Int32 → Int32 → abJ → Option (Int32 × abJ)} {Q : Int32 × abJ → Prop} (hO : MO m) (hf : f < 10) (hs : SV m s) (hR : rdy m f h0) (hp : p < mP m) (hRm : R ≤ mR m p) (ho : o = 30 ∨ o = 36) : ∀ (k n r : Nat) (acc : List Nat) (h : abJ), r + k = R → k < n → acc.length + (prR m f s p k r).length ≤ 4374 → arr o acc h → fr [o] [] h0 h → (∀ h', arr o (acc ++ prR m f s p k r) h' → fr [o] [] h0 h' → Ok (K (nI f) (nI s) (nI (s / 6)) (nI (acc ++ prR m f s p k r).length) (nI (p + 1)) h') Q) → Ok (fX8_addAhead_L71 o K n (nI f) (nI s) (nI (s / 6)) (nI acc.length) (nI p) (nI (s % 6 * 3 + dg (s / 6) p)) (nI R) (nI r) h) Q := by
  have h6 := hO.2.1
  have h3 := hO.2.2.2.2.1 p
  have hs4 := SV_lt hO hs
  have hl : ab_ln o = 4375 := by rcases ho with rfl | rfl <;> rfl
  intro k
  induction k with
  | zero =>
    intro n r acc h hr hn hb ha hfr hK
    obtain ⟨n, rfl⟩ : ∃ n0, n = n0 + 1 := ⟨n - 1, by omega⟩
    rw [prR, List.append_nil] at hK
    rw [fX8_addAhead_L71, nI_1]
    exact Ok.pos (by rw [nI_leI (by omega) (by omega)]; omega) (hK h ha hfr)
  | succ k ih =>
    intro n r acc h hr hn hb ha hfr hK
    obtain ⟨n, rfl⟩ : ∃ n0, n = n0 + 1 := ⟨n - 1, by omega⟩
    have hR1 := rdy_fr hR hfr (by rcases ho with rfl | rfl <;> decide)
    have hto := to_lt hO (f := f) (a := r) hp
    have har := ar_lt (m := m) (f := f) (p := p) (a := r) (by omega)
    have hd := dg_lt (s / 6) p
    rw [fX8_addAhead_L71, c_behind h hf (by omega) (by omega), ab_bindS, hR1 p r (by omega), hl]
    refine Ok.neg (by rw [nI_leI (by omega) (by omega)]; omega) ?_
    unfold fX8_addAhead_J124
    rw [nI_1, nI_1]
    rw [prR] at hb hK
    by_cases c : to m f p r = s % 6 ∧ ar m f p r = dg (s / 6) p
    · rw [if_pos c] at hb hK
      rw [List.length_append, List.length_singleton] at hb
      refine Ok.pos (by rw [c.1, c.2]) ?_
      refine Ok.neg (by rw [show (Int32.ofNat 4375) = nI 4375 from rfl, nI_leI (by omega) (by omega)]; omega) ?_
      rw [c_withArm h (by omega) (by omega), ab_bindS, nI_clamp (by omega), show (6 : Int32) = nI 6 from rfl, pk_mul, nI_add, Nat.mul_comm (pt (s / 6) p r) 6]
      refine Ok.ask (ixN (by omega) (by omega)) ?_
      have e : acc.length + 1 = (acc ++ [6 * pt (s / 6) p r + p]).length := by rw [List.length_append, List.length_singleton]
      rw [e]
      refine ih n (r + 1) (acc ++ [6 * pt (s / 6) p r + p]) _ (by omega) (by omega) (by rw [← e]; omega) (arr_app ha) (fr_w hfr (by simp)) (fun h' ha' hf' => ?_)
      rw [List.append_assoc] at ha' ⊢
      exact hK h' ha' hf'
    · rw [if_neg c, List.nil_append] at hb hK
      refine Ok.neg (by rw [nI_eq (by omega) (by omega)]; omega) ?_
      exact ih n (r + 1) acc h (by omega) (by omega) hb ha hfr hK
theorem c_add13 {m : MoT} {f s o : Nat} {h0 : abJ} (hO : MO m) (hf : f < 10) (hs : SV m s) (hM : cM m 1 h0) (hR : rdy m f h0) (ho : o = 30 ∨ o = 36) : ∀ (k n p : Nat) (acc : List Nat) (h : abJ), p + k = mP m → k < n → acc.length + (prP m f s k p).length ≤ 4374 → arr o acc h → fr [o] [] h0 h → Ok (fX8_addAhead_L13 o n (nI f) (nI s) (nI (s / 6)) (nI acc.length) (nI p) h) (fun r => r.1 = nI (acc ++ prP m f s k p).length ∧ arr o (acc ++ prP m f s k p) r.2 ∧ fr [o] [] h0 r.2) := by
  have h6 := hO.2.1
  have hs4 := SV_lt hO hs
  intro k
  induction k with
  | zero =>
    intro n p acc h hp hn hb ha hfr
    obtain ⟨n, rfl⟩ : ∃ n0, n = n0 + 1 := ⟨n - 1, by omega⟩
    have hM1 := cM_fr hM hfr (by rcases ho with rfl | rfl <;> decide) (by rcases ho with rfl | rfl <;> decide) (by rcases ho with rfl | rfl <;> decide) (by rcases ho with rfl | rfl <;> decide)
    rw [fX8_addAhead_L13, hM1.1, prP, List.append_nil]
    exact Ok.pos (by rw [nI_leI (by omega) (by omega)]; omega) (Ok.some ⟨rfl, ha, hfr⟩)
  | succ k ih =>
    intro n p acc h hp hn hb ha hfr
    obtain ⟨n, rfl⟩ : ∃ n0, n = n0 + 1 := ⟨n - 1, by omega⟩
    have hM1 := cM_fr hM hfr (by rcases ho with rfl | rfl <;> decide) (by rcases ho with rfl | rfl <;> decide) (by rcases ho with rfl | rfl <;> decide) (by rcases ho with rfl | rfl <;> decide)
    rw [prP] at hb ⊢
    rw [List.length_append] at hb
    rw [fX8_addAhead_L13, hM1.1, c_armOf h (by omega) (by omega), ab_bindS, c_isHome hO hM1 (by omega), ab_bindS, show (6 : Int32) = nI 6 from rfl, pk_rem (by omega) (by omega) (by omega), show (3 : Int32) = nI 3 from rfl, pk_mul, nI_add]
    refine Ok.neg (by rw [nI_leI (by omega) (by omega)]; omega) ?_
    have go : ∀ R, R = (if hm m p then 0 else mR m p) → Ok (fX8_addAhead_J66 o (fun y1 y2 y5 y6 y7 h => fX8_addAhead_L13 o n y1 y2 y5 y6 y7 h) (nI f) (nI s) (nI (s / 6)) (nI acc.length) (nI p) (nI (s % 6 * 3 + dg (s / 6) p)) (nI R) h) (fun r => r.1 = nI (acc ++ (prR m f s p (if hm m p then 0 else mR m p) 0 ++ prP m f s k (p + 1))).length ∧ arr o (acc ++ (prR m f s p (if hm m p then 0 else mR m p) 0 ++ prP m f s k (p + 1))) r.2 ∧ fr [o] [] h0 r.2) := by
      intro R hRe
      have h3 := hO.2.2.2.2.1 p
      have hR2 : R ≤ mR m p := by rw [hRe]; split <;> omega
      rw [← hRe] at hb ⊢
      unfold fX8_addAhead_J66
      refine c_add71 hO hf hs hR (by omega) hR2 ho R ab_N 0 acc h (by omega) (by unfold ab_N; omega) (by omega) ha hfr (fun h' ha' hf' => ?_)
      rw [← List.append_assoc]
      exact ih n (p + 1) _ h' (by omega) (by omega) (by rw [List.length_append]; omega) ha' hf'
    by_cases c : hm m p = true
    · rw [c]
      have := go 0 (by rw [c, if_pos rfl])
      rw [c] at this
      exact Ok.neg (by decide) this
    · have c' : hm m p = false := by simpa using c
      rw [c', c_roadsOf hO hM1 (by omega), ab_bindS]
      have := go (mR m p) (by rw [c', if_neg (by decide)])
      rw [c'] at this
      exact Ok.pos rfl this
theorem c_addAhead {m : MoT} {f s o : Nat} {acc : List Nat} {h : abJ} (hO : MO m) (hf : f < 10) (hs : SV m s) (hM : cM m 1 h) (hR : rdy m f h) (ho : o = 30 ∨ o = 36) (hb : acc.length + (prd m f s).length ≤ 4374) (ha : arr o acc h) : Ok (fX8_addAhead (nI f) (nI s) o (nI acc.length) h) (fun r => r.1 = nI (acc ++ prd m f s).length ∧ arr o (acc ++ prd m f s) r.2 ∧ fr [o] [] h r.2) := by
  have h6 := hO.2.1
  have hs4 := SV_lt hO hs
  unfold fX8_addAhead
  rw [show (6 : Int32) = nI 6 from rfl, pk_div (by omega) (by omega) (by omega)]
  exact c_add13 hO hf hs hM hR ho (mP m) ab_N 0 acc h (by omega) (by unfold ab_N; omega) hb ha (fr_r _ _ _)
theorem c_cnt35 {m : MoT} {f a b : Nat} {L : List Nat} {y3 y7 : Int32} {h0 : abJ} {K : Int32 → Int32 → Int32 → Int32 → abJ → Option (Int32 × abJ)} {Q : Int32 × abJ → Prop} (hO : MO m) (hf : f < 10) (hS : ∀ x, x ∈ L → SV m x) (hL : L.length ≤ 4374) (hM : cM m 1 h0) (hR : rdy m f h0) (hab : a = 30 ∧ b = 36 ∨ a = 36 ∧ b = 30) (haL : arr a L h0) : ∀ (k n j : Nat) (acc : List Nat) (h : abJ), j + k = L.length → k < n → acc.length + (fm (prd m f) L k j).length ≤ 4374 → arr b acc h → fr [b] [] h0 h → (∀ h', arr b (acc ++ fm (prd m f) L k j) h' → fr [b] [] h0 h' → Ok (K (nI f) y3 (nI (acc ++ fm (prd m f) L k j).length) (y7 + 1) h') Q) → Ok (fX8_countAhead_L35 a b K n (nI f) y3 (nI L.length) y7 (nI acc.length) (nI j) h) Q := by
  have hb : b = 30 ∨ b = 36 := by omega
  intro k
  induction k with
  | zero =>
    intro n j acc h hj hn hbd ha hfr hK
    obtain ⟨n, rfl⟩ : ∃ n0, n = n0 + 1 := ⟨n - 1, by omega⟩
    rw [fm, List.append_nil] at hK
    rw [fX8_countAhead_L35]
    exact Ok.pos (by rw [nI_leI (by omega) (by omega)]; omega) (hK h ha hfr)
  | succ k ih =>
    intro n j acc h hj hn hbd ha hfr hK
    obtain ⟨n, rfl⟩ : ∃ n0, n = n0 + 1 := ⟨n - 1, by omega⟩
    have hM1 := cM_fr hM hfr (by rcases hb with rfl | rfl <;> decide) (by rcases hb with rfl | rfl <;> decide) (by rcases hb with rfl | rfl <;> decide) (by rcases hb with rfl | rfl <;> decide)
    have hR1 := rdy_fr hR hfr (by rcases hb with rfl | rfl <;> decide)
    rw [fm] at hbd hK
    rw [List.length_append] at hbd
    have e : h.1 a j = nI (L.getD j 0) := by rw [hfr.1 a (by simp; omega)]; exact haL j (by omega)
    rw [fX8_countAhead_L35, nI_clamp (by omega), e, nI_1]
    refine Ok.neg (by rw [nI_leI (by omega) (by omega)]; omega) (Ok.ask (ixN (by omega) (by omega)) ?_)
    refine Ok.bind (c_addAhead hO hf (hS _ (getD_mem (by omega))) hM1 hR1 hb (by omega) ha) (fun r hr => ?_)
    rw [hr.1]
    refine ih n (j + 1) _ r.2 (by omega) (by omega) (by rw [List.length_append]; omega) hr.2.1 (fr_t hfr hr.2.2) (fun h' ha' hf' => ?_)
    rw [List.append_assoc] at ha' ⊢
    exact hK h' ha' hf'
theorem c_cnt23 {m : MoT} {f s N : Nat} {h0 : abJ} (hO : MO m) (hf : f < 10) (hs : SV m s) (hN : N ≤ 6) (hM : cM m 1 h0) (hR : rdy m f h0) : ∀ (k n i a b : Nat) (h : abJ), i + k = N → k < n → (a = 30 ∧ b = 36 ∨ a = 36 ∧ b = 30) → arr a (lv m f s i) h → fr [30, 36] [] h0 h → Ok (fX8_countAhead_L23 n a b (nI f) (nI N) (nI (lv m f s i).length) (nI i) h) (fun r => r.1 = nI (lv m f s N).length ∧ fr [30, 36] [] h0 r.2) := by
  intro k
  induction k with
  | zero =>
    intro n i a b h hi hn hab ha hfr
    obtain ⟨n, rfl⟩ : ∃ n0, n = n0 + 1 := ⟨n - 1, by omega⟩
    have e : i = N := by omega
    subst e
    rw [fX8_countAhead_L23]
    exact Ok.pos (Int32.le_refl _) (Ok.some ⟨rfl, hfr⟩)
  | succ k ih =>
    intro n i a b h hi hn hab ha hfr
    obtain ⟨n, rfl⟩ : ∃ n0, n = n0 + 1 := ⟨n - 1, by omega⟩
    have hM1 := cM_fr hM hfr (by decide) (by decide) (by decide) (by decide)
    have hR1 := rdy_fr hR hfr (by decide)
    obtain ⟨l1, l2⟩ := lv_s (f := f) hO hs i
    have l3 := lv_le (f := f) (n := i + 1) hO hs
    rw [fX8_countAhead_L23]
    refine Ok.neg (by rw [nI_leI (by omega) (by omega)]; omega) ?_
    have := c_cnt35 (y3 := nI N) (y7 := nI i) (K := fun y1 y3 y6 y7 h => fX8_countAhead_L23 n b a y1 y3 y6 y7 h) (Q := fun r => r.1 = nI (lv m f s N).length ∧ fr [30, 36] [] h0 r.2) hO hf l2 (lv_le hO hs) hM1 hR1 hab ha (lv m f s i).length ab_N 0 [] h (by omega) (by have := lv_le (f := f) (n := i) hO hs; unfold ab_N; omega) (by rw [lv] at l3; rw [List.length_nil, Nat.zero_add]; exact l3) (fun i hi => by cases hi) (fr_r _ _ _) (fun h' ha' hf' => ?_)
    · exact this
    · rw [List.nil_append] at ha' ⊢
      rw [nI_1]
      exact ih n (i + 1) b a h' (by omega) (by omega) (by omega) ha' (fr_t hfr (fr_m hf' (by intro o ho; simp at ho ⊢; omega) (by simp)))
/-- the posts of a list -/
def obk (L : List Nat) : Nat → Nat → Nat → Nat
  | 0, _, acc => acc
  | k + 1, j, acc => obk L k (j + 1) (acc ||| 2 ^ (L.getD j 0 % 6))
theorem obk_t {L : List Nat} {q : Nat} : ∀ {k j acc : Nat}, (obk L k j acc).testBit q = true ↔ (acc.testBit q = true ∨ ∃ i, j ≤ i ∧ i < j + k ∧ L.getD i 0 % 6 = q)
  | 0, j, acc => ⟨fun h => Or.inl h, fun h => by
      rcases h with h | ⟨i, a, b, _⟩
      · exact h
      · omega⟩
  | k + 1, j, acc => by
    rw [obk, obk_t, Nat.testBit_or, Nat.testBit_two_pow, Bool.or_eq_true, decide_eq_true_iff]
    constructor
    · rintro ((h | h) | ⟨i, a, b, c⟩)
      · exact Or.inl h
      · exact Or.inr ⟨j, Nat.le_refl _, by omega, h⟩
      · exact Or.inr ⟨i, by omega, by omega, c⟩
    · rintro (h | ⟨i, a, b, c⟩)
      · exact Or.inl (Or.inl h)
      · by_cases e : i = j
        · subst e; exact Or.inl (Or.inr c)
        · exact Or.inr ⟨i, by omega, by omega, c⟩
theorem c_posts18 {L : List Nat} {h : abJ} (hL : L.length ≤ 4374) (hb : ∀ x, x ∈ L → x < 4374) (ha : arr 30 L h) : ∀ (k n j acc : Nat), j + k = L.length → k < n → fX8_postsAhead_L18 n (nI L.length) (nI acc) (nI j) h = some (nI (obk L k j acc), h) := by
  intro k
  induction k with
  | zero =>
    intro n j acc hj hn
    obtain ⟨n, rfl⟩ : ∃ n0, n = n0 + 1 := ⟨n - 1, by omega⟩
    rw [fX8_postsAhead_L18, if_pos (by rw [nI_leI (by omega) (by omega)]; omega)]; rfl
  | succ k ih =>
    intro n j acc hj hn
    obtain ⟨n, rfl⟩ : ∃ n0, n = n0 + 1 := ⟨n - 1, by omega⟩
    have hx := hb _ (getD_mem (L := L) (i := j) (by omega))
    rw [fX8_postsAhead_L18, if_neg (by rw [nI_leI (by omega) (by omega)]; omega), nI_clamp (by omega), ab_askP (ixN (by omega) (by omega)), ha j (by omega), show (6 : Int32) = nI 6 from rfl, pk_rem (by omega) (by omega) (by omega), show (1 : Int32) = nI 1 from rfl, show (31 : Int32) = nI 31 from rfl, b_shl (by omega), b_or, nI_add, obk]
    exact ih n (j + 1) _ (by omega) (by omega)
