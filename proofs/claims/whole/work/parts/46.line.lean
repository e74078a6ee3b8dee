/-! Walks: the line of stands, its tail. -/
theorem pig : ∀ (N L : Nat) (g : Nat → Nat), (∀ i, i < L → g i < N) → (∀ i j, i < j → j < L → g i ≠ g j) → L ≤ N := by
  intro N
  induction N with
  | zero =>
    intro L g h _
    rcases Nat.eq_zero_or_pos L with e | e
    · omega
    · have := h 0 e; omega
  | succ N ih =>
    intro L g h hd
    by_cases c : ∃ i, i < L ∧ g i = N
    · obtain ⟨i0, hi0, e0⟩ := c
      have := ih (L - 1) (fun k => if k < i0 then g k else g (k + 1)) (fun i hi => ?_) (fun i j hij hj => ?_)
      · omega
      · split
        · rename_i hlt
          have h1 := h i (by omega)
          have h2 := hd i i0 hlt hi0
          omega
        · rename_i hlt
          have h1 := h (i + 1) (by omega)
          have h2 := hd i0 (i + 1) (by omega) (by omega)
          omega
      · split
        · split
          · exact hd i j hij (by omega)
          · exact hd i (j + 1) (by omega) (by omega)
        · split
          · omega
          · exact hd (i + 1) (j + 1) (by omega) (by omega)
    · have := ih L g (fun i hi => ?_) hd
      · omega
      · have h1 := h i hi
        have h2 : g i ≠ N := fun e => c ⟨i, hi, e⟩
        omega
/-- the line from a stand: L stands, each once; behind the last it rests, or is at an earlier one -/
def LN (m : MoT) (f s L : Nat) (g : Nat → Nat) (t : Option Nat) : Prop := 1 ≤ L ∧ g 0 = s ∧ (∀ i, i < L → SV m (g i)) ∧ (∀ i j, i < j → j < L → g i ≠ g j) ∧ (∀ i, i + 1 < L → nx m f (g i) = some (g (i + 1))) ∧ nx m f (g (L - 1)) = t.map g ∧ (∀ j, t = some j → j < L)
theorem LN_le {m : MoT} {f s L : Nat} {g : Nat → Nat} {t : Option Nat} (hO : MO m) (h : LN m f s L g t) : L ≤ 4374 := pig 4374 L g (fun i hi => SV_lt hO (h.2.2.1 i hi)) h.2.2.2.1
theorem LN_g {m : MoT} {f s L L' : Nat} {g g' : Nat → Nat} {t t' : Option Nat} (h : LN m f s L g t) (h' : LN m f s L' g' t') : ∀ i, i < L → i < L' → g i = g' i := by
  intro i
  induction i with
  | zero => intro _ _; rw [h.2.1, h'.2.1]
  | succ i ih =>
    intro h1 h2
    have e := ih (by omega) (by omega)
    have a := h.2.2.2.2.1 i h1
    have b := h'.2.2.2.2.1 i h2
    rw [e, b] at a
    exact (Option.some.inj a).symm
theorem LN_L {m : MoT} {f s L L' : Nat} {g g' : Nat → Nat} {t t' : Option Nat} (h : LN m f s L g t) (h' : LN m f s L' g' t') : L ≤ L' := by
  apply Nat.le_of_not_lt
  intro hlt
  have h1 := h'.1
  have e := LN_g h h' (L' - 1) (by omega) (by omega)
  have a := h.2.2.2.2.1 (L' - 1) (by omega)
  rw [e, h'.2.2.2.2.2.1] at a
  cases ht : t' with
  | none => rw [ht] at a; cases a
  | some j =>
    rw [ht] at a
    have hj := h'.2.2.2.2.2.2 j ht
    have a2 : g' j = g (L' - 1 + 1) := Option.some.inj a
    rw [← LN_g h h' j (by omega) hj] at a2
    exact h.2.2.2.1 j (L' - 1 + 1) (by omega) (by omega) a2
theorem LN_u {m : MoT} {f s L L' : Nat} {g g' : Nat → Nat} {t t' : Option Nat} (h : LN m f s L g t) (h' : LN m f s L' g' t') : L = L' ∧ t = t' ∧ ∀ i, i < L → g i = g' i := by
  have eL := Nat.le_antisymm (LN_L h h') (LN_L h' h)
  subst eL
  have eg := LN_g h h'
  refine ⟨rfl, ?_, fun i hi => eg i hi hi⟩
  have h1 := h.1
  have a := h.2.2.2.2.2.1
  rw [eg (L - 1) (by omega) (by omega), h'.2.2.2.2.2.1] at a
  cases ht : t with
  | none =>
    cases ht' : t' with
    | none => rfl
    | some j => rw [ht, ht'] at a; cases a
  | some i =>
    cases ht' : t' with
    | none => rw [ht, ht'] at a; cases a
    | some j =>
      rw [ht, ht'] at a
      have hi := h.2.2.2.2.2.2 i ht
      have hj := h'.2.2.2.2.2.2 j ht'
      have a2 : g' j = g i := Option.some.inj a
      rw [← eg j hj hj] at a2
      congr 1
      rcases Nat.lt_trichotomy i j with q | q | q
      · exact absurd a2.symm (h.2.2.2.1 i j q hj)
      · exact q
      · exact absurd a2 (h.2.2.2.1 j i q hi)
/-- a line that is being laid: L stands are laid, c comes next -/
def WI (m : MoT) (f s L : Nat) (g : Nat → Nat) (c : Option Nat) : Prop := (∀ i, i < L → SV m (g i)) ∧ (∀ i j, i < j → j < L → g i ≠ g j) ∧ (∀ i, i + 1 < L → nx m f (g i) = some (g (i + 1))) ∧ (L = 0 → c = some s) ∧ (0 < L → g 0 = s ∧ nx m f (g (L - 1)) = c) ∧ (∀ x, c = some x → SV m x)
theorem WI_0 {m : MoT} {f s : Nat} (hs : SV m s) (g : Nat → Nat) : WI m f s 0 g (some s) := ⟨fun i hi => by omega, fun i j _ hj => by omega, fun i hi => by omega, fun _ => rfl, fun h => by omega, fun x hx => by cases hx; exact hs⟩
def ups (g : Nat → Nat) (k v : Nat) : Nat → Nat := fun j => if j = k then v else g j
theorem ups_s (g : Nat → Nat) (k v : Nat) : ups g k v k = v := if_pos rfl
theorem ups_n {g : Nat → Nat} {k v j : Nat} (h : j ≠ k) : ups g k v j = g j := if_neg h
theorem WI_push {m : MoT} {f s L x : Nat} {g : Nat → Nat} (hO : MO m) (h : WI m f s L g (some x)) (hx : ∀ i, i < L → g i ≠ x) : WI m f s (L + 1) (ups g L x) (nx m f x) := by
  obtain ⟨h1, h2, h3, h4, h5, h6⟩ := h
  refine ⟨fun i hi => ?_, fun i j hij hj => ?_, fun i hi => ?_, fun q => by omega, fun _ => ?_, fun y hy => nx_SV hO (h6 x rfl) hy⟩
  · by_cases e : i = L
    · subst e; rw [ups_s]; exact h6 x rfl
    · rw [ups_n e]; exact h1 i (by omega)
  · by_cases e : j = L
    · subst e; rw [ups_s, ups_n (by omega)]; exact hx i hij
    · rw [ups_n e, ups_n (by omega)]; exact h2 i j hij (by omega)
  · by_cases e : i + 1 = L
    · subst e
      rw [ups_s, ups_n (by omega)]
      have := (h5 (by omega)).2
      rw [Nat.add_sub_cancel] at this
      exact this
    · rw [ups_n e, ups_n (by omega)]; exact h3 i (by omega)
  · rw [Nat.add_sub_cancel, ups_s]
    refine ⟨?_, rfl⟩
    by_cases e : L = 0
    · subst e
      rw [ups_s]
      exact Option.some.inj (h4 rfl)
    · rw [ups_n (by omega)]; exact (h5 (by omega)).1
theorem WI_lt {m : MoT} {f s L x : Nat} {g : Nat → Nat} (hO : MO m) (h : WI m f s L g (some x)) (hx : ∀ i, i < L → g i ≠ x) : L < 4374 := by
  have h' := WI_push hO h hx
  exact pig 4374 (L + 1) _ (fun i hi => SV_lt hO (h'.1 i hi)) h'.2.1
theorem WI_none {m : MoT} {f s L : Nat} {g : Nat → Nat} (h : WI m f s L g none) : LN m f s L g none := by
  obtain ⟨h1, h2, h3, h4, h5, h6⟩ := h
  have : L ≠ 0 := fun e => by cases h4 e
  exact ⟨by omega, (h5 (by omega)).1, h1, h2, h3, (h5 (by omega)).2, fun j hj => by cases hj⟩
theorem WI_some {m : MoT} {f s L j : Nat} {g : Nat → Nat} (h : WI m f s L g (some (g j))) (hj : j < L) : LN m f s L g (some j) := by
  obtain ⟨h1, h2, h3, h4, h5, h6⟩ := h
  exact ⟨by omega, (h5 (by omega)).1, h1, h2, h3, (h5 (by omega)).2, fun i hi => by cases hi; exact hj⟩
/-- which place of the line a stand has: -1 if none -/
def SN (a : Nat → Int32) (N L : Nat) (g : Nat → Nat) : Prop := (∀ i, i < L → a (g i) = nI i) ∧ ∀ x, x < N → (∀ i, i < L → g i ≠ x) → a x = -nI 1
theorem SN_push {a : Nat → Int32} {N L x : Nat} {g : Nat → Nat} (h : SN a N L g) (hx : ∀ i, i < L → g i ≠ x) : SN (upd a x (nI L)) N (L + 1) (ups g L x) := by
  refine ⟨fun i hi => ?_, fun y hy hn => ?_⟩
  · by_cases e : i = L
    · subst e; rw [ups_s, pk_us]
    · rw [ups_n e, pk_un (hx i (by omega))]; exact h.1 i (by omega)
  · have h1 := hn L (by omega)
    rw [ups_s] at h1
    rw [pk_un (fun q => h1 q.symm)]
    refine h.2 y hy (fun i hi => ?_)
    have := hn i (by omega)
    rwa [ups_n (by omega)] at this
theorem SN_cs {a : Nat → Int32} {N L x : Nat} {g : Nat → Nat} (h : SN a N L g) (hx : x < N) (hL : L < 2 ^ 31) : (a x = -nI 1 ∧ ∀ i, i < L → g i ≠ x) ∨ (¬ a x = -nI 1 ∧ ∃ j, j < L ∧ g j = x ∧ a x = nI j) := by
  by_cases c : ∃ j, j < L ∧ g j = x
  · obtain ⟨j, hj, e⟩ := c
    have h1 := h.1 j hj
    rw [e] at h1
    refine Or.inr ⟨?_, j, hj, e, h1⟩
    rw [h1, ab_n_eq (by omega) (by omega) (by omega)]
    exact not_false
  · have hn : ∀ i, i < L → g i ≠ x := fun i hi e => c ⟨i, hi, e⟩
    exact Or.inl ⟨h.2 x hx hn, hn⟩
theorem oI_n : oI none = -nI 1 := rfl
theorem SV_N {m : MoT} (hO : MO m) {s : Nat} (v : SV m s) : s < 3 ^ mP m * 6 := by
  have h1 := AV_lt hO v.2
  omega
theorem c_armLimit {m : MoT} {h : abJ} (hO : MO m) (hM : cM m 1 h) : fX3_armLimit h = some (nI (3 ^ mP m)) := by
  have h6 := hO.2.1
  unfold fX3_armLimit
  simp (disch := omega) only [ab_lits, nI_add, pk_mul, pk_sub, pk_div, nI_clamp, nI_ltI, nI_leI, ab_ixO, ab_ixN, hM.1, abwt_n]
  rw [if_neg (by omega), if_pos h6]
theorem c_fillS_L {x : Int32} {N : Nat} (hN : N ≤ 4374) : ∀ (k n j : Nat) (h : abJ), j + k = N → k < n → Ok (fJ7_fill_fda19_L10 n (nI N) x (nI j) h) (fun h' => (∀ i, j ≤ i → i < N → h'.1 31 i = x) ∧ (∀ i, i < j ∨ N ≤ i → h'.1 31 i = h.1 31 i) ∧ fr [31] [] h h') := by
  intro k
  induction k with
  | zero =>
    intro n j h hj hn
    obtain ⟨n, rfl⟩ : ∃ n0, n = n0 + 1 := ⟨n - 1, by omega⟩
    rw [fJ7_fill_fda19_L10]
    exact Ok.pos (by rw [nI_leI (by omega) (by omega)]; omega) (Ok.some ⟨fun i h1 h2 => by omega, fun i _ => rfl, fr_r _ _ _⟩)
  | succ k ih =>
    intro n j h hj hn
    obtain ⟨n, rfl⟩ : ∃ n0, n = n0 + 1 := ⟨n - 1, by omega⟩
    rw [fJ7_fill_fda19_L10]
    refine Ok.neg (by rw [nI_leI (by omega) (by omega)]; omega) ?_
    simp (disch := omega) only [ab_lits, nI_add, pk_mul, pk_sub, pk_div, nI_clamp, ab_ixO]
    refine (ih n (j + 1) (ab_wI h 31 j x) (by omega) (by omega)).mono (fun h' hr => ⟨fun i h1 h2 => ?_, fun i hi => ?_, fr_t (fr_w (fr_r _ _ _) (by simp)) hr.2.2⟩)
    · by_cases e : i = j
      · subst e; rw [hr.2.1 i (by omega), ab_w1e]
      · exact hr.1 i (by omega) h2
    · rw [hr.2.1 i (by omega), ab_w1k (by omega)]
theorem c_fillS {x : Int32} {N : Nat} (h : abJ) (hN : N ≤ 4374) : Ok (fJ7_fill_fda19 (nI 0) (nI N) x h) (fun h' => (∀ i, i < N → h'.1 31 i = x) ∧ fr [31] [] h h') := by
  unfold fJ7_fill_fda19 fJ7_rangeCheck_23922
  rw [show Int32.ofNat 4374 = nI 4374 from rfl, if_pos (by rw [nI_leI (by omega) (by omega)]; omega), if_pos (by decide), if_pos (by rw [nI_leI (by omega) (by omega)]; omega), ab_bindS]
  exact (c_fillS_L hN N ab_N 0 h (by omega) (by unfold ab_N; omega)).mono (fun h' hr => ⟨fun i hi => hr.1 i (by omega) hi, hr.2.2⟩)
theorem c_walk_L {m : MoT} {f s : Nat} (hO : MO m) (hf : f < 10) : ∀ (k n L : Nat) (g : Nat → Nat) (c : Option Nat) (h : abJ), L + k = 4374 → k + 1 < n → cM m 1 h → cK m h → rdy m f h → WI m f s L g c → SN (h.1 31) (3 ^ mP m * 6) L g → h.1 32 4 = nI L → h.1 32 5 = -nI 1 → (∀ i, i < L → h.1 30 i = nI (g i)) → Ok (fX2_walk_L31 n (nI f) (oI c) h) (fun h' => ∃ L g t, LN m f s L g t ∧ h'.1 32 4 = nI L ∧ h'.1 32 5 = oI t ∧ (∀ i, i < L → h'.1 30 i = nI (g i)) ∧ fr [30, 31, 32] [] h h') := by
  intro k
  induction k with
  | zero =>
    intro n L g c h hL hn hM hK hR hW hS h4 h5 hp
    obtain ⟨n, rfl⟩ : ∃ n0, n = n0 + 1 := ⟨n - 1, by omega⟩
    rw [fX2_walk_L31, h4]
    refine Ok.pos (by rw [show (4374 : Int32) = nI 4374 from rfl, nI_leI (by omega) (by omega)]; omega) ?_
    cases c with
    | none => exact Ok.pos (by decide) (Ok.some ⟨L, g, none, WI_none hW, h4, h5, hp, fr_r _ _ _⟩)
    | some x =>
      have hx := hW.2.2.2.2.2 x rfl
      have hx4 := SV_lt hO hx
      have hxN := SV_N hO hx
      rcases SN_cs hS hxN (by omega) with ⟨_, c2⟩ | ⟨_, j, hj, e, e2⟩
      · have := WI_lt hO hW c2; omega
      · simp (disch := omega) only [ab_lits, nI_add, pk_mul, pk_sub, pk_div, nI_clamp, nI_ltI, nI_leI, ab_ixO, ab_ixN, oI]
        refine Ok.neg (by omega) (Ok.neg (by omega) (Ok.some ⟨L, g, some j, ?_, ?_, ?_, fun i hi => ?_, fr_w (fr_r _ _ _) (by simp)⟩))
        · subst e; exact WI_some hW hj
        · rw [ab_w1k (by decide)]; exact h4
        · rw [ab_w1e, e2]
        · rw [ab_w1n (by decide)]; exact hp i hi
  | succ k ih =>
    intro n L g c h hL hn hM hK hR hW hS h4 h5 hp
    obtain ⟨n, rfl⟩ : ∃ n0, n = n0 + 1 := ⟨n - 1, by omega⟩
    rw [fX2_walk_L31, h4]
    refine Ok.neg (by rw [show (4374 : Int32) = nI 4374 from rfl, nI_leI (by omega) (by omega)]; omega) ?_
    cases c with
    | none => exact Ok.pos (by decide) (Ok.pos (by decide) (Ok.some ⟨L, g, none, WI_none hW, h4, h5, hp, fr_r _ _ _⟩))
    | some x =>
      have hx := hW.2.2.2.2.2 x rfl
      have hx4 := SV_lt hO hx
      have hxN := SV_N hO hx
      simp (disch := omega) only [ab_lits, nI_add, pk_mul, pk_sub, pk_div, nI_clamp, nI_ltI, nI_leI, ab_ixO, ab_ixN, oI]
      refine Ok.neg (by omega) (Ok.neg (by omega) ?_)
      rcases SN_cs hS hxN (by omega) with ⟨c1, c2⟩ | ⟨c1, j, hj, e, e2⟩
      · have hlt := WI_lt hO hW c2
        refine Ok.pos c1 ?_
        rw [ab_w1n (show 32 ≠ 31 by decide), ab_w1n (show 32 ≠ 30 by decide), ab_w1n (show 32 ≠ 31 by decide), h4, nI_clamp (by omega), nI_add, ab_ixO (by omega) (by omega)]
        generalize e1 : ab_wI (ab_wI (ab_wI h 31 x (nI L)) 30 L (nI x)) 32 4 (nI (L + 1)) = h1
        have f1 : fr [30, 31, 32] [] h h1 := by subst e1; exact fr_w (fr_w (fr_w (fr_r _ _ _) (by simp)) (by simp)) (by simp)
        have hM1 := cM_fr hM f1 (by decide) (by decide) (by decide) (by decide)
        have hK1 : cK m h1 := by unfold cK rdy; rw [f1.1 13 (by decide), f1.1 14 (by decide)]; exact hK
        have hR1 := rdy_fr hR f1 (by decide)
        rw [c_nextStand hO hM1 hK1 hR1 hf hx, ab_bindS]
        refine (ih n (L + 1) (ups g L x) (nx m f x) h1 (by omega) (by omega) hM1 hK1 hR1 (WI_push hO hW c2) ?_ ?_ ?_ (fun i hi => ?_)).mono (fun h' hr => ?_)
        · subst e1
          rw [ab_w1n (by decide), ab_w1n (by decide), ab_w1f]
          exact SN_push hS c2
        · subst e1; rw [ab_w1e]
        · subst e1; rw [ab_w1k (by decide), ab_w1n (by decide), ab_w1n (by decide)]; exact h5
        · subst e1
          rw [ab_w1n (by decide)]
          by_cases q : i = L
          · subst q; rw [ab_w1e, ups_s]
          · rw [ab_w1k q, ab_w1n (by decide), ups_n q]; exact hp i (by omega)
        · obtain ⟨L', g', t', q1, q2, q3, q4, q5⟩ := hr
          exact ⟨L', g', t', q1, q2, q3, q4, fr_t f1 q5⟩
      · refine Ok.neg c1 (Ok.neg (by omega) (Ok.neg (by omega) (Ok.some ⟨L, g, some j, ?_, ?_, ?_, fun i hi => ?_, fr_w (fr_r _ _ _) (by simp)⟩)))
        · subst e; exact WI_some hW hj
        · rw [ab_w1k (by decide)]; exact h4
        · rw [ab_w1e, e2]
        · rw [ab_w1n (by decide)]; exact hp i hi
theorem cK_fr {m : MoT} {S T : List Nat} {h h' : abJ} (hK : cK m h) (a : fr S T h h') (h0 : 13 ∉ S) (h1 : 14 ∉ S) : cK m h' := by
  unfold cK rdy
  rw [a.1 13 h0, a.1 14 h1]
  exact hK
theorem c_walk {m : MoT} {f s : Nat} {h : abJ} (hO : MO m) (hf : f < 10) (hs : SV m s) (hM : cM m 1 h) (hK : cK m h) (hR : rdy m f h) : Ok (fX2_walk (nI f) (nI s) h) (fun h' => ∃ L g t, LN m f s L g t ∧ h'.1 32 4 = nI L ∧ h'.1 32 5 = oI t ∧ (∀ i, i < L → h'.1 30 i = nI (g i)) ∧ fr [30, 31, 32] [] h h') := by
  have h7 := MO_729 hO
  unfold fX2_walk
  rw [c_armLimit hO hM, ab_bindS, show (6 : Int32) = nI 6 from rfl, pk_mul, show (0 : Int32) = nI 0 from rfl, show (-1 : Int32) = -nI 1 from rfl]
  refine Ok.bind (c_fillS h (N := 3 ^ mP m * 6) (by omega)) (fun r hr => ?_)
  have f1 : fr [30, 31, 32] [] h (ab_wI (ab_wI r 32 4 (nI 0)) 32 5 (-nI 1)) := fr_w (fr_w (fr_m hr.2 (by simp) (by simp)) (by simp)) (by simp)
  refine (c_walk_L hO hf 4374 ab_N 0 (fun _ => 0) (some s) _ (by omega) (by unfold ab_N; omega) (cM_fr hM f1 (by decide) (by decide) (by decide) (by decide)) (cK_fr hK f1 (by decide) (by decide)) (rdy_fr hR f1 (by decide)) (WI_0 hs _) ⟨fun i hi => by omega, fun x hx _ => ?_⟩ ?_ ?_ (fun i hi => by omega)).mono (fun h' hr => ?_)
  · rw [ab_w1n (by decide), ab_w1n (by decide)]; exact hr.1 x hx
  · rw [ab_w1k (by decide), ab_w1e]
  · rw [ab_w1e]
  · obtain ⟨L', g', t', q1, q2, q3, q4, q5⟩ := hr
    exact ⟨L', g', t', q1, q2, q3, q4, fr_t f1 q5⟩
