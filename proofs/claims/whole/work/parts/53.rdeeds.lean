/-! Deeds of the reference. -/
/-- what a deed of the reference leaves -/
def rD (s' : StT) (h h' : abJ) : Prop := rS s' (fun k => h'.1 65 (33 + k)) ∧ (∀ q, q < 33 ∨ 41 < q → h'.1 65 q = h.1 65 q) ∧ frR [] [65, 69, 70] [] h h'
theorem rS_a {s : StT} {h : abJ} (hS : rS s (fun k => h.1 65 (33 + k))) {p : Nat} (hp : p < 6) : h.1 65 (34 + p) = nI (dg (sA s) p) := by
  have := hS.2.1 p hp
  rw [show 34 + p = 33 + (1 + p) by omega]; exact this
theorem rS_mk {s : StT} {h : abJ} (e0 : h.1 65 33 = nI (sW s)) (e1 : ∀ p, p < 6 → h.1 65 (34 + p) = nI (dg (sA s) p)) (e2 : h.1 65 40 = nI (sF s)) (e3 : h.1 65 41 = nI (sN s)) : rS s (fun k => h.1 65 (33 + k)) := ⟨e0, fun p hp => by have := e1 p hp; rw [show 34 + p = 33 + (1 + p) by omega] at this; exact this, e2, e3⟩
theorem r_isStand_L {m : MoT} {t : Nat} (h6 : mP m ≤ 6) (ht : t < 4374) : ∀ (k n j : Nat) (h : abJ), j + k = mP m → k < n → h.1 65 1 = nI (mP m) → Ok (fX12_isStand_L13 n (nI t) (nI j) h) (fun h' => (∀ p, j ≤ p → p < mP m → h'.1 65 (34 + p) = nI (dg (t / 6) p)) ∧ (∀ q, q < 34 + j ∨ 34 + mP m ≤ q → h'.1 65 q = h.1 65 q) ∧ fr [65] [] h h') := by
  intro k
  induction k with
  | zero =>
    intro n j h hj hn hP
    obtain ⟨n, rfl⟩ : ∃ n0, n = n0 + 1 := ⟨n - 1, by omega⟩
    rw [fX12_isStand_L13, hP]
    exact Ok.pos (by rw [nI_leI (by omega) (by omega)]; omega) (Ok.some ⟨fun p h1 h2 => by omega, fun _ _ => rfl, fr_r _ _ _⟩)
  | succ k ih =>
    intro n j h hj hn hP
    obtain ⟨n, rfl⟩ : ∃ n0, n = n0 + 1 := ⟨n - 1, by omega⟩
    rw [fX12_isStand_L13, hP]
    refine Ok.neg (by rw [nI_leI (by omega) (by omega)]; omega) ?_
    rw [show (6 : Int32) = nI 6 from rfl, pk_div (by omega) (by omega) (by omega), r_armIn h (by omega) (by omega), ab_bindS, show (34 : Int32) = nI 34 from rfl, nI_add, nI_clamp (by omega), nI_1]
    refine Ok.ask (ixN (by omega) (by omega)) ?_
    refine (ih n (j + 1) _ (by omega) (by omega) (by rw [ab_w1k (by omega)]; exact hP)).mono (fun h' hr => ⟨fun p h1 h2 => ?_, fun q hq => ?_, fr_t (fr_w (fr_r _ _ _) (by simp)) hr.2.2⟩)
    · by_cases e : p = j
      · subst e
        rw [hr.2.1 _ (by omega), ab_w1e]
      · exact hr.1 p (by omega) h2
    · rw [hr.2.1 q (by omega), ab_w1k (by omega)]
theorem AV_0 {m : MoT} (hO : MO m) {a p : Nat} (h : AV m a) (hp : mP m ≤ p) : dg a p = 0 := by
  have := h p
  rw [hO.2.2.2.2.2.1 p hp] at this
  omega
theorem r_isStand {m : MoT} {s : StT} {t : Nat} {h : abJ} (hO : MO m) (hs : SO m s) (ht : SV m t) (hP : h.1 65 1 = nI (mP m)) (hS : rS s (fun k => h.1 65 (33 + k))) : Ok (fX12_isStand (nI t) h) (fun h' => rS (mkS (t % 6) (t / 6) (sF s) (sN s)) (fun k => h'.1 65 (33 + k)) ∧ (∀ q, q < 33 ∨ 41 < q → h'.1 65 q = h.1 65 q) ∧ fr [65] [] h h') := by
  have h6 := hO.2.1
  have ht4 := SV_lt hO ht
  unfold fX12_isStand
  rw [show (6 : Int32) = nI 6 from rfl, pk_rem (by omega) (by omega) (by omega), show (0 : Int32) = nI 0 from rfl]
  refine (r_isStand_L h6 ht4 (mP m) ab_N 0 _ (by omega) (by unfold ab_N; omega) (by rw [ab_w1k (by decide)]; exact hP)).mono (fun h' hr => ⟨rS_mk ?_ (fun p hp => ?_) ?_ ?_, fun q hq => ?_, fr_t (fr_w (fr_r _ _ _) (by simp)) hr.2.2⟩)
  · rw [hr.2.1 33 (by omega), ab_w1e]; rfl
  · by_cases c : p < mP m
    · exact hr.1 p (by omega) c
    · rw [hr.2.1 _ (by omega), ab_w1k (by omega), rS_a hS hp, AV_0 hO hs.2.1 (by omega)]
      show _ = nI (dg (t / 6) p)
      rw [AV_0 hO ht.2 (by omega)]
  · rw [hr.2.1 40 (by omega), ab_w1k (by omega)]; exact hS.2.2.1
  · rw [hr.2.1 41 (by omega), ab_w1k (by omega)]; exact hS.2.2.2
  · rw [hr.2.1 q (by omega), ab_w1k (by omega)]
theorem r_goesStep {m : MoT} {s : StT} {h : abJ} (hO : MO m) (hs : SO m s) (hM : rM m (h.1 65)) (hS : rS s (fun k => h.1 65 (33 + k))) (hr : rs m (sW s) = false) : Ok (fX12_goesStep h) (fun h' => rD (dd m s 0).2 h h') := by
  have h6 := hO.2.1
  have hv := SO_SV hO hs
  have hw := hs.1
  have ha := AV_lt hO hs.2.1
  have e6 : (6 * sA s + sW s) % 6 = sW s := by omega
  have hr0 : 0 < mR m ((6 * sA s + sW s) % 6) := by rw [e6]; simp [rs] at hr; omega
  have enx : nx m (sF s) (6 * sA s + sW s) = some (sT m (sF s) (6 * sA s + sW s)) := by unfold nx; rw [e6, hr]; rfl
  have hv2 := nx_SV hO hv enx
  unfold fX12_goesStep
  rw [r_standNow hM h6 ha hS, ab_bindS, show h.1 65 40 = nI (sF s) from hS.2.2.1]
  refine Ok.bind (r_stepTo hO hM hs.2.2 hv hr0) (fun r hr1 => ?_)
  rw [hr1.1]
  have e65 := hr1.2.1 65 (by decide)
  refine Ok.bind (r_isStand hO hs hv2 (by rw [e65]; exact hM.2.1) (by rw [e65]; exact hS)) (fun h2 hr2 => Ok.some ?_)
  have f2 : frR [] [65, 69, 70] [] h h2 := frR_t (frR_m (frR_o (K := []) hr1.2 (by decide)) (by simp) (by simp) (by simp)) (frR_m (frR_o (K := []) hr2.2.2 (by decide)) (by simp) (by simp) (by simp))
  have e41 : h2.1 65 41 = nI (sN s) := hr2.1.2.2.2
  unfold dd
  rw [if_pos rfl, enx]
  refine ⟨rS_mk ?_ (fun p hp => ?_) ?_ ?_, fun q hq => ?_, frR_w f2 (by simp) (by decide)⟩
  · rw [ab_w1k (by decide)]; exact hr2.1.1
  · rw [ab_w1k (by omega)]; exact rS_a hr2.1 hp
  · rw [ab_w1k (by decide)]; exact hr2.1.2.2.1
  · rw [ab_w1e, e41, nI_1]; rfl
  · rw [ab_w1k (by omega), hr2.2.1 q hq, e65]
theorem rD_r {s : StT} {h : abJ} (hS : rS s (fun k => h.1 65 (33 + k))) : rD s h h := ⟨hS, fun _ _ => rfl, frR_r _ _ _ _⟩
theorem rs_nx {m : MoT} {s : StT} (hs : SO m s) (h6 : mP m ≤ 6) : (nx m (sF s) (6 * sA s + sW s) = none ↔ rs m (sW s) = true) := by
  have := hs.1
  have e6 : (6 * sA s + sW s) % 6 = sW s := by omega
  unfold nx
  rw [e6]
  cases rs m (sW s) <;> simp
theorem r_wL {k a b : Nat} (h : abJ) (hk : k < 2 ^ 63) (ha : a < 2 ^ 63) (hb : b < 2 ^ 63) : fX12_within (lN k) (lN a) (lN b) h = some (bI (decide (a ≤ k ∧ k ≤ b))) := by
  rw [r_winL]
  congr 2
  simp only [L_lt hk ha, L_lt hb hk]
  by_cases c : a ≤ k ∧ k ≤ b
  · simp [c]
  · rw [decide_eq_false c]
    simp
    omega
theorem r_whyNot {m : MoT} {s : StT} {h : abJ} {v : Int64} (hO : MO m) (hs : SO m s) (hM : rM m (h.1 65)) (hS : rS s (fun k => h.1 65 (33 + k))) : fX12_whyNot v h = some (nI (dd m s (dv v)).1) := by
  have h6 := hO.2.1
  have hw := hs.1
  unfold fX12_whyNot
  simp only [lg_cmp_eq]
  rcases dv_cs v with ⟨hv, e⟩ | ⟨k, hk, rfl, e⟩
  · rw [e]
    have ed : dd m s 200 = (1, s) := by simp [dd]
    rw [ed]
    have n0 : ¬ v = 0 := fun q => by subst q; exact absurd hv (by decide)
    have nw : ∀ a b : Int64, 0 ≤ a → b ≤ lN 199 → fX12_within v a b h = some (nI 0) := fun a b ha hb => by
      rw [r_winL, decide_eq_true (show v < a ∨ b < v from ?_)]
      · rfl
      · rcases hv with hv | hv
        · exact Or.inl (Int64.lt_of_lt_of_le hv ha)
        · exact Or.inr (Int64.lt_of_le_of_lt hb hv)
    rw [if_neg n0, nw 10 19 (by decide) (by decide), nw 20 29 (by decide) (by decide), nw 100 199 (by decide) (by decide)]
    rfl
  · rw [e]
    rw [show (0 : Int64) = lN 0 from rfl, show (10 : Int64) = lN 10 from rfl, show (19 : Int64) = lN 19 from rfl, show (20 : Int64) = lN 20 from rfl, show (29 : Int64) = lN 29 from rfl, show (100 : Int64) = lN 100 from rfl, show (199 : Int64) = lN 199 from rfl, r_wL h (by omega) (by omega) (by omega), r_wL h (by omega) (by omega) (by omega), r_wL h (by omega) (by omega) (by omega)]
    by_cases c0 : k = 0
    · subst c0
      rw [if_pos rfl, show h.1 65 33 = nI (sW s) from hS.1, r_isRest hO hM (by omega), ab_bindS]
      unfold dd
      rw [if_pos rfl]
      cases c : rs m (sW s) with
      | true =>
        rw [(rs_nx hs h6).mpr c]; rfl
      | false =>
        cases e2 : nx m (sF s) (6 * sA s + sW s) with
        | none => rw [(rs_nx hs h6).mp e2] at c; cases c
        | some t => rfl
    rw [if_neg (by rw [L_eq (by omega) (by omega)]; exact c0), ab_bindS]
    unfold dd
    rw [if_neg c0]
    by_cases c1 : k < 10
    · rw [if_pos c1, decide_eq_false (by omega), if_pos (show bI false = 0 from rfl), ab_bindS, decide_eq_false (by omega), if_pos (show bI false = 0 from rfl), ab_bindS, decide_eq_false (by omega), if_pos (show bI false = 0 from rfl)]; rfl
    rw [if_neg c1]
    by_cases c2 : k < 20
    · rw [if_pos c2, decide_eq_true (show 10 ≤ k ∧ k ≤ 19 by omega), if_neg (show ¬ bI true = 0 by decide)]; rfl
    rw [if_neg c2, decide_eq_false (show ¬ (10 ≤ k ∧ k ≤ 19) by omega), if_pos (show bI false = 0 from rfl), ab_bindS]
    by_cases c3 : k < 30
    · rw [if_pos c3, decide_eq_true (show 20 ≤ k ∧ k ≤ 29 by omega), if_neg (show ¬ bI true = 0 by decide), lN_sub (by omega), ← nI_l (by omega)]
      by_cases c4 : k - 20 < mP m
      · rw [if_pos c4, r_isPost_in hO hM c4]; rfl
      · rw [if_neg c4, r_isPost_out hO hM (Or.inr (by rw [nI_leI (by omega) (by omega)]; omega))]; rfl
    rw [if_neg c3, decide_eq_false (show ¬ (20 ≤ k ∧ k ≤ 29) by omega), if_pos (show bI false = 0 from rfl), ab_bindS]
    by_cases c5 : k < 100
    · rw [if_pos c5, decide_eq_false (by omega), if_pos (show bI false = 0 from rfl)]; rfl
    rw [if_neg c5, if_pos (show k < 200 by omega), decide_eq_true (show 100 ≤ k ∧ k ≤ 199 by omega), if_neg (show ¬ bI true = 0 by decide), lN_sub (by omega), L_div (by omega) (by omega) (by omega), L_rem (by omega) (by omega) (by omega), lN_i, show (10 : Int32) = nI 10 from rfl, pk_div (by omega) (by omega) (by omega), ← nI_l (show (k - 100) / 10 < 2 ^ 31 by omega), ← nI_l (show k % 10 < 2 ^ 31 by omega)]
    by_cases c6 : (k - 100) / 10 < mP m
    · rw [r_isPost_in hO hM c6, ab_bindS, if_neg (show ¬ nI 1 = 0 by decide), r_isRoad hO hM (by omega) (by omega), ab_bindS]
      by_cases c7 : k % 10 < mR m ((k - 100) / 10)
      · rw [if_pos c7, decide_eq_true c7]; rfl
      · rw [if_neg c7, decide_eq_false c7]; rfl
    · rw [if_neg (by rw [hO.2.2.2.2.2.1 _ (by omega)]; omega), r_isPost_out hO hM (Or.inr (by rw [nI_leI (by omega) (by omega)]; omega))]; rfl
theorem r_does {m : MoT} {s : StT} {h : abJ} {k : Nat} (hO : MO m) (hs : SO m s) (hM : rM m (h.1 65)) (hS : rS s (fun k => h.1 65 (33 + k))) (hw : (dd m s k).1 = 0) : Ok (fX12_does (nI k) h) (fun h' => rD (dd m s k).2 h h') := by
  have h6 := hO.2.1
  unfold fX12_does
  by_cases c0 : k = 0
  · subst c0
    refine Ok.pos rfl (Ok.bind (r_goesStep hO hs hM hS ?_) (fun h' hr => Ok.some hr))
    cases c : rs m (sW s) with
    | false => rfl
    | true =>
      unfold dd at hw
      rw [if_pos rfl, (rs_nx hs h6).mpr c] at hw
      cases hw
  have hk : k < 200 := by
    apply Nat.lt_of_not_le
    intro hle
    unfold dd at hw
    rw [if_neg c0, if_neg (by omega), if_neg (by omega), if_neg (by omega), if_neg (by omega), if_neg (by omega)] at hw
    cases hw
  refine Ok.neg (by rw [show (0 : Int32) = nI 0 from rfl, nI_eq (by omega) (by omega)]; exact c0) ?_
  rw [show (20 : Int32) = nI 20 from rfl, show (30 : Int32) = nI 30 from rfl, show (10 : Int32) = nI 10 from rfl, show (100 : Int32) = nI 100 from rfl, show (34 : Int32) = nI 34 from rfl]
  unfold dd at hw ⊢
  rw [if_neg c0] at hw ⊢
  by_cases c1 : k < 10
  · rw [if_pos c1] at hw; cases hw
  rw [if_neg c1] at hw ⊢
  by_cases c2 : k < 20
  · rw [if_pos c2]
    refine Ok.neg (by rw [nI_leI (by omega) (by omega)]; omega) ?_
    rw [pk_sub (by omega)]
    refine Ok.some ⟨rS_mk ?_ (fun p hp => ?_) ?_ ?_, fun q hq => ?_, frR_w (frR_r _ _ _ _) (by simp) (by decide)⟩
    · rw [ab_w1k (by decide)]; exact hS.1
    · rw [ab_w1k (by omega)]; exact rS_a hS hp
    · rw [ab_w1e]; rfl
    · rw [ab_w1k (by decide)]; exact hS.2.2.2
    · rw [ab_w1k (by omega)]
  rw [if_neg c2] at hw ⊢
  refine Ok.pos (by rw [nI_leI (by omega) (by omega)]; omega) ?_
  by_cases c3 : k < 30
  · rw [if_pos c3] at hw ⊢
    refine Ok.neg (by rw [nI_leI (by omega) (by omega)]; omega) ?_
    by_cases c4 : k - 20 < mP m
    · rw [if_pos c4, pk_sub (by omega)]
      refine Ok.some ⟨rS_mk ?_ (fun p hp => ?_) ?_ ?_, fun q hq => ?_, frR_w (frR_r _ _ _ _) (by simp) (by decide)⟩
      · rw [ab_w1e]; rfl
      · rw [ab_w1k (by omega)]; exact rS_a hS hp
      · rw [ab_w1k (by decide)]; exact hS.2.2.1
      · rw [ab_w1k (by decide)]; exact hS.2.2.2
      · rw [ab_w1k (by omega)]
    · rw [if_neg c4] at hw; cases hw
  rw [if_neg c3] at hw ⊢
  refine Ok.pos (by rw [nI_leI (by omega) (by omega)]; omega) ?_
  by_cases c5 : k < 100
  · rw [if_pos c5] at hw; cases hw
  rw [if_neg c5, if_pos hk] at hw ⊢
  by_cases c6 : k % 10 < mR m ((k - 100) / 10)
  · obtain ⟨hp, hp6⟩ := mR_p hO c6
    have h3 := hO.2.2.2.2.1 ((k - 100) / 10)
    rw [if_pos c6, pk_sub (by omega), pk_div (by omega) (by omega) (by omega), nI_add, nI_clamp (by omega), pk_rem (by omega) (by omega) (by omega)]
    refine Ok.ask (ixN (by omega) (by omega)) (Ok.some ⟨rS_mk ?_ (fun p hp => ?_) ?_ ?_, fun q hq => ?_, frR_w (frR_r _ _ _ _) (by simp) (by decide)⟩)
    · rw [ab_w1k (by omega)]; exact hS.1
    · by_cases e : p = (k - 100) / 10
      · subst e
        rw [ab_w1e]
        show _ = nI (dg (pt _ _ _) _)
        rw [pt_same (by omega)]
      · rw [ab_w1k (by omega), rS_a hS hp]
        show _ = nI (dg (pt _ _ _) _)
        rw [pt_other (by omega) e]
    · rw [ab_w1k (by omega)]; exact hS.2.2.1
    · rw [ab_w1k (by omega)]; exact hS.2.2.2
    · rw [ab_w1k (by omega)]
  · rw [if_neg c6] at hw; cases hw
