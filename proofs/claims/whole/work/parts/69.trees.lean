/-! trees. -/
def trl (m : MoT) (p a : Nat) : Nat → Nat → Nat
  | 0, w => w
  | k + 1, w => if w = p then w else trl m p a k (mL m w (dg a w))
def tra (m : MoT) (p a : Nat) : Nat → Nat → Bool
  | 0, _ => true
  | k + 1, q => if trl m p a 6 q = p then tra m p a k (q + 1) else false
def trF (m : MoT) (p : Nat) (B : Nat → Bool) (a : Nat) : Nat := if dg a p = 0 then (if B a then (if tra m p a (mP m) 0 then 1 else 0) else 0) else 0
theorem trl_p {m : MoT} {p a : Nat} : ∀ k, trl m p a k p = p
  | 0 => rfl
  | k + 1 => by rw [trl, if_pos rfl]
theorem trl_P {m : MoT} {p a : Nat} (hO : MO m) : ∀ k w, w < mP m → trl m p a k w < mP m
  | 0, _, h => h
  | k + 1, w, h => by
    rw [trl]
    split
    · exact h
    · exact trl_P hO k _ (hO.2.2.2.2.2.2.1 _ _)
theorem c_tree19 {m : MoT} {p a q : Nat} {h : abJ} {K : Int32 → Int32 → Int32 → Option Int32} (hO : MO m) (hM : cM m 1 h) (hp : p < mP m) (ha : AV m a) (hz : ∀ q, q < mP m → q ≠ p → 0 < mR m q) : ∀ (k n i w : Nat), i + k = 6 → k < n → w < mP m → fX1_allLeadTo_L19 h K n (nI p) (nI a) (nI q) (nI w) (nI i) = fX1_allLeadTo_J55 h K (nI p) (nI a) (nI q) (nI (trl m p a k w)) := by
  have h6 := hO.2.1
  have ha7 := AV_lt hO ha
  have h7 := MO_729 hO
  intro k
  induction k with
  | zero =>
    intro n i w hi hn hw
    obtain ⟨n, rfl⟩ : ∃ n0, n = n0 + 1 := ⟨n - 1, by omega⟩
    rw [fX1_allLeadTo_L19, if_pos (by rw [show (6 : Int32) = nI 6 from rfl, nI_leI (by omega) (by omega)]; omega)]; rfl
  | succ k ih =>
    intro n i w hi hn hw
    obtain ⟨n, rfl⟩ : ∃ n0, n = n0 + 1 := ⟨n - 1, by omega⟩
    rw [fX1_allLeadTo_L19, if_neg (by rw [show (6 : Int32) = nI 6 from rfl, nI_leI (by omega) (by omega)]; omega), trl]
    by_cases c : w = p
    · rw [if_pos (by rw [c]), if_pos c]
    · have hm1 := hz w hw c
      have hd : dg a w < mR m w := by have := ha w; omega
      rw [if_neg (by rw [nI_eq (by omega) (by omega)]; exact c), if_neg c, c_armOf h (by omega) (by omega), ab_bindS, c_leadsTo hO hM (by omega) hd, ab_bindS, nI_1]
      exact ih n (i + 1) _ (by omega) (by omega) (hO.2.2.2.2.2.2.1 _ _)
theorem c_treeA {m : MoT} {p a : Nat} {h : abJ} (hO : MO m) (hM : cM m 1 h) (hp : p < mP m) (ha : AV m a) (hz : ∀ q, q < mP m → q ≠ p → 0 < mR m q) : fX1_allLeadTo (nI p) (nI a) h = some (bI (tra m p a (mP m) 0)) := by
  have h6 := hO.2.1
  have key : ∀ (k n q : Nat), q + k = mP m → k < n → fX1_allLeadTo_L2 h n (nI p) (nI a) (nI q) = some (bI (tra m p a k q)) := by
    intro k
    induction k with
    | zero =>
      intro n q hq hn
      obtain ⟨n, rfl⟩ : ∃ n0, n = n0 + 1 := ⟨n - 1, by omega⟩
      rw [fX1_allLeadTo_L2, hM.1, if_pos (by rw [nI_leI (by omega) (by omega)]; omega)]; rfl
    | succ k ih =>
      intro n q hq hn
      obtain ⟨n, rfl⟩ : ∃ n0, n = n0 + 1 := ⟨n - 1, by omega⟩
      have ht := trl_P (p := p) (a := a) hO 6 q (by omega)
      rw [fX1_allLeadTo_L2, hM.1, if_neg (by rw [nI_leI (by omega) (by omega)]; omega), show (0 : Int32) = nI 0 from rfl, c_tree19 hO hM hp ha hz 6 ab_N 0 q (by omega) (by unfold ab_N; omega) (by omega), tra]
      unfold fX1_allLeadTo_J55
      rw [nI_1]
      by_cases c : trl m p a 6 q = p
      · rw [if_pos (by rw [c]), if_pos c]
        exact ih n (q + 1) (by omega) (by omega)
      · rw [if_neg (by rw [nI_eq (by omega) (by omega)]; exact c), if_neg c]; rfl
  exact key (mP m) ab_N 0 (by omega) (by unfold ab_N; omega)
theorem r_tree18 {m : MoT} {p a q : Nat} {h : abJ} {K : Int32 → Int32 → Int32 → Option Int32} (hO : MO m) (hM : rM m (h.1 65)) (hp : p < mP m) (ha : AV m a) (hz : ∀ q, q < mP m → q ≠ p → 0 < mR m q) : ∀ (k n i w : Nat), i + k = 6 → k < n → w < mP m → fX12_isTree_L18 h K n (nI p) (nI a) (nI q) (nI w) (nI i) = fX12_isTree_J51 h K (nI p) (nI a) (nI q) (nI (trl m p a k w)) := by
  have h6 := hO.2.1
  have ha7 := AV_lt hO ha
  have h7 := MO_729 hO
  intro k
  induction k with
  | zero =>
    intro n i w hi hn hw
    obtain ⟨n, rfl⟩ : ∃ n0, n = n0 + 1 := ⟨n - 1, by omega⟩
    rw [fX12_isTree_L18, if_pos (by rw [show (6 : Int32) = nI 6 from rfl, nI_leI (by omega) (by omega)]; omega)]; rfl
  | succ k ih =>
    intro n i w hi hn hw
    obtain ⟨n, rfl⟩ : ∃ n0, n = n0 + 1 := ⟨n - 1, by omega⟩
    rw [fX12_isTree_L18, if_neg (by rw [show (6 : Int32) = nI 6 from rfl, nI_leI (by omega) (by omega)]; omega), trl]
    by_cases c : w = p
    · rw [if_pos (by rw [c]), if_pos c]
    · have hm1 := hz w hw c
      have hd : dg a w < mR m w := by have := ha w; omega
      rw [if_neg (by rw [nI_eq (by omega) (by omega)]; exact c), if_neg c, r_armIn h (by omega) (by omega), ab_bindS, r_roadOf hM (by omega) hd (hO.2.2.2.2.1 _), ab_bindS, nI_1]
      exact ih n (i + 1) _ (by omega) (by omega) (hO.2.2.2.2.2.2.1 _ _)
theorem r_treeA {m : MoT} {p a : Nat} {h : abJ} (hO : MO m) (hM : rM m (h.1 65)) (hp : p < mP m) (ha : AV m a) (hz : ∀ q, q < mP m → q ≠ p → 0 < mR m q) : fX12_isTree (nI p) (nI a) h = some (bI (tra m p a (mP m) 0)) := by
  have h6 := hO.2.1
  have key : ∀ (k n q : Nat), q + k = mP m → k < n → fX12_isTree_L2 h n (nI p) (nI a) (nI q) = some (bI (tra m p a k q)) := by
    intro k
    induction k with
    | zero =>
      intro n q hq hn
      obtain ⟨n, rfl⟩ : ∃ n0, n = n0 + 1 := ⟨n - 1, by omega⟩
      rw [fX12_isTree_L2, hM.2.1, if_pos (by rw [nI_leI (by omega) (by omega)]; omega)]; rfl
    | succ k ih =>
      intro n q hq hn
      obtain ⟨n, rfl⟩ : ∃ n0, n = n0 + 1 := ⟨n - 1, by omega⟩
      have ht := trl_P (p := p) (a := a) hO 6 q (by omega)
      rw [fX12_isTree_L2, hM.2.1, if_neg (by rw [nI_leI (by omega) (by omega)]; omega), show (0 : Int32) = nI 0 from rfl, r_tree18 hO hM hp ha hz 6 ab_N 0 q (by omega) (by unfold ab_N; omega) (by omega), tra]
      unfold fX12_isTree_J51
      rw [nI_1]
      by_cases c : trl m p a 6 q = p
      · rw [if_pos (by rw [c]), if_pos c]
        exact ih n (q + 1) (by omega) (by omega)
      · rw [if_neg (by rw [nI_eq (by omega) (by omega)]; exact c), if_neg c]; rfl
  exact key (mP m) ab_N 0 (by omega) (by unfold ab_N; omega)
theorem c_tree50 {m : MoT} {p : Nat} {h : abJ} (hO : MO m) (hM : cM m 1 h) (hp : p < mP m) (hz : ∀ q, q < mP m → q ≠ p → 0 < mR m q) : ∀ (k n a : Nat), a + k = 3 ^ mP m → k < n → fX1_countTrees_L50 h n (nI p) (nI (3 ^ mP m)) (nI (sg (trF m p (avb m)) a)) (nI a) = some (nI (sg (trF m p (avb m)) (3 ^ mP m))) := by
  have h6 := hO.2.1
  have h7 := MO_729 hO
  intro k
  induction k with
  | zero =>
    intro n a ha hn
    obtain ⟨n, rfl⟩ : ∃ n0, n = n0 + 1 := ⟨n - 1, by omega⟩
    have e : a = 3 ^ mP m := by omega
    rw [fX1_countTrees_L50, if_pos (by rw [nI_leI (by omega) (by omega)]; omega), e]
  | succ k ih =>
    intro n a ha hn
    obtain ⟨n, rfl⟩ : ∃ n0, n = n0 + 1 := ⟨n - 1, by omega⟩
    have hd := dg_lt a p
    have ih := ih n (a + 1) (by omega) (by omega)
    rw [sg] at ih
    rw [fX1_countTrees_L50, if_neg (by rw [nI_leI (by omega) (by omega)]; omega), c_armOf h (by omega) (by omega), ab_bindS]
    unfold fX1_countTrees_J90
    rw [nI_1, nI_1]
    by_cases c0 : dg a p = 0
    · rw [if_pos (by rw [c0]; rfl), c_canShow hO hM (by omega), ab_bindS]
      by_cases c1 : avb m a = true
      · rw [c1, if_neg (by decide), c_treeA hO hM hp (avb_t.mp c1) hz, ab_bindS]
        by_cases c2 : tra m p a (mP m) 0 = true
        · rw [c2, if_neg (by decide)]
          rw [show trF m p (avb m) a = 1 by unfold trF; rw [if_pos c0, if_pos c1, if_pos c2]] at ih
          exact ih
        · rw [show tra m p a (mP m) 0 = false by simpa using c2, if_pos (by decide)]
          rw [show trF m p (avb m) a = 0 by unfold trF; rw [if_pos c0, if_pos c1, if_neg c2], Nat.add_zero] at ih
          exact ih
      · rw [show avb m a = false by simpa using c1, if_pos (by decide)]
        rw [show trF m p (avb m) a = 0 by unfold trF; rw [if_pos c0, if_neg c1], Nat.add_zero] at ih
        exact ih
    · rw [if_neg (by rw [show (0 : Int32) = nI 0 from rfl, nI_eq (by omega) (by omega)]; exact c0)]
      rw [show trF m p (avb m) a = 0 by unfold trF; rw [if_neg c0], Nat.add_zero] at ih
      exact ih
theorem r_tree58 {m : MoT} {p : Nat} {h : abJ} (hO : MO m) (hM : rM m (h.1 65)) (hp : p < mP m) (hz : ∀ q, q < mP m → q ≠ p → 0 < mR m q) : ∀ (k n a : Nat), a + k = 729 → k < n → fX12_trees_L58 n (nI p) (nI (sg (trF m p (avb m)) a)) (nI a) h = some (nI (sg (trF m p (avb m)) 729), h) := by
  have h6 := hO.2.1
  intro k
  induction k with
  | zero =>
    intro n a ha hn
    obtain ⟨n, rfl⟩ : ∃ n0, n = n0 + 1 := ⟨n - 1, by omega⟩
    have e : a = 729 := by omega
    rw [fX12_trees_L58, if_pos (by rw [show (729 : Int32) = nI 729 from rfl, nI_leI (by omega) (by omega)]; omega), e]
  | succ k ih =>
    intro n a ha hn
    obtain ⟨n, rfl⟩ : ∃ n0, n = n0 + 1 := ⟨n - 1, by omega⟩
    have hd := dg_lt a p
    have ih := ih n (a + 1) (by omega) (by omega)
    rw [sg] at ih
    rw [fX12_trees_L58, if_neg (by rw [show (729 : Int32) = nI 729 from rfl, nI_leI (by omega) (by omega)]; omega), r_armIn h (by omega) (by omega), ab_bindS]
    unfold fX12_trees_J95 fX12_trees_J96
    rw [nI_1, nI_1, show (nI (sg (trF m p (avb m)) a) + 0 : Int32) = nI (sg (trF m p (avb m)) a) from Int32.add_zero _]
    by_cases c0 : dg a p = 0
    · rw [if_pos (by rw [c0]; rfl), r_areArmsB hO hM (by omega), ab_bindS]
      by_cases c1 : avb m a = true
      · rw [c1, if_neg (by decide), r_treeA hO hM hp (avb_t.mp c1) hz, ab_bindS]
        by_cases c2 : tra m p a (mP m) 0 = true
        · rw [c2, if_neg (by decide)]
          rw [show trF m p (avb m) a = 1 by unfold trF; rw [if_pos c0, if_pos c1, if_pos c2]] at ih
          exact ih
        · rw [show tra m p a (mP m) 0 = false by simpa using c2, if_pos (by decide)]
          rw [show trF m p (avb m) a = 0 by unfold trF; rw [if_pos c0, if_pos c1, if_neg c2], Nat.add_zero] at ih
          exact ih
      · rw [show avb m a = false by simpa using c1, if_pos (by decide)]
        rw [show trF m p (avb m) a = 0 by unfold trF; rw [if_pos c0, if_neg c1], Nat.add_zero] at ih
        exact ih
    · rw [if_neg (by rw [show (0 : Int32) = nI 0 from rfl, nI_eq (by omega) (by omega)]; exact c0)]
      rw [show trF m p (avb m) a = 0 by unfold trF; rw [if_neg c0], Nat.add_zero] at ih
      exact ih
/-- whether some other post has no roads -/
def trz (m : MoT) (p : Nat) : Nat → Nat → Bool
  | 0, _ => false
  | k + 1, q => if q ≠ p ∧ mR m q = 0 then true else trz m p k (q + 1)
theorem trz_n {m : MoT} {p : Nat} : ∀ {k q : Nat}, trz m p k q = false → ∀ x, q ≤ x → x < q + k → x ≠ p → 0 < mR m x
  | 0, q, _ => fun x h1 h2 => by omega
  | k + 1, q, h => by
    rw [trz] at h
    by_cases c : q ≠ p ∧ mR m q = 0
    · rw [if_pos c] at h; cases h
    · rw [if_neg c] at h
      intro x h1 h2 h3
      by_cases e : x = q
      · subst e; omega
      · exact trz_n h x (by omega) (by omega) h3
noncomputable def trv (m : MoT) (p : Nat) : Nat := if trz m p (mP m) 0 then 0 else sg (trF m p (avb m)) (3 ^ mP m)
theorem trF_hi {m : MoT} (hO : MO m) (p : Nat) : sg (trF m p (avb m)) 729 = sg (trF m p (avb m)) (3 ^ mP m) := sg_ext (MO_729 hO) (fun i hi _ => by
  unfold trF
  rw [avb_hi hO hi]
  split <;> rfl)
theorem c_trees {m : MoT} {p : Nat} {h : abJ} (hO : MO m) (hM : cM m 1 h) (hp : p < mP m) : fX1_countTrees (nI p) h = some (nI (trv m p)) := by
  have h6 := hO.2.1
  have h7 := MO_729 hO
  have key : ∀ (k n q : Nat), q + k = mP m → k < n → (∀ x, x < q → x ≠ p → 0 < mR m x) → fX1_countTrees_L2 h n (nI p) (nI q) = some (nI (if trz m p k q then 0 else sg (trF m p (avb m)) (3 ^ mP m))) := by
    intro k
    induction k with
    | zero =>
      intro n q hq hn hz
      obtain ⟨n, rfl⟩ : ∃ n0, n = n0 + 1 := ⟨n - 1, by omega⟩
      rw [fX1_countTrees_L2, hM.1, if_pos (by rw [nI_leI (by omega) (by omega)]; omega), c_armLimit hO hM, ab_bindS]
      exact c_tree50 hO hM hp (fun x hx => hz x (by omega)) (3 ^ mP m) ab_N 0 (by omega) (by unfold ab_N; omega)
    | succ k ih =>
      intro n q hq hn hz
      obtain ⟨n, rfl⟩ : ∃ n0, n = n0 + 1 := ⟨n - 1, by omega⟩
      have h3 := hO.2.2.2.2.1 q
      rw [fX1_countTrees_L2, hM.1, if_neg (by rw [nI_leI (by omega) (by omega)]; omega), trz]
      unfold fX1_countTrees_J31
      rw [nI_1]
      by_cases c : q = p
      · rw [if_pos (by rw [c]), if_neg (show ¬ (q ≠ p ∧ mR m q = 0) from fun x => x.1 c)]
        exact ih n (q + 1) (by omega) (by omega) (fun x hx hxp => hz x (by omega) hxp)
      · rw [if_neg (by rw [nI_eq (by omega) (by omega)]; exact c), c_roadsOf hO hM (by omega), ab_bindS]
        by_cases c2 : mR m q = 0
        · rw [if_pos (by rw [c2]; rfl), if_pos (show q ≠ p ∧ mR m q = 0 from ⟨c, c2⟩)]; rfl
        · rw [if_neg (by rw [show (0 : Int32) = nI 0 from rfl, nI_eq (by omega) (by omega)]; exact c2), if_neg (show ¬ (q ≠ p ∧ mR m q = 0) from fun x => c2 x.2)]
          refine ih n (q + 1) (by omega) (by omega) (fun x hx hxp => ?_)
          by_cases e : x = q
          · subst e; omega
          · exact hz x (by omega) hxp
  exact key (mP m) ab_N 0 (by omega) (by unfold ab_N; omega) (fun x hx => by omega)
theorem r_trees {m : MoT} {p : Nat} {h : abJ} (hO : MO m) (hM : rM m (h.1 65)) (hp : p < mP m) : fX12_trees_L19 ab_N (nI p) 0 h = some (nI (trv m p), h) := by
  have h6 := hO.2.1
  have key : ∀ (k n q : Nat), q + k = mP m → k < n → (∀ x, x < q → x ≠ p → 0 < mR m x) → fX12_trees_L19 n (nI p) (nI q) h = some (nI (if trz m p k q then 0 else sg (trF m p (avb m)) (3 ^ mP m)), h) := by
    intro k
    induction k with
    | zero =>
      intro n q hq hn hz
      obtain ⟨n, rfl⟩ : ∃ n0, n = n0 + 1 := ⟨n - 1, by omega⟩
      rw [fX12_trees_L19, hM.2.1, if_pos (by rw [nI_leI (by omega) (by omega)]; omega)]
      have := r_tree58 hO hM hp (fun x hx => hz x (by omega)) 729 ab_N 0 (by omega) (by unfold ab_N; omega)
      rw [trF_hi hO] at this
      exact this
    | succ k ih =>
      intro n q hq hn hz
      obtain ⟨n, rfl⟩ : ∃ n0, n = n0 + 1 := ⟨n - 1, by omega⟩
      have h3 := hO.2.2.2.2.1 q
      rw [fX12_trees_L19, hM.2.1, if_neg (by rw [nI_leI (by omega) (by omega)]; omega), trz]
      unfold fX12_trees_J48
      rw [nI_1]
      by_cases c : q = p
      · rw [if_pos (by rw [c]), if_neg (show ¬ (q ≠ p ∧ mR m q = 0) from fun x => x.1 c)]
        exact ih n (q + 1) (by omega) (by omega) (fun x hx hxp => hz x (by omega) hxp)
      · rw [if_neg (by rw [nI_eq (by omega) (by omega)]; exact c), show (9 : Int32) = nI 9 from rfl, nI_add, nI_clamp (by omega), ab_askP (ixN (by omega) (by omega)), hM.2.2.2.1 q (by omega)]
        by_cases c2 : mR m q = 0
        · rw [if_pos (by rw [c2]; rfl), if_pos (show q ≠ p ∧ mR m q = 0 from ⟨c, c2⟩)]; rfl
        · rw [if_neg (by rw [show (0 : Int32) = nI 0 from rfl, nI_eq (by omega) (by omega)]; exact c2), if_neg (show ¬ (q ≠ p ∧ mR m q = 0) from fun x => c2 x.2)]
          refine ih n (q + 1) (by omega) (by omega) (fun x hx hxp => ?_)
          by_cases e : x = q
          · subst e; omega
          · exact hz x (by omega) hxp
  exact key (mP m) ab_N 0 (by omega) (by unfold ab_N; omega) (fun x hx => by omega)
theorem call_trees (x : Int32) : call2 (pure1 (fX11_trees x)) (fX12_trees x) := by
  refine post_ro (c := fun x => pure1 (fX11_trees x)) (r := fX12_trees) (v0 := -2) x (fun A h x hW hR hx => ?_) (fun A h x hW hR hx => ?_) (fun A p hW hp => ⟨nI (trv (aM A) p), fun h hR => ?_, fun h hR => ?_⟩)
  · unfold pure1 fX11_trees
    rw [c_has_out hR.1 hx]; rfl
  · unfold fX12_trees
    rw [r_isPost_out hW.1 (RR_0 hR).1 hx]; rfl
  · refine Ok_p1 ?_
    unfold fX11_trees
    rw [c_has_in hW.1 hR.1 hp, ab_bindS, c_trees hW.1 hR.1 hp]; rfl
  · unfold fX12_trees
    generalize e0 : ab_wI h 64 0 0 = h0; have f0 : frR sk1 sc1 [80, 81] h h0 := (by subst e0; exact frR_64 (frR_r _ _ _ _) (by decide)); have hR0 : RR A h0 := (RR_sc hR f0).1
    rw [r_isPost_in hW.1 hR0.1 hp, ab_bindS]
    refine Ok.neg (by decide) ?_
    rw [r_trees hW.1 hR0.1 hp]
    exact Ok.some ⟨rfl, f0⟩
