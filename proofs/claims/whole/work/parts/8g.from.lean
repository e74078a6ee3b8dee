/-! mean: the posts to which one can come. -/
def stF (m : MoT) (w : Nat) (X : Nat → Prop) (p : Nat) : Prop := (p = w ∧ p < 6) ∨ ∃ q, q < mP m ∧ X q ∧ rs m q = false ∧ ∃ r, r < mR m q ∧ mL m q r = p
theorem stF_m {m : MoT} {w : Nat} (hO : MO m) : mon (stF m w) := by
  have h6 := hO.2.1
  refine ⟨fun X Y h p => ?_, fun X p h => ?_⟩
  · rintro (a | ⟨q, a, b, c⟩)
    · exact Or.inl a
    · exact Or.inr ⟨q, a, h q b, c⟩
  · rcases h with a | ⟨q, _, _, _, r, _, e⟩
    · exact a.2
    · have := hO.2.2.2.2.2.2.1 q r; omega
/-- behind some posts of a round -/
def fpr (m : MoT) (F0 p F : Nat) : Prop := ∀ q, q < p → q < mP m → F0.testBit q = true → rs m q = false → ∀ r, r < mR m q → F.testBit (mL m q r) = true
theorem c_from58 {m : MoT} {w p F0 : Nat} {y3 : Int32} {h : abJ} {K : Int32 → Int32 → Int32 → Option Int32} {out : Option Int32} (hO : MO m) (hM : cM m 1 h) (hp : p < mP m) (hr0 : rs m p = false) (hK : ∀ F, snd (stF m w) F → (∀ q, F0.testBit q = true → F.testBit q = true) → fpr m F0 (p + 1) F → K (nI F) y3 (nI (p + 1)) = out) : ∀ (j N r F : Nat), r + j = mR m p → j < N → snd (stF m w) F → F.testBit p = true → (∀ q, F0.testBit q = true → F.testBit q = true) → fpr m F0 p F → (∀ r', r' < r → F.testBit (mL m p r') = true) → fX4_comeFrom_L58 h K N (nI F) y3 (nI p) (nI 1) (nI r) = out := by
  have h6 := hO.2.1
  have h3 := hO.2.2.2.2.1 p
  intro j
  induction j with
  | zero =>
    intro N r F hr hN hF hFp h0 h1 h2
    obtain ⟨N, rfl⟩ : ∃ n0, N = n0 + 1 := ⟨N - 1, by omega⟩
    rw [fX4_comeFrom_L58, if_neg (by decide), c_roadsOf hO hM (by omega), ab_bindS, if_pos (by rw [nI_leI (by omega) (by omega)]; omega)]
    unfold fX4_comeFrom_J99
    rw [nI_1]
    refine hK F hF h0 (fun q hq hqm a b r' hr' => ?_)
    by_cases e : q = p
    · subst e; exact h2 r' (by omega)
    · exact h1 q (by omega) hqm a b r' hr'
  | succ j ih =>
    intro N r F hr hN hF hFp h0 h1 h2
    obtain ⟨N, rfl⟩ : ∃ n0, N = n0 + 1 := ⟨N - 1, by omega⟩
    have hl := hO.2.2.2.2.2.2.1 p r
    rw [fX4_comeFrom_L58, if_neg (by decide), c_roadsOf hO hM (by omega), ab_bindS, if_neg (by rw [nI_leI (by omega) (by omega)]; omega), c_leadsTo hO hM (by omega) (by omega), ab_bindS, shl1 (by omega), b_or, nI_1]
    refine ih N (r + 1) (F ||| 2 ^ mL m p r) (by omega) (by omega) (snd_a (stF_m hO) hF (Or.inr ⟨p, hp, hFp, hr0, r, by omega, rfl⟩)) (or_l hFp) (fun q hq => or_l (h0 q hq)) (fun q hq hqm a b r' hr' => or_l (h1 q hq hqm a b r' hr')) (fun r' hr' => ?_)
    by_cases e : r' = r
    · subst e; exact or_r
    · exact or_l (h2 r' (by omega))
theorem c_from15 {m : MoT} {w F0 t : Nat} {h : abJ} {K : Int32 → Int32 → Option Int32} {out : Option Int32} (hO : MO m) (hM : cM m 1 h) (hK : ∀ F, snd (stF m w) F → (∀ q, F0.testBit q = true → F.testBit q = true) → fpr m F0 (mP m) F → K (nI F) (nI (t + 1)) = out) : ∀ (j N p F : Nat), p + j = mP m → j < N → snd (stF m w) F → (∀ q, F0.testBit q = true → F.testBit q = true) → fpr m F0 p F → fX4_comeFrom_L15 h K N (nI F) (nI t) (nI p) = out := by
  have h6 := hO.2.1
  intro j
  induction j with
  | zero =>
    intro N p F hp hN hF h0 h1
    obtain ⟨N, rfl⟩ : ∃ n0, N = n0 + 1 := ⟨N - 1, by omega⟩
    rw [fX4_comeFrom_L15, hM.1, if_pos (by rw [nI_leI (by omega) (by omega)]; omega), nI_1]
    have e : p = mP m := by omega
    subst e
    exact hK F hF h0 h1
  | succ j ih =>
    intro N p F hp hN hF h0 h1
    obtain ⟨N, rfl⟩ : ∃ n0, N = n0 + 1 := ⟨N - 1, by omega⟩
    have hF6 := hF.1
    have skip : (F0.testBit p = true → rs m p = false → False) → fX4_comeFrom_J52 h (fun y2 y3 y4 => fX4_comeFrom_L15 h K N y2 y3 y4) (nI F) (nI t) (nI p) = out := by
      intro hs
      unfold fX4_comeFrom_J52 fX4_comeFrom_J53
      rw [show ab_N = 999999 + 1 from rfl, fX4_comeFrom_L58, if_pos rfl]
      unfold fX4_comeFrom_J99
      rw [nI_1]
      refine ih N (p + 1) F (by omega) (by omega) hF h0 (fun q hq hqm a b r' hr' => ?_)
      by_cases e : q = p
      · subst e; exact (hs a b).elim
      · exact h1 q (by omega) hqm a b r' hr'
    rw [fX4_comeFrom_L15, hM.1, if_neg (by rw [nI_leI (by omega) (by omega)]; omega), c_isIn h (by omega) (by omega), ab_bindS, c_restsAt hO hM (by omega), ab_bindS]
    cases c1 : F.testBit p with
    | false => rw [if_pos (by decide)]; exact skip (fun a _ => by have := h0 p a; rw [c1] at this; cases this)
    | true =>
      rw [if_neg (by decide)]
      cases c2 : rs m p with
      | true => rw [if_neg (by decide)]; exact skip (fun _ b => by rw [c2] at b; cases b)
      | false =>
        rw [if_pos (by decide)]
        unfold fX4_comeFrom_J53
        refine c_from58 (w := w) (F0 := F0) hO hM (by omega) c2 (fun F' a b c => ih N (p + 1) F' (by omega) (by omega) a b c) (mR m p) ab_N 0 F (by omega) (by have := hO.2.2.2.2.1 p; unfold ab_N; omega) hF c1 h0 h1 (fun r' hr' => by omega)
theorem fpr_c {m : MoT} {w F0 F q : Nat} (hw : F0.testBit w = true) (h0 : ∀ q, F0.testBit q = true → F.testBit q = true) (h1 : fpr m F0 (mP m) F) (hq : stF m w (bs F0) q) : F.testBit q = true := by
  rcases hq with a | ⟨x, a, b, c, r, d, e⟩
  · rw [a.1]; exact h0 w hw
  · rw [← e]; exact h1 x a a b c r d
theorem c_from6 {m : MoT} {w R : Nat} {h : abJ} (hO : MO m) (hM : cM m 1 h) (hR : isL (stF m w) R) : ∀ (j N t F : Nat), t + j = 6 → j < N → snd (stF m w) F → F.testBit w = true → (∀ q, lvl (stF m w) t q → F.testBit q = true) → fX4_comeFrom_L6 h N (nI F) (nI t) = some (nI R) := by
  intro j
  induction j with
  | zero =>
    intro N t F ht hN hF hw h1
    obtain ⟨N, rfl⟩ : ∃ n0, N = n0 + 1 := ⟨N - 1, by omega⟩
    have e : t = 6 := by omega
    subst e
    rw [fX4_comeFrom_L6, if_pos (by decide), isL_u hR ⟨hF.1, fun p => ⟨hF.2 p, h1 p⟩⟩]
  | succ j ih =>
    intro N t F ht hN hF hw h1
    obtain ⟨N, rfl⟩ : ∃ n0, N = n0 + 1 := ⟨N - 1, by omega⟩
    rw [fX4_comeFrom_L6, if_neg (by rw [show (6 : Int32) = nI 6 from rfl, nI_leI (by omega) (by omega)]; omega), show (0 : Int32) = nI 0 from rfl]
    refine c_from15 (w := w) (F0 := F) hO hM (fun F' a b c => ih N (t + 1) F' (by omega) (by omega) a (b w hw) (fun q hq => fpr_c hw b c ((stF_m hO).1 _ _ h1 q hq))) (mP m) ab_N 0 F (by omega) (by have := hO.2.1; unfold ab_N; omega) hF (fun q hq => hq) (fun q hq => by omega)
theorem snd_w {m : MoT} {w : Nat} (hO : MO m) (hw : w < 6) : snd (stF m w) (2 ^ w) ∧ (2 ^ w).testBit w = true := by
  have h2 : (2 ^ w).testBit w = true := by rw [Nat.testBit_two_pow, decide_eq_true rfl]
  refine ⟨⟨Nat.pow_lt_pow_right (m := w) (n := 6) (by omega) hw, fun p hp => ?_⟩, h2⟩
  rw [Nat.testBit_two_pow, decide_eq_true_iff] at hp
  subst hp
  exact lvl_6 (stF_m hO) 1 w (Or.inl ⟨rfl, hw⟩)
theorem c_from {m : MoT} {w : Nat} {h : abJ} (hO : MO m) (hM : cM m 1 h) (hw : w < 6) : fX4_comeFrom (nI w) h = some (nI (lvB (stF m w) 6)) := by
  obtain ⟨a, b⟩ := snd_w hO hw
  unfold fX4_comeFrom
  rw [shl1 (by omega)]
  exact c_from6 hO hM (lvB_isL (stF_m hO)) 6 ab_N 0 (2 ^ w) (by omega) (by unfold ab_N; omega) a b (fun q h => h.elim)
theorem r_str35 {m : MoT} {w p F0 : Nat} {y3 : Int32} {h : abJ} {K : Int32 → Int32 → Int32 → Option Int32} {out : Option Int32} (hO : MO m) (hM : rM m (h.1 65)) (hp : p < mP m) (hK : ∀ F, snd (stF m w) F → (∀ q, F0.testBit q = true → F.testBit q = true) → fpr m F0 (p + 1) F → K (nI F) y3 (nI (p + 1)) = out) : ∀ (j N r F : Nat), r + j = mR m p → j < N → snd (stF m w) F → (∀ q, F0.testBit q = true → F.testBit q = true) → fpr m F0 p F → (∀ r', r' < r → F0.testBit p = true → rs m p = false → F.testBit (mL m p r') = true) → fX12_strays_L35 h K N (nI F) y3 (nI p) (nI r) = out := by
  have h6 := hO.2.1
  have h3 := hO.2.2.2.2.1 p
  intro j
  induction j with
  | zero =>
    intro N r F hr hN hF h0 h1 h2
    obtain ⟨N, rfl⟩ : ∃ n0, N = n0 + 1 := ⟨N - 1, by omega⟩
    rw [fX12_strays_L35, show (9 : Int32) = nI 9 from rfl, nI_add, nI_clamp (by omega), ab_askP (ixN (by omega) (by omega)), hM.2.2.2.1 p (by omega), if_pos (by rw [nI_leI (by omega) (by omega)]; omega), nI_1]
    refine hK F hF h0 (fun q hq hqm a b r' hr' => ?_)
    by_cases e : q = p
    · subst e; exact h2 r' (by omega) a b
    · exact h1 q (by omega) hqm a b r' hr'
  | succ j ih =>
    intro N r F hr hN hF h0 h1 h2
    obtain ⟨N, rfl⟩ : ∃ n0, N = n0 + 1 := ⟨N - 1, by omega⟩
    have hl := hO.2.2.2.2.2.2.1 p r
    have hF6 := hF.1
    have skip : (F0.testBit p = true → rs m p = false → False) → fX12_strays_J83 h (fun y1 y3 y4 y5 => fX12_strays_L35 h K N y1 y3 y4 y5) y3 (nI p) (nI r) (nI F) = out := by
      intro hs
      unfold fX12_strays_J83 fX12_strays_J84
      rw [nI_1, show (0 : Int32) = nI 0 from rfl, b_or, Nat.or_zero]
      exact ih N (r + 1) F (by omega) (by omega) hF h0 h1 (fun r' _ a b => (hs a b).elim)
    rw [fX12_strays_L35, show (9 : Int32) = nI 9 from rfl, nI_add, nI_clamp (by omega), ab_askP (ixN (by omega) (by omega)), hM.2.2.2.1 p (by omega), if_neg (by rw [nI_leI (by omega) (by omega)]; omega), r_isIn h hF6 (by omega), ab_bindS, r_isRest hO hM (by omega), ab_bindS, r_roadOf hM (by omega) (by omega) h3, ab_bindS]
    cases c1 : F.testBit p with
    | false => rw [if_pos (by decide)]; exact skip (fun a _ => by have := h0 p a; rw [c1] at this; cases this)
    | true =>
      rw [if_neg (by decide)]
      cases c2 : rs m p with
      | true => rw [if_neg (by decide)]; exact skip (fun _ b => by rw [c2] at b; cases b)
      | false =>
        rw [if_pos (by decide)]
        unfold fX12_strays_J84
        rw [nI_1, shl1 (by omega), b_or]
        refine ih N (r + 1) (F ||| 2 ^ mL m p r) (by omega) (by omega) (snd_a (stF_m hO) hF (Or.inr ⟨p, hp, c1, c2, r, by omega, rfl⟩)) (fun q hq => or_l (h0 q hq)) (fun q hq hqm a b r' hr' => or_l (h1 q hq hqm a b r' hr')) (fun r' hr' a b => ?_)
        by_cases e : r' = r
        · subst e; exact or_r
        · exact or_l (h2 r' (by omega) a b)
theorem r_str21 {m : MoT} {w F0 : Nat} {h : abJ} {K : Int32 → Int32 → Option Int32} {out : Option Int32} (hO : MO m) (hM : rM m (h.1 65)) (hF0 : F0 < 64) (hK : ∀ F, snd (stF m w) F → (∀ q, F0.testBit q = true → F.testBit q = true) → fpr m F0 (mP m) F → K (nI F) (nI (if F = F0 then 0 else 1)) = out) : ∀ (j N p F : Nat), p + j = mP m → j < N → snd (stF m w) F → (∀ q, F0.testBit q = true → F.testBit q = true) → fpr m F0 p F → fX12_strays_L21 h K N (nI F) (nI F0) (nI p) = out := by
  have h6 := hO.2.1
  intro j
  induction j with
  | zero =>
    intro N p F hp hN hF h0 h1
    obtain ⟨N, rfl⟩ : ∃ n0, N = n0 + 1 := ⟨N - 1, by omega⟩
    have e : p = mP m := by omega
    subst e
    have hF6 := hF.1
    have := hK F hF h0 h1
    rw [fX12_strays_L21, hM.2.1, if_pos (Int32.le_refl _)]
    unfold fX12_strays_J108
    by_cases c : F = F0
    · rw [if_pos c] at this
      rw [if_pos (by rw [c])]; exact this
    · rw [if_neg c] at this
      rw [if_neg (by rw [nI_eq (by omega) (by omega)]; exact c)]; exact this
  | succ j ih =>
    intro N p F hp hN hF h0 h1
    obtain ⟨N, rfl⟩ : ∃ n0, N = n0 + 1 := ⟨N - 1, by omega⟩
    rw [fX12_strays_L21, hM.2.1, if_neg (by rw [nI_leI (by omega) (by omega)]; omega), show (0 : Int32) = nI 0 from rfl]
    refine r_str35 (w := w) (F0 := F0) hO hM (by omega) (fun F' a b c => ih N (p + 1) F' (by omega) (by omega) a b c) (mR m p) ab_N 0 F (by omega) (by have := hO.2.2.2.2.1 p; unfold ab_N; omega) hF h0 h1 (fun r' hr' => by omega)
theorem r_str12 {m : MoT} {w R : Nat} {h : abJ} (hO : MO m) (hM : rM m (h.1 65)) (hR : isL (stF m w) R) : ∀ (j N F : Nat), 6 ≤ pc6 F + j → j + 1 < N → snd (stF m w) F → F.testBit w = true → fX12_strays_L12 h N (nI F) (nI 1) = some (nI R) := by
  intro j
  induction j with
  | zero =>
    intro N F hj hN hF hw
    obtain ⟨N, rfl⟩ : ∃ n0, N = n0 + 2 := ⟨N - 2, by omega⟩
    rw [fX12_strays_L12, if_neg (by decide), show (0 : Int32) = nI 0 from rfl]
    refine r_str21 (w := w) (F0 := F) hO hM hF.1 (fun F' a b c => ?_) (mP m) ab_N 0 F (by omega) (by have := hO.2.1; unfold ab_N; omega) hF (fun q hq => hq) (fun q hq => by omega)
    have e1 : F = F' := by
      rcases pc6_mo hF.1 a.1 b with x | x
      · exact x
      · have := pc6_le F'; omega
    subst e1
    rw [if_pos rfl]
    show fX12_strays_L12 h (N + 1) (nI F) (nI 0) = _
    rw [fX12_strays_L12, if_pos (by decide), isL_u hR (isL_c (stF_m hO) hF (fun p hp => fpr_c hw b c hp))]
  | succ j ih =>
    intro N F hj hN hF hw
    obtain ⟨N, rfl⟩ : ∃ n0, N = n0 + 2 := ⟨N - 2, by omega⟩
    rw [fX12_strays_L12, if_neg (by decide), show (0 : Int32) = nI 0 from rfl]
    refine r_str21 (w := w) (F0 := F) hO hM hF.1 (fun F' a b c => ?_) (mP m) ab_N 0 F (by omega) (by have := hO.2.1; unfold ab_N; omega) hF (fun q hq => hq) (fun q hq => by omega)
    rcases pc6_mo hF.1 a.1 b with x | x
    · subst x
      rw [if_pos rfl]
      show fX12_strays_L12 h (N + 1) (nI F) (nI 0) = _
      rw [fX12_strays_L12, if_pos (by decide), isL_u hR (isL_c (stF_m hO) hF (fun p hp => fpr_c hw b c hp))]
    · have ne : F' ≠ F := fun e => by rw [e] at x; omega
      rw [if_neg ne]
      exact ih (N + 1) F' (by omega) (by omega) a (b w hw)
theorem r_strays {m : MoT} {w : Nat} {h : abJ} (hO : MO m) (hM : rM m (h.1 65)) (hw : w < 6) (h33 : h.1 65 33 = nI w) : fX12_strays h = some (nI (lvB (stF m w) 6)) := by
  obtain ⟨a, b⟩ := snd_w hO hw
  unfold fX12_strays
  rw [h33, shl1 (by omega)]
  exact r_str12 hO hM (lvB_isL (stF_m hO)) 6 ab_N (2 ^ w) (by omega) (by unfold ab_N; omega) a b
