/-! Laws run: the class's stack, the reference's. -/
theorem ixN {a N : Nat} (h : a < N) (h2 : N < 2 ^ 31) : ¬ (nI a < 0 ∨ N ≤ a) := fun q => q.elim (nI_pos (by omega)) (by omega)
def stk (g : Nat → Int32) : List Int → Prop
  | [] => True
  | v :: r => g r.length = iI v ∧ stk g r
theorem stk_up {g : Nat → Int32} {k : Nat} {x : Int32} : ∀ {s : List Int}, stk g s → s.length ≤ k → stk (upd g k x) s
  | [], _, _ => trivial
  | v :: r, h, hk => ⟨by rw [pk_un (by simp at hk; omega)]; exact h.1, stk_up h.2 (by simp at hk; omega)⟩
theorem stk_push {g : Nat → Int32} {x : Int32} {v : Int} {s : List Int} (h : stk g s) (e : x = iI v) : stk (upd g s.length x) (v :: s) := ⟨by rw [pk_us]; exact e, stk_up h (Nat.le_refl _)⟩
theorem t1_cs {w : Nat → Int} {c : Nat} {ks kf : List Bool} {s : List Int} (t : t1 c ks = some kf) (v : vk ks s) :
    (c < 1004 ∧ s.length < 64 ∧ e1 w c s = (if c < 1000 then (c : Int) else w (c - 1000)) :: s) ∨
    (c = 3006 ∧ ∃ a r, s = a :: r ∧ (a = 0 ∨ a = 1) ∧ e1 w c s = (1 - a) :: r) ∨
    (c = 3009 ∧ ∃ b a q r, s = b :: a :: q :: r ∧ (q = 0 ∨ q = 1) ∧ e1 w c s = (if q = 1 then a else b) :: r) ∨
    (3000 ≤ c ∧ c < 3009 ∧ c ≠ 3006 ∧ ∃ b a r, s = b :: a :: r ∧ bk c a b ∧ e1 w c s = bw c a b :: r) := by
  have hl := vk_len _ _ v
  unfold t1 at t
  unfold e1
  split at t
  · rename_i h1
    split at t
    · left; exact ⟨by omega, by omega, by rw [if_pos h1, if_pos h1]⟩
    · cases t
  · rename_i h1
    split at t
    · rename_i h2
      split at t
      · left; exact ⟨by omega, by omega, by rw [if_neg h1, if_pos (by omega), if_neg h1]⟩
      · cases t
    · rename_i h2
      split at t
      · cases t
      · rename_i h3
        right
        split at t
        · rename_i h4
          left
          split at t
          · match s, v with
            | a :: r, v => exact ⟨h4, a, r, rfl, v.1, by rw [if_neg h1, if_neg h3, if_pos h4]⟩
          · cases t
        · rename_i h4
          right
          split at t
          · rename_i h5
            left
            split at t
            · match s, v with
              | b :: a :: q :: r, v => exact ⟨h5, b, a, q, r, rfl, v.2.2.1, by rw [if_neg h1, if_neg h3, if_neg h4, if_pos h5]⟩
            · cases t
          · rename_i h5
            right
            split at t
            · rename_i h6
              split at t
              · match s, v with
                | b :: a :: r, v => exact ⟨by omega, by omega, h4, b, a, r, rfl, ⟨v.2.1, v.1, fun hh => by omega⟩, by rw [if_neg h1, if_neg h3, if_neg h4, if_neg h5]⟩
              · cases t
            · rename_i h6
              split at t
              · rename_i h7
                split at t
                · match s, v with
                  | b :: a :: r, v => exact ⟨by omega, by omega, h4, b, a, r, rfl, ⟨v.2.1, v.1, fun hh => by omega⟩, by rw [if_neg h1, if_neg h3, if_neg h4, if_neg h5]⟩
                · cases t
              · rename_i h7
                split at t
                · rename_i h8
                  split at t
                  · match s, v with
                    | b :: a :: r, v =>
                      have g1 := v.1
                      have g2 := v.2.1
                      exact ⟨by omega, by omega, h4, b, a, r, rfl, ⟨by omega, by omega, fun _ => ⟨g2, g1⟩⟩, by rw [if_neg h1, if_neg h3, if_neg h4, if_neg h5]⟩
                  · cases t
                · cases t
theorem i1m {a : Int} (h : a = 0 ∨ a = 1) : (1 : Int32) - iI a = iI (1 - a) := by rcases h with h | h <;> subst h <;> decide
theorem iq0 {a : Int} (h : a = 0 ∨ a = 1) : iI a = 0 ↔ a ≠ 1 := by rcases h with h | h <;> subst h <;> decide
theorem iq1 {a : Int} (h : a = 0 ∨ a = 1) : iI a = 1 ↔ a = 1 := by rcases h with h | h <;> subst h <;> decide
/-- the words of a law in the class -/
def w13 (w : Nat → Int) (h : abJ) : Prop := h.1 13 5 = iI (w 0) ∧ h.1 13 6 = iI (w 1) ∧ h.1 13 7 = iI (w 2) ∧ h.1 13 4 = iI (w 3)
theorem v_leaf {w : Nat → Int} {h : abJ} (hw : w13 w h) {c : Nat} (hc : c < 1004) : fX7_leafValue (cc c) h = some (iI (if c < 1000 then (c : Int) else w (c - 1000))) ∧ ¬ cc c ≤ -5 := by
  obtain ⟨w0, w1, w2, w3⟩ := hw
  by_cases h1 : c < 1000
  · have e : cc c = nI c := by unfold cc; rw [if_pos h1]
    have n1 : ∀ k : Nat, 0 < k → k < 10 → ¬ nI c = -nI k := fun k hk hk2 q => by rw [ab_n_eq (by omega) (by omega) hk] at q; exact q
    rw [e, if_pos h1]
    refine ⟨?_, fun q => ?_⟩
    · unfold fX7_leafValue
      rw [if_neg (show ¬ nI c = -4 from n1 4 (by omega) (by omega)), if_neg (show ¬ nI c = -3 from n1 3 (by omega) (by omega)), if_neg (show ¬ nI c = -2 from n1 2 (by omega) (by omega)), if_neg (show ¬ nI c = -1 from n1 1 (by omega) (by omega))]
      rfl
    · have := (ab_n_le (a := c) (b := 5) (by omega) (by omega) (by omega)).mp q
      exact this
  · rw [if_neg h1]
    have cs : c = 1000 ∨ c = 1001 ∨ c = 1002 ∨ c = 1003 := by omega
    rcases cs with e | e | e | e <;> subst e <;> refine ⟨?_, by decide⟩
    · exact (show fX7_leafValue (cc 1000) h = some (h.1 13 5) from rfl).trans (congrArg some w0)
    · exact (show fX7_leafValue (cc 1001) h = some (h.1 13 6) from rfl).trans (congrArg some w1)
    · exact (show fX7_leafValue (cc 1002) h = some (h.1 13 7) from rfl).trans (congrArg some w2)
    · exact (show fX7_leafValue (cc 1003) h = some (h.1 13 4) from rfl).trans (congrArg some w3)
theorem cc_bin {c : Nat} (h1 : 3000 ≤ c) (h2 : c < 3009) (h3 : c ≠ 3006) : cc c ≤ -5 ∧ cc c ≠ -13 ∧ cc c ≠ -14 := by
  have cs : c = 3000 ∨ c = 3001 ∨ c = 3002 ∨ c = 3003 ∨ c = 3004 ∨ c = 3005 ∨ c = 3007 ∨ c = 3008 := by omega
  rcases cs with e | e | e | e | e | e | e | e <;> subst e <;> decide
theorem v_L {w : Nat → Int} (hw : wB w) {b : Bool} : ∀ (l : List Nat) (i n : Nat) (ks : List Bool) (s : List Int) (h : abJ), ty l ks = some [b] → vk ks s → s.length ≤ 64 → (∀ j, j < l.length → h.1 4 (i + j) = cc (l.getD j 0)) → i + l.length ≤ 900 → l.length < n → stk (h.1 15) s → w13 w h → Ok (fX7_valueOf_L5 n (nI (i + l.length)) (nI s.length) (nI i) h) (fun r => r.1 = iI (hd (ev w l s)) ∧ fr [15] [] h r.2) := by
  intro l
  induction l with
  | nil =>
    intro i n ks s h ht hv hsl hcode hi hn hs hw4
    obtain ⟨n, rfl⟩ : ∃ n0, n = n0 + 1 := ⟨n - 1, by omega⟩
    have e : ks = [b] := Option.some.inj ht
    subst e
    rw [fX7_valueOf_L5, if_pos (by rw [nI_leI (by simp; omega) (by omega)]; simp)]
    match b, s, hv with
    | true, [v], hv =>
      refine Ok.neg (by show ¬ nI 1 ≤ nI 0; decide) (Ok.some ⟨hs.1, fr_r _ _ _⟩)
    | false, [v], hv =>
      refine Ok.neg (by show ¬ nI 1 ≤ nI 0; decide) (Ok.some ⟨hs.1, fr_r _ _ _⟩)
  | cons c l ih =>
    intro i n ks s h ht hv hsl hcode hi hn hs hw4
    obtain ⟨n, rfl⟩ : ∃ n0, n = n0 + 1 := ⟨n - 1, by omega⟩
    have hL : (c :: l).length = l.length + 1 := rfl
    rw [hL] at hi hn hcode ⊢
    have ht : (t1 c ks).bind (ty l) = some [b] := ht
    obtain ⟨kf, t1e, ht⟩ := ab_bind_s ht
    have hv2 := t1_vk hw t1e hv
    have hc : h.1 4 i = cc c := hcode 0 (by omega)
    have hcode2 : ∀ (k : Nat) (x : Int32) (j : Nat), j < l.length → (ab_wI h 15 k x).1 4 ((i + 1) + j) = cc (l.getD j 0) := by
      intro k x j hj
      rw [ab_w1n (by decide), show i + 1 + j = i + (j + 1) by omega]
      exact hcode (j + 1) (by omega)
    have go : ∀ (k : Nat) (x : Int32) (s' : List Int), e1 w c s = s' → s'.length ≤ 64 → stk (upd (h.1 15) k x) s' → Ok (fX7_valueOf_L5 n (nI (i + (l.length + 1))) (nI s'.length) (nI (i + 1)) (ab_wI h 15 k x)) (fun r => r.1 = iI (hd (ev w (c :: l) s)) ∧ fr [15] [] h r.2) := by
      intro k x s' e hl hst
      rw [e] at hv2
      have h1 := ih (i + 1) n kf s' (ab_wI h 15 k x) ht hv2 hl (hcode2 k x) (by omega) (by omega) (by rw [ab_w1f]; exact hst) (by unfold w13; rw [ab_w1n (by decide)]; exact hw4)
      rw [show i + 1 + l.length = i + (l.length + 1) by omega] at h1
      refine h1.mono (fun r hr => ⟨?_, fr_t (fr_w (fr_r _ _ _) (by simp)) hr.2⟩)
      rw [hr.1, show ev w (c :: l) s = ev w l (e1 w c s) from rfl, e]
    rw [fX7_valueOf_L5, if_neg (by rw [nI_leI (by omega) (by omega)]; omega), if_neg (by rw [show (900 : Int32) = nI 900 from rfl, nI_leI (by omega) (by omega)]; omega), ab_askP (nI_in (by omega) (by omega)), nI_clamp (by omega), hc]
    rcases t1_cs (w := w) t1e hv with ⟨c1, c2, c3⟩ | ⟨c1, a, r, c2, c3, c4⟩ | ⟨c1, b1, a, q, r, c2, c3, c4⟩ | ⟨c1, c2, c3, b1, a, r, c4, c5, c6⟩
    · obtain ⟨lf, nle⟩ := v_leaf hw4 c1
      rw [if_neg nle, if_neg (by rw [show (64 : Int32) = nI 64 from rfl, nI_leI (by omega) (by omega)]; omega), lf, ab_bindS, ab_askP (nI_in (by omega) (by omega)), nI_clamp (by omega), fX7_valueOf_J186, nI_1, nI_1]
      exact go _ _ _ c3 (by simp; omega) (stk_push hs rfl)
    · subst c1 c2
      simp only [List.length_cons] at hsl ⊢
      rw [show cc 3006 = -13 from rfl, if_pos (by decide), fX7_valueOf_J62, if_pos rfl, if_neg (by rw [show (1 : Int32) = nI 1 from rfl, nI_ltI (by omega) (by omega)]; omega), nI_pred, ab_askP (nI_in (by omega) (by omega)), ab_askP (nI_in (by omega) (by omega)), nI_clamp (by omega), fX7_valueOf_J186, hs.1, nI_1, i1m c3]
      exact go r.length (iI (1 - a)) _ c4 (by simp; omega) (stk_push hs.2 rfl)
    · subst c1 c2
      simp only [List.length_cons] at hsl ⊢
      rw [show cc 3009 = -14 from rfl, if_pos (by decide), fX7_valueOf_J62, if_neg (by decide), fX7_valueOf_J95, if_pos rfl, if_neg (by rw [show (3 : Int32) = nI 3 from rfl, nI_ltI (by omega) (by omega)]; omega), ab_d2 (by omega), fX7_valueOf_J110, show r.length + 1 + 1 + 1 - 2 = r.length + 1 by omega, nI_pred, ab_askP (nI_in (by omega) (by omega)), nI_clamp (by omega), hs.2.2.1]
      by_cases hq : q = 1
      · rw [if_neg (by rw [iq0 c3]; simp [hq]), ab_askP (nI_in (by omega) (by omega)), nI_clamp (by omega), fX7_valueOf_J145, ab_askP (nI_in (by omega) (by omega)), nI_clamp (by omega), fX7_valueOf_J186, nI_1, show h.1 15 (r.length + 1) = iI a from hs.2.1]
        rw [if_pos hq] at c4
        exact go r.length (iI a) _ c4 (by simp; omega) (stk_push hs.2.2.2 rfl)
      · rw [if_pos (by rw [iq0 c3]; exact hq), nI_1, ab_askP (nI_in (by omega) (by omega)), nI_clamp (by omega), fX7_valueOf_J145, ab_askP (nI_in (by omega) (by omega)), nI_clamp (by omega), fX7_valueOf_J186, nI_1, show h.1 15 (r.length + 1 + 1) = iI b1 from hs.1]
        rw [if_neg hq] at c4
        exact go r.length (iI b1) _ c4 (by simp; omega) (stk_push hs.2.2.2 rfl)
    · subst c4
      obtain ⟨d1, d2, d3⟩ := cc_bin c1 c2 c3
      simp only [List.length_cons] at hsl ⊢
      rw [if_pos d1, fX7_valueOf_J62, if_neg d2, fX7_valueOf_J95, if_neg d3, fX7_valueOf_J149, if_neg (by rw [show (2 : Int32) = nI 2 from rfl, nI_ltI (by omega) (by omega)]; omega), ab_d1 (by omega), fX7_valueOf_J157, show r.length + 1 + 1 - 1 = r.length + 1 by omega, nI_pred, ab_askP (nI_in (by omega) (by omega)), ab_askP (nI_in (by omega) (by omega)), nI_clamp (by omega), nI_clamp (by omega), show h.1 15 (r.length + 1) = iI b1 from hs.1, show h.1 15 r.length = iI a from hs.2.1, jn h c1 c2 c3 c5, ab_bindS, ab_askP (ixN (by omega) (by omega)), fX7_valueOf_J186, nI_1]
      exact go r.length (iI (bw c a b1)) _ c6 (by simp; omega) (stk_push hs.2.2 rfl)
/-- the words of a law in the reference -/
def w70 (w : Nat → Int) (h : abJ) : Prop := ∀ k, k < 4 → h.1 70 k = iI (w k)
theorem e_L {w : Nat → Int} (hw : wB w) {b : Bool} {j k0 : Nat} (hj : j < 2) (L : Nat) : ∀ (l : List Nat) (i n : Nat) (ks : List Bool) (s : List Int) (h : abJ), ty l ks = some [b] → vk ks s → s.length ≤ 64 → i + l.length = L → h.1 65 (7 + j) = nI L → h.1 65 (5 + j) = nI k0 → (∀ q, q < l.length → h.1 65 (134 + k0 + (i + q)) = nI (l.getD q 0)) → k0 + L ≤ 900 → l.length < n → stk (h.1 69) s → w70 w h → Ok (fX12_reckons_L4 n (nI j) (nI s.length) (nI i) h) (fun r => r.1 = iI (hd (ev w l s)) ∧ fr [69] [] h r.2) := by
  intro l
  induction l with
  | nil =>
    intro i n ks s h ht hv hsl hL h7 h5 hcode hk hn hs hw4
    obtain ⟨n, rfl⟩ : ∃ n0, n = n0 + 1 := ⟨n - 1, by omega⟩
    have e : ks = [b] := Option.some.inj ht
    subst e
    simp only [List.length_nil, Nat.add_zero] at hL
    rw [fX12_reckons_L4]
    simp (disch := omega) only [ab_lits, nI_add, pk_mul, pk_sub, pk_div, nI_clamp, ab_ixO, h7]
    rw [if_pos (by rw [nI_leI (by omega) (by omega)]; omega)]
    match b, s, hv with
    | true, [v], hv => exact Ok.some ⟨hs.1, fr_r _ _ _⟩
    | false, [v], hv => exact Ok.some ⟨hs.1, fr_r _ _ _⟩
  | cons c l ih =>
    intro i n ks s h ht hv hsl hL h7 h5 hcode hk hn hs hw4
    obtain ⟨n, rfl⟩ : ∃ n0, n = n0 + 1 := ⟨n - 1, by omega⟩
    simp only [List.length_cons] at hL hn hcode
    have ht : (t1 c ks).bind (ty l) = some [b] := ht
    obtain ⟨kf, t1e, ht⟩ := ab_bind_s ht
    have hv2 := t1_vk hw t1e hv
    have hc : h.1 65 (134 + k0 + i) = nI c := hcode 0 (by omega)
    have hcode2 : ∀ (k : Nat) (x : Int32) (q : Nat), q < l.length → (ab_wI h 69 k x).1 65 (134 + k0 + ((i + 1) + q)) = nI (l.getD q 0) := by
      intro k x q hq
      rw [ab_w1n (by decide), show i + 1 + q = i + (q + 1) by omega]
      exact hcode (q + 1) (by omega)
    have go : ∀ (k : Nat) (x : Int32) (s' : List Int), e1 w c s = s' → s'.length ≤ 64 → stk (upd (h.1 69) k x) s' → Ok (fX12_reckons_L4 n (nI j) (nI s'.length) (nI (i + 1)) (ab_wI h 69 k x)) (fun r => r.1 = iI (hd (ev w (c :: l) s)) ∧ fr [69] [] h r.2) := by
      intro k x s' e hl hst
      rw [e] at hv2
      have h1 := ih (i + 1) n kf s' (ab_wI h 69 k x) ht hv2 hl (by omega) (by rw [ab_w1n (by decide)]; exact h7) (by rw [ab_w1n (by decide)]; exact h5) (hcode2 k x) hk (by omega) (by rw [ab_w1f]; exact hst) (by unfold w70; rw [ab_w1n (by decide)]; exact hw4)
      refine h1.mono (fun r hr => ⟨?_, fr_t (fr_w (fr_r _ _ _) (by simp)) hr.2⟩)
      rw [hr.1, show ev w (c :: l) s = ev w l (e1 w c s) from rfl, e]
    rw [fX12_reckons_L4]
    simp (disch := omega) only [ab_lits, nI_add, pk_mul, pk_sub, pk_div, nI_clamp, ab_ixO, h7, h5, hc]
    rw [if_neg (by rw [nI_leI (by omega) (by omega)]; omega)]
    rcases t1_cs (w := w) t1e hv with ⟨c1, c2, c3⟩ | ⟨c1, a, r, c2, c3, c4⟩ | ⟨c1, b1, a, q, r, c2, c3, c4⟩ | ⟨c1, c2, c3, b1, a, r, c4, c5, c6⟩
    · rw [if_neg (by rw [nI_leI (by omega) (by omega)]; omega)]
      by_cases d1 : c < 1000
      · rw [if_neg (by rw [nI_leI (by omega) (by omega)]; omega)]
        simp (disch := omega) only [ab_lits, nI_add, pk_mul, pk_sub, pk_div, nI_clamp, ab_ixO, fX12_reckons_J75, fX12_reckons_J192]
        rw [if_pos d1] at c3
        exact go s.length (nI c) _ c3 (by simp; omega) (stk_push hs rfl)
      · rw [if_pos (by rw [nI_leI (by omega) (by omega)]; omega)]
        simp (disch := omega) only [ab_lits, nI_add, pk_mul, pk_sub, pk_div, nI_clamp, ab_ixO, fX12_reckons_J75, fX12_reckons_J192]
        rw [if_neg d1] at c3
        rw [hw4 (c - 1000) (by omega)]
        exact go s.length (iI (w (c - 1000))) _ c3 (by simp; omega) (stk_push hs rfl)
    · subst c1 c2
      simp only [List.length_cons] at hsl ⊢
      rw [if_pos (by decide), if_pos trivial]
      simp (disch := omega) only [ab_lits, nI_add, pk_mul, pk_sub, pk_div, nI_clamp, ab_ixO, fX12_reckons_J192, Nat.add_sub_cancel]
      rw [hs.1, show nI 1 - iI a = iI (1 - a) from i1m c3]
      exact go r.length (iI (1 - a)) _ c4 (by simp; omega) (stk_push hs.2 rfl)
    · subst c1 c2
      simp only [List.length_cons] at hsl ⊢
      rw [if_pos (by decide), if_neg (by decide), if_pos trivial, ab_d2 (by omega), fX12_reckons_J122, show r.length + 1 + 1 + 1 - 2 = r.length + 1 by omega]
      simp (disch := omega) only [ab_lits, nI_add, pk_mul, pk_sub, pk_div, nI_clamp, ab_ixO, fX12_reckons_J158, fX12_reckons_J192, Nat.add_sub_cancel]
      rw [hs.2.2.1]
      by_cases hq : q = 1
      · rw [if_pos (by exact (iq1 c3).mpr hq), show h.1 69 (r.length + 1) = iI a from hs.2.1]
        rw [if_pos hq] at c4
        exact go r.length (iI a) _ c4 (by simp; omega) (stk_push hs.2.2.2 rfl)
      · rw [if_neg (show ¬ iI q = nI 1 from fun hh => hq ((iq1 c3).mp hh)), show h.1 69 (r.length + 1 + 1) = iI b1 from hs.1]
        rw [if_neg hq] at c4
        exact go r.length (iI b1) _ c4 (by simp; omega) (stk_push hs.2.2.2 rfl)
    · subst c4
      simp only [List.length_cons] at hsl ⊢
      rw [if_pos (by rw [nI_leI (by omega) (by omega)]; omega), if_neg (by rw [nI_eq (by omega) (by omega)]; omega), if_neg (by rw [nI_eq (by omega) (by omega)]; omega), ab_d1 (by omega), fX12_reckons_J165, show r.length + 1 + 1 - 1 = r.length + 1 by omega]
      simp (disch := omega) only [ab_lits, nI_add, pk_mul, pk_sub, pk_div, nI_clamp, ab_ixO, fX12_reckons_J192, Nat.add_sub_cancel]
      rw [show h.1 69 (r.length + 1) = iI b1 from hs.1, show h.1 69 r.length = iI a from hs.2.1, bt h c1 c2 c3 c5, ab_bindS]
      exact go r.length (iI (bw c a b1)) _ c6 (by simp; omega) (stk_push hs.2.2 rfl)
