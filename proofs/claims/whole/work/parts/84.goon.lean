/-! hands: the class goes on from a stand. -/
/-- one road: the bits of stands, the row of this round, the row of turned ones -/
def gs (m : MoT) (f v W r : Nat) (z : (Nat → Nat) × List Nat × List Nat) : (Nat → Nat) × List Nat × List Nat :=
  if z.1 (ed m f v r) &&& 1 = 0 then
    (if r = dg (v / 6) (v % 6) then (if z.1 (ed m f v r) &&& 4 = 0 then (ups z.1 (ed m f v r) (z.1 (ed m f v r) ||| 4), z.2.1 ++ [W * 8192 + ed m f v r], z.2.2) else z)
    else (if z.1 (ed m f v r) &&& 2 = 0 then (ups z.1 (ed m f v r) (z.1 (ed m f v r) ||| 2), z.2.1, z.2.2 ++ [W * 8192 + ed m f v r]) else z))
  else z
def gfo (m : MoT) (f v W : Nat) : Nat → Nat → (Nat → Nat) × List Nat × List Nat → (Nat → Nat) × List Nat × List Nat
  | 0, _, z => z
  | k + 1, r, z => gfo m f v W k (r + 1) (gs m f v W r z)
/-- rows have room -/
def GB (m : MoT) (z : (Nat → Nat) × List Nat × List Nat) : Prop := (∀ t, SV m t → z.1 t &&& 4 = 0 → z.2.1.length < 4374) ∧ (∀ t, SV m t → z.1 t &&& 2 = 0 → z.2.2.length ≤ 4374) ∧ (∀ u, z.1 u < 8) ∧ z.2.1.length ≤ 4374 ∧ z.2.2.length ≤ 4375
def gz (m : MoT) (z : (Nat → Nat) × List Nat × List Nat) (h : abJ) : Prop := (∀ u, SV m u → h.1 31 u = nI (z.1 u)) ∧ arr 30 z.2.1 h ∧ arr 36 z.2.2 h ∧ h.1 35 12 = nI z.2.1.length ∧ h.1 35 14 = nI z.2.2.length
theorem b_0 {a b : Nat} (ha : a < 8) : (nI a &&& nI b = 0) ↔ a &&& b = 0 := by
  have : a &&& b ≤ a := Nat.and_le_left
  rw [b_and, show (0 : Int32) = nI 0 from rfl, nI_eq (by omega) (by omega)]
theorem c_goOn37 {m : MoT} {f v W : Nat} {h0 : abJ} (hO : MO m) (hf : f < 10) (hv : SV m v) (hr : rs m (v % 6) = false) (hM0 : cM m 1 h0) (hK0 : cK m h0) (hR0 : rdy m f h0) : ∀ (k n r : Nat) (z : (Nat → Nat) × List Nat × List Nat) (h : abJ), r + k = mR m (v % 6) → k < n → (∀ j, j ≤ k → GB m (gfo m f v W j r z)) → gz m z h → fr [30, 31, 35, 36] [] h0 h → (∀ q, q ≠ 12 → q ≠ 14 → h.1 35 q = h0.1 35 q) → Ok (fX8_goOnFrom_L37 n (nI f) (nI (W * 8192)) (nI (v % 6)) (nI (v / 6)) (nI (mR m (v % 6))) (nI r) h) (fun h' => gz m (gfo m f v W k r z) h' ∧ fr [30, 31, 35, 36] [] h0 h' ∧ ∀ q, q ≠ 12 → q ≠ 14 → h'.1 35 q = h0.1 35 q) := by
  have h3 := hO.2.2.2.2.1 (v % 6)
  have hv4 := SV_lt hO hv
  intro k
  induction k with
  | zero =>
    intro n r z h hrk hn hG hz hfr h35
    obtain ⟨n, rfl⟩ : ∃ n0, n = n0 + 1 := ⟨n - 1, by omega⟩
    rw [fX8_goOnFrom_L37]
    exact Ok.pos (by rw [nI_leI (by omega) (by omega)]; omega) (Ok.some ⟨hz, hfr, h35⟩)
  | succ k ih =>
    intro n r z h hrk hn hG hz hfr h35
    obtain ⟨n, rfl⟩ : ∃ n0, n = n0 + 1 := ⟨n - 1, by omega⟩
    have hM := cM_fr hM0 hfr (by decide) (by decide) (by decide) (by decide)
    have hK := cK_fr hK0 hfr (by decide) (by decide)
    have hR := rdy_fr hR0 hfr (by decide)
    have hg : eg m v r := ⟨hv, hr, by omega⟩
    have es := eg_SV hO hg
    have ht := ed_SV (f := f) hO hg
    have ht4 := SV_lt hO ht
    have hd := dg_lt (v / 6) (v % 6)
    obtain ⟨g1, g2, g3, g4, g5⟩ := hG 0 (by omega)
    rw [gfo] at g1 g2 g3 g4 g5
    have en : nx m f (6 * pt (v / 6) (v % 6) r + v % 6) = some (ed m f v r) := by
      unfold nx ed
      rw [es.2, hr, if_neg (by decide)]
    have next : ∀ h1, gz m (gs m f v W r z) h1 → fr [30, 31, 35, 36] [] h0 h1 → (∀ q, q ≠ 12 → q ≠ 14 → h1.1 35 q = h0.1 35 q) → Ok (fX8_goOnFrom_J224 (fun y1 y3 y4 y5 y6 y7 h => fX8_goOnFrom_L37 n y1 y3 y4 y5 y6 y7 h) (nI f) (nI (W * 8192)) (nI (v % 6)) (nI (v / 6)) (nI (mR m (v % 6))) (nI r) h1) (fun h' => gz m (gfo m f v W (k + 1) r z) h' ∧ fr [30, 31, 35, 36] [] h0 h' ∧ ∀ q, q ≠ 12 → q ≠ 14 → h'.1 35 q = h0.1 35 q) := by
      intro h1 a b c
      unfold fX8_goOnFrom_J224
      rw [nI_1, gfo]
      exact ih n (r + 1) _ h1 (by omega) (by omega) (fun j hj => by have := hG (j + 1) (by omega); rwa [gfo] at this) a b c
    rw [fX8_goOnFrom_L37, c_withArm h (by omega) (by omega), ab_bindS, show (6 : Int32) = nI 6 from rfl, pk_mul, nI_add, Nat.mul_comm (pt (v / 6) (v % 6) r) 6, c_nextStand hO hM hK hR hf es.1, en, ab_bindS, show oI (some (ed m f v r)) = nI (ed m f v r) from rfl, nI_clamp (by omega), hz.1 _ ht, c_armOf h (by omega) (by omega), ab_bindS, hz.2.2.2.1, hz.2.2.2.2, show (1 : Int32) = nI 1 from rfl, show (4 : Int32) = nI 4 from rfl, show (2 : Int32) = nI 2 from rfl]
    refine Ok.neg (by rw [nI_leI (by omega) (by omega)]; omega) (Ok.neg (by rw [show (0 : Int32) = nI 0 from rfl, nI_ltI (by omega) (by omega)]; omega) (Ok.neg (by rw [show (4374 : Int32) = nI 4374 from rfl, nI_leI (by omega) (by omega)]; omega) (Ok.ask (ixN (by omega) (by omega)) ?_)))
    unfold gs at next
    by_cases c1 : z.1 (ed m f v r) &&& 1 = 0
    · rw [if_pos c1] at next
      refine Ok.pos ((b_0 (g3 _)).mpr c1) ?_
      by_cases cr : r = dg (v / 6) (v % 6)
      · rw [if_pos cr] at next
        refine Ok.pos (by rw [← cr]) (Ok.ask (ixN (by omega) (by omega)) ?_)
        by_cases c4 : z.1 (ed m f v r) &&& 4 = 0
        · rw [if_pos c4] at next
          have hl := g1 _ ht c4
          refine Ok.pos ((b_0 (g3 _)).mpr c4) (Ok.neg (by rw [show (4374 : Int32) = nI 4374 from rfl, nI_leI (by omega) (by omega)]; omega) (Ok.ask (ixN (by omega) (by omega)) (Ok.ask (ixN (by omega) (by omega)) ?_)))
          rw [ab_w1n (show 35 ≠ 31 by decide), hz.2.2.2.1, nI_clamp (by omega), ab_w1n (show 35 ≠ 30 by decide), ab_w1n (show 35 ≠ 31 by decide), hz.2.2.2.1, b_or, nI_add, nI_add]
          refine Ok.ask (ixN (by omega) (by omega)) (next _ ⟨fun u hu => ?_, fun i hi => ?_, fun i hi => ?_, ?_, ?_⟩ (fr_w (fr_w (fr_w hfr (by simp)) (by simp)) (by simp)) (fun q h1 h2 => ?_))
          · rw [ab_w1n (by decide), ab_w1n (by decide)]
            by_cases e : u = ed m f v r
            · rw [e, ab_w1e]; exact congrArg nI (ups_s ..).symm
            · rw [ab_w1k e, hz.1 u hu]; exact congrArg nI (ups_n e).symm
          · rw [ab_w1n (by decide)]
            exact arr_app (arr_fr (S := [31]) (T := []) hz.2.1 (fr_w (fr_r _ _ _) (by simp)) (by decide)) i hi
          · rw [ab_w1n (by decide), ab_w1n (by decide), ab_w1n (by decide)]; exact hz.2.2.1 i hi
          · rw [ab_w1e]; exact congrArg nI (by simp)
          · rw [ab_w1k (by decide), ab_w1n (by decide), ab_w1n (by decide)]; exact hz.2.2.2.2
          · rw [ab_w1k h1, ab_w1n (by decide), ab_w1n (by decide)]; exact h35 q h1 h2
        · rw [if_neg c4] at next
          exact Ok.neg (fun q => c4 ((b_0 (g3 _)).mp q)) (next h hz hfr h35)
      · rw [if_neg cr] at next
        refine Ok.neg (by rw [nI_eq (by omega) (by omega)]; exact cr) (Ok.ask (ixN (by omega) (by omega)) ?_)
        by_cases c4 : z.1 (ed m f v r) &&& 2 = 0
        · rw [if_pos c4] at next
          have hl := g2 _ ht c4
          refine Ok.pos ((b_0 (g3 _)).mpr c4) (Ok.neg (by rw [show (4374 : Int32) = nI 4374 from rfl, nI_ltI (by omega) (by omega)]; omega) (Ok.ask (ixN (by omega) (by omega)) (Ok.ask (ixN (by omega) (by omega)) ?_)))
          rw [ab_w1n (show 35 ≠ 31 by decide), hz.2.2.2.2, nI_clamp (by omega), ab_w1n (show 35 ≠ 36 by decide), ab_w1n (show 35 ≠ 31 by decide), hz.2.2.2.2, b_or, nI_add, nI_add]
          refine Ok.ask (ixN (by omega) (by omega)) (next _ ⟨fun u hu => ?_, fun i hi => ?_, fun i hi => ?_, ?_, ?_⟩ (fr_w (fr_w (fr_w hfr (by simp)) (by simp)) (by simp)) (fun q h1 h2 => ?_))
          · rw [ab_w1n (by decide), ab_w1n (by decide)]
            by_cases e : u = ed m f v r
            · rw [e, ab_w1e]; exact congrArg nI (ups_s ..).symm
            · rw [ab_w1k e, hz.1 u hu]; exact congrArg nI (ups_n e).symm
          · rw [ab_w1n (by decide), ab_w1n (by decide), ab_w1n (by decide)]; exact hz.2.1 i hi
          · rw [ab_w1n (by decide)]
            exact arr_app (arr_fr (S := [31]) (T := []) hz.2.2.1 (fr_w (fr_r _ _ _) (by simp)) (by decide)) i hi
          · rw [ab_w1k (by decide), ab_w1n (by decide), ab_w1n (by decide)]; exact hz.2.2.2.1
          · rw [ab_w1e]; exact congrArg nI (by simp)
          · rw [ab_w1k h2, ab_w1n (by decide), ab_w1n (by decide)]; exact h35 q h1 h2
        · rw [if_neg c4] at next
          exact Ok.neg (fun q => c4 ((b_0 (g3 _)).mp q)) (next h hz hfr h35)
    · rw [if_neg c1] at next
      exact Ok.neg (fun q => c1 ((b_0 (g3 _)).mp q)) (next h hz hfr h35)
