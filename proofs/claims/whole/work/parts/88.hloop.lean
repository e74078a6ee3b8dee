/-! hands: the class's loops. -/
theorem c_goOnR {m : MoT} {f v W : Nat} {h : abJ} (hO : MO m) (hf : f < 10) (hv : SV m v) (hr : rs m (v % 6) = true) (hM : cM m 1 h) (hK : cK m h) (hR : rdy m f h) : ∀ (k n r : Nat), r + k = mR m (v % 6) → k < n → fX8_goOnFrom_L37 n (nI f) (nI W) (nI (v % 6)) (nI (v / 6)) (nI (mR m (v % 6))) (nI r) h = some h := by
  have h3 := hO.2.2.2.2.1 (v % 6)
  have hv4 := SV_lt hO hv
  have h6 := hO.2.1
  intro k
  induction k with
  | zero =>
    intro n r hrk hn
    obtain ⟨n, rfl⟩ : ∃ n0, n = n0 + 1 := ⟨n - 1, by omega⟩
    rw [fX8_goOnFrom_L37, if_pos (by rw [nI_leI (by omega) (by omega)]; omega)]
  | succ k ih =>
    intro n r hrk hn
    obtain ⟨n, rfl⟩ : ∃ n0, n = n0 + 1 := ⟨n - 1, by omega⟩
    have es : SV m (6 * pt (v / 6) (v % 6) r + v % 6) := by
      refine ⟨?_, ?_⟩
      · rw [show (6 * pt (v / 6) (v % 6) r + v % 6) % 6 = v % 6 by omega]; exact hv.1
      · rw [show (6 * pt (v / 6) (v % 6) r + v % 6) / 6 = pt (v / 6) (v % 6) r by omega]
        exact AV_pt hO hv.2 (by omega)
    have en : nx m f (6 * pt (v / 6) (v % 6) r + v % 6) = none := by
      unfold nx
      rw [show (6 * pt (v / 6) (v % 6) r + v % 6) % 6 = v % 6 by omega, hr, if_pos rfl]
    rw [fX8_goOnFrom_L37, if_neg (by rw [nI_leI (by omega) (by omega)]; omega), c_withArm h (by omega) (by omega), ab_bindS, show (6 : Int32) = nI 6 from rfl, pk_mul, nI_add, Nat.mul_comm (pt (v / 6) (v % 6) r) 6, c_nextStand hO hM hK hR hf es, en, ab_bindS, if_pos (by decide)]
    unfold fX8_goOnFrom_J224
    rw [nI_1]
    exact ih n (r + 1) (by omega) (by omega)
theorem c_goF {m : MoT} {f s T hd th E w v : Nat} {Z : List Nat} {D : Nat → Nat} {z : HzT} {h : abJ} (hO : MO m) (hf : f < 10) (hM : cM m 1 h) (hK : cK m h) (hR : rdy m f h) (hA : HA m f s T hd th E w Z D z (fun u q => u ≠ v ∨ q < 0)) (hv : v ∈ Z) (hD : D v = 10000 * T + w) (hp : ∃ k, pw m f s k (D v) v) (hz : w + 1 ≤ Z.length) (hg : gz m z h) (h10 : h.1 35 10 = nI w) : Ok (fX8_goOnFrom (nI f) (nI v) h) (fun h' => ∃ z', HA m f s T hd th E w Z D z' (fun _ _ => True) ∧ gz m z' h' ∧ fr [30, 31, 35, 36] [] h h' ∧ ∀ q, q ≠ 12 → q ≠ 14 → h'.1 35 q = h.1 35 q) := by
  have hvs := hA.1.2.2.2.2.2.2.2.2.2 v hv
  have hv4 := SV_lt hO hvs
  have h3 := hO.2.2.2.2.1 (v % 6)
  have hzl := HB_zl hO hA.1
  unfold fX8_goOnFrom
  rw [show (6 : Int32) = nI 6 from rfl, pk_div (by omega) (by omega) (by omega), pk_mul, k_rm, c_roadsOf hO hM (by omega), ab_bindS, h10, nI_1, show (8192 : Int32) = nI 8192 from rfl, pk_mul]
  by_cases cr : rs m (v % 6) = true
  · have := c_goOnR (W := (w + 1) * 8192) hO hf hvs cr hM hK hR (mR m (v % 6)) ab_N 0 (by omega) (by unfold ab_N; omega)
    refine Ok.of this ⟨z, ⟨hA.1, hA.2.1, HW_w hA.2.2 (fun u r he _ => ?_)⟩, hg, fr_r _ _ _, fun q _ _ => rfl⟩
    refine Or.inl (fun e => ?_)
    have := he.2.1
    rw [e, cr] at this
    cases this
  · have cr' : rs m (v % 6) = false := by simpa using cr
    refine (c_goOn37 (W := w + 1) hO hf hvs cr' hM hK hR (mR m (v % 6)) ab_N 0 z h (by omega) (by unfold ab_N; omega) (fun j hj => ?_) hg (fr_r _ _ _) (fun q _ _ => rfl)).mono (fun h' hr => ⟨_, ?_, hr⟩)
    · exact HB_GB hO (HA_gfo hO hvs cr' hv hD hp hz j 0 z (by omega) hA).1
    · have := HA_gfo hO hvs cr' hv hD hp hz (mR m (v % 6)) 0 z (by omega) hA
      refine ⟨this.1, this.2.1, HW_w this.2.2 (fun u r he _ => ?_)⟩
      by_cases e : u = v
      · have := he.2.2
        rw [e] at this
        exact Or.inr (by omega)
      · exact Or.inl e
/-- what a round says -/
def rTo (m : MoT) (f s g T E : Nat) (h0 : abJ) (r : Int32 × abJ) : Prop := fr [30, 31, 35, 36] [] h0 r.2 ∧ r.2.1 35 9 = nI T ∧
  ((r.1 = 1 ∧ ∃ w, LW m f s g (10000 * T + w) ∧ w < 10000 ∧ r.2.1 35 10 = nI w) ∨
   (r.1 = 0 ∧ ∃ Z D z w, HA m f s T z.2.1.length E E w Z D z (fun _ _ => True) ∧ (∀ u, u ∈ Z → u % 6 ≠ g) ∧ gz m z r.2 ∧ r.2.1 35 13 = nI E))
theorem c_rT18 {m : MoT} {f s g T E th0 : Nat} {h0 : abJ} (hO : MO m) (hf : f < 10) (hgg : g < 6) (hT : T ≤ 4374) (hM0 : cM m 1 h0) (hK0 : cK m h0) (hR0 : rdy m f h0) : ∀ (k n i hd th w : Nat) (Z : List Nat) (D : Nat → Nat) (z : HzT) (h : abJ), i + k = 8749 → k < n → i + th0 = hd + th → HA m f s T hd th E w Z D z (fun _ _ => True) → (∀ u, u ∈ Z → u % 6 ≠ g) → gz m z h → h.1 35 11 = nI hd → h.1 35 13 = nI th → h.1 35 9 = nI T → fr [30, 31, 35, 36] [] h0 h → Ok (fX8_reachTurned_L18 n (nI f) (nI g) (nI E) (nI i) h) (rTo m f s g T E h0) := by
  intro k
  induction k with
  | zero =>
    intro n i hd th w Z D z h hi hn hit hA hZ hg h11 h13 h9 hfr
    obtain ⟨n, rfl⟩ : ∃ n0, n = n0 + 1 := ⟨n - 1, by omega⟩
    have hG := HB_GB hO hA.1
    have hS1 := hA.2.1.1
    have e1 : hd = z.2.1.length := by have := hG.2.2.2.1; have := hG.2.2.2.2; omega
    have e2 : th = E := by have := hG.2.2.2.1; have := hG.2.2.2.2; omega
    subst e1 e2
    rw [fX8_reachTurned_L18]
    exact Ok.pos (by rw [show (8748 : Int32) = nI 8748 from rfl, nI_ltI (by omega) (by omega)]; omega) (Ok.some ⟨hfr, h9, Or.inr ⟨rfl, Z, D, z, w, hA, hZ, hg, h13⟩⟩)
  | succ k ih =>
    intro n i hd th w Z D z h hi hn hit hA hZ hg h11 h13 h9 hfr
    obtain ⟨n, rfl⟩ : ∃ n0, n = n0 + 1 := ⟨n - 1, by omega⟩
    have hG := HB_GB hO hA.1
    have g4 := hG.2.2.2.1
    have g5 := hG.2.2.2.2
    have hS1 := hA.2.1.1
    have hzl := HB_zl hO hA.1
    have hM := cM_fr hM0 hfr (by decide) (by decide) (by decide) (by decide)
    have hK := cK_fr hK0 hfr (by decide) (by decide)
    have hR := rdy_fr hR0 hfr (by decide)
    have body : (hd < z.2.1.length ∨ th < E) → Ok (fX8_reachTurned_J45 (fun y1 y2 y3 y4 h => fX8_reachTurned_L18 n y1 y2 y3 y4 h) (nI f) (nI g) (nI E) (nI i) h) (rTo m f s g T E h0) := by
      intro hne
      have bP : hd < z.2.1.length → z.2.1.getD hd 0 < 2 ^ 31 := fun q => by
        have := hA.2.1.2.1 hd (Nat.le_refl _) q
        omega
      have bQ : th < E → z.2.2.getD th 0 < 2 ^ 31 := fun q => by
        have := hA.2.1.2.2.2.1 th (Nat.le_refl _) q
        omega
      have tk := c_take (h := h) (hd := hd) (tl := z.2.1.length) (th := th) (E := E) (p := z.2.1.getD hd 0) (q := z.2.2.getD th 0) h11 hg.2.2.2.1 h13 g4 (by omega) (fun q => ⟨hg.2.1 hd q, bP q⟩) (fun q => ⟨hg.2.2.1 th (by omega), bQ q⟩) hS1.1 hS1.2.1 hne
      have pick : ∃ x hd' th' h1, fX8_takeNearest (nI E) h = some (nI x, h1) ∧ pops hd th hd' th' E x z.2.1 z.2.2 ∧ pmin hd th E x z.2.1 z.2.2 ∧ x < 2 ^ 31 ∧ fr [35] [] h h1 ∧ h1.1 35 11 = nI hd' ∧ h1.1 35 13 = nI th' ∧ (∀ q, q ≠ 11 → q ≠ 13 → h1.1 35 q = h.1 35 q) := by
        by_cases c : z.2.1.length ≤ hd ∨ (th < E ∧ z.2.2.getD th 0 / 8192 < z.2.1.getD hd 0 / 8192)
        · rw [if_pos c] at tk
          have hth : th < E := by omega
          refine ⟨_, hd, th + 1, _, tk, Or.inr ⟨rfl, rfl, hth, rfl⟩, ⟨fun j h1 h2 => ?_, fun j h1 h2 => ?_⟩, bQ hth, fr_w (fr_r _ _ _) (by simp), ?_, ab_w1e .., fun q h1 h2 => ab_w1k h2⟩
          · have := hA.2.1.2.2.1 hd j (Nat.le_refl _) h1 h2
            omega
          · exact hA.2.1.2.2.2.2.1 th j (Nat.le_refl _) h1 h2
          · rw [ab_w1k (by decide)]; exact h11
        · rw [if_neg c] at tk
          have hhd : hd < z.2.1.length := by omega
          refine ⟨_, hd + 1, th, _, tk, Or.inl ⟨rfl, rfl, hhd, rfl⟩, ⟨fun j h1 h2 => ?_, fun j h1 h2 => ?_⟩, bP hhd, fr_w (fr_r _ _ _) (by simp), ab_w1e .., ?_, fun q h1 h2 => ab_w1k h1⟩
          · exact hA.2.1.2.2.1 hd j (Nat.le_refl _) h1 h2
          · have := hA.2.1.2.2.2.2.1 th j (Nat.le_refl _) h1 h2
            omega
          · rw [ab_w1k (by decide)]; exact h13
      obtain ⟨x, hd', th', h1, tk1, hp, hm, hx31, hf1, e11, e13, e35⟩ := pick
      have hpb := pop_b hp hA.2.1
      obtain ⟨hvs, q2, q3⟩ := pop_hb hS1.2.2.1 hA.1 hp
      have hv4 := SV_lt hO hvs
      have hi' : i + 1 + th0 = hd' + th' := by rcases hp with ⟨e1, e2, _, _⟩ | ⟨e1, e2, _, _⟩ <;> omega
      have hg1 : gz m z h1 := ⟨fun u hu => by rw [hf1.1 31 (by decide)]; exact hg.1 u hu, arr_fr hg.2.1 hf1 (by decide), arr_fr hg.2.2.1 hf1 (by decide), by rw [e35 12 (by decide) (by decide)]; exact hg.2.2.2.1, by rw [e35 14 (by decide) (by decide)]; exact hg.2.2.2.2⟩
      have hfr1 : fr [30, 31, 35, 36] [] h0 h1 := fr_t hfr (fr_m hf1 (by simp) (by simp))
      have e9 : h1.1 35 9 = nI T := by rw [e35 9 (by decide) (by decide)]; exact h9
      unfold fX8_reachTurned_J45
      refine Ok.bindE tk1 ?_
      show Ok (if nI x - nI x / 8192 * 8192 < 0 then _ else _) _
      rw [show (8192 : Int32) = nI 8192 from rfl, pk_div hx31 (by omega) (by omega), pk_mul, k_rm, nI_clamp (by omega), hg1.1 _ hvs, show (1 : Int32) = nI 1 from rfl]
      refine Ok.neg (by rw [show (0 : Int32) = nI 0 from rfl, nI_ltI (by omega) (by omega)]; omega) (Ok.neg (by rw [show (4374 : Int32) = nI 4374 from rfl, nI_leI (by omega) (by omega)]; omega) (Ok.ask (ixN (by omega) (by omega)) ?_))
      by_cases c1 : z.1 (x % 8192) &&& 1 = 0
      · have hnZ := (hA.1.2.1 _ hvs).mp c1
        refine Ok.pos ((b_0 (hG.2.2.1 _)).mpr c1) (Ok.ask (ixN (by omega) (by omega)) (Ok.ask (ixN (by omega) (by omega)) ?_))
        rw [show (6 : Int32) = nI 6 from rfl, pk_div (show x % 8192 < 2 ^ 31 by omega) (by omega) (by omega), pk_mul, k_rm, b_or]
        have hin := pop_in (T := T) hS1.2.2.1 hp
        obtain ⟨k0, hk0⟩ := hA.2.2.2.1 _ _ hin
        by_cases cg : x % 8192 % 6 = g
        · refine Ok.pos (by rw [cg]) (Ok.some ⟨fr_w (fr_w hfr1 (by simp)) (by simp), ?_, Or.inl ⟨rfl, x / 8192, ⟨fun _ => ⟨k0, _, hk0, cg⟩, fun k X u hpw hu => ?_, by omega⟩, by omega, ab_w1e ..⟩⟩)
          · rw [ab_w1k (by decide), ab_w1n (by decide)]; exact e9
          · rcases HW_way hA.2.2 hpw with ⟨p1, _⟩ | ⟨t, X', p1, p2⟩
            · exact absurd hu (hZ u p1)
            · have := min_wg hA.2.1 (by omega) hpb.2 hm p2
              omega
        · refine Ok.neg (by rw [nI_eq (by omega) (by omega)]; exact cg) ?_
          have hA2 := HA_pop_n hA hp hm hnZ
          have ez : fr [30, 31, 35, 36] [] h1 (ab_wI (ab_wI h1 31 (x % 8192) (nI (z.1 (x % 8192) ||| 1))) 35 10 (nI (x / 8192))) := fr_w (fr_w (fr_r _ _ _) (by simp)) (by simp)
          have hfr2 := fr_t hfr1 ez
          have key := c_goF (h := ab_wI (ab_wI h1 31 (x % 8192) (nI (z.1 (x % 8192) ||| 1))) 35 10 (nI (x / 8192))) hO hf (cM_fr hM0 hfr2 (by decide) (by decide) (by decide) (by decide)) (cK_fr hK0 hfr2 (by decide) (by decide)) (rdy_fr hR0 hfr2 (by decide)) hA2 (by simp) (ups_s ..) ⟨k0, by rw [ups_s]; exact hk0⟩ (by rw [List.length_cons]; omega) ⟨fun u hu => ?_, fun j hj => ?_, fun j hj => ?_, ?_, ?_⟩ (ab_w1e ..)
          · refine Ok.bind key (fun h' hr => ?_)
            obtain ⟨z', r1, r2, r3, r4⟩ := hr
            unfold fX8_reachTurned_J127
            rw [nI_1]
            refine ih n (i + 1) hd' th' (x / 8192) _ _ z' h' (by omega) (by omega) hi' r1 (fun u hu => ?_) r2 ?_ ?_ ?_ (fr_t hfr2 r3)
            · rcases List.mem_cons.mp hu with e | e
              · rw [e]; exact cg
              · exact hZ u e
            · rw [r4 11 (by decide) (by decide), ab_w1k (by decide), ab_w1n (by decide)]; exact e11
            · rw [r4 13 (by decide) (by decide), ab_w1k (by decide), ab_w1n (by decide)]; exact e13
            · rw [r4 9 (by decide) (by decide), ab_w1k (by decide), ab_w1n (by decide)]; exact e9
          · rw [ab_w1n (by decide)]
            by_cases e : u = x % 8192
            · rw [e, ab_w1e]; exact congrArg nI (ups_s ..).symm
            · rw [ab_w1k e, hg1.1 u hu]; exact congrArg nI (ups_n e).symm
          · rw [ab_w1n (by decide), ab_w1n (by decide)]; exact hg1.2.1 j hj
          · rw [ab_w1n (by decide), ab_w1n (by decide)]; exact hg1.2.2.1 j hj
          · rw [ab_w1k (by decide), ab_w1n (by decide)]; exact hg1.2.2.2.1
          · rw [ab_w1k (by decide), ab_w1n (by decide)]; exact hg1.2.2.2.2
      · have hinZ : x % 8192 ∈ Z := Classical.byContradiction (fun q => c1 ((hA.1.2.1 _ hvs).mpr q))
        refine Ok.neg (fun q => c1 ((b_0 (hG.2.2.1 _)).mp q)) ?_
        unfold fX8_reachTurned_J127
        rw [nI_1]
        exact ih n (i + 1) hd' th' (x / 8192) Z D z h1 (by omega) (by omega) hi' (HA_pop_s hA hp hm hinZ) hZ hg1 e11 e13 e9 hfr1
    rw [fX8_reachTurned_L18, h11, h13, hg.2.2.2.1]
    refine Ok.neg (by rw [show (8748 : Int32) = nI 8748 from rfl, nI_ltI (by omega) (by omega)]; omega) ?_
    by_cases c1 : hd < z.2.1.length
    · exact Ok.pos (by rw [nI_ltI (by omega) (by omega)]; exact c1) (body (Or.inl c1))
    · refine Ok.neg (by rw [nI_ltI (by omega) (by omega)]; exact c1) ?_
      by_cases c2 : E ≤ th
      · have e1 : hd = z.2.1.length := by omega
        have e2 : th = E := by omega
        subst e1 e2
        exact Ok.pos (Int32.le_refl _) (Ok.some ⟨hfr, h9, Or.inr ⟨rfl, Z, D, z, w, hA, hZ, hg, h13⟩⟩)
      · exact Ok.neg (by rw [nI_leI (by omega) (by omega)]; exact c2) (body (Or.inr (by omega)))
def rHo (m : MoT) (f s g : Nat) (h0 : abJ) (r : Int32 × abJ) : Prop := fr [30, 31, 35, 36] [] h0 r.2 ∧
  ((r.1 = 1 ∧ ∃ T w, LW m f s g (10000 * T + w) ∧ w < 10000 ∧ T ≤ 4374 ∧ r.2.1 35 9 = nI T ∧ r.2.1 35 10 = nI w) ∨ (r.1 = 0 ∧ LW m f s g 268435456))
theorem c_rH25 {m : MoT} {f s g : Nat} {h0 : abJ} (hO : MO m) (hf : f < 10) (hgg : g < 6) (hM0 : cM m 1 h0) (hK0 : cK m h0) (hR0 : rdy m f h0) : ∀ (k n T th : Nat) (Z : List Nat) (D : Nat → Nat) (b : Nat → Nat) (Q : List Nat) (h : abJ), T + k = 4375 → k < n → T ≤ th → HA m f s T 0 th Q.length 0 Z D (b, [], Q) (fun _ _ => True) → (∀ u, u ∈ Z → u % 6 ≠ g) → (∀ u, SV m u → h.1 31 u = nI (b u)) → arr 36 Q h → h.1 35 14 = nI Q.length → h.1 35 13 = nI th → fr [30, 31, 35, 36] [] h0 h → Ok (fX8_reachByHand_L25 n (nI f) (nI g) (nI T) h) (rHo m f s g h0) := by
  intro k
  have noway : ∀ {T th : Nat} {Z : List Nat} {D b : Nat → Nat} {Q : List Nat}, HA m f s T 0 th Q.length 0 Z D (b, [], Q) (fun _ _ => True) → (∀ u, u ∈ Z → u % 6 ≠ g) → Q.length ≤ th → LW m f s g 268435456 := by
    intro T th Z D b Q hA hZ hQ
    refine ⟨fun q => absurd q (Nat.lt_irrefl _), fun k X u hpw hu => ?_, Nat.le_refl _⟩
    rcases HW_way hA.2.2 hpw with ⟨p1, _⟩ | ⟨t, X', p1, p2⟩
    · exact absurd hu (hZ u p1)
    · rcases p2 with ⟨i, a, b, c, d⟩ | ⟨i, a, b, c, d⟩
      · exact absurd b (Nat.not_lt_zero _)
      · have b : i < Q.length := b
        omega
  induction k with
  | zero =>
    intro n T th Z D b Q h hT hn hTt hA hZ hb hq h14 h13 hfr
    obtain ⟨n, rfl⟩ : ∃ n0, n = n0 + 1 := ⟨n - 1, by omega⟩
    have hQ : Q.length ≤ 4375 := (HB_GB hO hA.1).2.2.2.2
    rw [fX8_reachByHand_L25]
    exact Ok.pos (by rw [show (4374 : Int32) = nI 4374 from rfl, nI_ltI (by omega) (by omega)]; omega) (Ok.some ⟨hfr, Or.inr ⟨rfl, noway hA hZ (by omega)⟩⟩)
  | succ k ih =>
    intro n T th Z D b Q h hT hn hTt hA hZ hb hq h14 h13 hfr
    obtain ⟨n, rfl⟩ : ∃ n0, n = n0 + 1 := ⟨n - 1, by omega⟩
    have hQ : Q.length ≤ 4375 := (HB_GB hO hA.1).2.2.2.2
    have hth : th ≤ Q.length := hA.2.1.1.2.1
    rw [fX8_reachByHand_L25, h14, h13]
    refine Ok.neg (by rw [show (4374 : Int32) = nI 4374 from rfl, nI_ltI (by omega) (by omega)]; omega) ?_
    by_cases c : Q.length ≤ th
    · exact Ok.pos (by rw [nI_leI (by omega) (by omega)]; exact c) (Ok.some ⟨hfr, Or.inr ⟨rfl, noway hA hZ c⟩⟩)
    · refine Ok.neg (by rw [nI_leI (by omega) (by omega)]; exact c) ?_
      unfold fX8_reachTurned
      rw [ab_w1k (show 14 ≠ 9 by decide), h14, show (0 : Int32) = nI 0 from rfl]
      refine Ok.bind (c_rT18 (th0 := th) (s := s) hO hf hgg (by omega) hM0 hK0 hR0 8749 ab_N 0 0 th 0 Z D (b, [], Q) _ (by omega) (by unfold ab_N; omega) (by omega) hA hZ ⟨fun u hu => ?_, fun i hi => absurd hi (Nat.not_lt_zero _), fun i hi => ?_, ab_w1e .., ?_⟩ ?_ ?_ ?_ (fr_w (fr_w (fr_w hfr (by simp)) (by simp)) (by simp))) (fun r hr => ?_)
      · rw [ab_w1n (by decide), ab_w1n (by decide), ab_w1n (by decide)]; exact hb u hu
      · rw [ab_w1n (by decide), ab_w1n (by decide), ab_w1n (by decide)]; exact hq i hi
      · rw [ab_w1k (by decide), ab_w1k (by decide), ab_w1k (by decide)]; exact h14
      · rw [ab_w1k (by decide), ab_w1e]
      · rw [ab_w1k (by decide), ab_w1k (by decide), ab_w1k (by decide)]; exact h13
      · rw [ab_w1k (by decide), ab_w1k (by decide), ab_w1e]
      · obtain ⟨r1, r2, r3⟩ := hr
        rcases r3 with ⟨e, w, l1, l2, l3⟩ | ⟨e, Z', D', z', w', l1, l2, l3, l4⟩
        · rw [e]
          exact Ok.neg (by decide) (Ok.some ⟨r1, Or.inl ⟨rfl, T, w, l1, l2, by omega, r2, l3⟩⟩)
        · rw [e]
          refine Ok.pos (by decide) ?_
          rw [nI_1]
          exact ih n (T + 1) Q.length Z' D' z'.1 z'.2.2 r.2 (by omega) (by omega) (by omega) (HA_next hO l1) l2 l3.1 l3.2.2.1 l3.2.2.2.2 l4 r1
theorem call_hands (x y : Int32) : call2 (fX11_hands x y) (fX12_hands x y) := by
  refine post_ro (c := fun x => fX11_hands x y) (r := fun x => fX12_hands x y) x (v0 := -2) (fun A h x hW hR hx => ?_) (fun A h x hW hR hx => ?_) (fun A p hW hp => ?_)
  · show fX11_hands x y h = _
    unfold fX11_hands
    rw [c_has_out hR.1 hx, ab_bindS]
    rfl
  · show fX12_hands x y h = _
    unfold fX12_hands
    generalize e0 : ab_wI h 64 0 0 = h0; have f0 : frR sk1 sc1 [80, 81] h h0 := (by subst e0; exact frR_64 (frR_r _ _ _ _) (by decide)); have hR0 : RR A h0 := (RR_sc hR f0).1
    rw [r_isPost_out hW.1 hR0.1 hx, ab_bindS]
    rfl
  have hO := hW.1
  have h6 := hO.2.1
  by_cases cy : y < nI 0 ∨ nI 1 < y
  · refine ⟨-2, fun h hR => ?_, fun h hR => ?_⟩
    · show Ok (fX11_hands (nI p) y h) _
      unfold fX11_hands
      rw [c_has_in hO hR.1 hp, ab_bindS]
      refine Ok.neg (by decide) ?_
      by_cases c1 : y < 0
      · exact Ok.pos c1 (Ok.some ⟨rfl, fr_r _ _ _⟩)
      · exact Ok.neg c1 (Ok.neg (by rw [Int32.not_le]; exact cy.resolve_left c1) (Ok.some ⟨rfl, fr_r _ _ _⟩))
    · show Ok (fX12_hands (nI p) y h) _
      unfold fX12_hands
      generalize e0 : ab_wI h 64 0 0 = h0; have f0 : frR sk1 sc1 [80, 81] h h0 := (by subst e0; exact frR_64 (frR_r _ _ _ _) (by decide)); have hR0 : RR A h0 := (RR_sc hR f0).1
      rw [r_isPost_in hO hR0.1 hp, ab_bindS]
      refine Ok.neg (by decide) ?_
      rw [r_win h0 (a := nI 0) (b := nI 1) (A := 0) (B := 1) rfl rfl, ab_bindS, decide_eq_true cy]
      exact Ok.pos rfl (Ok.some ⟨rfl, f0⟩)
  have c0 : ¬ y < 0 := fun q => cy (Or.inl q)
  have c1 : y ≤ 1 := Int32.not_lt.mp (fun q => cy (Or.inr q))
  obtain ⟨W, hL⟩ := LW_ex (m := aM A) (f := sF (aS A)) (s := aN A) (p := p) hO (aN_SV hW)
  have hs := aN_SV hW
  have hs4 := SV_lt hO hs
  have h7 := MO_729 hO
  refine ⟨hnv y W, fun h hR => ?_, fun h hR => ?_⟩
  · show Ok (fX11_hands (nI p) y h) _
    unfold fX11_hands
    rw [c_has_in hO hR.1 hp, ab_bindS]
    refine Ok.neg (by decide) (Ok.neg c0 (Ok.pos c1 ?_))
    rw [c_code hR, ab_bindS, hR.2.1.2.2.1]
    have key : Ok (fX8_reachByHand (nI (sF (aS A))) (nI (aN A)) (nI p) h) (rHo (aM A) (sF (aS A)) (aN A) p h) := by
      unfold fX8_reachByHand fX8_clearSeen
      rw [c_armLimit hO hR.1, ab_bindS, show (6 : Int32) = nI 6 from rfl, pk_mul, show (0 : Int32) = nI 0 from rfl]
      refine Ok.bind (Ok.bind (c_fillS h (by omega)) (fun r hr => Ok.some hr)) (fun h1 hr => ?_)
      have f1 : fr [30, 31, 35, 36] [] h (ab_wI (ab_wI (ab_wI h1 36 0 (nI (aN A))) 35 13 (nI 0)) 35 14 1) := fr_w (fr_w (fr_w (fr_m hr.2 (by simp) (by simp)) (by simp)) (by simp)) (by simp)
      refine c_rH25 (s := aN A) hO hW.2.1.2.2 (by omega) hR.1 hR.2.2.1 hR.2.2.2.1 4375 ab_N 0 0 [] (fun _ => 0) (fun _ => 0) [aN A] _ (by omega) (by unfold ab_N; omega) (Nat.le_refl _) (HA_start hO hs) (fun u hu => by simp at hu) (fun u hu => ?_) (fun i hi => ?_) (ab_w1e ..) ?_ f1
      · rw [ab_w1n (by decide), ab_w1n (by decide), ab_w1n (by decide)]
        exact hr.1 u (SV_N hO hu)
      · have hi : i < 1 := hi
        rw [show i = 0 by omega, ab_w1n (by decide), ab_w1n (by decide), ab_w1e]; rfl
      · rw [ab_w1k (by decide), ab_w1e]
    refine Ok.bind key (fun r hr => ?_)
    obtain ⟨r1, r2⟩ := hr
    have f2 : fr sc0 [41] h r.2 := fr_m r1 (by decide) (by simp)
    rcases r2 with ⟨e, T, w, l1, l2, l3, l4, l5⟩ | ⟨e, l1⟩
    · rw [e, l4, l5]
      have eW := LW_u hL l1
      subst eW
      have eh : hnv y (10000 * T + w) = if y = 0 then nI T else nI w := by
        unfold hnv
        rw [if_neg (show ¬ 10000 * T + w = 268435456 by omega), show (10000 * T + w) / 10000 = T by omega, show (10000 * T + w) % 10000 = w by omega]
      rw [eh]
      refine Ok.neg (show ¬ (1 : Int32) = 0 by decide) ?_
      by_cases cz : y = 0
      · rw [if_pos cz, if_pos cz]; exact Ok.some ⟨rfl, f2⟩
      · rw [if_neg cz, if_neg cz]; exact Ok.some ⟨rfl, f2⟩
    · rw [e]
      have eW := LW_u hL l1
      subst eW
      exact Ok.pos rfl (Ok.some ⟨rfl, f2⟩)
  · show Ok (fX12_hands (nI p) y h) _
    unfold fX12_hands
    generalize e0 : ab_wI h 64 0 0 = h0; have f0 : frR sk1 sc1 [80, 81] h h0 := (by subst e0; exact frR_64 (frR_r _ _ _ _) (by decide)); have hR0 : RR A h0 := (RR_sc hR f0).1
    rw [r_isPost_in hO hR0.1 hp, ab_bindS]
    refine Ok.neg (by decide) ?_
    rw [r_win h0 (a := nI 0) (b := nI 1) (A := 0) (B := 1) rfl rfl, ab_bindS, decide_eq_false cy]
    refine Ok.neg (by decide) ?_
    exact r_hands hW hp hL hR0 f0
