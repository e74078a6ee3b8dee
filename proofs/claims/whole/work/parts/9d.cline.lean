/-! moor: the class reads lines. -/
def fDr (h h' : abJ) : Prop := fr [5, 6, 7, 8, 9, 10] [] h h' ∧ ∀ q, q ≠ 2 → q ≠ 6 → q ≠ 7 → q ≠ 8 → q ≠ 9 → q ≠ 10 → q ≠ 11 → h'.1 9 q = h.1 9 q
theorem fDr_r (h : abJ) : fDr h h := ⟨fr_r _ _ _, fun _ _ _ _ _ _ _ _ => rfl⟩
theorem fDr_t {h h1 h2 : abJ} (a : fDr h h1) (b : fDr h1 h2) : fDr h h2 := ⟨fr_t a.1 b.1, fun q w1 w2 w3 w4 w5 w6 w7 => (b.2 q w1 w2 w3 w4 w5 w6 w7).trans (a.2 q w1 w2 w3 w4 w5 w6 w7)⟩
theorem fDr_L {h h' : abJ} (a : fL h h') : fDr h h' := ⟨fr_m a.1 (by simp) (by simp), a.2⟩
theorem fDr_w {h h' : abJ} (a : fDr h h') {o k : Nat} {v : Int32} (ho : o = 5 ∨ o = 6 ∨ o = 7 ∨ o = 10) : fDr h (ab_wI h' o k v) := ⟨fr_w a.1 (by simp; omega), fun q w1 w2 w3 w4 w5 w6 w7 => by rw [ab_w1n (by omega)]; exact a.2 q w1 w2 w3 w4 w5 w6 w7⟩
theorem PC_w {T : Nat → Nat} {n : Nat} {s : PsT} {h : abJ} (hP : PC T n s h) {o k : Nat} {v : Int32} (ho : o = 5 ∨ o = 6 ∨ o = 7 ∨ o = 10) : PC T n s (ab_wI h o k v) := by
  obtain ⟨p1, p2, p3, p4, p5, p6⟩ := hP
  unfold PC TP TC
  rw [ab_w1n (show 9 ≠ o by omega), ab_w1n (show 11 ≠ o by omega), ab_w1n (show 8 ≠ o by omega)]
  exact ⟨p1, p2, p3, p4, p5, p6⟩
/-- a line of the class: its answer, what is told then -/
def pokL (T : Nat → Nat) (n P : Nat) (y : PsT × DrT) (h0 : abJ) (r : Int32 × abJ) : Prop := fDr h0 r.2 ∧ (y.1.1 = none → r.1 = nI 1 ∧ PC T n y.1 r.2 ∧ DC P y.2 r.2) ∧ ∀ x, y.1.1 = some x → r.1 = nI 0 ∧ r.2.1 9 10 = nI x.1 ∧ r.2.1 9 11 = nI x.2
theorem c_takeP {T : Nat → Nat} {n P : Nat} {s : PsT} {h : abJ} (hs : s.1 = none) (hP : PC T n s h) (h5 : h.1 5 0 = nI P) (hp : P < 1000) : Ok (fX6_takePost h) (pokN T n (kVl T n s.2.1) (pT (kdP T n) (kN T n) (kVl T n) 0 P s) h) := by
  unfold fX6_takePost
  rw [h5, show (0 : Int32) = nI 0 from rfl]
  exact Ok.bind (c_takeN hs hP (by omega) hp) (fun r hr => Ok.some hr)
theorem v_n1 {v : Nat} (hv : v < 1000) : ¬ nI v = -1 := fun q => (ab_n_eq (b := 1) (by omega) (by omega) (by omega)).mp q
/-- a number is taken; then something is written -/
theorem c_takeW {T : Nat → Nat} {n P v : Nat} {s2 : PsT} {x x' : DrT} {h : abJ} {o : Option (Int32 × abJ)} {G : Int32 × abJ → Option (Int32 × abJ)} (hv : v < 1000) (ho : Ok o (pokN T n v s2 h)) (hG : ∀ r : Int32 × abJ, s2.1 = none → r.1 = nI v → PC T n s2 r.2 → fL h r.2 → Ok (G r) (fun r' => r'.1 = nI 1 ∧ PC T n s2 r'.2 ∧ DC P x' r'.2 ∧ fDr r.2 r'.2)) : Ok (o.bind (fun r => if r.1 = -1 then some (0, r.2) else G r)) (pokL T n P (s2, if s2.1 = none then x' else x) h) := by
  refine Ok.bind ho (fun r hr => ?_)
  cases e : s2.1 with
  | none =>
    obtain ⟨q1, q2⟩ := hr.2.1 e
    rw [if_pos rfl]
    refine Ok.neg (by rw [q1]; exact v_n1 hv) ((hG r e q1 q2 hr.1).mono (fun r' hr' => ⟨fDr_t (fDr_L hr.1) hr'.2.2.2, fun _ => ⟨hr'.1, hr'.2.1, hr'.2.2.1⟩, fun y hy => ?_⟩))
    rw [show (s2, x').1.1 = s2.1 from rfl, e] at hy; cases hy
  | some y =>
    obtain ⟨q1, q2, q3⟩ := hr.2.2 y e
    rw [if_neg (show ¬ (some y : Option (Nat × Nat)) = none from fun w => by cases w)]
    refine Ok.pos q1 (Ok.some ⟨fDr_L hr.1, fun w => ?_, fun z hz => ?_⟩)
    · rw [show (s2, x).1.1 = s2.1 from rfl, e] at w; cases w
    · rw [show (s2, x).1.1 = s2.1 from rfl, e] at hz
      have hz := Option.some.inj hz
      subst hz
      exact ⟨rfl, q2, q3⟩
theorem c_rHome {T : Nat → Nat} {n P : Nat} {s : PsT} {x : DrT} {h : abJ} (hs : s.1 = none) (hP : PC T n s h) (hD : DC P x h) (hO : DO P x) : Ok (fX6_readHome h) (pokL T n P (pT (kdP T n) (kN T n) (kVl T n) 0 P s, if (pT (kdP T n) (kN T n) (kVl T n) 0 P s).1 = none then (dN x, dH x ||| 2 ^ kVl T n s.2.1, dR x, dL x, dA x, dW x, dF x, dT x, dK x) else x) h) := by
  have hp6 := hO.2.1
  unfold fX6_readHome
  refine c_takeW (kVl_b T n s.2.1) (c_takeP hs hP hD.1 (by omega)) (fun r e q1 q2 q3 => ?_)
  have hv := (pT_n e).2.2.2.1
  have hD1 := fL_DC hD q3
  rw [q1, shl1 (by omega), hD1.2.2.1, b_or]
  refine Ok.some ⟨rfl, PC_w q2 (by simp), ?_, fDr_w (fDr_r _) (by simp)⟩
  obtain ⟨d0, d1, d2, d3, d4, d5, d6, d7, d8, d9, d10⟩ := hD1
  refine ⟨?_, ?_, ab_w1e .., fun p hp => ?_, fun p r' hp hr => ?_, ?_, ?_, ?_, ?_, ?_, ?_⟩
  · rw [ab_w1k (by decide)]; exact d0
  · rw [ab_w1k (by decide)]; exact d1
  · rw [ab_w1n (by decide)]; exact d3 p hp
  · rw [ab_w1n (by decide)]; exact d4 p r' hp hr
  · rw [ab_w1k (by decide), ab_w1k (by decide)]; exact d5
  · rw [ab_w1k (by decide), ab_w1k (by decide)]; exact d6
  · rw [ab_w1n (by decide)]; exact d7
  · rw [ab_w1n (by decide)]; exact d8
  · rw [ab_w1n (by decide)]; exact d9
  · rw [ab_w1n (by decide)]; exact d10
theorem c_rWalker {T : Nat → Nat} {n P : Nat} {s : PsT} {x : DrT} {h : abJ} (hs : s.1 = none) (hP : PC T n s h) (hD : DC P x h) (hO : DO P x) : Ok (fX6_readWalker h) (pokL T n P (pT (kdP T n) (kN T n) (kVl T n) 0 P s, if (pT (kdP T n) (kN T n) (kVl T n) 0 P s).1 = none then (dN x, dH x, dR x, dL x, dA x, kVl T n s.2.1, dF x, dT x, dK x) else x) h) := by
  have hp6 := hO.2.1
  unfold fX6_readWalker
  refine c_takeW (kVl_b T n s.2.1) (c_takeP hs hP hD.1 (by omega)) (fun r e q1 q2 q3 => ?_)
  obtain ⟨d0, d1, d2, d3, d4, d5, d6, d7, d8, d9, d10⟩ := fL_DC hD q3
  refine Ok.some ⟨rfl, PC_w q2 (by simp), ⟨?_, ?_, ?_, fun p hp => ?_, fun p r' hp hr => ?_, ?_, ?_, ?_, ?_, ?_, ?_⟩, fDr_w (fDr_r _) (by simp)⟩
  · rw [ab_w1n (by decide)]; exact d0
  · rw [ab_w1n (by decide)]; exact d1
  · rw [ab_w1n (by decide)]; exact d2
  · rw [ab_w1n (by decide)]; exact d3 p hp
  · rw [ab_w1n (by decide)]; exact d4 p r' hp hr
  · rw [ab_w1n (by decide)]; exact d5
  · rw [ab_w1n (by decide)]; exact d6
  · rw [ab_w1e]; exact q1
  · rw [ab_w1k (by decide)]; exact d8
  · rw [ab_w1k (by decide)]; exact d9
  · rw [ab_w1k (by decide)]; exact d10
theorem c_rFog {T : Nat → Nat} {n P : Nat} {s : PsT} {x : DrT} {h : abJ} (hs : s.1 = none) (hP : PC T n s h) (hD : DC P x h) : Ok (fX6_readFog h) (pokL T n P (pT (kdP T n) (kN T n) (kVl T n) 0 10 s, if (pT (kdP T n) (kN T n) (kVl T n) 0 10 s).1 = none then (dN x, dH x, dR x, dL x, dA x, dW x, kVl T n s.2.1, dT x, dK x) else x) h) := by
  unfold fX6_readFog
  have tk : Ok (fX6_takeNumber 0 9 h) (pokN T n (kVl T n s.2.1) (pT (kdP T n) (kN T n) (kVl T n) 0 10 s) h) := c_takeN (lo := 0) (hx := 10) hs hP (by omega) (by omega)
  refine c_takeW (kVl_b T n s.2.1) tk (fun r e q1 q2 q3 => ?_)
  obtain ⟨d0, d1, d2, d3, d4, d5, d6, d7, d8, d9, d10⟩ := fL_DC hD q3
  refine Ok.some ⟨rfl, PC_w q2 (by simp), ⟨?_, ?_, ?_, fun p hp => ?_, fun p r' hp hr => ?_, ?_, ?_, ?_, ?_, ?_, ?_⟩, fDr_w (fDr_r _) (by simp)⟩
  · rw [ab_w1n (by decide)]; exact d0
  · rw [ab_w1n (by decide)]; exact d1
  · rw [ab_w1n (by decide)]; exact d2
  · rw [ab_w1n (by decide)]; exact d3 p hp
  · rw [ab_w1n (by decide)]; exact d4 p r' hp hr
  · rw [ab_w1n (by decide)]; exact d5
  · rw [ab_w1n (by decide)]; exact d6
  · rw [ab_w1k (by decide)]; exact d7
  · rw [ab_w1k (by decide)]; exact d8
  · rw [ab_w1e]; exact q1
  · rw [ab_w1k (by decide)]; exact d10
