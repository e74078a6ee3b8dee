/-! moor: the class reads the lines of laws. -/
theorem pokL_t {T : Nat → Nat} {n P : Nat} {y : PsT × DrT} {h h1 : abJ} {r : Int32 × abJ} (a : fDr h h1) (b : pokL T n P y h1 r) : pokL T n P y h r := ⟨fDr_t a b.1, b.2⟩
theorem c_seqL {T : Nat → Nat} {n P : Nat} {s1 s2 : PsT} {x x' : DrT} {h : abJ} {o : Option (Int32 × abJ)} {G : Int32 × abJ → Option (Int32 × abJ)} (h1 : Ok o (pok T n s1 h)) (hx : s1.1 ≠ none → s2 = s1) (h2 : ∀ r : Int32 × abJ, s1.1 = none → PC T n s1 r.2 → fL h r.2 → Ok (G r) (pokL T n P (s2, if s2.1 = none then x' else x) r.2)) : Ok (o.bind (fun r => if r.1 = 0 then some (0, r.2) else G r)) (pokL T n P (s2, if s2.1 = none then x' else x) h) := by
  refine Ok.bind h1 (fun r hr => ?_)
  cases e : s1.1 with
  | none =>
    obtain ⟨q1, q2⟩ := hr.2.1 e
    rw [q1]
    exact Ok.neg (by decide) ((h2 r e q2 hr.1).mono (fun r' hr' => pokL_t (fDr_L hr.1) hr'))
  | some y =>
    obtain ⟨q1, q2, q3⟩ := hr.2.2 y e
    have hne : s1.1 ≠ none := by rw [e]; exact fun w => by cases w
    rw [q1, hx hne, if_neg hne]
    refine Ok.pos rfl (Ok.some ⟨fDr_L hr.1, fun w => absurd w hne, fun z hz => ?_⟩)
    rw [show (s1, x).1.1 = s1.1 from rfl, e] at hz
    have hz := Option.some.inj hz
    subst hz
    exact ⟨rfl, q2, q3⟩
theorem c_rTurns {T : Nat → Nat} {n P : Nat} {s : PsT} {x : DrT} {h : abJ} (hs : s.1 = none) (hP : PC T n s h) (hD : DC P x h) : Ok (fX6_readTurns h) (pokL T n P ((pLv (kdP T n) (kN T n) (kVl T n) 6).1 (pE (kdP T n) (kN T n) 31 s), if ((pLv (kdP T n) (kN T n) (kVl T n) 6).1 (pE (kdP T n) (kN T n) 31 s)).1 = none then (dN x, dH x, dR x, dL x, dA x, dW x, dF x, some (s.2.2.length, ((pLv (kdP T n) (kN T n) (kVl T n) 6).1 (pE (kdP T n) (kN T n) 31 s)).2.2.length - s.2.2.length), dK x) else x) h) := by
  have t10 : crd T n (fX6_take 1000010) (pE (kdP T n) (kN T n) 31) := c_take2 (j := 10) (by omega) (by omega)
  have g := (gr_Lv (kgn T n) 6).1
  have cs : crd T n (fX6_readSum 0) (pLv (kdP T n) (kN T n) (kVl T n) 6).1 := (c_lv 6 0 55 rfl).1
  unfold fX6_readTurns
  rw [hP.2.2.2.1]
  refine c_seqL (t10 s h hs hP) (fun w => g.1 _ w) (fun r e q1 q2 => ?_)
  refine c_seqL (cs _ r.2 e q1) (fun _ => rfl) (fun r3 e3 q3 q4 => ?_)
  have hw := (hP.2.2.2.2.1)
  rw [if_pos e3, ab_w1n (show 9 ≠ 5 by decide), q3.2.2.2.1]
  have gs := slk_g (g.2 _ e q1.2.2.1 e3)
  have ep := pE_n e
  have lc : (pE (kdP T n) (kN T n) 31 s).2.2 = s.2.2 := by rw [ep.2.2]; rfl
  obtain ⟨d0, d1, d2, d3, d4, d5, d6, d7, d8, d9, d10⟩ := fL_DC hD (fL_t q2 q4)
  have hle : s.2.2.length ≤ ((pLv (kdP T n) (kN T n) (kVl T n) 6).1 (pE (kdP T n) (kN T n) 31 s)).2.2.length := by
    obtain ⟨_, _, l, a3, _, _⟩ := g.2 _ e q1.2.2.1 e3
    rw [a3, List.length_append, lc]; omega
  refine Ok.some ⟨fDr_w (fDr_w (fDr_r _) (by simp)) (by simp), fun _ => ⟨rfl, PC_w (PC_w q3 (by simp)) (by simp), ?_⟩, fun y hy => ?_⟩
  · refine ⟨?_, ?_, ?_, fun p hp => ?_, fun p r' hp hr => ?_, ⟨?_, ?_⟩, ?_, ?_, ?_, ?_, ?_⟩
    · rw [ab_w1k (by decide), ab_w1k (by decide)]; exact d0
    · rw [ab_w1k (by decide), ab_w1k (by decide)]; exact d1
    · rw [ab_w1k (by decide), ab_w1k (by decide)]; exact d2
    · rw [ab_w1n (by decide), ab_w1n (by decide)]; exact d3 p hp
    · rw [ab_w1n (by decide), ab_w1n (by decide)]; exact d4 p r' hp hr
    · rw [ab_w1k (by decide), ab_w1e]
    · rw [ab_w1e]; exact congrArg nI (show _ = s.2.2.length + (_ - s.2.2.length) by omega)
    · rw [ab_w1k (by decide), ab_w1k (by decide), ab_w1k (by decide), ab_w1k (by decide)]; exact d6
    · rw [ab_w1n (by decide), ab_w1n (by decide)]; exact d7
    · rw [ab_w1n (by decide), ab_w1n (by decide)]; exact d8
    · rw [ab_w1n (by decide), ab_w1n (by decide)]; exact d9
    · rw [ab_w1n (by decide), ab_w1n (by decide)]; exact d10
  · rw [show ((pLv (kdP T n) (kN T n) (kVl T n) 6).1 (pE (kdP T n) (kN T n) 31 s), _).1.1 = ((pLv (kdP T n) (kN T n) (kVl T n) 6).1 (pE (kdP T n) (kN T n) 31 s)).1 from rfl, e3] at hy; cases hy
theorem c_rSticks {T : Nat → Nat} {n P : Nat} {s : PsT} {x : DrT} {h : abJ} (hs : s.1 = none) (hP : PC T n s h) (hD : DC P x h) : Ok (fX6_readSticks h) (pokL T n P ((pLv (kdP T n) (kN T n) (kVl T n) 6).2.1 (pE (kdP T n) (kN T n) 31 s), if ((pLv (kdP T n) (kN T n) (kVl T n) 6).2.1 (pE (kdP T n) (kN T n) 31 s)).1 = none then (dN x, dH x, dR x, dL x, dA x, dW x, dF x, dT x, some (s.2.2.length, ((pLv (kdP T n) (kN T n) (kVl T n) 6).2.1 (pE (kdP T n) (kN T n) 31 s)).2.2.length - s.2.2.length)) else x) h) := by
  have t10 : crd T n (fX6_take 1000010) (pE (kdP T n) (kN T n) 31) := c_take2 (j := 10) (by omega) (by omega)
  have g := (gr_Lv (kgn T n) 6).2.1
  have cs : crd T n (fX6_readTruth 0) (pLv (kdP T n) (kN T n) (kVl T n) 6).2.1 := (c_lv 6 0 51 rfl).2.1
  unfold fX6_readSticks
  rw [hP.2.2.2.1]
  refine c_seqL (t10 s h hs hP) (fun w => g.1 _ w) (fun r e q1 q2 => ?_)
  refine c_seqL (cs _ r.2 e q1) (fun _ => rfl) (fun r3 e3 q3 q4 => ?_)
  have hw := (hP.2.2.2.2.1)
  rw [if_pos e3, ab_w1n (show 9 ≠ 5 by decide), q3.2.2.2.1]
  have gs := slk_g (g.2 _ e q1.2.2.1 e3)
  have ep := pE_n e
  have lc : (pE (kdP T n) (kN T n) 31 s).2.2 = s.2.2 := by rw [ep.2.2]; rfl
  obtain ⟨d0, d1, d2, d3, d4, d5, d6, d7, d8, d9, d10⟩ := fL_DC hD (fL_t q2 q4)
  have hle : s.2.2.length ≤ ((pLv (kdP T n) (kN T n) (kVl T n) 6).2.1 (pE (kdP T n) (kN T n) 31 s)).2.2.length := by
    obtain ⟨_, _, l, a3, _, _⟩ := g.2 _ e q1.2.2.1 e3
    rw [a3, List.length_append, lc]; omega
  refine Ok.some ⟨fDr_w (fDr_w (fDr_r _) (by simp)) (by simp), fun _ => ⟨rfl, PC_w (PC_w q3 (by simp)) (by simp), ?_⟩, fun y hy => ?_⟩
  · refine ⟨?_, ?_, ?_, fun p hp => ?_, fun p r' hp hr => ?_, ?_, ⟨?_, ?_⟩, ?_, ?_, ?_, ?_⟩
    · rw [ab_w1k (by decide), ab_w1k (by decide)]; exact d0
    · rw [ab_w1k (by decide), ab_w1k (by decide)]; exact d1
    · rw [ab_w1k (by decide), ab_w1k (by decide)]; exact d2
    · rw [ab_w1n (by decide), ab_w1n (by decide)]; exact d3 p hp
    · rw [ab_w1n (by decide), ab_w1n (by decide)]; exact d4 p r' hp hr
    · rw [ab_w1k (by decide), ab_w1k (by decide), ab_w1k (by decide), ab_w1k (by decide)]; exact d5
    · rw [ab_w1k (by decide), ab_w1e]
    · rw [ab_w1e]; exact congrArg nI (show _ = s.2.2.length + (_ - s.2.2.length) by omega)
    · rw [ab_w1n (by decide), ab_w1n (by decide)]; exact d7
    · rw [ab_w1n (by decide), ab_w1n (by decide)]; exact d8
    · rw [ab_w1n (by decide), ab_w1n (by decide)]; exact d9
    · rw [ab_w1n (by decide), ab_w1n (by decide)]; exact d10
  · rw [show ((pLv (kdP T n) (kN T n) (kVl T n) 6).2.1 (pE (kdP T n) (kN T n) 31 s), _).1.1 = ((pLv (kdP T n) (kN T n) (kVl T n) 6).2.1 (pE (kdP T n) (kN T n) 31 s)).1 from rfl, e3] at hy; cases hy
