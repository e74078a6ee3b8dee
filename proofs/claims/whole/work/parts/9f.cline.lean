/-! moor: the class ends lines. -/
theorem c_endLn {T : Nat → Nat} {n P : Nat} {s : PsT} {x : DrT} {h : abJ} (hs : s.1 = none) (hP : PC T n s h) (hD : DC P x h) : Ok (fX6_endLine h) (pokL T n P (lnE (kdP T n) (kN T n) (s, x)) h) := by
  have t3 : crd T n (fX6_take 1000003) (pE (kdP T n) (kN T n) 30) := c_take2 (j := 3) (by omega) (by omega)
  unfold fX6_endLine
  refine Ok.bind (t3 s h hs hP) (fun r hr => ?_)
  cases e : (pE (kdP T n) (kN T n) 30 s).1 with
  | none =>
    obtain ⟨q1, q2⟩ := hr.2.1 e
    obtain ⟨d0, d1, d2, d3, d4, d5, d6, d7, d8, d9, d10⟩ := fL_DC hD hr.1
    rw [q1, d1, nI_1]
    refine Ok.neg (by decide) (Ok.some ⟨fDr_w (fDr_L hr.1) (by simp), fun _ => ⟨rfl, PC_w q2 (by simp), ?_, ?_, ?_, fun p hp => ?_, fun p r' hp hr => ?_, ?_, ?_, ?_, ?_, ?_, ?_⟩, fun y hy => ?_⟩)
    · rw [ab_w1k (by decide)]; exact d0
    · rw [ab_w1e]; rfl
    · rw [ab_w1k (by decide)]; exact d2
    · rw [ab_w1n (by decide)]; exact d3 p hp
    · rw [ab_w1n (by decide)]; exact d4 p r' hp hr
    · rw [ab_w1k (by decide), ab_w1k (by decide)]; exact d5
    · rw [ab_w1k (by decide), ab_w1k (by decide)]; exact d6
    · rw [ab_w1n (by decide)]; exact d7
    · rw [ab_w1n (by decide)]; exact d8
    · rw [ab_w1n (by decide)]; exact d9
    · rw [ab_w1n (by decide)]; exact d10
    · rw [show (lnE (kdP T n) (kN T n) (s, x)).1.1 = (pE (kdP T n) (kN T n) 30 s).1 from rfl, e] at hy; cases hy
  | some y =>
    obtain ⟨q1, q2, q3⟩ := hr.2.2 y e
    rw [q1]
    refine Ok.pos rfl (Ok.some ⟨fDr_L hr.1, fun w => ?_, fun z hz => ?_⟩)
    · rw [show (lnE (kdP T n) (kN T n) (s, x)).1.1 = (pE (kdP T n) (kN T n) 30 s).1 from rfl, e] at w; cases w
    · rw [show (lnE (kdP T n) (kN T n) (s, x)).1.1 = (pE (kdP T n) (kN T n) 30 s).1 from rfl, e] at hz
      have hz := Option.some.inj hz
      subst hz
      exact ⟨rfl, q2, q3⟩
