/-! moor: the class reads roads and arms. -/
theorem c_roadsD {P v : Nat} {x : DrT} {h : abJ} (hD : DC P x h) (hO : DO P x) (hv : v < 1000) : fX3_roadsOf 5 (nI v) h = some (nI (dR x v)) := by
  have hp := hO.2.1
  unfold fX3_roadsOf
  rw [hD.1, if_neg (show ¬ nI v < 0 from nI_pos (by omega))]
  by_cases c : P ≤ v
  · rw [if_pos (by rw [nI_leI (by omega) (by omega)]; exact c), hO.2.2.2.2.1 v c]; rfl
  · rw [if_neg (by rw [nI_leI (by omega) (by omega)]; exact c), if_pos (by rw [show (6 : Int32) = nI 6 from rfl, nI_ltI (by omega) (by omega)]; omega), nI_clamp (by omega), ab_askP (ixN (by omega) (by omega))]
    exact congrArg some (hD.2.2.2.1 v (by omega))
theorem c_takeS {T : Nat → Nat} {n P v : Nat} {s2 s3 : PsT} {x x' : DrT} {h : abJ} {o : Option (Int32 × abJ)} {G : Int32 × abJ → Option (Int32 × abJ)} (hv : v < 1000) (ho : Ok o (pokN T n v s2 h)) (hx : s2.1 ≠ none → s3 = s2) (hG : ∀ r : Int32 × abJ, s2.1 = none → r.1 = nI v → PC T n s2 r.2 → fL h r.2 → Ok (G r) (pokL T n P (s3, if s3.1 = none then x' else x) r.2)) : Ok (o.bind (fun r => if r.1 = -1 then some (0, r.2) else G r)) (pokL T n P (s3, if s3.1 = none then x' else x) h) := by
  refine Ok.bind ho (fun r hr => ?_)
  cases e : s2.1 with
  | none =>
    obtain ⟨q1, q2⟩ := hr.2.1 e
    exact Ok.neg (by rw [q1]; exact v_n1 hv) ((hG r e q1 q2 hr.1).mono (fun r' hr' => pokL_t (fDr_L hr.1) hr'))
  | some y =>
    obtain ⟨q1, q2, q3⟩ := hr.2.2 y e
    have hne : s2.1 ≠ none := by rw [e]; exact fun w => by cases w
    rw [hx hne, if_neg hne]
    refine Ok.pos q1 (Ok.some ⟨fDr_L hr.1, fun w => absurd w hne, fun z hz => ?_⟩)
    rw [show (s2, x).1.1 = s2.1 from rfl, e] at hz
    have hz := Option.some.inj hz
    subst hz
    exact ⟨rfl, q2, q3⟩
theorem c_addRoad {P p q : Nat} {x : DrT} {h : abJ} (hD : DC P x h) (hO : DO P x) (hp : p < P) (hr : dR x p < 3) : fX3_addRoad (nI p) (nI q) h = some (ab_wI (ab_wI h 7 (p * 3 + dR x p) (nI q)) 6 p (nI (dR x p + 1))) := by
  have h6 := hO.2.1
  have hh : fX3_has 5 (nI p) h = some (nI 1) := by
    unfold fX3_has
    rw [hD.1, if_neg (show ¬ nI p < 0 from nI_pos (by omega)), if_neg (by rw [nI_leI (by omega) (by omega)]; omega), if_neg (by rw [show (6 : Int32) = nI 6 from rfl, nI_leI (by omega) (by omega)]; omega)]; rfl
  unfold fX3_addRoad
  rw [c_roadsD hD hO (by omega), ab_bindS, hh, ab_bindS, if_neg (by decide), if_neg (by rw [show (3 : Int32) = nI 3 from rfl, nI_leI (by omega) (by omega)]; omega), show (3 : Int32) = nI 3 from rfl, pk_mul, nI_add, nI_clamp (show p * 3 + dR x p < 2 ^ 31 by omega), nI_clamp (show p < 2 ^ 31 by omega), ab_askP (ixN (by omega) (by omega)), ab_askP (ixN (by omega) (by omega)), nI_1]
theorem DC_road {P p q : Nat} {x : DrT} {h : abJ} (hD : DC P x h) (hO : DO P x) (hr3 : dR x p < 3) : DC P (dN x, dH x, ups (dR x) p (dR x p + 1), (fun a r => if a = p ∧ r = dR x p then q else dL x a r), dA x, dW x, dF x, dT x, dK x) (ab_wI (ab_wI h 7 (p * 3 + dR x p) (nI q)) 6 p (nI (dR x p + 1))) := by
  obtain ⟨d0, d1, d2, d3, d4, d5, d6, d7, d8, d9, d10⟩ := hD
  have h3 := hO.2.2.2.1
  refine ⟨?_, ?_, ?_, fun a ha => ?_, fun a r ha hr => ?_, ?_, ?_, ?_, ?_, ?_, ?_⟩
  · rw [ab_w1n (by decide), ab_w1n (by decide)]; exact d0
  · rw [ab_w1n (by decide), ab_w1n (by decide)]; exact d1
  · rw [ab_w1n (by decide), ab_w1n (by decide)]; exact d2
  · show _ = nI (ups (dR x) p (dR x p + 1) a)
    by_cases e : a = p
    · subst e; rw [ab_w1e, ups_s]
    · rw [ab_w1k e, ab_w1n (by decide), ups_n e]; exact d3 a ha
  · have hr : r < ups (dR x) p (dR x p + 1) a := hr
    show _ = nI (if a = p ∧ r = dR x p then q else dL x a r)
    rw [ab_w1n (by decide)]
    by_cases e : a = p ∧ r = dR x p
    · rw [if_pos e, e.1, e.2, ab_w1e]
    · have hr2 : r < dR x a := by
        by_cases e2 : a = p
        · have e3 : ¬ r = dR x p := fun w => e ⟨e2, w⟩
          rw [e2, ups_s] at hr; rw [e2]; omega
        · rw [ups_n e2] at hr; exact hr
      have g1 := h3 a
      rw [if_neg e, ab_w1k (fun w => e ⟨by omega, by omega⟩)]
      exact d4 a r ha hr2
  · rw [ab_w1n (by decide), ab_w1n (by decide)]; exact d5
  · rw [ab_w1n (by decide), ab_w1n (by decide)]; exact d6
  · rw [ab_w1n (by decide), ab_w1n (by decide)]; exact d7
  · rw [ab_w1n (by decide), ab_w1n (by decide)]; exact d8
  · rw [ab_w1n (by decide), ab_w1n (by decide)]; exact d9
  · rw [ab_w1n (by decide), ab_w1n (by decide)]; exact d10
def rdF (K V : Nat → Nat) (P : Nat) (x : DrT) (s : PsT) : PsT := if s.1 = none ∧ K s.2.1 = 23 ∧ V s.2.1 < P ∧ dR x (V s.2.1) = 3 then pF K 3 s else s
theorem pokL_f {T : Nat → Nat} {n P : Nat} {s : PsT} {x : DrT} {h : abJ} {r : Int32 × abJ} (hs : s.1 ≠ none) (hr : pok T n s h r) : pokL T n P (s, x) h r := ⟨fDr_L hr.1, fun w => absurd w hs, hr.2.2⟩
theorem rdF_n {K N V : Nat → Nat} {P : Nat} {x : DrT} {s : PsT} (hO : DO P x) (h : (pT K N V 0 P (rdF K V P x s)).1 = none) : s.1 = none ∧ K s.2.1 = 23 ∧ V s.2.1 < P ∧ dR x (V s.2.1) < 3 ∧ rdF K V P x s = s := by
  obtain ⟨a1, a2, a3, a4, a5⟩ := pT_n h
  unfold rdF at a1 a2 a4
  by_cases c : s.1 = none ∧ K s.2.1 = 23 ∧ V s.2.1 < P ∧ dR x (V s.2.1) = 3
  · rw [if_pos c] at a1; exact (pF_n a1).elim
  · rw [if_neg c] at a1 a2 a4
    have h3 := hO.2.2.2.1 (V s.2.1)
    refine ⟨a1, a2, a4, ?_, if_neg c⟩
    have : ¬ dR x (V s.2.1) = 3 := fun w => c ⟨a1, a2, a4, w⟩
    omega
theorem c_rRoad {T : Nat → Nat} {n P : Nat} {s : PsT} {x : DrT} {h : abJ} (hs : s.1 = none) (hP : PC T n s h) (hD : DC P x h) (hO : DO P x) : Ok (fX6_readRoad h) (pokL T n P (pT (kdP T n) (kN T n) (kVl T n) 0 P (pT (kdP T n) (kN T n) (kVl T n) 0 P (rdF (kdP T n) (kVl T n) P x s)), if (pT (kdP T n) (kN T n) (kVl T n) 0 P (pT (kdP T n) (kN T n) (kVl T n) 0 P (rdF (kdP T n) (kVl T n) P x s))).1 = none then (dN x, dH x, ups (dR x) (kVl T n s.2.1) (dR x (kVl T n s.2.1) + 1), (fun p r => if p = kVl T n s.2.1 ∧ r = dR x (kVl T n s.2.1) then kVl T n (pT (kdP T n) (kN T n) (kVl T n) 0 P (rdF (kdP T n) (kVl T n) P x s)).2.1 else dL x p r), dA x, dW x, dF x, dT x, dK x) else x) h) := by
  have hp6 := hO.2.1
  have hv := kVl_b T n s.2.1
  have h3 := hO.2.2.2.1 (kVl T n s.2.1)
  have e9 : kdP T n s.2.1 = 23 → h.1 9 9 = nI (kVl T n s.2.1) := fun c => by
    rw [hP.2.1.2.2.2.2 c]
    unfold kVl
    rw [if_pos c]
  by_cases c : kdP T n s.2.1 = 23 ∧ kVl T n s.2.1 < P ∧ dR x (kVl T n s.2.1) = 3
  · have er : rdF (kdP T n) (kVl T n) P x s = pF (kdP T n) 3 s := if_pos ⟨hs, c⟩
    rw [er, pT_x (pF_x (K := kdP T n) (f := 3) (s := s)), pT_x (pF_x (K := kdP T n) (f := 3) (s := s)), if_neg (pF_x (K := kdP T n) (f := 3) (s := s))]
    unfold fX6_readRoad
    rw [hP.2.1.2.2.2.1, e9 c.1, c.1, c_roadsD hD hO hv, ab_bindS, c.2.2]
    exact Ok.pos (by decide) (Ok.neg (by decide) ((c_wrongA (f := 3) hs hP).mono (fun r hr => pokL_f pF_x hr)))
  · have er : rdF (kdP T n) (kVl T n) P x s = s := if_neg (fun w => c w.2)
    rw [er]
    have J : Ok (fX6_readRoad_J29 h) (pokL T n P (pT (kdP T n) (kN T n) (kVl T n) 0 P (pT (kdP T n) (kN T n) (kVl T n) 0 P s), if (pT (kdP T n) (kN T n) (kVl T n) 0 P (pT (kdP T n) (kN T n) (kVl T n) 0 P s)).1 = none then (dN x, dH x, ups (dR x) (kVl T n s.2.1) (dR x (kVl T n s.2.1) + 1), (fun p r => if p = kVl T n s.2.1 ∧ r = dR x (kVl T n s.2.1) then kVl T n (pT (kdP T n) (kN T n) (kVl T n) 0 P s).2.1 else dL x p r), dA x, dW x, dF x, dT x, dK x) else x) h) := by
      unfold fX6_readRoad_J29
      refine c_takeS hv (c_takeP hs hP hD.1 (by omega)) (fun w => pT_x w) (fun r e q1 q2 q3 => ?_)
      refine c_takeW (kVl_b T n _) (c_takeP e q2 (fL_DC hD q3).1 (by omega)) (fun r6 e6 u1 u2 u3 => ?_)
      obtain ⟨_, k23, _, kp, es⟩ := pT_n e
      have hr3 : dR x (kVl T n s.2.1) < 3 := by
        have : ¬ dR x (kVl T n s.2.1) = 3 := fun w => c ⟨k23, kp, w⟩
        omega
      rw [q1, u1, c_addRoad (fL_DC (fL_DC hD q3) u3) hO kp hr3, ab_bindS]
      exact Ok.some ⟨rfl, PC_w (PC_w u2 (by simp)) (by simp), DC_road (fL_DC (fL_DC hD q3) u3) hO hr3, fDr_w (fDr_w (fDr_r _) (by simp)) (by simp)⟩
    unfold fX6_readRoad
    rw [hP.2.1.2.2.2.1]
    by_cases k : kdP T n s.2.1 = 23
    · rw [e9 k, k, c_roadsD hD hO hv, ab_bindS]
      refine Ok.pos (by decide) (Ok.pos ?_ J)
      rw [show (3 : Int32) = nI 3 from rfl, nI_ltI (by omega) (by omega)]
      by_cases kp : kVl T n s.2.1 < P
      · have : ¬ dR x (kVl T n s.2.1) = 3 := fun w => c ⟨k, kp, w⟩
        omega
      · rw [hO.2.2.2.2.1 _ (by omega)]; omega
    · refine Ok.neg ?_ J
      unfold ck
      rw [if_neg k]
      split
      · decide
      · split
        · decide
        · decide
theorem DO_A {P : Nat} {x : DrT} (hO : DO P x) : dA x < 729 := by
  have hM : MO ((P, 0, dH x, dR x, dL x, none, none) : MoT) := ⟨hO.1, hO.2.1, hO.2.2.1, Nat.zero_le _, hO.2.2.2.1, hO.2.2.2.2.1, hO.2.2.2.2.2.1, (fun c (hc : none = some c) => by cases hc), (fun c (hc : none = some c) => by cases hc)⟩
  have h1 := AV_lt hM (a := dA x) hO.2.2.2.2.2.2.1
  have h2 := MO_729 hM
  omega
theorem c_rArm {T : Nat → Nat} {n P : Nat} {s : PsT} {x : DrT} {h : abJ} (hs : s.1 = none) (hP : PC T n s h) (hD : DC P x h) (hO : DO P x) : Ok (fX6_readArm h) (pokL T n P (pT (kdP T n) (kN T n) (kVl T n) 0 (dR x (kVl T n s.2.1)) (pT (kdP T n) (kN T n) (kVl T n) 0 P s), if (pT (kdP T n) (kN T n) (kVl T n) 0 (dR x (kVl T n s.2.1)) (pT (kdP T n) (kN T n) (kVl T n) 0 P s)).1 = none then (dN x, dH x, dR x, dL x, pt (dA x) (kVl T n s.2.1) (kVl T n (pT (kdP T n) (kN T n) (kVl T n) 0 P s).2.1), dW x, dF x, dT x, dK x) else x) h) := by
  have hp6 := hO.2.1
  have hv := kVl_b T n s.2.1
  have h3 := hO.2.2.2.1 (kVl T n s.2.1)
  have e0 : ∀ r : Int32 × abJ, fX6_readArm_J29 r.1 (-1) r.2 = some (0, r.2) := fun r => if_pos rfl
  unfold fX6_readArm
  simp only [e0]
  refine c_takeS hv (c_takeP hs hP hD.1 (by omega)) (fun w => pT_x w) (fun r e q1 q2 q3 => ?_)
  have tk : Ok (fX6_takeNumber 0 (nI (dR x (kVl T n s.2.1)) - 1) r.2) (pokN T n (kVl T n (pT (kdP T n) (kN T n) (kVl T n) 0 P s).2.1) (pT (kdP T n) (kN T n) (kVl T n) 0 (dR x (kVl T n s.2.1)) (pT (kdP T n) (kN T n) (kVl T n) 0 P s)) r.2) := c_takeN (lo := 0) e q2 (by omega) (by omega)
  rw [q1, c_roadsD (fL_DC hD q3) hO hv, ab_bindS]
  unfold fX6_readArm_J29
  refine c_takeW (kVl_b T n _) tk (fun r6 e6 u1 u2 u3 => ?_)
  obtain ⟨_, k23, _, kp, es⟩ := pT_n e
  have hA := DO_A hO
  obtain ⟨d0, d1, d2, d3, d4, d5, d6, d7, d8, d9, d10⟩ := fL_DC (fL_DC hD q3) u3
  rw [u1, d8, c_withArm r6.2 (by omega) (by omega), ab_bindS]
  refine Ok.some ⟨rfl, PC_w u2 (by simp), ⟨?_, ?_, ?_, fun p hp => ?_, fun p r' hp hr => ?_, ?_, ?_, ?_, ?_, ?_, ?_⟩, fDr_w (fDr_r _) (by simp)⟩
  · rw [ab_w1n (by decide)]; exact d0
  · rw [ab_w1n (by decide)]; exact d1
  · rw [ab_w1n (by decide)]; exact d2
  · rw [ab_w1n (by decide)]; exact d3 p hp
  · rw [ab_w1n (by decide)]; exact d4 p r' hp hr
  · rw [ab_w1n (by decide)]; exact d5
  · rw [ab_w1n (by decide)]; exact d6
  · rw [ab_w1k (by decide)]; exact d7
  · rw [ab_w1e]; rfl
  · rw [ab_w1k (by decide)]; exact d9
  · rw [ab_w1k (by decide)]; exact d10
