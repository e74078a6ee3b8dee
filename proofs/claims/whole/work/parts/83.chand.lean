/-! hands: the class takes the nearest. -/
theorem c_take {h : abJ} {hd tl th E p q : Nat} (h11 : h.1 35 11 = nI hd) (h12 : h.1 35 12 = nI tl) (h13 : h.1 35 13 = nI th) (ht : tl ≤ 4374) (hE : E ≤ 4375) (hP : hd < tl → h.1 30 hd = nI p ∧ p < 2 ^ 31) (hQ : th < E → h.1 36 th = nI q ∧ q < 2 ^ 31) (hd1 : hd ≤ tl) (hth : th ≤ E) (hne : hd < tl ∨ th < E) : fX8_takeNearest (nI E) h = some (if tl ≤ hd ∨ (th < E ∧ q / 8192 < p / 8192) then (nI q, ab_wI h 35 13 (nI (th + 1))) else (nI p, ab_wI h 35 11 (nI (hd + 1)))) := by
  have j1 : th < E → fX8_takeNearest_J48 h = some (nI q, ab_wI h 35 13 (nI (th + 1))) := by
    intro c
    unfold fX8_takeNearest_J48 fX8_takeNearest_J53
    rw [if_neg (by decide), h13, nI_1, ab_w1e, pk_s1 (by omega), Nat.add_sub_cancel, nI_clamp (by omega), ab_askP (ixN (by omega) (by omega)), ab_w1n (by decide), (hQ c).1]
  have j2 : hd < tl → fX8_takeNearest_J52 h = some (nI p, ab_wI h 35 11 (nI (hd + 1))) := by
    intro c
    unfold fX8_takeNearest_J52 fX8_takeNearest_J53
    rw [if_pos rfl, h11, nI_1, ab_w1e, pk_s1 (by omega), Nat.add_sub_cancel, nI_clamp (by omega), ab_askP (ixN (by omega) (by omega)), ab_w1n (by decide), (hP c).1]
  unfold fX8_takeNearest
  rw [h11, h12, h13]
  by_cases c1 : tl ≤ hd
  · rw [if_pos (by rw [nI_leI (by omega) (by omega)]; exact c1), j1 (by omega), if_pos (Or.inl c1)]
  · rw [if_neg (by rw [nI_leI (by omega) (by omega)]; exact c1)]
    by_cases c2 : E ≤ th
    · rw [if_pos (by rw [nI_leI (by omega) (by omega)]; exact c2), j2 (by omega), if_neg (by omega)]
    · have b1 := hP (by omega)
      have b2 := hQ (by omega)
      rw [if_neg (by rw [nI_leI (by omega) (by omega)]; exact c2), nI_clamp (by omega), nI_clamp (by omega), ab_askP (ixN (by omega) (by omega)), ab_askP (ixN (by omega) (by omega)), b1.1, b2.1, show (8192 : Int32) = nI 8192 from rfl, pk_div b1.2 (by omega) (by omega), pk_div b2.2 (by omega) (by omega)]
      by_cases c3 : p / 8192 ≤ q / 8192
      · rw [if_pos (by rw [nI_leI (by omega) (by omega)]; exact c3), j2 (by omega), if_neg (by omega)]
      · rw [if_neg (by rw [nI_leI (by omega) (by omega)]; exact c3), j1 (by omega), if_pos (Or.inr ⟨by omega, by omega⟩)]
