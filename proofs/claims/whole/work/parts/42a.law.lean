/-! Laws: what the class and what the reference reckon. -/
def iI (v : Int) : Int32 := Int32.ofInt v
theorem iI_T {v : Int} (h1 : -2147483648 ≤ v) (h2 : v < 2147483648) : (iI v).toInt = v := Int32.toInt_ofInt_of_le (by omega) (by omega)
theorem iI_N (n : Nat) : iI (n : Int) = nI n := rfl
/-- a law's code as the class keeps it -/
def cc (c : Nat) : Int32 := if c < 1000 then nI c else if c < 1004 then -nI (c - 999) else if c = 3006 then -13 else if c = 3009 then -14 else if c < 3006 then -nI (c - 2995) else -nI (c - 2996)
theorem clp {t : Int64} {v : Int} (hv : t.toInt = v) : (if (lg_cmp t 1000000) ≤ 0 then if 0 ≤ (lg_cmp t (-1000000)) then some (t : Int64).toInt32 else some (-1000000) else some 1000000) = some (iI (cl v)) := by
  have c1 : (1000000 : Int64).toInt = 1000000 := by decide
  have c2 : (-1000000 : Int64).toInt = -1000000 := by decide
  simp only [lg_cmp_le, lg_cmp_ge, Int64.le_iff_toInt_le, hv, c1, c2]
  unfold cl
  by_cases h1 : v ≤ 1000000
  · rw [if_pos h1]
    by_cases h2 : -1000000 ≤ v
    · rw [if_pos h2, if_neg (by omega), if_neg (by omega)]
      congr 1
      apply Int32.toInt_inj.mp
      rw [iI_T (by omega) (by omega), Int64.toInt_toInt32, hv]
      exact Int.bmod_eq_of_le (by omega) (by omega)
    · rw [if_neg h2, if_neg (by omega), if_pos (by omega)]; rfl
  · rw [if_neg h1, if_pos (by omega)]; rfl
theorem il_add {a b : Int} (ha : -1000000 ≤ a ∧ a ≤ 1000000) (hb : -1000000 ≤ b ∧ b ≤ 1000000) : ((iI a).toInt64 + (iI b).toInt64).toInt = a + b := by
  rw [lg_i2l_add, iI_T (by omega) (by omega), iI_T (by omega) (by omega)]
theorem il_sub {a b : Int} (ha : -1000000 ≤ a ∧ a ≤ 1000000) (hb : -1000000 ≤ b ∧ b ≤ 1000000) : ((iI a).toInt64 - (iI b).toInt64).toInt = a - b := by
  rw [lg_i2l_sub, iI_T (by omega) (by omega), iI_T (by omega) (by omega)]
theorem mul_bd {a b : Int} (ha : -1000000 ≤ a ∧ a ≤ 1000000) (hb : -1000000 ≤ b ∧ b ≤ 1000000) : -1000000000000 ≤ a * b ∧ a * b ≤ 1000000000000 := by
  have h1 : a.natAbs ≤ 1000000 := by omega
  have h2 : b.natAbs ≤ 1000000 := by omega
  have h3 : (a * b).natAbs ≤ 1000000 * 1000000 := by rw [Int.natAbs_mul]; exact Nat.mul_le_mul h1 h2
  omega
theorem il_mul {a b : Int} (ha : -1000000 ≤ a ∧ a ≤ 1000000) (hb : -1000000 ≤ b ∧ b ≤ 1000000) : ((iI a).toInt64 * (iI b).toInt64).toInt = a * b := by
  have h := mul_bd ha hb
  rw [Int64.toInt_mul, Int32.toInt_toInt64, Int32.toInt_toInt64, iI_T (by omega) (by omega), iI_T (by omega) (by omega)]
  exact Int.bmod_eq_of_le (by omega) (by omega)
theorem il_le {a b : Int} (ha : -1000000 ≤ a ∧ a ≤ 1000000) (hb : -1000000 ≤ b ∧ b ≤ 1000000) : (iI a).toInt64 ≤ (iI b).toInt64 ↔ a ≤ b := by
  rw [Int64.le_iff_toInt_le, Int32.toInt_toInt64, Int32.toInt_toInt64, iI_T (by omega) (by omega), iI_T (by omega) (by omega)]
theorem il_eq {a b : Int} (ha : -1000000 ≤ a ∧ a ≤ 1000000) (hb : -1000000 ≤ b ∧ b ≤ 1000000) : (iI a).toInt64 = (iI b).toInt64 ↔ a = b := by
  rw [← Int64.toInt_inj, Int32.toInt_toInt64, Int32.toInt_toInt64, iI_T (by omega) (by omega), iI_T (by omega) (by omega)]
theorem ii_le {a b : Int} (ha : -1000000 ≤ a ∧ a ≤ 1000000) (hb : -1000000 ≤ b ∧ b ≤ 1000000) : iI a ≤ iI b ↔ a ≤ b := by
  rw [Int32.le_iff_toInt_le, iI_T (by omega) (by omega), iI_T (by omega) (by omega)]
theorem ii_eq {a b : Int} (ha : -1000000 ≤ a ∧ a ≤ 1000000) (hb : -1000000 ≤ b ∧ b ≤ 1000000) : iI a = iI b ↔ a = b := by
  rw [← Int32.toInt_inj, iI_T (by omega) (by omega), iI_T (by omega) (by omega)]
/-- kinds of two values for a sign between them -/
def bk (c : Nat) (a b : Int) : Prop := (-1000000 ≤ a ∧ a ≤ 1000000) ∧ (-1000000 ≤ b ∧ b ≤ 1000000) ∧ (3007 ≤ c → (a = 0 ∨ a = 1) ∧ (b = 0 ∨ b = 1))
theorem bw0 (a b : Int) : bw 3000 a b = cl (a + b) := by simp [bw]
theorem bw1 (a b : Int) : bw 3001 a b = cl (a - b) := by simp [bw]
theorem bw2 (a b : Int) : bw 3002 a b = cl (a * b) := by simp [bw]
theorem bw3 (a b : Int) : bw 3003 a b = if a = b then 1 else 0 := by simp [bw]
theorem bw4 (a b : Int) : bw 3004 a b = if a < b then 1 else 0 := by simp [bw]
theorem bw5 (a b : Int) : bw 3005 a b = if b < a then 1 else 0 := by simp [bw]
theorem bw7 (a b : Int) : bw 3007 a b = if a = 1 ∧ b = 1 then 1 else 0 := by simp [bw]
theorem bw8 (a b : Int) : bw 3008 a b = if a = 1 ∨ b = 1 then 1 else 0 := by simp [bw]
theorem jn {c : Nat} {a b : Int} (h : abJ) (hc : 3000 ≤ c) (hc2 : c < 3009) (hc3 : c ≠ 3006) (k : bk c a b) : fX7_joined (cc c) ((iI a).toInt64) ((iI b).toInt64) h = some (iI (bw c a b)) := by
  obtain ⟨ha, hb, hk⟩ := k
  have cs : c = 3000 ∨ c = 3001 ∨ c = 3002 ∨ c = 3003 ∨ c = 3004 ∨ c = 3005 ∨ c = 3007 ∨ c = 3008 := by omega
  unfold fX7_joined
  rcases cs with e | e | e | e | e | e | e | e <;> subst e
  · rw [show cc 3000 = -5 from by decide]
    rw [if_neg (by decide), if_neg (by decide), if_neg (by decide), if_neg (by decide), if_neg (by decide), if_neg (by decide), if_pos rfl]
    rw [bw0]; exact clp (il_add ha hb)
  · rw [show cc 3001 = -6 from by decide]
    rw [if_neg (by decide), if_neg (by decide), if_neg (by decide), if_neg (by decide), if_neg (by decide), if_pos rfl]
    rw [bw1]; exact clp (il_sub ha hb)
  · rw [show cc 3002 = -7 from by decide]
    rw [if_neg (by decide), if_neg (by decide), if_neg (by decide), if_neg (by decide), if_pos rfl]
    rw [bw2]; exact clp (il_mul ha hb)
  · rw [show cc 3003 = -8 from by decide]
    rw [if_neg (by decide), if_neg (by decide), if_neg (by decide), if_pos rfl]
    simp only [lg_cmp_eq, il_eq ha hb]
    by_cases e : a = b
    · rw [if_pos e]; rw [bw3, if_pos e]; rfl
    · rw [if_neg e]; rw [bw3, if_neg e]; rfl
  · rw [show cc 3004 = -9 from by decide]
    rw [if_neg (by decide), if_neg (by decide), if_pos rfl]
    simp only [lg_cmp_ge, il_le hb ha]
    by_cases e : b ≤ a
    · rw [if_pos e]; rw [bw4, if_neg (show ¬ a < b by omega)]; rfl
    · rw [if_neg e]; rw [bw4, if_pos (show a < b by omega)]; rfl
  · rw [show cc 3005 = -10 from by decide]
    rw [if_neg (by decide), if_pos rfl]
    simp only [lg_cmp_le, il_le ha hb]
    by_cases e : a ≤ b
    · rw [if_pos e]; rw [bw5, if_neg (show ¬ b < a by omega)]; rfl
    · rw [if_neg e]; rw [bw5, if_pos (show b < a by omega)]; rfl
  · rw [show cc 3007 = -11 from by decide, if_pos rfl, bw7]
    obtain ⟨h1, h2⟩ := hk (by omega)
    rcases h1 with h1 | h1 <;> rcases h2 with h2 | h2 <;> subst h1 <;> subst h2 <;> decide
  · rw [show cc 3008 = -12 from by decide]
    rw [if_neg (by decide), if_neg (by decide), if_neg (by decide), if_neg (by decide), if_neg (by decide), if_neg (by decide), if_neg (by decide), bw8]
    obtain ⟨h1, h2⟩ := hk (by omega)
    rcases h1 with h1 | h1 <;> rcases h2 with h2 | h2 <;> subst h1 <;> subst h2 <;> decide
theorem bt {c : Nat} {a b : Int} (h : abJ) (hc : 3000 ≤ c) (hc2 : c < 3009) (hc3 : c ≠ 3006) (k : bk c a b) : fX12_between (nI c) (iI a) (iI b) h = some (iI (bw c a b)) := by
  obtain ⟨ha, hb, hk⟩ := k
  have cs : c = 3000 ∨ c = 3001 ∨ c = 3002 ∨ c = 3003 ∨ c = 3004 ∨ c = 3005 ∨ c = 3007 ∨ c = 3008 := by omega
  unfold fX12_between
  rcases cs with e | e | e | e | e | e | e | e <;> subst e
  · rw [if_neg (by decide), if_neg (by decide), if_neg (by decide), if_neg (by decide), if_neg (by decide), if_neg (by decide), if_pos (by decide)]
    rw [bw0]; exact clp (il_add ha hb)
  · rw [if_neg (by decide), if_neg (by decide), if_neg (by decide), if_neg (by decide), if_neg (by decide), if_neg (by decide), if_neg (by decide), if_pos (by decide)]
    rw [bw1]; exact clp (il_sub ha hb)
  · rw [if_neg (by decide), if_neg (by decide), if_neg (by decide), if_neg (by decide), if_neg (by decide), if_neg (by decide), if_neg (by decide), if_neg (by decide)]
    rw [bw2]; exact clp (il_mul ha hb)
  · rw [if_pos (by decide)]
    simp only [ii_eq ha hb]
    by_cases e : a = b
    · rw [if_pos e]; rw [bw3, if_pos e]; rfl
    · rw [if_neg e]; rw [bw3, if_neg e]; rfl
  · rw [if_neg (by decide), if_pos (by decide)]
    simp only [ii_le hb ha]
    by_cases e : b ≤ a
    · rw [if_pos e]; rw [bw4, if_neg (show ¬ a < b by omega)]; rfl
    · rw [if_neg e]; rw [bw4, if_pos (show a < b by omega)]; rfl
  · rw [if_neg (by decide), if_neg (by decide), if_pos (by decide)]
    simp only [ii_le ha hb]
    by_cases e : a ≤ b
    · rw [if_pos e]; rw [bw5, if_neg (show ¬ b < a by omega)]; rfl
    · rw [if_neg e]; rw [bw5, if_pos (show b < a by omega)]; rfl
  · rw [if_neg (by decide), if_neg (by decide), if_neg (by decide), if_neg (by decide), if_pos (by decide), bw7]
    obtain ⟨h1, h2⟩ := hk (by omega)
    rcases h1 with h1 | h1 <;> rcases h2 with h2 | h2 <;> subst h1 <;> subst h2 <;> decide
  · rw [if_neg (by decide), if_neg (by decide), if_neg (by decide), if_neg (by decide), if_neg (by decide), if_pos (by decide), bw8]
    obtain ⟨h1, h2⟩ := hk (by omega)
    rcases h1 with h1 | h1 <;> rcases h2 with h2 | h2 <;> subst h1 <;> subst h2 <;> decide
theorem vk_len : ∀ (ks : List Bool) (s : List Int), vk ks s → ks.length = s.length
  | [], [], _ => rfl
  | true :: r, v :: s, h => by rw [List.length_cons, List.length_cons, vk_len r s h.2]
  | false :: r, v :: s, h => by rw [List.length_cons, List.length_cons, vk_len r s h.2]
  | [], _ :: _, h => h.elim
  | true :: _, [], h => h.elim
  | false :: _, [], h => h.elim
/-- words within bounds -/
def wB (w : Nat → Int) : Prop := ∀ k, -1000000 ≤ w k ∧ w k ≤ 1000000
theorem cl_bd (v : Int) : -1000000 ≤ cl v ∧ cl v ≤ 1000000 := by unfold cl; split; omega; split <;> omega
theorem t1_vk {w : Nat → Int} (hw : wB w) {c : Nat} {ks kf : List Bool} {s : List Int} (t : t1 c ks = some kf) (v : vk ks s) : vk kf (e1 w c s) := by
  unfold t1 at t
  unfold e1
  split at t
  · rename_i h1
    split at t
    · obtain rfl := Option.some.inj t
      rw [if_pos h1]; exact ⟨by omega, v⟩
    · cases t
  · rename_i h1
    rw [if_neg h1]
    split at t
    · rename_i h2
      split at t
      · obtain rfl := Option.some.inj t
        rw [if_pos (by omega)]; exact ⟨hw _, v⟩
      · cases t
    · rename_i h2
      split at t
      · cases t
      · rename_i h3
        rw [if_neg h3]
        split at t
        · rename_i h4
          rw [if_pos h4]
          split at t
          · obtain rfl := Option.some.inj t
            match s, v with
            | a :: r, v => exact ⟨by have := v.1; omega, v.2⟩
          · cases t
        · rename_i h4
          rw [if_neg h4]
          split at t
          · rename_i h5
            rw [if_pos h5]
            split at t
            · obtain rfl := Option.some.inj t
              match s, v with
              | b :: a :: q :: r, v =>
                refine ⟨?_, v.2.2.2⟩
                have h6 := v.1; have h7 := v.2.1
                split <;> omega
            · cases t
          · rename_i h5
            rw [if_neg h5]
            split at t
            · rename_i h6
              split at t
              · obtain rfl := Option.some.inj t
                match s, v with
                | b :: a :: r, v =>
                  refine ⟨?_, v.2.2⟩
                  unfold bw
                  rw [if_neg (by omega), if_neg (by omega), if_neg (by omega), if_neg (by omega), if_neg (by omega)]
                  exact cl_bd _
              · cases t
            · rename_i h6
              split at t
              · rename_i h7
                split at t
                · obtain rfl := Option.some.inj t
                  match s, v with
                  | b :: a :: r, v =>
                    refine ⟨?_, v.2.2⟩
                    have cs : c = 3003 ∨ c = 3004 ∨ c = 3005 := by omega
                    unfold bw
                    rcases cs with e | e | e <;> subst e <;> simp <;> omega
                · cases t
              · rename_i h7
                split at t
                · rename_i h8
                  split at t
                  · obtain rfl := Option.some.inj t
                    match s, v with
                    | b :: a :: r, v =>
                      refine ⟨?_, v.2.2⟩
                      have cs : c = 3007 ∨ c = 3008 := by omega
                      unfold bw
                      rcases cs with e | e <;> subst e <;> simp <;> omega
                  · cases t
                · cases t
