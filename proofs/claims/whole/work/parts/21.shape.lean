/-! The cells behind the constructors: kinds and references. Written by wip/whole/gen_shape.py. -/
def ab_SH : abZ := [(11, 14), (3, 10), (100, 6), (100, 18), (100, 900), (3, 10), (100, 6), (100, 18), (100, 900), (6, 12), (9, 4), (100, 900), (9, 4), (7, 8), (100, 180), (100, 64), (0, 8), (9, 4), (9, 4), (103, 10), (9, 4), (9, 4), (9, 4), (9, 4), (9, 4), (9, 4), (9, 4), (9, 4), (9, 4), (9, 4), (100, 4375), (100, 4374), (2, 10), (100, 6), (100, 729), (8, 15), (100, 4375), (5, 4), (100, 18), (1, 2), (4, 6), (101, 42), (100, 6), (104, 4), (10, 4), (101, 40), (10, 4), (101, 40), (10, 4), (101, 40), (10, 4), (101, 40), (105, 2), (103, 2), (3, 10), (100, 6), (100, 18), (100, 900), (9, 4), (3, 10), (100, 6), (100, 18), (100, 900), (9, 4), (12, 40), (100, 3102), (102, 2), (100, 900), (100, 1034), (100, 900), (100, 4), (100, 9), (100, 4375), (100, 4374), (100, 4374), (100, 6), (100, 18), (102, 4374), (102, 4374), (100, 4374), (101, 42), (101, 42), (102, 6), (100, 6), (100, 6), (100, 4), (100, 4), (101, 160)]
def ab_RFl : List (List Nat) := [[2, 6, 10, 13, 14, 17, 33, 36, 38, 40, 41, 44, 53, 54], [0, 0, 0, 0, 0, 0, 0, 3, 4, 5], [], [], [], [0, 0, 0, 0, 0, 0, 0, 7, 8, 9], [], [], [], [6, 11, 0, 12], [], [], [], [2, 15, 0, 16], [], [], [2, 14, 13, 18, 19, 20], [], [], [21, 22, 23, 24, 25, 26, 27, 28, 29, 30], [], [], [], [], [], [], [], [], [], [], [], [], [2, 14, 31, 32, 0, 0, 34, 0, 0, 35], [], [], [2, 14, 31, 32, 37], [], [2, 14, 39], [], [2], [2, 42, 43], [], [], [45, 47, 49, 51], [0, 0, 0, 46], [], [0, 0, 0, 48], [], [0, 0, 0, 50], [], [0, 0, 0, 52], [], [55, 60], [59, 64], [0, 0, 0, 0, 0, 0, 0, 56, 57, 58], [], [], [], [], [0, 0, 0, 0, 0, 0, 0, 61, 62, 63], [], [], [], [], [0, 66, 67, 68, 69, 0, 0, 0, 0, 0, 0, 0, 0, 0, 0, 70, 71, 72, 0, 0, 73, 74, 0, 0, 75, 76, 0, 0, 77, 78, 79, 80, 81, 82, 83, 84, 85, 86, 87, 88], [], [], [], [], [], [], [], [], [], [], [], [], [], [], [], [], [], [], [], [], [], [], []]
def ab_RF (o k : Nat) : Nat := (ab_RFl.getD o []).getD k 0
abbrev ab_dD (h : abJ) : abD := (h.1, h.2, ab_RF)
def ab_ln (o : Nat) : Nat := (ab_SH.getD o (0, 0)).2
def ab_N : Nat := 1000000
theorem ab_Ex.retc {X : abX} {d M pc : Nat} {lv : abL} {st : List Value} {sh : abZ} {D : abD} {R : abR → Prop} {v : Option Value} {c : Prop} [hc0 : Decidable c] (h : ∀ n, ab_ex X (n + 1) d M pc lv st sh D = ab_nxt (ab_ex X n) ab_q0 d M pc lv sh D (if c then some (.inr (.inr v)) else none)) (hc : c) (hR : R (v, sh, D)) : ab_Ex X d M pc lv st sh D R := by
  refine ⟨1, (v, sh, D), ?_, hR⟩
  rw [h 0, if_pos hc]
  rfl
def ab_tr (j : Int32) : Nat := 44 + 2 * j.toNatClampNeg
def ab_pa (j : Int32) : Nat := 20 + 1 * j.toNatClampNeg
def ab_im (j : Int32) : Nat := 54 + 5 * j.toNatClampNeg
def ab_is (j : Int32) : Nat := 58 + 5 * j.toNatClampNeg
def ab_cp (h : abJ) (o1 o2 : Nat) (sp dp n : Int32) : abJ := (fun o => if o = o2 then va_cpy (h.1 o1) (h.1 o2) sp.toNatClampNeg dp.toNatClampNeg n.toNatClampNeg else h.1 o, h.2)
theorem ab_lt2 {j : Int32} (h : ¬ (j < 0 ∨ 2 ≤ j.toNatClampNeg)) : j.toNatClampNeg = 0 ∨ j.toNatClampNeg = 1 := by omega
theorem ab_lt4 {j : Int32} (h : ¬ (j < 0 ∨ 4 ≤ j.toNatClampNeg)) : j.toNatClampNeg = 0 ∨ j.toNatClampNeg = 1 ∨ j.toNatClampNeg = 2 ∨ j.toNatClampNeg = 3 := by omega
theorem ab_lt10 {j : Int32} (h : ¬ (j < 0 ∨ 10 ≤ j.toNatClampNeg)) : j.toNatClampNeg = 0 ∨ j.toNatClampNeg = 1 ∨ j.toNatClampNeg = 2 ∨ j.toNatClampNeg = 3 ∨ j.toNatClampNeg = 4 ∨ j.toNatClampNeg = 5 ∨ j.toNatClampNeg = 6 ∨ j.toNatClampNeg = 7 ∨ j.toNatClampNeg = 8 ∨ j.toNatClampNeg = 9 := by omega
theorem ab_pred {y : Int32} {i : Nat} (h : ¬ (y - 1 < 0 ∨ 10 ≤ (y - 1).toNatClampNeg)) (e : (y - 1).toNatClampNeg = i) : y.toNatClampNeg = i + 1 := by
  have h1 : ¬ (y - 1 < 0) := fun q => h (Or.inl q)
  obtain ⟨j, hj, hj2⟩ := nI_of h1
  have h3 : (y - 1).toNatClampNeg = j := by rw [hj2]; exact nI_clamp hj
  have h4 : j < 10 := by omega
  have h5 : y = nI (j + 1) := by
    have : y = (y - 1) + 1 := by simp
    rw [this, hj2]
    exact nI_1 j
  rw [h5, nI_clamp (by omega)]
  omega
theorem ab_Ex.aald {X : abX} {d M pc : Nat} {lv : abL} {st r : List Value} {sh : abZ} {D : abD} {R : abR → Prop} {o t n i z : Nat} {j : Int32} (h : ∀ n0, ab_ex X (n0 + 1) d M pc lv st sh D = ab_nxt (ab_ex X n0) ab_q0 d M pc lv sh D (ab_nx sh (if j < 0 ∨ n ≤ j.toNatClampNeg ∨ ¬ (103 ≤ t ∧ t < 106) then none else (match D.2.2 o j.toNatClampNeg with | z + 1 => if z < 1000000 then some (pc + 1, lv, .ref z :: r, D) else none | 0 => none)))) (hc : ¬ (j < 0 ∨ n ≤ j.toNatClampNeg)) (ht : 103 ≤ t ∧ t < 106) (hi : j.toNatClampNeg = i) (hz : D.2.2 o i = z + 1) (hzz : z < 1000000) (g : ab_Ex X d M (pc + 1) (ab_msk (ab_mks.getD M []) (pc + 1) lv) (.ref z :: r) sh D R) : ab_Ex X d M pc lv st sh D R := by
  refine ab_Ex.nx h (sh' := sh) (S := (pc + 1, lv, .ref z :: r, D)) (fun _ => ?_) g
  rw [if_neg (fun q => by rcases q with q | q | q; exact hc (Or.inl q); exact hc (Or.inr q); exact q ht), hi, hz]
  simp only [hzz, if_true, ab_nx]
