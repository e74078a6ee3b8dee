/-! What the start of the law gives of constants. Written by wip/whole/gen_env.py. -/
def ab_so : List String := ["SignTurn$Reader", "SignTurn$Reader", "SignTurn$Reader", "SignTurn$Reader", "SignTurn$Reader", "SignTurn$Reader", "SignTurn$Reader", "SignTurn$Reader", "SignTurn$Reader", "SignTurn$Reader", "SignTurn$Reader", "SignTurn$Reader", "SignTurn$Reader", "SignTurn$Reader", "SignTurn$Reader", "SignTurn$Reader", "SignTurn$Reader", "SignTurn$Reader", "SignTurn$Reader", "SignTurn$Reader", "SignTurn$Reader", "SignTurn$Reader", "SignTurn$Reader", "SignTurn$Reader", "SignTurn$Reader", "SignTurn$Reader", "SignTurn$Reader", "SignTurn$Reader", "SignTurn$Reader", "SignTurn$Reader", "SignTurn$Reader", "SignTurnModel"]
def ab_si : List Nat := [261, 73, 79, 131, 89, 97, 102, 107, 112, 117, 165, 218, 220, 203, 208, 210, 232, 234, 236, 241, 243, 245, 230, 225, 212, 214, 216, 198, 188, 190, 122, 98]
def ab_tm (j : Nat) : Term := .string (ab_so.getD j "") (ab_si.getD j 0)
def ab_tv (j : Nat) : Term := .field (ab_tm j) "java/lang/String" "value" "[B"
def ab_fl : List Cond := flatC (Jvm.Cond.and given_1 narrow_1)
def ab_nd (j : Nat) : List Cond := [.exactly (ab_tm j) "java/lang/String", .eq (.field (ab_tm j) "java/lang/String" "coder" "B") (.int 0), .arrayOf (ab_tv j) .byte, .eq (.length (ab_tv j)) (.int (Int32.ofNat (ab_sl.getD j 0)))] ++ (List.range (ab_sl.getD j 0)).map (fun k => .eq (.elem (ab_tv j) (.int (Int32.ofNat k))) (.int ((ab_sb.getD j []).getD k 0)))
def ab_np : List (List Nat) := [[58, 59, 60, 61, 62, 63, 64, 65, 66, 67, 68, 69, 70, 71, 72, 73], [74, 75, 76, 77, 78, 79, 80, 81], [82, 83, 84, 85, 86, 87, 88, 89, 90], [91, 92, 93, 94, 95], [96, 97, 98, 99, 100, 101, 102, 103], [104, 105, 106, 107, 108, 109, 110], [111, 112, 113, 114, 115, 116, 117, 118], [119, 120, 121, 122, 123, 124, 125, 126, 127, 128], [129, 130, 131, 132, 133, 134, 135], [136, 137, 138, 139, 140, 141, 142, 143, 144], [145, 146, 147, 148, 149], [150, 151, 152, 153, 154, 155, 156, 157], [158, 159, 160, 161, 162, 163, 164, 165, 166], [167, 168, 169, 170, 171], [172, 173, 174, 175, 176], [177, 178, 179, 180, 181, 182], [183, 184, 185, 186, 187, 188, 189], [190, 191, 192, 193, 194], [195, 196, 197, 198, 199], [200, 201, 202, 203, 204], [205, 206, 207, 208, 209], [210, 211, 212, 213, 214], [215, 216, 217, 218, 219, 220, 221], [222, 223, 224, 225, 226, 227], [228, 229, 230, 231, 232, 233, 234, 235], [236, 237, 238, 239, 240, 241, 242, 243], [244, 245, 246, 247, 248, 249, 250], [251, 252, 253, 254, 255], [256, 257, 258, 259, 260], [261, 262, 263, 264, 265], [266, 267, 268, 269, 270, 271, 272, 273, 274, 275], [276, 277, 278, 279, 280, 281, 282, 283, 284, 285, 286, 287, 288, 289, 290, 291, 292, 293, 294, 295, 296, 297, 298, 299, 300, 301, 302, 303, 304, 305, 306, 307, 308, 309, 310, 311, 312, 313, 314, 315, 316, 317, 318, 319, 320, 321, 322, 323, 324, 325, 326, 327, 328, 329, 330, 331, 332, 333, 334, 335, 336, 337, 338, 339, 340, 341, 342, 343, 344, 345, 346, 347, 348, 349, 350, 351, 352, 353, 354, 355, 356, 357, 358, 359, 360, 361, 362, 363, 364, 365, 366, 367, 368]]
def ab_ndOk (j : Nat) : Bool := decide ((ab_nd j).length = (ab_np.getD j []).length) && ((ab_nd j).zip (ab_np.getD j [])).all (fun z => decide (ab_fl[z.2]? = some z.1))
theorem ab_nd_ok : (List.range 32).all ab_ndOk = true := by decide +kernel
theorem ab_nd_in {j : Nat} (hj : j < 32) : ∀ w ∈ ab_nd j, w ∈ ab_fl := by
  have h := List.all_eq_true.mp ab_nd_ok j (List.mem_range.mpr hj)
  unfold ab_ndOk at h
  simp only [Bool.and_eq_true, decide_eq_true_eq] at h
  obtain ⟨h1, h2⟩ := h
  intro w hw
  obtain ⟨i, hi⟩ := List.getElem?_of_mem hw
  have hl : i < (ab_np.getD j []).length := by rw [← h1]; exact (List.getElem?_eq_some_iff.mp hi).1
  have h3 : ((ab_nd j).zip (ab_np.getD j []))[i]? = some (w, (ab_np.getD j [])[i]) := by
    rw [List.getElem?_zip_eq_some]
    exact ⟨hi, List.getElem?_eq_getElem hl⟩
  have h4 := List.all_eq_true.mp h2 _ (List.mem_of_getElem? h3)
  exact List.mem_of_getElem? (of_decide_eq_true h4)
theorem ab_sl_small : (List.range 32).all (fun j => decide (ab_sl.getD j 0 < 2 ^ 31)) = true := by decide +kernel
theorem ab_env_str {args : Array Value} {s : State} {A : Nat → Prop} (hf : ∀ w ∈ ab_fl, w.before args s = true) (hA : ∀ a : Nat, a < s.heap.size → ¬ A a) :
    ∃ adK adV : Nat → Nat, (∀ i : Nat, i < 32 → va_O "java/lang/String" (adK i) A s s.heap ∧ va_OF "java/lang/String" "coder" "B" (.int 0) (adK i) A s s.heap ∧ va_OF "java/lang/String" "value" "[B" (.ref (adV i)) (adK i) A s s.heap ∧ va_T .byte (adV i) (ab_sl.getD i 0) (fun j => .int ((ab_sb.getD i []).getD j 0)) A s s.heap) ∧ ∀ i : Nat, i < 32 → (ab_tm i).eval args s none [] s = some (.ref (adK i)) := by
  have h0 : ∀ i : Nat, ∃ q : Nat × Nat, i < 32 → (ab_tm i).eval args s none [] s = some (.ref q.1) ∧ va_O "java/lang/String" q.1 A s s.heap ∧ va_OF "java/lang/String" "coder" "B" (.int 0) q.1 A s s.heap ∧ va_OF "java/lang/String" "value" "[B" (.ref q.2) q.1 A s s.heap ∧ va_T .byte q.2 (ab_sl.getD i 0) (fun j => .int ((ab_sb.getD i []).getD j 0)) A s s.heap := by
    intro i
    by_cases hi : i < 32
    · have hin := ab_nd_in hi
      have g1 := hf _ (hin (.exactly (ab_tm i) "java/lang/String") (by simp [ab_nd]))
      have g2 := hf _ (hin (.eq (.field (ab_tm i) "java/lang/String" "coder" "B") (.int 0)) (by simp [ab_nd]))
      have g3 := hf _ (hin (.arrayOf (ab_tv i) .byte) (by simp [ab_nd]))
      have g4 := hf _ (hin (.eq (.length (ab_tv i)) (.int (Int32.ofNat (ab_sl.getD i 0)))) (by simp [ab_nd]))
      have g5 : ∀ k, k < ab_sl.getD i 0 → (Cond.eq (.elem (ab_tv i) (.int (Int32.ofNat k))) (.int ((ab_sb.getD i []).getD k 0))).before args s = true := fun k hk => hf _ (hin _ (List.mem_append_right _ (List.mem_map.mpr ⟨k, List.mem_range.mpr hk, rfl⟩)))
      have hsm := of_decide_eq_true (List.all_eq_true.mp ab_sl_small i (List.mem_range.mpr hi))
      obtain ⟨a, c, cA, kA, q1, q2, q3, q4, q5, q6, -⟩ := Cond.exactly_spec (args := args) (first := s) (o := none) (s := s) (idx := []) (t := ab_tm i) (cls := "java/lang/String") g1
      obtain ⟨t, ht, hT⟩ := va_Tof (f := fun j => .int ((ab_sb.getD i []).getD j 0)) (A := A) hsm g3 (va_eqt g4) (fun j hj => va_eqt (g5 j hj)) hA
      exact ⟨(a, t), fun _ => ⟨q1, ⟨cA, q3, q5, by rw [q6]; exact q2, hA a (Array.getElem?_eq_some_iff.mp q3).1⟩, vk_OFof q1 (va_eqt g2) hA, vk_OFof q1 ht hA, hT⟩⟩
    · exact ⟨(0, 0), fun h => absurd h hi⟩
  obtain ⟨ad, had⟩ := Classical.axiomOfChoice h0
  exact ⟨fun i => (ad i).1, fun i => (ad i).2, fun i hi => (had i hi).2, fun i hi => (had i hi).1⟩
theorem ab_same_w : ab_fl[385]? = some (.eq (.string "SignTurn$Reader" 261) (.string "SignTurnModel" 136)) := by decide +kernel
def ab_sok (w : Cond) : Bool := match w with
  | .stringRef own ix tx => (List.range 32).all (fun j => decide (ab_str.getD j "" ≠ tx) || (decide (own = ab_so.getD j "") && decide (ix = ab_si.getD j 0)) || (decide (j = 0) && decide (own = "SignTurnModel") && decide (ix = 136)))
  | _ => true
theorem ab_sok_all : lw_tbl.all ab_sok = true := by decide +kernel
def ab_wn : List Cond := ((List.range 7).map (fun k => Cond.eq (.elem (.static "SignTurn" "WEIGHTS" "[I") (.int (Int32.ofNat k))) (.int (ab_wt.getD k 0)))) ++ [.arrayOf (.static "SignTurn" "WEIGHTS" "[I") .int, .eq (.length (.static "SignTurn" "WEIGHTS" "[I")) (.int 7), .eq (.static "java/lang/String" "COMPACT_STRINGS" "Z") (.int 1), .isRef (.static "jdk/internal/util/Preconditions" "SIOOBE_FORMATTER" "Ljava/util/function/BiFunction;")]
theorem ab_wt_w : ab_wn.all (fun w => (ab_fl.take 24).any (fun z => decide (z = w))) = true := by decide +kernel
theorem ab_wt_in : ∀ w ∈ ab_wn, w ∈ ab_fl := by
  intro w hw
  have h := List.all_eq_true.mp ab_wt_w w hw
  simp only [List.any_eq_true, decide_eq_true_eq] at h
  obtain ⟨z, hz, rfl⟩ := h
  exact List.mem_of_mem_take hz
theorem ab_lays1 : lw_tbl[807]? = some (.laysStatic "SignTurn" "WEIGHTS" "[I") := by decide +kernel
theorem ab_lays2 : lw_tbl[652]? = some (.laysStatic "java/lang/String" "COMPACT_STRINGS" "Z") := by decide +kernel
theorem ab_lays3 : lw_tbl[691]? = some (.laysStatic "jdk/internal/util/Preconditions" "SIOOBE_FORMATTER" "Ljava/util/function/BiFunction;") := by decide +kernel
theorem ab_ini1 : lw_tbl[130]? = some (.initialized "SignTurn") := by decide +kernel
theorem ab_ini2 : lw_tbl[145]? = some (.initialized "java/lang/String") := by decide +kernel
theorem ab_ini3 : lw_tbl[148]? = some (.initialized "jdk/internal/util/Preconditions") := by decide +kernel
theorem ab_over1 : lw_tbl[346]? = some (.arrayOver (.object RX9)) := by decide +kernel
theorem ab_over2 : lw_tbl[536]? = some (.arrayOver (.object RX10)) := by decide +kernel
theorem ab_over3 : lw_tbl[559]? = some (.arrayOver (.object RX3)) := by decide +kernel
/-- the law's start gives all that stays -/
theorem ab_env {p : Program} {s : State} {m : MethodId} {meth : Method} {c : Code} {b L : Nat} {xs : Nat → Int32} (hts : ∀ w ∈ lw_tbl, w.before #[Value.ref b] s = true) (hX : va_X b L xs s s.heap) (hbl : b < s.heap.size) (hgv : (Jvm.Cond.and given_1 narrow_1).before #[Value.ref b] s = true) : ∃ K : abK, ab_E K s s.heap ∧ kb K = s.heap.size ∧ ks K = b ∧ kX K = (L, xs) := by
  have hf : ∀ w ∈ ab_fl, w.before #[Value.ref b] s = true := flat_of_before _ hgv
  have htb : ∀ w ∈ ab_tb, w.before #[Value.ref b] s = true := fun w hw => hts w (List.mem_filter.mp hw).1
  have hA : ∀ a : Nat, a < s.heap.size → ¬ (fun q : Nat => s.heap.size ≤ q) a := fun a h => Nat.not_le.mpr h
  have h0 : ∀ k : Nat, ∃ z : ClassId × (Nat → Nat), ∀ q, ab_cl[k]? = some q → u_Kn s q.1 q.2.1 q.2.2 z.1 z.2 := by
    intro k
    cases h : ab_cl[k]? with
    | none => exact ⟨(0, fun _ => 0), fun q hq => by cases hq⟩
    | some q0 =>
      obtain ⟨cC, iS, hk⟩ := u_known htb (ab_cl_in h) (htb _ (ab_inst h).1)
      exact ⟨(cC, iS), fun q hq => by cases hq; exact hk⟩
  obtain ⟨f, hfc⟩ := Classical.axiomOfChoice h0
  have h1 : ∀ t : Nat, ∃ cA : ClassId, 100 ≤ t → t < 106 → ArrOfT s cA (ab_aty t) ∧ va_RA s cA (ab_aty t) := by
    intro t
    by_cases ht : 100 ≤ t ∧ t < 106
    · have h6 : t = 100 ∨ t = 101 ∨ t = 102 ∨ t = 103 ∨ t = 104 ∨ t = 105 := by omega
      have kA : ∀ ty : FieldType, Cond.arrayClass ty ∈ lw_tbl → ∃ cA : ClassId, ArrOfT s cA ty ∧ s.vm.findClass ("[" ++ ty.toString) = some cA := by
        intro ty hw
        obtain ⟨cA, k, comp, g1, g2, g3⟩ := Cond.arrayClass_spec (hts _ hw)
        exact ⟨cA, fun n z => ⟨fun k h => (by cases h), k, g2, comp, g3⟩, g1⟩
      have kO : ∀ C : String, Cond.arrayOver (.object C) ∈ lw_tbl → ∃ cA : ClassId, ArrOfT s cA (.object C) ∧ va_RA s cA (.object C) := by
        intro C hw
        obtain ⟨comp, cA, k, g1, g2, g3, g4, g5⟩ := Cond.arrayOver_spec (hts _ hw)
        exact ⟨cA, fun n z => ⟨fun k h => (by cases h), k, g3, comp, g4⟩, k, comp, g3, g4, g1, g5⟩
      rcases h6 with h | h | h | h | h | h <;> subst h
      · obtain ⟨cA, q1, q2⟩ := kA _ ab_arrw.1.1
        exact ⟨cA, fun _ _ => ⟨q1, q2⟩⟩
      · obtain ⟨cA, q1, q2⟩ := kA _ ab_arrw.1.2
        exact ⟨cA, fun _ _ => ⟨q1, q2⟩⟩
      · obtain ⟨cA, q1, q2⟩ := kA _ ab_arrw.2
        exact ⟨cA, fun _ _ => ⟨q1, q2⟩⟩
      · obtain ⟨cA, q1⟩ := kO _ (List.mem_of_getElem? ab_over1)
        exact ⟨cA, fun _ _ => q1⟩
      · obtain ⟨cA, q1⟩ := kO _ (List.mem_of_getElem? ab_over2)
        exact ⟨cA, fun _ _ => q1⟩
      · obtain ⟨cA, q1⟩ := kO _ (List.mem_of_getElem? ab_over3)
        exact ⟨cA, fun _ _ => q1⟩
    · exact ⟨0, fun a b => absurd ⟨a, b⟩ ht⟩
  obtain ⟨ca, hca⟩ := Classical.axiomOfChoice h1
  obtain ⟨adK, adV, hstr, htm⟩ := ab_env_str hf hA
  have w1 : ∀ w ∈ ab_wn, w.before #[Value.ref b] s = true := fun w hw => hf w (ab_wt_in w hw)
  obtain ⟨wa, hwa, hwT⟩ := va_Tof (tm := .static "SignTurn" "WEIGHTS" "[I") (ty := .int) (N := 7) (f := fun j => .int (ab_wt.getD j 0)) (A := fun q : Nat => s.heap.size ≤ q) (by decide) (w1 (.arrayOf (.static "SignTurn" "WEIGHTS" "[I") .int) (by simp [ab_wn])) (va_eqt (w1 (.eq (.length (.static "SignTurn" "WEIGHTS" "[I")) (.int 7)) (by simp [ab_wn]))) (fun j hj => va_eqt (w1 _ (List.mem_append_left _ (List.mem_map.mpr ⟨j, List.mem_range.mpr hj, rfl⟩)))) hA
  have hZ1 := va_Zof (A := fun q : Nat => s.heap.size ≤ q) (hts _ (List.mem_of_getElem? ab_lays1)) (hts _ (List.mem_of_getElem? ab_ini1)) hwa hA
  have hZ2 := va_Zof (A := fun q : Nat => s.heap.size ≤ q) (hts _ (List.mem_of_getElem? ab_lays2)) (hts _ (List.mem_of_getElem? ab_ini2)) (va_eqt (w1 (.eq (.static "java/lang/String" "COMPACT_STRINGS" "Z") (.int 1)) (by simp [ab_wn]))) hA
  have hZ3 := va_Zqof (A := fun q : Nat => s.heap.size ≤ q) (hts _ (List.mem_of_getElem? ab_lays3)) (hts _ (List.mem_of_getElem? ab_ini3)) (w1 (.isRef (.static "jdk/internal/util/Preconditions" "SIOOBE_FORMATTER" "Ljava/util/function/BiFunction;")) (by simp [ab_wn])) hA
  have hfm : ∃ v : Value, va_Z "jdk/internal/util/Preconditions" "SIOOBE_FORMATTER" "Ljava/util/function/BiFunction;" v (fun q : Nat => s.heap.size ≤ q) s s.heap ∧ (v = .null ∨ ∃ a, v = .ref a) := by
    rcases hZ3 with h | ⟨a, h⟩
    · exact ⟨_, h, Or.inl rfl⟩
    · exact ⟨_, h, Or.inr ⟨a, rfl⟩⟩
  obtain ⟨vf, hvf, hvf2⟩ := hfm
  refine ⟨((fun k => (f k).1, fun k => (f k).2), ca, s.heap.size, adK, adV, wa, b, (L, xs), vf), ⟨⟨⟨fun k q hq => hfc k q hq, fun k q hk => by simp at hk⟩, fun t a1 a2 => hca t a1 a2, ?_, ?_, ?_⟩, ⟨hstr, hZ1, hwT, hZ2, hvf, hX⟩, hvf2, hbl, Nat.le_refl _⟩, rfl, rfl, rfl⟩
  · intro own ix j pl hj hw
    have hm := List.mem_of_getElem? hw
    have h2 := List.all_eq_true.mp ab_sok_all _ hm
    unfold ab_sok at h2
    have h3 := List.all_eq_true.mp h2 j (List.mem_range.mpr hj)
    simp only [Bool.or_eq_true, Bool.and_eq_true, decide_eq_true_eq] at h3
    rcases h3 with (h3 | h3) | h3
    · exact absurd rfl h3
    · have e := htm j hj
      unfold ab_tm at e
      rw [← h3.1, ← h3.2] at e
      exact vk_R.of (hts _ hm) e
    · obtain ⟨⟨h4, h5⟩, h6⟩ := h3
      subst h4
      subst h5
      subst h6
      have e := htm 0 (by decide)
      obtain ⟨y, e1, e2⟩ := Cond.eq_one (show (Cond.eq (.string "SignTurn$Reader" 261) (.string "SignTurnModel" 136)).holds #[Value.ref b] s none s [] = true from hf _ (List.mem_of_getElem? ab_same_w))
      have e3 : (Term.string "SignTurn$Reader" 261).eval #[Value.ref b] s none [] s = some (.ref (adK 0)) := e
      rw [e3] at e1
      obtain rfl := Option.some.inj e1
      exact vk_R.of (hts _ hm) e2
  · intro w hw hn
    cases w <;> first | (simp [ab_nst] at hn; done) | exact va_Nw.of rfl (hts _ hw)
  · intro t a1 a2
    have h3 : t = 103 ∨ t = 104 ∨ t = 105 := by omega
    rcases h3 with h | h | h <;> subst h
    · exact va_AO.of (hts _ (List.mem_of_getElem? ab_over1))
    · exact va_AO.of (hts _ (List.mem_of_getElem? ab_over2))
    · exact va_AO.of (hts _ (List.mem_of_getElem? ab_over3))
