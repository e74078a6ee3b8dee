/-! chance, mean: minors. -/
def e2 (a b : Nat → Int) (i j : Nat) : Int := a i * b j - a j * b i
def e3 (a b c : Nat → Int) (i j k : Nat) : Int := a i * e2 b c j k - a j * e2 b c i k + a k * e2 b c i j
def e4 (a b c d : Nat → Int) (i j k l : Nat) : Int := a i * e3 b c d j k l - a j * e3 b c d i k l + a k * e3 b c d i j l - a l * e3 b c d i j k
def e5 (a b c d e : Nat → Int) (i j k l n : Nat) : Int := a i * e4 b c d e j k l n - a j * e4 b c d e i k l n + a k * e4 b c d e i j l n - a l * e4 b c d e i j k n + a n * e4 b c d e i j k l
/-- a row of others -/
def lc (s t : Int) (a x : Nat → Int) : Nat → Int := fun j => s * a j + t * x j
theorem e2_2 {s t : Int} {x a : Nat → Int} {i j : Nat} : e2 x (lc s t a x) i j = s * e2 x a i j := by unfold e2 lc; grind
theorem e2_l1 {s t : Int} {x a b : Nat → Int} {i j : Nat} : e2 (lc s t a x) b i j = s * e2 a b i j + t * e2 x b i j := by unfold e2 lc; grind
theorem e2_l2 {s t : Int} {x a b : Nat → Int} {i j : Nat} : e2 b (lc s t a x) i j = s * e2 b a i j + t * e2 b x i j := by unfold e2 lc; grind
theorem e3_l1 {s t : Int} {x a b c : Nat → Int} {i j k : Nat} : e3 (lc s t a x) b c i j k = s * e3 a b c i j k + t * e3 x b c i j k := by unfold e3 lc; grind
theorem e3_l2 {s t : Int} {x a b c : Nat → Int} {i j k : Nat} : e3 b (lc s t a x) c i j k = s * e3 b a c i j k + t * e3 b x c i j k := by unfold e3; rw [e2_l1, e2_l1, e2_l1]; grind
theorem e3_l3 {s t : Int} {x a b c : Nat → Int} {i j k : Nat} : e3 b c (lc s t a x) i j k = s * e3 b c a i j k + t * e3 b c x i j k := by unfold e3; rw [e2_l2, e2_l2, e2_l2]; grind
theorem e4_l1 {s t : Int} {x a b c d : Nat → Int} {i j k l : Nat} : e4 (lc s t a x) b c d i j k l = s * e4 a b c d i j k l + t * e4 x b c d i j k l := by unfold e4 lc; grind
theorem e4_l2 {s t : Int} {x a b c d : Nat → Int} {i j k l : Nat} : e4 b (lc s t a x) c d i j k l = s * e4 b a c d i j k l + t * e4 b x c d i j k l := by unfold e4; rw [e3_l1, e3_l1, e3_l1, e3_l1]; grind
theorem e4_l3 {s t : Int} {x a b c d : Nat → Int} {i j k l : Nat} : e4 b c (lc s t a x) d i j k l = s * e4 b c a d i j k l + t * e4 b c x d i j k l := by unfold e4; rw [e3_l2, e3_l2, e3_l2, e3_l2]; grind
theorem e4_l4 {s t : Int} {x a b c d : Nat → Int} {i j k l : Nat} : e4 b c d (lc s t a x) i j k l = s * e4 b c d a i j k l + t * e4 b c d x i j k l := by unfold e4; rw [e3_l3, e3_l3, e3_l3, e3_l3]; grind
theorem e5_l2 {s t : Int} {x a b c d y : Nat → Int} {i j k l n : Nat} : e5 y (lc s t a x) b c d i j k l n = s * e5 y a b c d i j k l n + t * e5 y x b c d i j k l n := by unfold e5; rw [e4_l1, e4_l1, e4_l1, e4_l1, e4_l1]; grind
theorem e5_l3 {s t : Int} {x a b c d y : Nat → Int} {i j k l n : Nat} : e5 y b (lc s t a x) c d i j k l n = s * e5 y b a c d i j k l n + t * e5 y b x c d i j k l n := by unfold e5; rw [e4_l2, e4_l2, e4_l2, e4_l2, e4_l2]; grind
theorem e5_l4 {s t : Int} {x a b c d y : Nat → Int} {i j k l n : Nat} : e5 y b c (lc s t a x) d i j k l n = s * e5 y b c a d i j k l n + t * e5 y b c x d i j k l n := by unfold e5; rw [e4_l3, e4_l3, e4_l3, e4_l3, e4_l3]; grind
theorem e5_l5 {s t : Int} {x a b c d y : Nat → Int} {i j k l n : Nat} : e5 y b c d (lc s t a x) i j k l n = s * e5 y b c d a i j k l n + t * e5 y b c d x i j k l n := by unfold e5; rw [e4_l4, e4_l4, e4_l4, e4_l4, e4_l4]; grind
theorem e3_02 {x b : Nat → Int} {i j k : Nat} : e3 x x b i j k = 0 := by unfold e3 e2; grind
theorem e3_03 {x b : Nat → Int} {i j k : Nat} : e3 x b x i j k = 0 := by unfold e3 e2; grind
theorem e4_02 {x b c : Nat → Int} {i j k l : Nat} : e4 x x b c i j k l = 0 := by unfold e4 e3; grind
theorem e4_03 {x b c : Nat → Int} {i j k l : Nat} : e4 x b x c i j k l = 0 := by unfold e4 e3 e2; grind
theorem e4_04 {x b c : Nat → Int} {i j k l : Nat} : e4 x b c x i j k l = 0 := by unfold e4 e3 e2; grind
theorem e5_02 {x b c d : Nat → Int} {i j k l n : Nat} : e5 x x b c d i j k l n = 0 := by unfold e5 e4; grind
theorem e5_03 {x b c d : Nat → Int} {i j k l n : Nat} : e5 x b x c d i j k l n = 0 := by unfold e5 e4 e3; grind
theorem e5_04 {x b c d : Nat → Int} {i j k l n : Nat} : e5 x b c x d i j k l n = 0 := by unfold e5 e4 e3 e2; grind
theorem e5_05 {x b c d : Nat → Int} {i j k l n : Nat} : e5 x b c d x i j k l n = 0 := by unfold e5 e4 e3 e2; grind
theorem e3_sw {x a b : Nat → Int} {i j k : Nat} : e3 a x b i k j = e3 x a b k i j := by unfold e3 e2; grind
theorem e2_c {b c : Nat → Int} {i j : Nat} : e2 b c i j = -e2 b c j i := by unfold e2; grind
theorem e3_c {b c d : Nat → Int} {i j k : Nat} : e3 b c d i j k = -e3 b c d j i k := by unfold e3 e2; grind
theorem e4_sw {x a b c : Nat → Int} {i j k l : Nat} : e4 a x b c i k j l = e4 x a b c k i j l := by unfold e4 e3; rw [e2_c (i := k) (j := i)]; grind
theorem e5_sw {x a b c d : Nat → Int} {i j k l n : Nat} : e5 a x b c d i k j l n = e5 x a b c d k i j l n := by unfold e5 e4; rw [e3_c (i := k) (j := i) (k := j), e3_c (i := k) (j := i) (k := l), e3_c (i := k) (j := i) (k := n)]; grind
/-- a row behind a step -/
def nw (l : Int) (k : Nat) (x a a' : Nat → Int) : Prop := ∀ j, l * a' j = x k * a j - a k * x j
theorem nw_f {l : Int} {k : Nat} {x a a' : Nat → Int} (h : nw l k x a a') : lc l 0 a' x = lc (x k) (-(a k)) a x := by
  funext j
  have := h j
  unfold lc
  grind
theorem B2 {l : Int} {k : Nat} {x a a' : Nat → Int} {i j : Nat} (ha : nw l k x a a') : l * e2 x a' i j = x k * e2 x a i j := by
  have h1 : e2 x (lc l 0 a' x) i j = l * e2 x a' i j := e2_2
  rw [← h1, nw_f ha, e2_2]
theorem B3 {l : Int} {k : Nat} {x a a' b b' : Nat → Int} {i j n : Nat} (ha : nw l k x a a') (hb : nw l k x b b') : l ^ 2 * e3 x a' b' i j n = x k ^ 2 * e3 x a b i j n := by
  have h1 : e3 x (lc l 0 a' x) (lc l 0 b' x) i j n = l ^ 2 * e3 x a' b' i j n := by rw [e3_l2, e3_l3, e3_02, e3_03]; grind
  have h2 : e3 x (lc (x k) (-(a k)) a x) (lc (x k) (-(b k)) b x) i j n = x k ^ 2 * e3 x a b i j n := by rw [e3_l2, e3_l3, e3_02, e3_03]; grind
  rw [← h1, nw_f ha, nw_f hb, h2]
theorem B4 {l : Int} {k : Nat} {x a a' b b' c c' : Nat → Int} {i j n o : Nat} (ha : nw l k x a a') (hb : nw l k x b b') (hc : nw l k x c c') : l ^ 3 * e4 x a' b' c' i j n o = x k ^ 3 * e4 x a b c i j n o := by
  have h1 : e4 x (lc l 0 a' x) (lc l 0 b' x) (lc l 0 c' x) i j n o = l ^ 3 * e4 x a' b' c' i j n o := by rw [e4_l2, e4_l3, e4_l4, e4_02, e4_03, e4_04]; grind
  have h2 : e4 x (lc (x k) (-(a k)) a x) (lc (x k) (-(b k)) b x) (lc (x k) (-(c k)) c x) i j n o = x k ^ 3 * e4 x a b c i j n o := by rw [e4_l2, e4_l3, e4_l4, e4_02, e4_03, e4_04]; grind
  rw [← h1, nw_f ha, nw_f hb, nw_f hc, h2]
theorem B5 {l : Int} {k : Nat} {x a a' b b' c c' d d' : Nat → Int} {i j n o q : Nat} (ha : nw l k x a a') (hb : nw l k x b b') (hc : nw l k x c c') (hd : nw l k x d d') : l ^ 4 * e5 x a' b' c' d' i j n o q = x k ^ 4 * e5 x a b c d i j n o q := by
  have h1 : e5 x (lc l 0 a' x) (lc l 0 b' x) (lc l 0 c' x) (lc l 0 d' x) i j n o q = l ^ 4 * e5 x a' b' c' d' i j n o q := by rw [e5_l2, e5_l3, e5_l4, e5_l5, e5_02, e5_03, e5_04, e5_05]; grind
  have h2 : e5 x (lc (x k) (-(a k)) a x) (lc (x k) (-(b k)) b x) (lc (x k) (-(c k)) c x) (lc (x k) (-(d k)) d x) i j n o q = x k ^ 4 * e5 x a b c d i j n o q := by rw [e5_l2, e5_l3, e5_l4, e5_l5, e5_02, e5_03, e5_04, e5_05]; grind
  rw [← h1, nw_f ha, nw_f hb, nw_f hc, nw_f hd, h2]
theorem nw_0 {l : Int} {k : Nat} {x a a' : Nat → Int} (hl : l ≠ 0) (ha : nw l k x a a') : a' k = 0 := by
  have h := ha k
  have : l * a' k = 0 := by rw [h]; grind
  exact (Int.mul_eq_zero.mp this).resolve_left hl
theorem A2 {l : Int} {k : Nat} {x a a' b b' : Nat → Int} {i j : Nat} (hl : l ≠ 0) (hx : x k ≠ 0) (ha : nw l k x a a') (hb : nw l k x b b') : l ^ 2 * e2 a' b' i j = x k * e3 x a b k i j := by
  have h := B3 (i := k) (j := i) (n := j) ha hb
  have e : e3 x a' b' k i j = x k * e2 a' b' i j := by unfold e3 e2; rw [nw_0 hl ha, nw_0 hl hb]; grind
  rw [e] at h
  refine Int.eq_of_mul_eq_mul_left hx ?_
  grind
theorem A3 {l : Int} {k : Nat} {x a a' b b' c c' : Nat → Int} {i j n : Nat} (hl : l ≠ 0) (hx : x k ≠ 0) (ha : nw l k x a a') (hb : nw l k x b b') (hc : nw l k x c c') : l ^ 3 * e3 a' b' c' i j n = x k ^ 2 * e4 x a b c k i j n := by
  have h := B4 (i := k) (j := i) (n := j) (o := n) ha hb hc
  have e : e4 x a' b' c' k i j n = x k * e3 a' b' c' i j n := by unfold e4 e3 e2; rw [nw_0 hl ha, nw_0 hl hb, nw_0 hl hc]; grind
  rw [e] at h
  refine Int.eq_of_mul_eq_mul_left hx ?_
  grind
theorem A4 {l : Int} {k : Nat} {x a a' b b' c c' d d' : Nat → Int} {i j n o : Nat} (hl : l ≠ 0) (hx : x k ≠ 0) (ha : nw l k x a a') (hb : nw l k x b b') (hc : nw l k x c c') (hd : nw l k x d d') : l ^ 4 * e4 a' b' c' d' i j n o = x k ^ 3 * e5 x a b c d k i j n o := by
  have h := B5 (i := k) (j := i) (n := j) (o := n) (q := o) ha hb hc hd
  have z : ∀ {i j n}, e4 a' b' c' d' k i j n = 0 := by intro i j n; unfold e4 e3 e2; rw [nw_0 hl ha, nw_0 hl hb, nw_0 hl hc, nw_0 hl hd]; grind
  have e : e5 x a' b' c' d' k i j n o = x k * e4 a' b' c' d' i j n o := by unfold e5; rw [z, z, z, z]; grind
  rw [e] at h
  refine Int.eq_of_mul_eq_mul_left hx ?_
  grind
theorem dvq {l p u v : Int} (r s : Nat) (hl : l ≠ 0) (h : l ^ r * u = p ^ s * v) (hd : l ^ r ∣ v) : p ^ s ∣ u := by
  obtain ⟨q, hq⟩ := hd
  refine ⟨q, Int.eq_of_mul_eq_mul_left (a := l ^ r) (Int.pow_ne_zero hl) ?_⟩
  rw [h, hq]
  grind
/-- what divides the minors -/
def DU (t : Nat) (l : Int) (m : Nat → Nat → Int) (U : List Nat) : Prop :=
  (2 ≤ t → ∀ a b, a ∈ U → b ∈ U → ∀ i j, l ^ 1 ∣ e2 (m a) (m b) i j) ∧
  (3 ≤ t → ∀ a b c, a ∈ U → b ∈ U → c ∈ U → ∀ i j k, l ^ 2 ∣ e3 (m a) (m b) (m c) i j k) ∧
  (4 ≤ t → ∀ a b c d, a ∈ U → b ∈ U → c ∈ U → d ∈ U → ∀ i j k o, l ^ 3 ∣ e4 (m a) (m b) (m c) (m d) i j k o) ∧
  (5 ≤ t → ∀ a b c d e, a ∈ U → b ∈ U → c ∈ U → d ∈ U → e ∈ U → ∀ i j k o n, l ^ 4 ∣ e5 (m a) (m b) (m c) (m d) (m e) i j k o n)
def DR (t : Nat) (l : Int) (m : Nat → Nat → Int) (P U : List Nat) : Prop :=
  (1 ≤ t → ∀ a b, a ∈ P → b ∈ U → ∀ i j, l ^ 1 ∣ e2 (m a) (m b) i j) ∧
  (2 ≤ t → ∀ a b c, a ∈ P → b ∈ U → c ∈ U → ∀ i j k, l ^ 2 ∣ e3 (m a) (m b) (m c) i j k) ∧
  (3 ≤ t → ∀ a b c d, a ∈ P → b ∈ U → c ∈ U → d ∈ U → ∀ i j k o, l ^ 3 ∣ e4 (m a) (m b) (m c) (m d) i j k o) ∧
  (4 ≤ t → ∀ a b c d e, a ∈ P → b ∈ U → c ∈ U → d ∈ U → e ∈ U → ∀ i j k o n, l ^ 4 ∣ e5 (m a) (m b) (m c) (m d) (m e) i j k o n)
theorem DU_1 {t : Nat} {m : Nat → Nat → Int} {U : List Nat} : DU t 1 m U := by
  refine ⟨fun _ a b _ _ i j => ?_, fun _ a b c _ _ _ i j k => ?_, fun _ a b c d _ _ _ _ i j k o => ?_, fun _ a b c d e _ _ _ _ _ i j k o n => ?_⟩ <;> exact ⟨_, by rw [Int.one_pow, Int.one_mul]⟩
theorem DR_1 {t : Nat} {m : Nat → Nat → Int} {P U : List Nat} : DR t 1 m P U := by
  refine ⟨fun _ a b _ _ i j => ?_, fun _ a b c _ _ _ i j k => ?_, fun _ a b c d _ _ _ _ i j k o => ?_, fun _ a b c d e _ _ _ _ _ i j k o n => ?_⟩ <;> exact ⟨_, by rw [Int.one_pow, Int.one_mul]⟩
/-- a step takes them along -/
theorem DU_s {t k : Nat} {l : Int} {m m' : Nat → Nat → Int} {U : List Nat} (ht : t ≤ 4) (hl : l ≠ 0) (hx : m k k ≠ 0) (hk : k ∈ U) (h : DU (t + 1) l m U) {U' : List Nat} (hU : ∀ u, u ∈ U' → u ∈ U ∧ nw l k (m k) (m u) (m' u)) : DU t (m k k) m' U' := by
  obtain ⟨h2, h3, h4, h5⟩ := h
  refine ⟨fun q a b qa qb i j => ?_, fun q a b c qa qb qc i j n => ?_, fun q a b c d qa qb qc qd i j n o => ?_, fun q => by omega⟩
  · have e := A2 (i := i) (j := j) hl hx (hU a qa).2 (hU b qb).2
    exact dvq 2 1 hl (by rw [e]; grind) (h3 (by omega) k a b hk (hU a qa).1 (hU b qb).1 k i j)
  · exact dvq 3 2 hl (A3 hl hx (hU a qa).2 (hU b qb).2 (hU c qc).2) (h4 (by omega) k a b c hk (hU a qa).1 (hU b qb).1 (hU c qc).1 k i j n)
  · exact dvq 4 3 hl (A4 hl hx (hU a qa).2 (hU b qb).2 (hU c qc).2 (hU d qd).2) (h5 (by omega) k a b c d hk (hU a qa).1 (hU b qb).1 (hU c qc).1 (hU d qd).1 k i j n o)
theorem DR_s {t k : Nat} {l : Int} {m m' : Nat → Nat → Int} {P U : List Nat} (ht : t ≤ 4) (hP : t = 4 → P = []) (hl : l ≠ 0) (hx : m k k ≠ 0) (hk : k ∈ U) (hkk : m' k = m k) (h : DU (t + 1) l m U) (hr : DR (t + 1) l m P U) {U' : List Nat} (hU : ∀ u, u ∈ U' → u ∈ U ∧ nw l k (m k) (m u) (m' u)) (hPw : ∀ u, u ∈ P → nw l k (m k) (m u) (m' u)) : DR t (m k k) m' (k :: P) U' := by
  obtain ⟨h2, h3, h4, h5⟩ := h
  obtain ⟨r2, r3, r4, r5⟩ := hr
  refine ⟨fun q a b qa qb i j => ?_, fun q a b c qa qb qc i j n => ?_, fun q a b c d qa qb qc qd i j n o => ?_, fun q a b c d e qa qb qc qd qe i j n o v => ?_⟩
  · rcases List.mem_cons.mp qa with w | w
    · subst w
      rw [hkk]
      exact dvq 1 1 hl (by have := B2 (i := i) (j := j) (hU b qb).2; grind) (h2 (by omega) a b hk (hU b qb).1 i j)
    · have e := A2 (i := i) (j := j) hl hx (hPw a w) (hU b qb).2
      rw [← e3_sw] at e
      exact dvq 2 1 hl (by rw [e]; grind) (r3 (by omega) a k b w hk (hU b qb).1 i k j)
  · rcases List.mem_cons.mp qa with w | w
    · subst w
      rw [hkk]
      exact dvq 2 2 hl (B3 (hU b qb).2 (hU c qc).2) (h3 (by omega) a b c hk (hU b qb).1 (hU c qc).1 i j n)
    · have e := A3 (i := i) (j := j) (n := n) hl hx (hPw a w) (hU b qb).2 (hU c qc).2
      rw [← e4_sw] at e
      exact dvq 3 2 hl e (r4 (by omega) a k b c w hk (hU b qb).1 (hU c qc).1 i k j n)
  · rcases List.mem_cons.mp qa with w | w
    · subst w
      rw [hkk]
      exact dvq 3 3 hl (B4 (hU b qb).2 (hU c qc).2 (hU d qd).2) (h4 (by omega) a b c d hk (hU b qb).1 (hU c qc).1 (hU d qd).1 i j n o)
    · have e := A4 (i := i) (j := j) (n := n) (o := o) hl hx (hPw a w) (hU b qb).2 (hU c qc).2 (hU d qd).2
      rw [← e5_sw] at e
      exact dvq 4 3 hl e (r5 (by omega) a k b c d w hk (hU b qb).1 (hU c qc).1 (hU d qd).1 i k j n o)
  · rcases List.mem_cons.mp qa with w | w
    · subst w
      rw [hkk]
      exact dvq 4 4 hl (B5 (hU b qb).2 (hU c qc).2 (hU d qd).2 (hU e qe).2) (h5 (by omega) a b c d e hk (hU b qb).1 (hU c qc).1 (hU d qd).1 (hU e qe).1 i j n o v)
    · rw [hP (by omega)] at w
      cases w
