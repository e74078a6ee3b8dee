/-! again: stands that come back. -/
def rch (m : MoT) (f : Nat) : Nat → Nat → Nat → Prop
  | 0, u, w => u = w
  | n + 1, u, w => ∃ v, nx m f u = some v ∧ rch m f n v w
theorem rch_add {m : MoT} {f : Nat} : ∀ {a b u v w : Nat}, rch m f a u v → rch m f b v w → rch m f (a + b) u w
  | 0, b, u, v, w, h1, h2 => by
    have h1 : u = v := h1
    rw [h1, Nat.zero_add]; exact h2
  | a + 1, b, u, v, w, h1, h2 => by
    obtain ⟨x, e, h⟩ := h1
    rw [show a + 1 + b = (a + b) + 1 by omega]
    exact ⟨x, e, rch_add h h2⟩
theorem rch_1 {m : MoT} {f u v : Nat} (h : nx m f u = some v) : rch m f 1 u v := ⟨v, h, rfl⟩
theorem rch_C {m : MoT} {f : Nat} {C : Nat → Prop} (hC : ∀ u v, C u → nx m f u = some v → C v) : ∀ {n u w : Nat}, C u → rch m f n u w → C w
  | 0, u, w, h, e => by
    have e : u = w := e
    rw [← e]; exact h
  | n + 1, u, w, h, e => by
    obtain ⟨x, e, h2⟩ := e
    exact rch_C hC (hC u x h e) h2
def cyc (m : MoT) (f u : Nat) : Prop := SV m u ∧ ∃ n, rch m f (n + 1) u u
theorem cyc_n {m : MoT} {f u v : Nat} (hO : MO m) (h : cyc m f u) (e : nx m f u = some v) : cyc m f v ∧ ∃ n, rch m f n v u := by
  obtain ⟨hs, n, x, e1, h1⟩ := h
  rw [e] at e1
  cases e1
  exact ⟨⟨nx_SV hO hs e, n, rch_add h1 (rch_1 e)⟩, n, h1⟩
theorem cyc_r {m : MoT} {f : Nat} (hO : MO m) : ∀ {k u v : Nat}, cyc m f u → rch m f k u v → cyc m f v ∧ ∃ n, rch m f n v u
  | 0, u, v, h, e => by
    have e : u = v := e
    subst e
    exact ⟨h, 0, rfl⟩
  | k + 1, u, v, h, e => by
    obtain ⟨x, e1, h1⟩ := e
    obtain ⟨hx, n, hn⟩ := cyc_n hO h e1
    obtain ⟨hv, q, hq⟩ := cyc_r hO hx h1
    exact ⟨hv, q + n, rch_add hq hn⟩
theorem cyc_p {m : MoT} {f u : Nat} (hO : MO m) (h : cyc m f u) : ∃ v, cyc m f v ∧ nx m f v = some u := by
  obtain ⟨hs, n, h1⟩ := h
  have key : ∀ n u w, rch m f (n + 1) u w → ∃ v, rch m f n u v ∧ nx m f v = some w := by
    intro n
    induction n with
    | zero =>
      intro u w h
      obtain ⟨x, e, h2⟩ := h
      have h2 : x = w := h2
      exact ⟨u, rfl, by rw [e, h2]⟩
    | succ n ih =>
      intro u w h
      obtain ⟨x, e, h2⟩ := h
      obtain ⟨v, h3, e3⟩ := ih x w h2
      exact ⟨v, ⟨x, e, h3⟩, e3⟩
  obtain ⟨v, h3, e3⟩ := key n u u h1
  exact ⟨v, (cyc_r hO ⟨hs, n, h1⟩ h3).1, e3⟩
/-- where every stand has one before it, all come back -/
theorem cyc_X {m : MoT} {f : Nat} {X : Nat → Prop} (hO : MO m) (hX : ∀ u, X u → SV m u) (hp : ∀ u, X u → ∃ v, X v ∧ nx m f v = some u) {u : Nat} (hu : X u) : cyc m f u := by
  have hb : ∃ b : Nat → Nat, b 0 = u ∧ ∀ i, X (b i) ∧ nx m f (b (i + 1)) = some (b i) := by
    have hch : ∀ w, X w → X (Classical.epsilon (fun v => X v ∧ nx m f v = some w)) ∧ nx m f (Classical.epsilon (fun v => X v ∧ nx m f v = some w)) = some w := fun w hw => Classical.epsilon_spec (p := fun v => X v ∧ nx m f v = some w) (hp w hw)
    have hI : ∀ i, X (Nat.rec u (fun _ w => Classical.epsilon (fun v => X v ∧ nx m f v = some w)) i) := by
      intro i
      induction i with
      | zero => exact hu
      | succ i ih => exact (hch _ ih).1
    exact ⟨fun i => Nat.rec u (fun _ w => Classical.epsilon (fun v => X v ∧ nx m f v = some w)) i, rfl, fun i => ⟨hI i, (hch _ (hI i)).2⟩⟩
  obtain ⟨b, b0, hb⟩ := hb
  have hr : ∀ d i, rch m f d (b (i + d)) (b i) := by
    intro d
    induction d with
    | zero => intro i; rfl
    | succ d ih =>
      intro i
      rw [show i + (d + 1) = (i + d) + 1 by omega]
      exact ⟨b (i + d), (hb (i + d)).2, ih i⟩
  have : ∃ i j, i < j ∧ b i = b j := by
    refine Classical.byContradiction (fun q => ?_)
    have := pig 4374 4375 b (fun i _ => SV_lt hO (hX _ (hb i).1)) (fun i j h1 _ e => q ⟨i, j, h1, e⟩)
    omega
  obtain ⟨i, j, hij, e⟩ := this
  have h1 := hr (j - i) i
  rw [show i + (j - i) = j by omega, ← e, show j - i = (j - i - 1) + 1 by omega] at h1
  have h2 := hr i 0
  rw [Nat.zero_add, b0] at h2
  exact (cyc_r hO ⟨hX _ (hb i).1, _, h1⟩ h2).1
noncomputable def cyb (m : MoT) (f u : Nat) : Bool := @decide (cyc m f u) (Classical.propDecidable _)
theorem cyb_t {m : MoT} {f u : Nat} : cyb m f u = true ↔ cyc m f u := by unfold cyb; exact @decide_eq_true_iff _ (Classical.propDecidable _)
/-- what the class has seen: numbered stands; those that come back -/
def AG (m : MoT) (f L : Nat) (g : Nat → Nat) (F : List Nat) (h : abJ) : Prop := (∀ i, i < L → SV m (g i)) ∧ SN (h.1 31) (3 ^ mP m * 6) L g ∧ (∀ i t, i < L → nx m f (g i) = some t → ∃ j, j < L ∧ g j = t) ∧ nd F ∧ (∀ u, u ∈ F ↔ cyc m f u ∧ ∃ i, i < L ∧ g i = u)
theorem SN_d {a : Nat → Int32} {N L : Nat} {g : Nat → Nat} (h : SN a N L g) (hL : L < 2 ^ 31) : ∀ i j, i < L → j < L → g i = g j → i = j := by
  intro i j hi hj e
  have h1 := h.1 i hi
  have h2 := h.1 j hj
  rw [e, h2] at h1
  exact ((nI_eq (by omega) (by omega)).mp h1).symm
/-- a walk under way -/
def AW (m : MoT) (f s S L : Nat) (g : Nat → Nat) (c : Option Nat) (a : Nat → Int32) : Prop := (∀ i, i < L → SV m (g i)) ∧ SN a (3 ^ mP m * 6) L g ∧ (∀ i t, i < S → nx m f (g i) = some t → ∃ j, j < S ∧ g j = t) ∧ S ≤ L ∧ (∀ i, S ≤ i → i + 1 < L → nx m f (g i) = some (g (i + 1))) ∧ (S = L → c = some s) ∧ (S < L → g S = s ∧ nx m f (g (L - 1)) = c) ∧ (∀ x, c = some x → SV m x)
def rng (g : Nat → Nat) : Nat → Nat → List Nat
  | 0, _ => []
  | k + 1, j => g j :: rng g k (j + 1)
theorem rng_m {g : Nat → Nat} {u : Nat} : ∀ {k j : Nat}, u ∈ rng g k j ↔ ∃ i, j ≤ i ∧ i < j + k ∧ g i = u
  | 0, j => ⟨fun q => (by cases q), fun ⟨q, a, b, _⟩ => by omega⟩
  | k + 1, j => by
    rw [rng, List.mem_cons, rng_m]
    constructor
    · rintro (h | ⟨q, a, b, c⟩)
      · exact ⟨j, Nat.le_refl _, by omega, h.symm⟩
      · exact ⟨q, by omega, by omega, c⟩
    · rintro ⟨q, a, b, c⟩
      by_cases eq : q = j
      · subst eq; exact Or.inl c.symm
      · exact Or.inr ⟨q, by omega, by omega, c⟩
theorem rng_l {g : Nat → Nat} : ∀ {k j : Nat}, (rng g k j).length = k
  | 0, _ => rfl
  | k + 1, j => by rw [rng, List.length_cons, rng_l]
theorem rng_nd {g : Nat → Nat} {L : Nat} (hd : ∀ i j, i < L → j < L → g i = g j → i = j) : ∀ {k j : Nat}, j + k ≤ L → nd (rng g k j)
  | 0, _, _ => trivial
  | k + 1, j, h => by
    refine ⟨fun q => ?_, rng_nd hd (by omega)⟩
    obtain ⟨i, a, b, e⟩ := rng_m.mp q
    have := hd i j (by omega) (by omega) e
    omega
theorem AW_rch {m : MoT} {f s S L : Nat} {g : Nat → Nat} {c : Option Nat} {a : Nat → Int32} (h : AW m f s S L g c a) : ∀ d i, S ≤ i → i + d < L → rch m f d (g i) (g (i + d))
  | 0, i, _, _ => rfl
  | d + 1, i, h1, h2 => ⟨g (i + 1), h.2.2.2.2.1 i h1 (by omega), by
      have := AW_rch h d (i + 1) (by omega) (by omega)
      rwa [show i + 1 + d = i + (d + 1) by omega] at this⟩
theorem AW_end {m : MoT} {f s S L : Nat} {g : Nat → Nat} {c : Option Nat} {F : List Nat} {h : abJ} (hO : MO m) (hL : L ≤ 4374) (hA : AW m f s S L g c (h.1 31)) (hF : nd F) (hFm : ∀ u, u ∈ F ↔ cyc m f u ∧ ∃ i, i < S ∧ g i = u) (hc : ∀ x, c = some x → ∃ j, j < L ∧ g j = x) : ((∀ j, c = some (g j) → j < L → j < S) → AG m f L g F h) ∧ (∀ j, c = some (g j) → S ≤ j → j < L → AG m f L g (F ++ rng g (L - j) j) h) := by
  have hd := SN_d hA.2.1 (by omega)
  have hcl : ∀ i t, i < L → nx m f (g i) = some t → ∃ j, j < L ∧ g j = t := by
    intro i t hi e
    by_cases c1 : i < S
    · obtain ⟨j, hj, e2⟩ := hA.2.2.1 i t c1 e
      exact ⟨j, by have := hA.2.2.2.1; omega, e2⟩
    · by_cases c2 : i + 1 < L
      · rw [hA.2.2.2.2.1 i (by omega) c2] at e
        cases e
        exact ⟨i + 1, c2, rfl⟩
      · have := (hA.2.2.2.2.2.2.1 (by omega)).2
        rw [show L - 1 = i by omega, e] at this
        exact hc t this.symm
  have hnxL : S < L → nx m f (g (L - 1)) = c := fun q => (hA.2.2.2.2.2.2.1 q).2
  refine ⟨fun hj => ⟨hA.1, hA.2.1, hcl, hF, fun u => (hFm u).trans ⟨fun ⟨a, i, hi, e⟩ => ⟨a, i, by have := hA.2.2.2.1; omega, e⟩, ?_⟩⟩, fun j ej hSj hjL => ⟨hA.1, hA.2.1, hcl, ?_, fun u => ?_⟩⟩
  · rintro ⟨a, i, hi, e⟩
    refine ⟨a, ?_⟩
    by_cases c1 : i < S
    · exact ⟨i, c1, e⟩
    exfalso
    have hr := AW_rch hA (L - 1 - i) i (by omega) (by omega)
    rw [show i + (L - 1 - i) = L - 1 by omega, e] at hr
    obtain ⟨a2, n, hn⟩ := cyc_r hO a hr
    have hn1 := hnxL (by omega)
    cases ec : c with
    | none =>
      rw [ec] at hn1
      obtain ⟨_, n, v, e2, _⟩ := a2
      rw [hn1] at e2; cases e2
    | some x =>
      rw [ec] at hn1
      obtain ⟨j, hjL, ex⟩ := hc x ec
      have hjS := hj j (by rw [ec, ex]) hjL
      obtain ⟨_, n2, hn2⟩ := cyc_n hO a2 hn1
      have := rch_C (C := fun w => ∃ j, j < S ∧ g j = w) (fun u v ⟨q, h1, h2⟩ e => hA.2.2.1 q v h1 (by rw [h2]; exact e)) ⟨j, hjS, ex⟩ (rch_add hn2 hn)
      obtain ⟨q, hq, eq⟩ := this
      have := hd q i (by omega) hi (by rw [eq, e])
      omega
  · refine nd_app hF (rng_nd hd (by omega)) (fun x hx q => ?_)
    obtain ⟨_, i, hi, e⟩ := (hFm x).mp hx
    obtain ⟨i2, h1, h2, e2⟩ := rng_m.mp q
    have := hd i i2 (by omega) (by omega) (by rw [e, e2])
    omega
  · rw [List.mem_append, hFm, rng_m]
    have hn1 := hnxL (by omega)
    rw [ej] at hn1
    constructor
    · rintro (⟨a, i, hi, e⟩ | ⟨i, h1, h2, e⟩)
      · exact ⟨a, i, by omega, e⟩
      · refine ⟨⟨by rw [← e]; exact hA.1 i (by omega), L - j - 1, ?_⟩, i, by omega, e⟩
        have r1 := AW_rch hA (L - 1 - i) i (by omega) (by omega)
        rw [show i + (L - 1 - i) = L - 1 by omega] at r1
        have r2 := AW_rch hA (i - j) j hSj (by omega)
        rw [show j + (i - j) = i by omega] at r2
        have := rch_add (rch_add r1 (rch_1 hn1)) r2
        rw [show L - 1 - i + 1 + (i - j) = L - j - 1 + 1 by omega, e] at this
        exact this
    · rintro ⟨a, i, hi, e⟩
      by_cases c1 : i < S
      · exact Or.inl ⟨a, i, c1, e⟩
      by_cases c2 : j ≤ i
      · exact Or.inr ⟨i, c2, by omega, e⟩
      exfalso
      have hr := AW_rch hA (j - i) i (by omega) (by omega)
      rw [show i + (j - i) = j by omega, e] at hr
      obtain ⟨_, n, hn⟩ := cyc_r hO a hr
      have := rch_C (C := fun w => ∃ q, j ≤ q ∧ q < L ∧ g q = w) (fun u v ⟨q, h1, h2, h3⟩ e => by
        subst h3
        by_cases c3 : q + 1 < L
        · rw [hA.2.2.2.2.1 q (by omega) c3] at e
          cases e
          exact ⟨q + 1, by omega, c3, rfl⟩
        · rw [show q = L - 1 by omega, hn1] at e
          cases e
          exact ⟨j, Nat.le_refl _, hjL, rfl⟩) ⟨j, Nat.le_refl _, hjL, rfl⟩ hn
      obtain ⟨q, h1, h2, e2⟩ := this
      have := hd q i h2 hi (by rw [e2, e])
      omega
theorem AW_push {m : MoT} {f s S L x : Nat} {g : Nat → Nat} {a : Nat → Int32} (hO : MO m) (hA : AW m f s S L g (some x) a) (hx : ∀ i, i < L → g i ≠ x) : AW m f s S (L + 1) (ups g L x) (nx m f x) (upd a x (nI L)) := by
  obtain ⟨h1, h2, h3, h4, h5, h6, h7, h8⟩ := hA
  have hxs := h8 x rfl
  refine ⟨fun i hi => ?_, SN_push h2 hx, fun i t hi e => ?_, by omega, fun i hi h => ?_, fun q => by omega, fun _ => ⟨?_, ?_⟩, fun t e => nx_SV hO hxs e⟩
  · by_cases e : i = L
    · subst e; rw [ups_s]; exact hxs
    · rw [ups_n e]; exact h1 i (by omega)
  · rw [ups_n (by omega)] at e
    obtain ⟨j, hj, ej⟩ := h3 i t hi e
    exact ⟨j, hj, by rw [ups_n (by omega)]; exact ej⟩
  · by_cases e : i + 1 = L
    · have := (h7 (by omega)).2
      rw [ups_n (by omega), e, ups_s, ← this, show L - 1 = i by omega]
    · rw [ups_n (by omega), ups_n e]
      exact h5 i hi (by omega)
  · by_cases e : S = L
    · have := h6 e
      cases this
      subst e; rw [ups_s]
    · rw [ups_n e]; exact (h7 (by omega)).1
  · rw [show L + 1 - 1 = L by omega, ups_s]
