/-! Numbers as `nI`, reads behind writes. -/
theorem ab_lits : (0 : Int32) = nI 0 ∧ (1 : Int32) = nI 1 ∧ (2 : Int32) = nI 2 ∧ (3 : Int32) = nI 3 ∧ (4 : Int32) = nI 4 ∧ (5 : Int32) = nI 5 ∧ (6 : Int32) = nI 6 ∧ (7 : Int32) = nI 7 ∧ (8 : Int32) = nI 8 ∧ (9 : Int32) = nI 9 ∧ (10 : Int32) = nI 10 ∧ (11 : Int32) = nI 11 ∧ (12 : Int32) = nI 12 ∧ (13 : Int32) = nI 13 ∧ (14 : Int32) = nI 14 ∧ (15 : Int32) = nI 15 ∧ (16 : Int32) = nI 16 ∧ (17 : Int32) = nI 17 ∧ (18 : Int32) = nI 18 ∧ (19 : Int32) = nI 19 ∧ (20 : Int32) = nI 20 ∧ (21 : Int32) = nI 21 ∧ (22 : Int32) = nI 22 ∧ (23 : Int32) = nI 23 ∧ (24 : Int32) = nI 24 ∧ (25 : Int32) = nI 25 ∧ (26 : Int32) = nI 26 ∧ (27 : Int32) = nI 27 ∧ (28 : Int32) = nI 28 ∧ (29 : Int32) = nI 29 ∧ (30 : Int32) = nI 30 ∧ (31 : Int32) = nI 31 ∧ (32 : Int32) = nI 32 ∧ (33 : Int32) = nI 33 ∧ (34 : Int32) = nI 34 ∧ (35 : Int32) = nI 35 ∧ (36 : Int32) = nI 36 ∧ (37 : Int32) = nI 37 ∧ (38 : Int32) = nI 38 ∧ (39 : Int32) = nI 39 ∧ (40 : Int32) = nI 40 ∧ (41 : Int32) = nI 41 ∧ (42 : Int32) = nI 42 ∧ (43 : Int32) = nI 43 ∧ (48 : Int32) = nI 48 ∧ (52 : Int32) = nI 52 ∧ (57 : Int32) = nI 57 ∧ (63 : Int32) = nI 63 ∧ (64 : Int32) = nI 64 ∧ (97 : Int32) = nI 97 ∧ (99 : Int32) = nI 99 ∧ (100 : Int32) = nI 100 ∧ (122 : Int32) = nI 122 ∧ (133 : Int32) = nI 133 ∧ (134 : Int32) = nI 134 ∧ (199 : Int32) = nI 199 ∧ (200 : Int32) = nI 200 ∧ (255 : Int32) = nI 255 ∧ (729 : Int32) = nI 729 ∧ (900 : Int32) = nI 900 ∧ (999 : Int32) = nI 999 ∧ (1000 : Int32) = nI 1000 ∧ (1003 : Int32) = nI 1003 ∧ (1034 : Int32) = nI 1034 ∧ (3000 : Int32) = nI 3000 ∧ (3001 : Int32) = nI 3001 ∧ (3002 : Int32) = nI 3002 ∧ (3003 : Int32) = nI 3003 ∧ (3004 : Int32) = nI 3004 ∧ (3005 : Int32) = nI 3005 ∧ (3006 : Int32) = nI 3006 ∧ (3007 : Int32) = nI 3007 ∧ (3008 : Int32) = nI 3008 ∧ (3009 : Int32) = nI 3009 ∧ (4374 : Int32) = nI 4374 ∧ (4375 : Int32) = nI 4375 ∧ (8192 : Int32) = nI 8192 ∧ (8748 : Int32) = nI 8748 ∧ (10000 : Int32) = nI 10000 ∧ (1000000 : Int32) = nI 1000000 ∧ (268435456 : Int32) = nI 268435456 := ⟨rfl, rfl, rfl, rfl, rfl, rfl, rfl, rfl, rfl, rfl, rfl, rfl, rfl, rfl, rfl, rfl, rfl, rfl, rfl, rfl, rfl, rfl, rfl, rfl, rfl, rfl, rfl, rfl, rfl, rfl, rfl, rfl, rfl, rfl, rfl, rfl, rfl, rfl, rfl, rfl, rfl, rfl, rfl, rfl, rfl, rfl, rfl, rfl, rfl, rfl, rfl, rfl, rfl, rfl, rfl, rfl, rfl, rfl, rfl, rfl, rfl, rfl, rfl, rfl, rfl, rfl, rfl, rfl, rfl, rfl, rfl, rfl, rfl, rfl, rfl, rfl, rfl, rfl, rfl, rfl, rfl⟩
theorem ab_llits : (0 : Int64) = lN 0 ∧ (1 : Int64) = lN 1 ∧ (2 : Int64) = lN 2 ∧ (3 : Int64) = lN 3 ∧ (4 : Int64) = lN 4 ∧ (5 : Int64) = lN 5 ∧ (6 : Int64) = lN 6 ∧ (7 : Int64) = lN 7 ∧ (8 : Int64) = lN 8 ∧ (9 : Int64) = lN 9 ∧ (10 : Int64) = lN 10 ∧ (11 : Int64) = lN 11 ∧ (12 : Int64) = lN 12 ∧ (13 : Int64) = lN 13 ∧ (14 : Int64) = lN 14 ∧ (15 : Int64) = lN 15 ∧ (16 : Int64) = lN 16 ∧ (17 : Int64) = lN 17 ∧ (18 : Int64) = lN 18 ∧ (19 : Int64) = lN 19 ∧ (20 : Int64) = lN 20 ∧ (21 : Int64) = lN 21 ∧ (22 : Int64) = lN 22 ∧ (23 : Int64) = lN 23 ∧ (24 : Int64) = lN 24 ∧ (25 : Int64) = lN 25 ∧ (26 : Int64) = lN 26 ∧ (27 : Int64) = lN 27 ∧ (28 : Int64) = lN 28 ∧ (29 : Int64) = lN 29 ∧ (30 : Int64) = lN 30 ∧ (31 : Int64) = lN 31 ∧ (32 : Int64) = lN 32 ∧ (33 : Int64) = lN 33 ∧ (34 : Int64) = lN 34 ∧ (35 : Int64) = lN 35 ∧ (36 : Int64) = lN 36 ∧ (37 : Int64) = lN 37 ∧ (38 : Int64) = lN 38 ∧ (39 : Int64) = lN 39 ∧ (40 : Int64) = lN 40 ∧ (41 : Int64) = lN 41 ∧ (42 : Int64) = lN 42 ∧ (43 : Int64) = lN 43 ∧ (63 : Int64) = lN 63 ∧ (99 : Int64) = lN 99 ∧ (100 : Int64) = lN 100 ∧ (199 : Int64) = lN 199 ∧ (255 : Int64) = lN 255 ∧ (999 : Int64) = lN 999 ∧ (10000 : Int64) = lN 10000 ∧ (1000000 : Int64) = lN 1000000 ∧ (1000000000000000 : Int64) = lN 1000000000000000 := ⟨rfl, rfl, rfl, rfl, rfl, rfl, rfl, rfl, rfl, rfl, rfl, rfl, rfl, rfl, rfl, rfl, rfl, rfl, rfl, rfl, rfl, rfl, rfl, rfl, rfl, rfl, rfl, rfl, rfl, rfl, rfl, rfl, rfl, rfl, rfl, rfl, rfl, rfl, rfl, rfl, rfl, rfl, rfl, rfl, rfl, rfl, rfl, rfl, rfl, rfl, rfl, rfl, rfl⟩
theorem ab_negT {w : Nat} (h : w < 2 ^ 31) : (-nI w).toInt = -(w : Int) := sb_negT h
theorem ab_n_eq {a b : Nat} (ha : a < 2 ^ 31) (hb : b < 2 ^ 31) (h0 : 0 < b) : (nI a = -nI b) ↔ False := by
  rw [← Int32.toInt_inj, nI_toInt ha, sb_negT hb]; exact iff_of_false (by omega) not_false
theorem ab_n_eq' {a b : Nat} (ha : a < 2 ^ 31) (hb : b < 2 ^ 31) (h0 : 0 < b) : (-nI b = nI a) ↔ False := by
  rw [← Int32.toInt_inj, nI_toInt ha, sb_negT hb]; exact iff_of_false (by omega) not_false
theorem ab_n_lt {a b : Nat} (ha : a < 2 ^ 31) (hb : b < 2 ^ 31) : (nI a < -nI b) ↔ False := by
  rw [Int32.lt_iff_toInt_lt, nI_toInt ha, sb_negT hb]; exact iff_of_false (by omega) not_false
theorem ab_n_le {a b : Nat} (ha : a < 2 ^ 31) (hb : b < 2 ^ 31) (h0 : 0 < b) : (nI a ≤ -nI b) ↔ False := by
  rw [Int32.le_iff_toInt_le, nI_toInt ha, sb_negT hb]; exact iff_of_false (by omega) not_false
theorem ab_n_lt' {a b : Nat} (ha : a < 2 ^ 31) (hb : b < 2 ^ 31) (h0 : 0 < b) : (-nI b < nI a) ↔ True := by
  rw [Int32.lt_iff_toInt_lt, nI_toInt ha, sb_negT hb]; exact iff_of_true (by omega) trivial
theorem ab_n_le' {a b : Nat} (ha : a < 2 ^ 31) (hb : b < 2 ^ 31) : (-nI b ≤ nI a) ↔ True := by
  rw [Int32.le_iff_toInt_le, nI_toInt ha, sb_negT hb]; exact iff_of_true (by omega) trivial
theorem ab_n_nn {a b : Nat} (ha : a < 2 ^ 31) (hb : b < 2 ^ 31) : (-nI a = -nI b) ↔ a = b := by
  rw [← Int32.toInt_inj, sb_negT ha, sb_negT hb]; omega
theorem ab_w1 (h : abJ) (o k : Nat) (v : Int32) (o' k' : Nat) : (ab_wI h o k v).1 o' k' = if o' = o ∧ k' = k then v else h.1 o' k' := by
  unfold ab_wI ab_uI
  dsimp only
  by_cases e : o' = o
  · subst e
    by_cases e2 : k' = k
    · subst e2; rw [if_pos rfl, if_pos ⟨rfl, rfl⟩]; exact pk_us
    · rw [if_pos rfl, if_neg (fun q => e2 q.2)]; exact pk_un e2
  · rw [if_neg e, if_neg (fun q => e q.1)]
theorem ab_w1e (h : abJ) (o k : Nat) (v : Int32) : (ab_wI h o k v).1 o k = v := by rw [ab_w1, if_pos ⟨rfl, rfl⟩]
theorem ab_w1k {h : abJ} {o k k' : Nat} {v : Int32} (e : k' ≠ k) : (ab_wI h o k v).1 o k' = h.1 o k' := by rw [ab_w1, if_neg (fun q => e q.2)]
theorem ab_w1n {h : abJ} {o k o' : Nat} {v : Int32} (e : o' ≠ o) : (ab_wI h o k v).1 o' = h.1 o' := by
  funext k'; rw [ab_w1, if_neg (fun q => e q.1)]
theorem ab_w2 (h : abJ) (o k : Nat) (v : Int32) : (ab_wI h o k v).2 = h.2 := rfl
theorem ab_v2 (h : abJ) (o k : Nat) (v : Int64) (o' k' : Nat) : (ab_wL h o k v).2 o' k' = if o' = o ∧ k' = k then v else h.2 o' k' := by
  unfold ab_wL ab_uL
  dsimp only
  by_cases e : o' = o
  · subst e
    by_cases e2 : k' = k
    · subst e2; rw [if_pos rfl, if_pos ⟨rfl, rfl⟩]; exact pk_uLs
    · rw [if_pos rfl, if_neg (fun q => e2 q.2)]; exact pk_uLn e2
  · rw [if_neg e, if_neg (fun q => e q.1)]
theorem ab_v2e (h : abJ) (o k : Nat) (v : Int64) : (ab_wL h o k v).2 o k = v := by rw [ab_v2, if_pos ⟨rfl, rfl⟩]
theorem ab_v2k {h : abJ} {o k k' : Nat} {v : Int64} (e : k' ≠ k) : (ab_wL h o k v).2 o k' = h.2 o k' := by rw [ab_v2, if_neg (fun q => e q.2)]
theorem ab_v2n {h : abJ} {o k o' : Nat} {v : Int64} (e : o' ≠ o) : (ab_wL h o k v).2 o' = h.2 o' := by
  funext k'; rw [ab_v2, if_neg (fun q => e q.1)]
theorem ab_v1 (h : abJ) (o k : Nat) (v : Int64) : (ab_wL h o k v).1 = h.1 := rfl
theorem ab_askP {α : Type} {c : Prop} [Decidable c] {k : Option α} (h : ¬ c) : ab_ask c k = k := by unfold ab_ask; rw [if_neg h]
theorem ab_bindS {α β : Type} (a : α) (f : α → Option β) : (some a).bind f = f a := rfl
/-- an index within -/
theorem ab_ix {α : Type} {a N : Nat} {k : Option α} (h : a < N) (h2 : a < 2 ^ 31) : ab_ask (nI a < 0 ∨ N ≤ (nI a).toNatClampNeg) k = k := by
  refine ab_askP ?_
  rw [nI_clamp h2]
  intro q
  rcases q with q | q
  · exact nI_pos h2 q
  · omega
theorem ab_ixO {α : Type} {a N : Nat} {k : Option α} (h : a < N) (h2 : a < 2 ^ 31) : ab_ask (nI a < nI 0 ∨ N ≤ a) k = k := by
  refine ab_askP ?_
  intro q
  rcases q with q | q
  · exact nI_pos h2 q
  · omega
theorem ab_ixN {α : Type} {a N : Nat} {k : Option α} (h : a < N) : ab_ask (a < 0 ∨ N ≤ a) k = k := ab_askP (by omega)
theorem ab_split (x : Int32) : (∃ a : Nat, a < 2 ^ 31 ∧ x = nI a) ∨ (x < nI 0) := by
  by_cases h : x < 0
  · exact Or.inr h
  · exact Or.inl (nI_of h)
theorem ab_N_eq : ab_N = 1000000 := rfl
theorem ab_w1f (h : abJ) (o k : Nat) (v : Int32) : (ab_wI h o k v).1 o = upd (h.1 o) k v := by
  unfold ab_wI ab_uI; dsimp only; rw [if_pos rfl]
theorem ab_v2f (h : abJ) (o k : Nat) (v : Int64) : (ab_wL h o k v).2 o = vp_updL (h.2 o) k v := by
  unfold ab_wL ab_uL; dsimp only; rw [if_pos rfl]
theorem ab_dec {a b : Nat} (h : b ≤ a) {i : Int} (hi : i = -(b : Int)) : nI a + Int32.ofInt i = nI (a - b) := by
  subst hi
  have e : Int32.ofInt (-(b : Int)) = -nI b := by rw [Int32.ofInt_neg]; rfl
  rw [e, ← Int32.sub_eq_add_neg]
  exact pk_sub h
theorem ab_d1 {a : Nat} (h : 1 ≤ a) : nI a + Int32.ofInt (-1) = nI (a - 1) := ab_dec h rfl
theorem ab_d2 {a : Nat} (h : 2 ≤ a) : nI a + Int32.ofInt (-2) = nI (a - 2) := ab_dec h rfl
theorem ab_d8 {a : Nat} (h : 8 ≤ a) : nI a + Int32.ofInt (-8) = nI (a - 8) := ab_dec h rfl
/-- what a run may change: ints of some cells, longs of some -/
def fr (S T : List Nat) (h h' : abJ) : Prop := (∀ o, o ∉ S → h'.1 o = h.1 o) ∧ (∀ o, o ∉ T → h'.2 o = h.2 o)
theorem fr_r (S T : List Nat) (h : abJ) : fr S T h h := ⟨fun _ _ => rfl, fun _ _ => rfl⟩
theorem fr_t {S T : List Nat} {h h1 h2 : abJ} (a : fr S T h h1) (b : fr S T h1 h2) : fr S T h h2 := ⟨fun o q => (b.1 o q).trans (a.1 o q), fun o q => (b.2 o q).trans (a.2 o q)⟩
theorem fr_m {S T S' T' : List Nat} {h h' : abJ} (a : fr S T h h') (hs : ∀ o, o ∈ S → o ∈ S') (ht : ∀ o, o ∈ T → o ∈ T') : fr S' T' h h' := ⟨fun o q => a.1 o (fun r => q (hs o r)), fun o q => a.2 o (fun r => q (ht o r))⟩
theorem fr_w {S T : List Nat} {h h' : abJ} (a : fr S T h h') {o k : Nat} {v : Int32} (ho : o ∈ S) : fr S T h (ab_wI h' o k v) := ⟨fun q hq => by rw [ab_w1n (fun e => hq (by rw [e]; exact ho))]; exact a.1 q hq, a.2⟩
theorem fr_v {S T : List Nat} {h h' : abJ} (a : fr S T h h') {o k : Nat} {v : Int64} (ho : o ∈ T) : fr S T h (ab_wL h' o k v) := ⟨a.1, fun q hq => by rw [ab_v2n (fun e => hq (by rw [e]; exact ho))]; exact a.2 q hq⟩

theorem ab_v1f (h : abJ) (o k : Nat) (v : Int64) : (ab_wL h o k v).1 = h.1 := rfl
/-! Runs of the functions, goal first. -/
def Ok {α : Type} (o : Option α) (Q : α → Prop) : Prop := ∃ r, o = some r ∧ Q r
theorem Ok.some {α : Type} {r : α} {Q : α → Prop} (h : Q r) : Ok (some r) Q := ⟨r, rfl, h⟩
theorem Ok.of {α : Type} {o : Option α} {r : α} {Q : α → Prop} (e : o = .some r) (h : Q r) : Ok o Q := ⟨r, e, h⟩
theorem Ok.bind {α β : Type} {a : Option α} {f : α → Option β} {P : α → Prop} {Q : β → Prop} (h : Ok a P) (k : ∀ r, P r → Ok (f r) Q) : Ok (a.bind f) Q := by
  obtain ⟨r, e, h⟩ := h
  subst e
  exact k r h
theorem Ok.bindE {α β : Type} {a : Option α} {f : α → Option β} {r : α} {Q : β → Prop} (e : a = .some r) (k : Ok (f r) Q) : Ok (a.bind f) Q := by
  subst e
  exact k
theorem Ok.ask {α : Type} {c : Prop} [hc0 : Decidable c] {o : Option α} {Q : α → Prop} (h : ¬ c) (k : Ok o Q) : Ok (ab_ask c o) Q := by
  rw [ab_askP h]; exact k
theorem Ok.ite {α : Type} {c : Prop} [hc0 : Decidable c] {x y : Option α} {Q : α → Prop} (a : c → Ok x Q) (b : ¬ c → Ok y Q) : Ok (if c then x else y) Q := by
  by_cases h : c
  · rw [if_pos h]; exact a h
  · rw [if_neg h]; exact b h
theorem Ok.pos {α : Type} {c : Prop} [hc0 : Decidable c] {x y : Option α} {Q : α → Prop} (h : c) (a : Ok x Q) : Ok (if c then x else y) Q := by
  rw [if_pos h]; exact a
theorem Ok.neg {α : Type} {c : Prop} [hc0 : Decidable c] {x y : Option α} {Q : α → Prop} (h : ¬ c) (a : Ok y Q) : Ok (if c then x else y) Q := by
  rw [if_neg h]; exact a
theorem Ok.mono {α : Type} {o : Option α} {P Q : α → Prop} (h : Ok o P) (k : ∀ r, P r → Q r) : Ok o Q := by
  obtain ⟨r, e, h⟩ := h
  exact ⟨r, e, k r h⟩
theorem Ok.get {α : Type} {o : Option α} {Q : α → Prop} (h : Ok o Q) : ∃ r, o = .some r ∧ Q r := h
theorem pk_s1 {a : Nat} (h : 1 ≤ a) : nI a - 1 = nI (a - 1) := pk_sub (b := 1) h
theorem k_mod (a d : Nat) : a - a / d * d = a % d := by
  have h := Nat.div_add_mod a d
  rw [Nat.mul_comm] at h
  omega
theorem k_rm (a d : Nat) : nI a - nI (a / d * d) = nI (a % d) := by rw [pk_sub (Nat.div_mul_le_self _ _), k_mod]
/-- truths as ints -/
def bI (b : Bool) : Int32 := if b then 1 else 0
theorem bI_t : bI true = nI 1 := rfl
theorem bI_f : bI false = nI 0 := rfl
theorem bI_0 (b : Bool) : bI b = nI 0 ↔ b = false := by cases b <;> decide
theorem bI_1 (b : Bool) : bI b = nI 1 ↔ b = true := by cases b <;> decide
theorem bI_ok (b : Bool) : ¬ ¬ (bI b = nI 0 ∨ bI b = nI 1) := by cases b <;> decide
theorem bI_okL (b : Bool) : ¬ ¬ (bI b = 0 ∨ bI b = 1) := by cases b <;> decide
theorem ite_bI (c : Prop) [hc0 : Decidable c] : (if c then some (nI 1) else some (nI 0)) = some (bI (decide c)) := by
  by_cases h : c
  · rw [if_pos h, decide_eq_true h]; rfl
  · rw [if_neg h, decide_eq_false h]; rfl
theorem ite_bI' (c : Prop) [hc0 : Decidable c] : (if c then some (nI 0) else some (nI 1)) = some (bI (!decide c)) := by
  by_cases h : c
  · rw [if_pos h, decide_eq_true h]; rfl
  · rw [if_neg h, decide_eq_false h]; rfl
/-! Bits. -/
theorem b_or (a b : Nat) : nI a ||| nI b = nI (a ||| b) := by
  apply Int32.toBitVec_inj.mp
  show BitVec.ofNat 32 a ||| BitVec.ofNat 32 b = BitVec.ofNat 32 (a ||| b)
  simp
theorem b_and (a b : Nat) : nI a &&& nI b = nI (a &&& b) := by
  apply Int32.toBitVec_inj.mp
  show BitVec.ofNat 32 a &&& BitVec.ofNat 32 b = BitVec.ofNat 32 (a &&& b)
  simp
theorem b_shl' : ∀ p < 31, (nI 1 <<< (nI p &&& nI 31)) = nI (2 ^ p) := by decide +kernel
theorem b_shl {p : Nat} (h : p < 31) : (nI 1 <<< (nI p &&& nI 31)) = nI (2 ^ p) := b_shl' p h
set_option maxRecDepth 100000 in
theorem b_test' : ∀ a < 1024, ∀ p < 10, ((nI a >>> (nI p &&& nI 31)) &&& nI 1) = bI (a.testBit p) := by decide +kernel
theorem b_test {a p : Nat} (h : a < 1024) (hp : p < 10) : ((nI a >>> (nI p &&& nI 31)) &&& nI 1) = bI (a.testBit p) := b_test' a h p hp
set_option maxRecDepth 100000 in
theorem b_testL' : ∀ a < 64, ∀ p < 6, ((lN a >>> (lN p &&& lN 63)) &&& lN 1) = if a.testBit p then lN 1 else lN 0 := by decide +kernel
theorem b_testL {a p : Nat} (h : a < 64) (hp : p < 6) : ((lN a >>> (lN p &&& lN 63)) &&& lN 1) = if a.testBit p then lN 1 else lN 0 := b_testL' a h p hp
