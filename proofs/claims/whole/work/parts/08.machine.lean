/-! A small machine over cells that are numbered: a value is Value, but a reference is a cell's number. 1000000 + j: String constant j; 2000000 + j: its bytes; 3000000: WEIGHTS; 3000001: the script; 3000002: a formatter, or null. -/
abbrev abD : Type := (Nat → Nat → Int32) × (Nat → Nat → Int64) × (Nat → Nat → Nat)
abbrev abZ : Type := List (Nat × Nat)
abbrev abL : Type := List (Nat × Value)
abbrev abS : Type := Nat × abL × List Value × abD
/-- the script: its length, its ints -/
abbrev abX : Type := Nat × (Nat → Int32)
def ab_lk (lv : abL) (i : Nat) : Option Value := (lv.find? (fun q => q.1 == i)).map (fun q => q.2)
def ab_s1 (lv : abL) (i : Nat) (v : Value) : abL := (i, v) :: lv.filter (fun q => !(q.1 == i) && !(q.1 + 1 == i && q.2.category == 2))
def ab_s2 (lv : abL) (i : Nat) (v : Value) : abL := (i, v) :: lv.filter (fun q => !(q.1 == i) && (!(q.1 == i + 1) && !(q.1 + 1 == i && q.2.category == 2)))
def ab_uI (f : Nat → Nat → Int32) (o k : Nat) (v : Int32) : Nat → Nat → Int32 := fun a => if a = o then upd (f o) k v else f a
def ab_uL (f : Nat → Nat → Int64) (o k : Nat) (v : Int64) : Nat → Nat → Int64 := fun a => if a = o then vp_updL (f o) k v else f a
def ab_uR (f : Nat → Nat → Nat) (o k : Nat) (v : Nat) : Nat → Nat → Nat := fun a => if a = o then (fun j => if j = k then v else f o j) else f a
def ab_kd (ci k : Nat) : Nat := (ab_fk.getD ci []).getD k 0
def ab_wt : List Int32 := [1, 3, 9, 27, 81, 243, 729]
def ab_g (len k : Nat) (r : Option abS) : Option abS := if len = k then r else none
def ab_go (pc : Nat) (off : Int) (lv : abL) (st : List Value) (D : abD) : Option abS := if 0 ≤ (pc : Int) + off then some (((pc : Int) + off).toNat, lv, st, D) else none
def ab_ldi (n : Nat) (lv : abL) (st : List Value) (D : abD) (i : Nat) : Option abS := match ab_lk lv i with | some (.int x) => some (n, lv, .int x :: st, D) | _ => none
def ab_ldl (n : Nat) (lv : abL) (st : List Value) (D : abD) (i : Nat) : Option abS := match ab_lk lv i with | some (.long x) => some (n, lv, .long x :: st, D) | _ => none
def ab_lda (n : Nat) (lv : abL) (st : List Value) (D : abD) (i : Nat) : Option abS := match ab_lk lv i with | some (.ref x) => some (n, lv, .ref x :: st, D) | _ => none
def ab_sti (n nL : Nat) (lv : abL) (st : List Value) (D : abD) (i : Nat) : Option abS := match st with | .int x :: r => if i < nL then some (n, ab_s1 lv i (.int x), r, D) else none | _ => none
def ab_stl (n nL : Nat) (lv : abL) (st : List Value) (D : abD) (i : Nat) : Option abS := match st with | .long x :: r => if i + 1 < nL then some (n, ab_s2 lv i (.long x), r, D) else none | _ => none
def ab_sta (n nL : Nat) (lv : abL) (st : List Value) (D : abD) (i : Nat) : Option abS := match st with | .ref x :: r => if i < nL ∧ x < 3000000 then some (n, ab_s1 lv i (.ref x), r, D) else none | _ => none
def ab_i2 (pc : Nat) (lv : abL) (st : List Value) (D : abD) (f : Int32 → Int32 → Int32) : Option abS := match st with | .int y :: .int x :: r => some (pc + 1, lv, .int (f x y) :: r, D) | _ => none
def ab_l2 (pc : Nat) (lv : abL) (st : List Value) (D : abD) (f : Int64 → Int64 → Int64) : Option abS := match st with | .long y :: .long x :: r => some (pc + 1, lv, .long (f x y) :: r, D) | _ => none
def ab_li (pc : Nat) (lv : abL) (st : List Value) (D : abD) (f : Int64 → Int32 → Int64) : Option abS := match st with | .int y :: .long x :: r => some (pc + 1, lv, .long (f x y) :: r, D) | _ => none
def ab_i1 (pc : Nat) (lv : abL) (st : List Value) (D : abD) (f : Int32 → Value) : Option abS := match st with | .int x :: r => some (pc + 1, lv, f x :: r, D) | _ => none
def ab_l1 (pc : Nat) (lv : abL) (st : List Value) (D : abD) (f : Int64 → Value) : Option abS := match st with | .long x :: r => some (pc + 1, lv, f x :: r, D) | _ => none
def ab_if (cd : Jvm.ClassFile.Cond) (x y : Int32) (A B : Option abS) : Option abS := match cd with
  | .eq => if x = y then A else B
  | .ne => if x = y then B else A
  | .lt => if x < y then A else B
  | .ge => if y ≤ x then A else B
  | .gt => if y < x then A else B
  | .le => if x ≤ y then A else B
/-- an array of ints: its length, its ints -/
def ab_ai (X : abX) (sh : abZ) (D : abD) (o : Nat) : Option (Nat × (Nat → Int32)) :=
  if o = 3000000 then some (7, fun k => ab_wt.getD k 0) else if o = 3000001 then some X else match sh[o]? with | some (100, n) => some (n, D.1 o) | _ => none
/-- an array of bytes or truths -/
def ab_ab (sh : abZ) (D : abD) (o : Nat) : Option (Nat × (Nat → Int32)) :=
  if 2000000 ≤ o then (if o < 2000032 then some (ab_sl.getD (o - 2000000) 0, fun k => (ab_sb.getD (o - 2000000) []).getD k 0) else none) else match sh[o]? with | some (102, n) => some (n, D.1 o) | _ => none
def ab_len (X : abX) (sh : abZ) (o : Nat) : Option Nat :=
  if o = 3000001 then some X.1 else if 2000000 ≤ o then (if o < 2000032 then some (ab_sl.getD (o - 2000000) 0) else none) else match sh[o]? with | some (t, n) => if 100 ≤ t ∧ t < 106 then some n else none | none => none
def ab_get (sh : abZ) (D : abD) (a : List Nat) (o : Nat) : Option Value := match a with
  | [0, ci, k, _] => (match sh[o]? with
    | some (t, n) => if t = ci ∧ k < n then (match ab_kd ci k with | 1 => some (.long (D.2.1 o k)) | 2 => (match D.2.2 o k with | 0 => none | r + 1 => if r < 1000000 then some (.ref r) else none) | _ => some (.int (D.1 o k))) else none
    | none => none)
  | [1, j, _] => if 1000000 ≤ o ∧ o < 1000032 then (if j = 0 then some (.ref (o + 1000000)) else some (.int 0)) else none
  | _ => none
def ab_put (ini : Nat) (sh : abZ) (D : abD) (a : List Nat) (o : Nat) (v : Value) : Option abD := match a with
  | [0, ci, k, _] => (match sh[o]? with
    | some (t, n) => if t = ci ∧ k < n then (match v with
      | .int x => if ab_kd ci k = 0 ∨ (ab_kd ci k = 3 ∧ (x = 0 ∨ x = 1)) then some (ab_uI D.1 o k x, D.2) else none
      | .long x => if ab_kd ci k = 1 then some (D.1, ab_uL D.2.1 o k x, D.2.2) else none
      | .ref r => if ab_kd ci k = 2 ∧ ini = ci ∧ r < 1000000 then some (D.1, D.2.1, ab_uR D.2.2 o k (r + 1)) else none
      | _ => none) else none
    | none => none)
  | _ => none
/-- one instruction that makes no cell, calls nothing, ends nothing -/
def ab_st0 (X : abX) (nL ini : Nat) (sh : abZ) (i : Instr) (len : Nat) (a : List Nat) (pc : Nat) (lv : abL) (st : List Value) (D : abD) : Option abS := match i with
  | .iconst n => ab_g len 1 (some (pc + 1, lv, .int (Int32.ofInt n) :: st, D))
  | .bipush n => ab_g len 2 (some (pc + 2, lv, .int (Int8.ofInt n).toInt32 :: st, D))
  | .sipush n => ab_g len 3 (some (pc + 3, lv, .int (Int16.ofInt n).toInt32 :: st, D))
  | .lconst n => ab_g len 1 (some (pc + 1, lv, .long (Int64.ofNat (n : Nat)) :: st, D))
  | .ldc _ => ab_g len 2 (match a with | [0, g, v, _] => some (pc + 2, lv, .int (ab_i32 g v) :: st, D) | [1, j, _] => if j < 32 then some (pc + 2, lv, .ref (1000000 + j) :: st, D) else none | _ => none)
  | .ldc_w _ => ab_g len 3 (match a with | [0, g, v, _] => some (pc + 3, lv, .int (ab_i32 g v) :: st, D) | [1, j, _] => if j < 32 then some (pc + 3, lv, .ref (1000000 + j) :: st, D) else none | _ => none)
  | .ldc2_w _ => ab_g len 3 (match a with | [g, v, _] => some (pc + 3, lv, .long (ab_i64 g v) :: st, D) | _ => none)
  | .iload_n k => ab_g len 1 (ab_ldi (pc + 1) lv st D k)
  | .iload k => ab_g len 2 (ab_ldi (pc + 2) lv st D k)
  | .lload_n k => ab_g len 1 (ab_ldl (pc + 1) lv st D k)
  | .lload k => ab_g len 2 (ab_ldl (pc + 2) lv st D k)
  | .aload_n k => ab_g len 1 (ab_lda (pc + 1) lv st D k)
  | .aload k => ab_g len 2 (ab_lda (pc + 2) lv st D k)
  | .istore_n k => ab_g len 1 (ab_sti (pc + 1) nL lv st D k)
  | .istore k => ab_g len 2 (ab_sti (pc + 2) nL lv st D k)
  | .lstore_n k => ab_g len 1 (ab_stl (pc + 1) nL lv st D k)
  | .lstore k => ab_g len 2 (ab_stl (pc + 2) nL lv st D k)
  | .astore_n k => ab_g len 1 (ab_sta (pc + 1) nL lv st D k)
  | .astore k => ab_g len 2 (ab_sta (pc + 2) nL lv st D k)
  | .iinc k n => ab_g len 3 (match ab_lk lv k with | some (.int x) => if k < nL then some (pc + 3, ab_s1 lv k (.int (x + Int32.ofInt n)), st, D) else none | _ => none)
  | .iadd => ab_g len 1 (ab_i2 pc lv st D (fun x y => x + y))
  | .isub => ab_g len 1 (ab_i2 pc lv st D (fun x y => x - y))
  | .imul => ab_g len 1 (ab_i2 pc lv st D (fun x y => x * y))
  | .iand => ab_g len 1 (ab_i2 pc lv st D (fun x y => x &&& y))
  | .ior => ab_g len 1 (ab_i2 pc lv st D (fun x y => x ||| y))
  | .ixor => ab_g len 1 (ab_i2 pc lv st D (fun x y => x ^^^ y))
  | .ishl => ab_g len 1 (ab_i2 pc lv st D (fun x y => x <<< (y &&& 31)))
  | .ishr => ab_g len 1 (ab_i2 pc lv st D (fun x y => x >>> (y &&& 31)))
  | .iushr => ab_g len 1 (ab_i2 pc lv st D (fun x y => (x.toUInt32 >>> (y.toUInt32 &&& Int32.toUInt32 31)).toInt32))
  | .idiv => ab_g len 1 (match st with | .int y :: .int x :: r => if y = 0 then none else some (pc + 1, lv, .int (x / y) :: r, D) | _ => none)
  | .irem => ab_g len 1 (match st with | .int y :: .int x :: r => if y = 0 then none else some (pc + 1, lv, .int (x - x / y * y) :: r, D) | _ => none)
  | .ladd => ab_g len 1 (ab_l2 pc lv st D (fun x y => x + y))
  | .lsub => ab_g len 1 (ab_l2 pc lv st D (fun x y => x - y))
  | .lmul => ab_g len 1 (ab_l2 pc lv st D (fun x y => x * y))
  | .land => ab_g len 1 (ab_l2 pc lv st D (fun x y => x &&& y))
  | .lor => ab_g len 1 (ab_l2 pc lv st D (fun x y => x ||| y))
  | .ldiv => ab_g len 1 (match st with | .long y :: .long x :: r => if y = 0 then none else some (pc + 1, lv, .long (x / y) :: r, D) | _ => none)
  | .lrem => ab_g len 1 (match st with | .long y :: .long x :: r => if y = 0 then none else some (pc + 1, lv, .long (x - x / y * y) :: r, D) | _ => none)
  | .lneg => ab_g len 1 (ab_l1 pc lv st D (fun x => .long (-x)))
  | .lshl => ab_g len 1 (ab_li pc lv st D (fun x y => x <<< (y.toInt64 &&& 63)))
  | .lshr => ab_g len 1 (ab_li pc lv st D (fun x y => x >>> (y.toInt64 &&& 63)))
  | .i2l => ab_g len 1 (ab_i1 pc lv st D (fun x => .long x.toInt64))
  | .i2b => ab_g len 1 (ab_i1 pc lv st D (fun x => .int x.toInt8.toInt32))
  | .i2s => ab_g len 1 (ab_i1 pc lv st D (fun x => .int x.toInt16.toInt32))
  | .i2c => ab_g len 1 (ab_i1 pc lv st D (fun x => .int (x.toUInt32 % 65536).toInt32))
  | .l2i => ab_g len 1 (ab_l1 pc lv st D (fun x => .int x.toInt32))
  | .lcmp => ab_g len 1 (match st with | .long y :: .long x :: r => some (pc + 1, lv, .int (lg_cmp x y) :: r, D) | _ => none)
  | .dup => ab_g len 1 (match st with | v :: r => if v.category = 1 then some (pc + 1, lv, v :: v :: r, D) else none | _ => none)
  | .pop => ab_g len 1 (match st with | v :: r => if v.category = 1 then some (pc + 1, lv, r, D) else none | _ => none)
  | .dup2 => ab_g len 1 (match st with | v :: r => if v.category = 2 then some (pc + 1, lv, v :: v :: r, D) else (match r with | w :: r2 => if w.category = 1 then some (pc + 1, lv, v :: w :: v :: w :: r2, D) else none | [] => none) | _ => none)
  | .ifCond cd off => ab_g len 3 (match st with | .int x :: r => if 0 ≤ (pc : Int) + off then ab_if cd x 0 (some (((pc : Int) + off).toNat, lv, r, D)) (some (pc + 3, lv, r, D)) else none | _ => none)
  | .if_icmp cd off => ab_g len 3 (match st with | .int y :: .int x :: r => if 0 ≤ (pc : Int) + off then ab_if cd x y (some (((pc : Int) + off).toNat, lv, r, D)) (some (pc + 3, lv, r, D)) else none | _ => none)
  | .goto off => ab_g len 3 (ab_go pc off lv st D)
  | .tableswitch d lo hi offs => (match st with | .int x :: r => if x.toInt < lo ∨ hi < x.toInt then ab_go pc d lv r D else (match offs[(x.toInt - lo).toNat]? with | some off => ab_go pc off lv r D | none => none) | _ => none)
  | .lookupswitch d ps => (match st with | .int x :: r => if (ps.toList.zip (ps.toList.drop 1)).all (fun (a, next) => a.1 < next.1) = true then ab_go pc (Op.lookupswitch.offset ps.toList d x.toInt) lv r D else none | _ => none)
  | .getstatic _ => ab_g len 3 (match a with | [0, _] => some (pc + 3, lv, .ref 3000000 :: st, D) | [1, _] => some (pc + 3, lv, .int 1 :: st, D) | [2, _] => some (pc + 3, lv, .ref 3000002 :: st, D) | [3, _] => some (pc + 3, lv, .ref 3000000 :: st, D) | _ => none)
  | .getfield _ => ab_g len 3 (match st with | .ref o :: r => (match ab_get sh D a o with | some v => some (pc + 3, lv, v :: r, D) | none => none) | _ => none)
  | .putfield _ => ab_g len 3 (match st with | v :: .ref o :: r => (match ab_put ini sh D a o v with | some D' => some (pc + 3, lv, r, D') | none => none) | _ => none)
  | .arraylength => ab_g len 1 (match st with | .ref o :: r => (match ab_len X sh o with | some n => some (pc + 1, lv, .int (Int32.ofNat n) :: r, D) | none => none) | _ => none)
  | .iaload => ab_g len 1 (match st with | .int j :: .ref o :: r => (match ab_ai X sh D o with | some z => if j < 0 ∨ z.1 ≤ j.toNatClampNeg then none else some (pc + 1, lv, .int (z.2 j.toNatClampNeg) :: r, D) | none => none) | _ => none)
  | .baload => ab_g len 1 (match st with | .int j :: .ref o :: r => (match ab_ab sh D o with | some z => if j < 0 ∨ z.1 ≤ j.toNatClampNeg then none else some (pc + 1, lv, .int (z.2 j.toNatClampNeg) :: r, D) | none => none) | _ => none)
  | .laload => ab_g len 1 (match st with | .int j :: .ref o :: r => (match sh[o]? with | some (101, n) => if j < 0 ∨ n ≤ j.toNatClampNeg then none else some (pc + 1, lv, .long (D.2.1 o j.toNatClampNeg) :: r, D) | _ => none) | _ => none)
  | .aaload => ab_g len 1 (match st with | .int j :: .ref o :: r => (match sh[o]? with | some (t, n) => if j < 0 ∨ n ≤ j.toNatClampNeg ∨ ¬ (103 ≤ t ∧ t < 106) then none else (match D.2.2 o j.toNatClampNeg with | z + 1 => if z < 1000000 then some (pc + 1, lv, .ref z :: r, D) else none | 0 => none) | none => none) | _ => none)
  | .iastore => ab_g len 1 (match st with | .int x :: .int j :: .ref o :: r => (match sh[o]? with | some (100, n) => if j < 0 ∨ n ≤ j.toNatClampNeg then none else some (pc + 1, lv, r, ab_uI D.1 o j.toNatClampNeg x, D.2) | _ => none) | _ => none)
  | .bastore => ab_g len 1 (match st with | .int x :: .int j :: .ref o :: r => (match sh[o]? with | some (102, n) => if j < 0 ∨ n ≤ j.toNatClampNeg then none else some (pc + 1, lv, r, ab_uI D.1 o j.toNatClampNeg (vp_nar .boolean x), D.2) | _ => none) | _ => none)
  | .lastore => ab_g len 1 (match st with | .long x :: .int j :: .ref o :: r => (match sh[o]? with | some (101, n) => if j < 0 ∨ n ≤ j.toNatClampNeg then none else some (pc + 1, lv, r, D.1, ab_uL D.2.1 o j.toNatClampNeg x, D.2.2) | _ => none) | _ => none)
  | .aastore => ab_g len 1 (match st with | .ref v :: .int j :: .ref o :: r => (match sh[o]?, sh[v]? with | some (t, n), some (t2, _) => if j < 0 ∨ n ≤ j.toNatClampNeg ∨ ¬ ((t = 103 ∧ t2 = 9) ∨ (t = 104 ∧ t2 = 10) ∨ (t = 105 ∧ t2 = 3)) then none else some (pc + 1, lv, r, D.1, D.2.1, ab_uR D.2.2 o j.toNatClampNeg (v + 1)) | _, _ => none) | _ => none)
  | .invokestatic _ => ab_g len 3 (match a with
    | [7, _, _] => (match st with
      | .int n :: .int dp :: .ref o2 :: .int sp :: .ref o1 :: r => (match sh[o1]?, sh[o2]? with
        | some (100, n1), some (100, n2) => if sp < 0 ∨ dp < 0 ∨ n < 0 ∨ n1 < sp.toNatClampNeg + n.toNatClampNeg ∨ n2 < dp.toNatClampNeg + n.toNatClampNeg ∨ 8 < (r.map fun v => v.category).sum then none
          else some (pc + 3, lv, r, (fun o => if o = o2 then va_cpy (D.1 o1) (D.1 o2) sp.toNatClampNeg dp.toNatClampNeg n.toNatClampNeg else D.1 o), D.2)
        | _, _ => none)
      | _ => none)
    | _ => none)
  | .invokespecial _ => ab_g len 3 (match a with | [6, _, _] => (match st with | .ref o :: r => if o < 3000000 ∧ (r.map fun v => v.category).sum ≤ 8 then some (pc + 3, lv, r, D) else none | _ => none) | _ => none)
  | _ => none
/-- the next state with its cells; a call (the method, its values, what stays on the stack); an end -/
abbrev abN : Type := (abZ × abS) ⊕ ((Nat × List Value × List Value) ⊕ Option Value)
def ab_rcv (sh : abZ) (M b : Nat) : Bool := match ab_ms[M]? with
  | some q => if b < 1000000 then (match sh[b]? with | some (t, _) => t == q.2.2.2.2.1 && decide (t < 13) | none => false) else decide (b < 1000032) && q.2.2.2.2.1 == 14
  | none => false
def ab_w (vs : List Value) : Nat := (vs.map fun v => v.category).sum
def ab_call (kd M : Nat) (sh : abZ) (st : List Value) : Option (Nat × List Value × List Value) :=
  if st.length < ab_na.getD M 0 ∨ ¬ (ab_mp.getD M (9, 0, 0, 0, 0)).1 = kd then none
  else if kd = 1 then (if ab_w (st.drop (ab_na.getD M 0)) ≤ 8 then some (M, (st.take (ab_na.getD M 0)).reverse, st.drop (ab_na.getD M 0)) else none)
  else (match st.drop (ab_na.getD M 0) with
    | .ref b :: r => if ab_w r ≤ 8 ∧ b < 3000000 ∧ (kd = 2 ∨ ab_rcv sh M b = true) then some (M, .ref b :: (st.take (ab_na.getD M 0)).reverse, r) else none
    | _ => none)
def ab_cN (o : Option (Nat × List Value × List Value)) : Option abN := match o with | some c => some (.inr (.inl c)) | none => none
def ab_nx (sh : abZ) (o : Option abS) : Option abN := match o with | some S => some (.inl (sh, S)) | none => none
def ab_new {α : Type} (f : Nat → Nat → α) (o : Nat) (v : α) : Nat → Nat → α := fun a => if a = o then fun _ => v else f a
def ab_nD (D : abD) (o : Nat) : abD := (ab_new D.1 o 0, ab_new D.2.1 o 0, ab_new D.2.2 o 0)
def ab_tag (t : ArrayType) : Nat := match t with | .int => 100 | .long => 101 | .boolean => 102 | _ => 99
def ab_st1 (X : abX) (nL ini : Nat) (rt : Option FieldType) (sh : abZ) (i : Instr) (len : Nat) (a : List Nat) (pc : Nat) (lv : abL) (st : List Value) (D : abD) : Option abN := match i with
  | .invokevirtual _ => (match a with | [0, M, _] => if len = 3 then ab_cN (ab_call 0 M sh st) else none | _ => none)
  | .invokestatic _ => (match a with | [1, M, _] => if len = 3 then ab_cN (ab_call 1 M sh st) else none | [4, M, _] => if len = 3 then ab_cN (ab_call 1 M sh st) else none | _ => ab_nx sh (ab_st0 X nL ini sh i len a pc lv st D))
  | .invokespecial _ => (match a with | [2, M, _] => if len = 3 then ab_cN (ab_call 2 M sh st) else none | [5, M, _] => if len = 3 then ab_cN (ab_call 2 M sh st) else none | _ => ab_nx sh (ab_st0 X nL ini sh i len a pc lv st D))
  | .ireturn => if len = 1 then (match st with
    | [.int v] => (match rt with
      | some .int => some (.inr (.inr (some (.int v))))
      | some .boolean => if v = 0 ∨ v = 1 then some (.inr (.inr (some (.int v)))) else none
      | some .char => if narrow .char (.int v) = .int v then some (.inr (.inr (some (.int v)))) else none
      | some .byte => if narrow .byte (.int v) = .int v then some (.inr (.inr (some (.int v)))) else none
      | _ => none)
    | _ => none) else none
  | .lreturn => if len = 1 ∧ rt = some .long then (match st with | [.long v] => some (.inr (.inr (some (.long v)))) | _ => none) else none
  | .return_ => if len = 1 ∧ rt = none then (match st with | [] => some (.inr (.inr none)) | _ => none) else none
  | .new _ => (match a with
    | [ci, _] => (match ab_cl[ci]? with | some q => if len = 3 ∧ sh.length < 1000 then some (.inl (sh ++ [(ci, q.2.2)], pc + 3, lv, .ref sh.length :: st, ab_nD D sh.length)) else none | none => none)
    | _ => none)
  | .newarray t => if len = 2 ∧ sh.length < 1000 ∧ ab_tag t ≠ 99 then (match st with
    | .int n :: r => if n < 0 ∨ 10000 < n.toNatClampNeg then none else some (.inl (sh ++ [(ab_tag t, n.toNatClampNeg)], pc + 2, lv, .ref sh.length :: r, ab_nD D sh.length))
    | _ => none) else none
  | .anewarray _ => (match a with
    | [t, _] => if len = 3 ∧ sh.length < 1000 ∧ 103 ≤ t ∧ t < 106 then (match st with
      | .int n :: r => if n < 0 ∨ 10000 < n.toNatClampNeg then none else some (.inl (sh ++ [(t, n.toNatClampNeg)], pc + 3, lv, .ref sh.length :: r, ab_nD D sh.length))
      | _ => none) else none
    | _ => none)
  | _ => ab_nx sh (ab_st0 X nL ini sh i len a pc lv st D)
def ab_msk (mk : List (Nat × List Nat)) (pc : Nat) (lv : abL) : abL := match mk.find? (fun z => z.1 == pc) with
  | some z => z.2.filterMap (fun k => (ab_lk lv k).map (fun v => (k, v)))
  | none => lv
/-- depth, method, place, locals, stack, cells: the answer, the cells -/
abbrev abT : Type := Nat → Nat → Nat → abL → List Value → abZ → abD → Option (Option Value × abZ × abD)
def ab_nxt (T : abT) (q : abM) (d M pc : Nat) (lv : abL) (sh : abZ) (D : abD) (o : Option abN) : Option (Option Value × abZ × abD) := match o with
  | none => none
  | some (.inl z) => T d M z.2.1 (ab_msk (ab_mks.getD M []) z.2.1 z.2.2.1) z.2.2.2.1 z.1 z.2.2.2.2
  | some (.inr (.inr v)) => some (v, sh, D)
  | some (.inr (.inl c)) => (match d with
    | 0 => none
    | d' + 1 => (match ab_ms[c.1]? with
      | none => none
      | some q2 => if q2.2.2.1 < ab_w c.2.1 then none else (match T d' c.1 0 (lv_args 0 c.2.1) [] sh D with
        | none => none
        | some z => T d M (pc + 3) (ab_msk (ab_mks.getD M []) (pc + 3) lv) (z.1.toList ++ c.2.2) z.2.1 z.2.2)))
def ab_F (X : abX) (T : abT) : abT := fun d M pc lv st sh D => match ab_ms[M]? with
  | none => none
  | some q => (match q.2.2.2.2.2.find? (fun z => z.1 == pc) with
    | none => none
    | some z => ab_nxt T q d M pc lv sh D (ab_st1 X q.2.2.1 (ab_ini.getD M 99) q.2.2.2.1 sh z.2.1 z.2.2.1 z.2.2.2 pc lv st D))
def ab_ex (X : abX) (n : Nat) : abT := Nat.rec (fun _ _ _ _ _ _ _ => none) (fun _ T => ab_F X T) n
theorem ab_ex_s (X : abX) (n : Nat) : ab_ex X (n + 1) = ab_F X (ab_ex X n) := rfl
theorem ab_F_mono {X : abX} {T T' : abT} (h : ∀ d M pc lv st sh D r, T d M pc lv st sh D = some r → T' d M pc lv st sh D = some r) : ∀ d M pc lv st sh D r, ab_F X T d M pc lv st sh D = some r → ab_F X T' d M pc lv st sh D = some r := by
  intro d M pc lv st sh D r
  unfold ab_F
  cases ab_ms[M]? with
  | none => exact fun q => q
  | some q =>
    dsimp only
    cases q.2.2.2.2.2.find? (fun z => z.1 == pc) with
    | none => exact fun q => q
    | some z =>
      dsimp only
      generalize ab_st1 X q.2.2.1 (ab_ini.getD M 99) q.2.2.2.1 sh z.2.1 z.2.2.1 z.2.2.2 pc lv st D = o
      cases o with
      | none => exact fun q => q
      | some w =>
        rcases w with w | w | w
        · exact h _ _ _ _ _ _ _ r
        · unfold ab_nxt
          cases d with
          | zero => exact fun q => q
          | succ d =>
            dsimp only
            cases ab_ms[w.1]? with
            | none => exact fun q => q
            | some q2 =>
              dsimp only
              split
              · exact fun q => q
              · intro hh
                cases e : T d w.1 0 (lv_args 0 w.2.1) [] sh D with
                | none => rw [e] at hh; cases hh
                | some z2 =>
                  rw [e] at hh
                  rw [h _ _ _ _ _ _ _ _ e]
                  exact h _ _ _ _ _ _ _ _ hh
        · exact fun q => q
theorem ab_mono1 (X : abX) : ∀ n d M pc lv st sh D r, ab_ex X n d M pc lv st sh D = some r → ab_ex X (n + 1) d M pc lv st sh D = some r := by
  intro n
  induction n with
  | zero => intro d M pc lv st sh D r h; cases h
  | succ n ih => exact ab_F_mono ih
theorem ab_mono (X : abX) {n k : Nat} (hk : n ≤ k) {d M pc lv st sh D r} (h : ab_ex X n d M pc lv st sh D = some r) : ab_ex X k d M pc lv st sh D = some r := by
  induction hk with
  | refl => exact h
  | step _ ih => exact ab_mono1 X _ _ _ _ _ _ _ _ _ ih
