/-! ONE INSTRUCTION of the pure machine. rs: what an index of the own class's constant pool means: (0, c, j) field j of class c; (1, id, n) a virtual, (2, id, n) a static method id with n parameters; (3, id, n) a constructor; (4, _, _) Object's; (5, c, _) class c, for new and anewarray; (7, _, _) arraycopy; (8, id, n) a method of String; (12, _, z) an int; (13, _, z) a long; (14, j, _) a string -/
abbrev pO : Type := Option (pS ⊕ pR)
abbrev pQ : Type := Nat → Option (Nat × Nat × Int)
def ptg (pc : Nat) (off : Int) : Option Nat := if (pc : Int) + off = ((((pc : Int) + off).toNat : Nat) : Int) then some ((pc : Int) + off).toNat else none
def pnx (x : pS) (n : Nat) (st : List Value) : pO := some (.inl (x.1 + n, x.2.1, st, x.2.2.2))
def pb2 (x : pS) (f : Int32 → Int32 → Int32) : pO := match x.2.2.1 with
  | .int b :: .int a :: r => pnx x 1 (.int (f a b) :: r)
  | _ => none
def pl2 (x : pS) (f : Int64 → Int64 → Int64) : pO := match x.2.2.1 with
  | .long b :: .long a :: r => pnx x 1 (.long (f a b) :: r)
  | _ => none
def pls (x : pS) (f : Int64 → Int32 → Int64) : pO := match x.2.2.1 with
  | .int b :: .long a :: r => pnx x 1 (.long (f a b) :: r)
  | _ => none
def pi1 (x : pS) (f : Int32 → Int32) : pO := match x.2.2.1 with
  | .int a :: r => pnx x 1 (.int (f a) :: r)
  | _ => none
def pdv (x : pS) (f : Int32 → Int32 → Int32) : pO := match x.2.2.1 with
  | .int b :: .int a :: r => if b = 0 then none else pnx x 1 (.int (f a b) :: r)
  | _ => none
def pdvl (x : pS) (f : Int64 → Int64 → Int64) : pO := match x.2.2.1 with
  | .long b :: .long a :: r => if b = 0 then none else pnx x 1 (.long (f a b) :: r)
  | _ => none
def pif1 (x : pS) (off : Int) (f : Int32 → Bool) : pO := match x.2.2.1 with
  | .int a :: r => (match ptg x.1 off with
    | some t => some (.inl (if f a = true then t else x.1 + 3, x.2.1, r, x.2.2.2))
    | none => none)
  | _ => none
def pif2 (x : pS) (off : Int) (f : Int32 → Int32 → Bool) : pO := match x.2.2.1 with
  | .int b :: .int a :: r => (match ptg x.1 off with
    | some t => some (.inl (if f a b = true then t else x.1 + 3, x.2.1, r, x.2.2.2))
    | none => none)
  | _ => none
def pgo (x : pS) (off : Int) (st : List Value) : pO := match ptg x.1 off with
  | some t => some (.inl (t, x.2.1, st, x.2.2.2))
  | none => none
def pldi (x : pS) (n i : Nat) : pO := match x.2.1[i]? with
  | some (some (.int a)) => pnx x n (.int a :: x.2.2.1)
  | _ => none
def pldl (x : pS) (n i : Nat) : pO := match x.2.1[i]? with
  | some (some (.long a)) => pnx x n (.long a :: x.2.2.1)
  | _ => none
def plda (x : pS) (n i : Nat) : pO := match x.2.1[i]? with
  | some (some (.ref a)) => pnx x n (.ref a :: x.2.2.1)
  | some (some .null) => pnx x n (.null :: x.2.2.1)
  | some (some (.retAddr a)) => pnx x n (.retAddr a :: x.2.2.1)
  | _ => none
def psti (nL : Nat) (x : pS) (n i : Nat) : pO := match x.2.2.1 with
  | .int a :: r => if i < nL then some (.inl (x.1 + n, plo1 x.2.1 i (.int a), r, x.2.2.2)) else none
  | _ => none
def pstl (nL : Nat) (x : pS) (n i : Nat) : pO := match x.2.2.1 with
  | .long a :: r => if i + 1 < nL then some (.inl (x.1 + n, plo2 x.2.1 i (.long a), r, x.2.2.2)) else none
  | _ => none
def psta (nL : Nat) (x : pS) (n i : Nat) : pO := match x.2.2.1 with
  | .ref a :: r => if i < nL then some (.inl (x.1 + n, plo1 x.2.1 i (.ref a), r, x.2.2.2)) else none
  | .retAddr a :: r => if i < nL then some (.inl (x.1 + n, plo1 x.2.1 i (.retAddr a), r, x.2.2.2)) else none
  | _ => none
/-- an index within, as a program decides it -/
def pin (i : Int32) (n : Nat) : Bool := !(decide (i < 0) || decide (n ≤ i.toNatClampNeg))
theorem pin_in {i : Int32} {n : Nat} (h : pin i n = true) : vp_in i n := by
  unfold pin at h
  simp only [Bool.not_eq_true', Bool.or_eq_false_iff, decide_eq_false_iff_not] at h
  exact fun q => q.elim h.1 h.2
/-- loads of ints out of a cell of a kind -/
def pald (kd : Nat) (x : pS) : pO := match x.2.2.1 with
  | .int i :: .ref a :: r => (match x.2.2.2.1[a]? with
    | some (k, n) => if k = kd then (if pin i n = true then pnx x 1 (.int (x.2.2.2.2.1 a i.toNatClampNeg) :: r) else none) else none
    | none => none)
  | _ => none
def paldl (x : pS) : pO := match x.2.2.1 with
  | .int i :: .ref a :: r => (match x.2.2.2.1[a]? with
    | some (k, n) => if k = 1 then (if pin i n = true then pnx x 1 (.long (x.2.2.2.2.2.1 a i.toNatClampNeg) :: r) else none) else none
    | none => none)
  | _ => none
def palda (x : pS) : pO := match x.2.2.1 with
  | .int i :: .ref a :: r => (match x.2.2.2.1[a]? with
    | some (k, n) => if k = 4 ∨ k = 5 then (if pin i n = true then pnx x 1 (prv (x.2.2.2.2.2.2 a i.toNatClampNeg) :: r) else none) else none
    | none => none)
  | _ => none
def past (kd : Nat) (f : Int32 → Int32) (x : pS) : pO := match x.2.2.1 with
  | .int v :: .int i :: .ref a :: r => (match x.2.2.2.1[a]? with
    | some (k, n) => if k = kd then (if pin i n = true then some (.inl (x.1 + 1, x.2.1, r, x.2.2.2.1, u2 x.2.2.2.2.1 a i.toNatClampNeg (f v), x.2.2.2.2.2)) else none) else none
    | none => none)
  | _ => none
def pastl (x : pS) : pO := match x.2.2.1 with
  | .long v :: .int i :: .ref a :: r => (match x.2.2.2.1[a]? with
    | some (k, n) => if k = 1 then (if pin i n = true then some (.inl (x.1 + 1, x.2.1, r, x.2.2.2.1, x.2.2.2.2.1, u2 x.2.2.2.2.2.1 a i.toNatClampNeg v, x.2.2.2.2.2.2)) else none) else none
    | none => none)
  | _ => none
def pasta (x : pS) : pO := match x.2.2.1 with
  | .ref v :: .int i :: .ref a :: r => (match x.2.2.2.1[a]?, x.2.2.2.1[v]? with
    | some (k, n), some (k', _) => if (k = 4 ∧ k' = 10) ∨ (k = 5 ∧ k' = 15) then (if pin i n = true then some (.inl (x.1 + 1, x.2.1, r, x.2.2.2.1, x.2.2.2.2.1, x.2.2.2.2.2.1, u2 x.2.2.2.2.2.2 a i.toNatClampNeg (some v))) else none) else none
    | _, _ => none)
  | _ => none
def pbal (x : pS) : pO := match x.2.2.1 with
  | .int _ :: .ref a :: _ => (match x.2.2.2.1[a]? with
    | some (k, _) => if k = 2 then pald 2 x else if k = 3 then pald 3 x else none
    | none => none)
  | _ => none
def pbas (x : pS) : pO := match x.2.2.1 with
  | .int _ :: .int _ :: .ref a :: _ => (match x.2.2.2.1[a]? with
    | some (k, _) => if k = 2 then past 2 (vp_nar .byte) x else if k = 3 then past 3 (vp_nar .boolean) x else none
    | none => none)
  | _ => none
/-- the script's own loads -/
def pial (L : Nat) (xs : Nat → Int32) (x : pS) : pO := match x.2.2.1 with
  | .int i :: .retAddr 0 :: r => if pin i L = true then pnx x 1 (.int (xs i.toNatClampNeg) :: r) else none
  | _ => pald 0 x
def paln (L : Nat) (x : pS) : pO := match x.2.2.1 with
  | .retAddr 0 :: r => pnx x 1 (.int (Int32.ofNat L) :: r)
  | .ref a :: r => (match x.2.2.2.1[a]? with
    | some (k, n) => if k < 6 then pnx x 1 (.int (Int32.ofNat n) :: r) else none
    | none => none)
  | _ => none
def pgf (rs : pQ) (idx : Nat) (x : pS) : pO := match rs idx, x.2.2.1 with
  | some (0, c, j), .ref a :: r => (match x.2.2.2.1[a]? with
    | some (k, n) => if k = c + 6 ∧ n = cZ c then pnx x 3 (pval x.2.2.2 a j.toNat (cty c j.toNat) :: r) else none
    | none => none)
  | _, _ => none
/-- a field's new value -/
def psf (h : pH) (a j : Nat) (ty : FieldType) (v : Value) : Option pH := match ty, v with
  | .int, .int z => some (h.1, u2 h.2.1 a j z, h.2.2)
  | .boolean, .int z => if z = 0 ∨ z = 1 then some (h.1, u2 h.2.1 a j z, h.2.2) else none
  | .long, .long z => some (h.1, h.2.1, u2 h.2.2.1 a j z, h.2.2.2)
  | .object _, .ref z => some (h.1, h.2.1, h.2.2.1, u2 h.2.2.2 a j (some z))
  | .object _, .null => some (h.1, h.2.1, h.2.2.1, u2 h.2.2.2 a j none)
  | .array _, .ref z => some (h.1, h.2.1, h.2.2.1, u2 h.2.2.2 a j (some z))
  | _, _ => none
def ppf (rs : pQ) (ow : Nat) (ini : Bool) (idx : Nat) (x : pS) : pO := match rs idx, x.2.2.1 with
  | some (0, c, j), v :: .ref a :: r => (match x.2.2.2.1[a]? with
    | some (k, n) => if k = c + 6 ∧ n = cZ c ∧ ((cT c j.toNat).2.2.2 = false ∨ (ini = true ∧ ow = c)) then (match psf x.2.2.2 a j.toNat (cty c j.toNat) v with
        | some h' => some (.inl (x.1 + 3, x.2.1, r, h'))
        | none => none) else none
    | none => none)
  | _, _ => none
def pnw (q : Nat × Nat) (x : pS) (n : Nat) (r : List Value) : pO := some (.inl (x.1 + n, x.2.1, .ref x.2.2.2.1.length :: r, x.2.2.2.1 ++ [q], z2 x.2.2.2.2.1 x.2.2.2.1.length 0, z2 x.2.2.2.2.2.1 x.2.2.2.1.length 0, z2 x.2.2.2.2.2.2 x.2.2.2.1.length none))
def pnew (rs : pQ) (idx : Nat) (x : pS) : pO := match rs idx with
  | some (5, c, _) => pnw (c + 6, cZ c) x 3 x.2.2.1
  | _ => none
def pna (ty : ArrayType) (x : pS) : pO := match x.2.2.1 with
  | .int n :: r => if n < 0 ∨ 1000000 < n.toNatClampNeg then none else (match ty with
    | .int => pnw (0, n.toNatClampNeg) x 2 r
    | .long => pnw (1, n.toNatClampNeg) x 2 r
    | .byte => pnw (2, n.toNatClampNeg) x 2 r
    | .boolean => pnw (3, n.toNatClampNeg) x 2 r
    | _ => none)
  | _ => none
def pana (rs : pQ) (idx : Nat) (x : pS) : pO := match rs idx, x.2.2.1 with
  | some (5, c, _), .int n :: r => if n < 0 ∨ 1000000 < n.toNatClampNeg then none else if c = 4 then pnw (4, n.toNatClampNeg) x 3 r else if c = 9 then pnw (5, n.toNatClampNeg) x 3 r else none
  | _, _ => none
def pcat (r : List Value) : Nat := (r.map fun v => v.category).sum
/-- n values off the stack, in their order, and the rest -/
def ppop : Nat → List Value → List Value → Option (List Value × List Value)
  | 0, acc, st => some (acc, st)
  | n + 1, acc, v :: st => ppop n (v :: acc) st
  | _ + 1, _, [] => none
def pcal (env : pV) (id : Nat) (av r : List Value) (x : pS) : pO := if pcat r ≤ 8 then (match env id av x.2.2.2 with
  | some (v, h') => some (.inl (x.1 + 3, x.2.1, v.toList ++ r, h'))
  | none => none) else none
def pivv (env : pV) (mC : Nat → Nat) (rs : pQ) (idx : Nat) (x : pS) : pO := match rs idx with
  | some (1, id, n) => (match ppop n.toNat [] x.2.2.1 with
    | some (av, .ref b :: r) => (match x.2.2.2.1[b]? with
      | some (k, _) => if k = mC id + 6 then pcal env id (.ref b :: av) r x else none
      | none => none)
    | _ => none)
  | some (8, id, n) => (match ppop n.toNat [] x.2.2.1 with
    | some (av, .retAddr b :: r) => if 1 ≤ b ∧ b ≤ 12 then pcal env id (.retAddr b :: av) r x else none
    | _ => none)
  | _ => none
/-- arraycopy -/
def pacp (x : pS) : pO := match x.2.2.1 with
  | .int n :: .int dp :: .ref a :: .int sp :: .ref a0 :: r => if sp < 0 ∨ dp < 0 ∨ n < 0 ∨ 8 < pcat r then none else (match x.2.2.2.1[a0]?, x.2.2.2.1[a]? with
    | some (k0, n0), some (k, n1) => if sp.toNatClampNeg + n.toNatClampNeg ≤ n0 ∧ dp.toNatClampNeg + n.toNatClampNeg ≤ n1 then
        (if k0 = 0 ∧ k = 0 then some (.inl (x.1 + 3, x.2.1, r, x.2.2.2.1, c2 x.2.2.2.2.1 a0 a sp.toNatClampNeg dp.toNatClampNeg n.toNatClampNeg, x.2.2.2.2.2))
        else if k0 = 1 ∧ k = 1 then some (.inl (x.1 + 3, x.2.1, r, x.2.2.2.1, x.2.2.2.2.1, c2 x.2.2.2.2.2.1 a0 a sp.toNatClampNeg dp.toNatClampNeg n.toNatClampNeg, x.2.2.2.2.2.2)) else none) else none
    | _, _ => none)
  | _ => none
def pivs (env : pV) (rs : pQ) (idx : Nat) (x : pS) : pO := match rs idx with
  | some (2, id, n) => (match ppop n.toNat [] x.2.2.1 with
    | some (av, r) => pcal env id av r x
    | none => none)
  | some (7, _, _) => pacp x
  | _ => none
def pivi (env : pV) (rs : pQ) (idx : Nat) (x : pS) : pO := match rs idx with
  | some (3, id, n) => (match ppop n.toNat [] x.2.2.1 with
    | some (av, .ref b :: r) => pcal env id (.ref b :: av) r x
    | _ => none)
  | some (4, _, _) => (match x.2.2.1 with
    | .ref _ :: r => if pcat r ≤ 8 then pnx x 3 r else none
    | _ => none)
  | _ => none
def pldc (rs : pQ) (idx : Nat) (x : pS) (n : Nat) : pO := match rs idx with
  | some (12, _, z) => pnx x n (.int (Int32.ofInt z) :: x.2.2.1)
  | some (14, j, _) => if n = 2 ∧ j < 12 then pnx x n (.retAddr (j + 1) :: x.2.2.1) else none
  | _ => none
def pldc2 (rs : pQ) (idx : Nat) (x : pS) : pO := match rs idx with
  | some (13, _, z) => pnx x 3 (.long (Int64.ofInt z) :: x.2.2.1)
  | _ => none
def ptsw (d lo hi : Int) (offs : Array Int) (x : pS) : pO := match x.2.2.1 with
  | .int a :: r => if a.toInt < lo ∨ hi < a.toInt then pgo x d r else (match offs[(a.toInt - lo).toNat]? with
    | some off => pgo x off r
    | none => none)
  | _ => none
def plsw (d : Int) (ps : Array (Int × Int)) (x : pS) : pO := match x.2.2.1 with
  | .int a :: r => if (ps.toList.zip (ps.toList.drop 1)).all (fun (a, next) => a.1 < next.1) = true then pgo x (Op.lookupswitch.offset ps.toList d a.toInt) r else none
  | _ => none
def pret (ret : Option FieldType) (i : Instr) (x : pS) : pO := match i, ret, x.2.2.1 with
  | .return_, none, [] => some (.inr (none, x.2.2.2))
  | .ireturn, some ty, [.int v] => if ty = .int then some (.inr (some (.int v), x.2.2.2)) else if narrow ty (.int v) = .int v then some (.inr (some (.int v), x.2.2.2)) else none
  | .lreturn, some .long, [.long v] => some (.inr (some (.long v), x.2.2.2))
  | .areturn, some (.object _), [.ref v] => some (.inr (some (.ref v), x.2.2.2))
  | .areturn, some (.object _), [.retAddr v] => some (.inr (some (.retAddr v), x.2.2.2))
  | _, _, _ => none
/-- the own method's: its class, whether it is a constructor, how many locals, what it returns; the script -/
def stp (env : pV) (mC : Nat → Nat) (rs : pQ) (ow : Nat) (ini : Bool) (nL : Nat) (ret : Option FieldType) (L : Nat) (xs : Nat → Int32) (i : Instr) (x : pS) : pO := match i with
  | .iconst v => pnx x 1 (.int (Int32.ofInt v) :: x.2.2.1)
  | .bipush v => pnx x 2 (.int (Int8.ofInt v).toInt32 :: x.2.2.1)
  | .sipush v => pnx x 3 (.int (Int16.ofInt v).toInt32 :: x.2.2.1)
  | .lconst v => pnx x 1 (.long (Int64.ofNat v) :: x.2.2.1)
  | .aconst_null => pnx x 1 (.null :: x.2.2.1)
  | .ldc idx => pldc rs idx x 2
  | .ldc_w idx => pldc rs idx x 3
  | .ldc2_w idx => pldc2 rs idx x
  | .iload k => pldi x 2 k
  | .iload_n k => pldi x 1 k
  | .lload k => pldl x 2 k
  | .lload_n k => pldl x 1 k
  | .aload k => plda x 2 k
  | .aload_n k => plda x 1 k
  | .istore k => psti nL x 2 k
  | .istore_n k => psti nL x 1 k
  | .lstore k => pstl nL x 2 k
  | .lstore_n k => pstl nL x 1 k
  | .astore k => psta nL x 2 k
  | .astore_n k => psta nL x 1 k
  | .iinc k n => (match x.2.1[k]? with
    | some (some (.int a)) => if k < nL then some (.inl (x.1 + 3, plo1 x.2.1 k (.int (a + Int32.ofInt n)), x.2.2.1, x.2.2.2)) else none
    | _ => none)
  | .iadd => pb2 x (fun a b => a + b)
  | .isub => pb2 x (fun a b => a - b)
  | .imul => pb2 x (fun a b => a * b)
  | .iand => pb2 x (fun a b => a &&& b)
  | .ior => pb2 x (fun a b => a ||| b)
  | .ixor => pb2 x (fun a b => a ^^^ b)
  | .ishl => pb2 x (fun a b => a <<< (b &&& 31))
  | .ishr => pb2 x (fun a b => a >>> (b &&& 31))
  | .iushr => pb2 x (fun a b => (a.toUInt32 >>> (b.toUInt32 &&& Int32.toUInt32 31)).toInt32)
  | .idiv => pdv x (fun a b => a / b)
  | .irem => pdv x (fun a b => a - a / b * b)
  | .ladd => pl2 x (fun a b => a + b)
  | .lsub => pl2 x (fun a b => a - b)
  | .lmul => pl2 x (fun a b => a * b)
  | .land => pl2 x (fun a b => a &&& b)
  | .lor => pl2 x (fun a b => a ||| b)
  | .lxor => pl2 x (fun a b => a ^^^ b)
  | .ldiv => pdvl x (fun a b => a / b)
  | .lrem => pdvl x (fun a b => a - a / b * b)
  | .lshl => pls x (fun a b => a <<< (b.toInt64 &&& 63))
  | .lshr => pls x (fun a b => a >>> (b.toInt64 &&& 63))
  | .lcmp => (match x.2.2.1 with
    | .long b :: .long a :: r => pnx x 1 (.int (lg_cmp a b) :: r)
    | _ => none)
  | .i2l => (match x.2.2.1 with
    | .int a :: r => pnx x 1 (.long a.toInt64 :: r)
    | _ => none)
  | .l2i => (match x.2.2.1 with
    | .long a :: r => pnx x 1 (.int a.toInt32 :: r)
    | _ => none)
  | .i2b => pi1 x (fun a => a.toInt8.toInt32)
  | .i2s => pi1 x (fun a => a.toInt16.toInt32)
  | .dup => (match x.2.2.1 with
    | v :: r => if v.category = 1 then pnx x 1 (v :: v :: r) else none
    | _ => none)
  | .dup2 => (match x.2.2.1 with
    | v :: w :: r => if v.category = 1 ∧ w.category = 1 then pnx x 1 (v :: w :: v :: w :: r) else none
    | _ => none)
  | .pop => (match x.2.2.1 with
    | v :: r => if v.category = 1 then pnx x 1 r else none
    | _ => none)
  | .ifCond .eq off => pif1 x off (fun a => decide (a = 0))
  | .ifCond .ne off => pif1 x off (fun a => decide (¬ a = 0))
  | .ifCond .lt off => pif1 x off (fun a => decide (a < 0))
  | .ifCond .ge off => pif1 x off (fun a => decide (0 ≤ a))
  | .ifCond .gt off => pif1 x off (fun a => decide (0 < a))
  | .ifCond .le off => pif1 x off (fun a => decide (a ≤ 0))
  | .if_icmp .eq off => pif2 x off (fun a b => decide (a = b))
  | .if_icmp .ne off => pif2 x off (fun a b => decide (¬ a = b))
  | .if_icmp .lt off => pif2 x off (fun a b => decide (a < b))
  | .if_icmp .ge off => pif2 x off (fun a b => decide (b ≤ a))
  | .if_icmp .gt off => pif2 x off (fun a b => decide (b < a))
  | .if_icmp .le off => pif2 x off (fun a b => decide (a ≤ b))
  | .goto off => pgo x off x.2.2.1
  | .ifnull off => (match x.2.2.1 with
    | .null :: r => pgo x off r
    | .ref _ :: r => pnx x 3 r
    | _ => none)
  | .ifnonnull off => (match x.2.2.1 with
    | .null :: r => pnx x 3 r
    | .ref _ :: r => pgo x off r
    | _ => none)
  | .tableswitch d lo hi offs => ptsw d lo hi offs x
  | .lookupswitch d ps => plsw d ps x
  | .iaload => pial L xs x
  | .baload => pbal x
  | .laload => paldl x
  | .aaload => palda x
  | .iastore => past 0 (fun v => v) x
  | .bastore => pbas x
  | .lastore => pastl x
  | .aastore => pasta x
  | .arraylength => paln L x
  | .getfield idx => pgf rs idx x
  | .putfield idx => ppf rs ow ini idx x
  | .new idx => pnew rs idx x
  | .newarray ty => pna ty x
  | .anewarray idx => pana rs idx x
  | .invokevirtual idx => pivv env mC rs idx x
  | .invokestatic idx => pivs env rs idx x
  | .invokespecial idx => pivi env rs idx x
  | i => pret ret i x
/-- the length of an instruction, but for switches -/
def pilen (i : Instr) : Nat := match i with
  | .bipush _ | .ldc _ | .iload _ | .lload _ | .aload _ | .istore _ | .lstore _ | .astore _ | .newarray _ => 2
  | .sipush _ | .ldc_w _ | .ldc2_w _ | .iinc .. | .ifCond .. | .if_icmp .. | .goto _ | .ifnull _ | .ifnonnull _ | .getfield _ | .putfield _ | .new _ | .anewarray _ | .invokevirtual _ | .invokestatic _ | .invokespecial _ => 3
  | _ => 1
def pdec (cc : ByteArray) (pc : Nat) (i : Instr) (n : Nat) : Prop := decode cc pc = .ok (i, n) ∧ match i with
  | .tableswitch .. => True
  | .lookupswitch .. => True
  | i => n = pilen i
/-- a run of at most n instructions -/
def prun (cd : List (Nat × Instr × Nat)) (f : Instr → pS → pO) : Nat → pS → Option pR
  | 0, _ => none
  | n + 1, x => match cd.find? (fun q => q.1 == x.1) with
    | none => none
    | some q => match f q.2.1 x with
      | none => none
      | some (.inl x') => prun cd f n x'
      | some (.inr r) => some r
theorem prun_mono {cd : List (Nat × Instr × Nat)} {f : Instr → pS → pO} : ∀ {n : Nat} {x : pS} {r : pR} (m : Nat), prun cd f n x = some r → prun cd f (n + m) x = some r
  | 0, x, r, m, h => by cases h
  | n + 1, x, r, m, h => by
    rw [show n + 1 + m = (n + m) + 1 by omega]
    unfold prun at h ⊢
    split at h
    · cases h
    · split at h
      · cases h
      · exact prun_mono m h
      · exact h
theorem prun_det {cd : List (Nat × Instr × Nat)} {f : Instr → pS → pO} {n m : Nat} {x : pS} {r r' : pR} (h : prun cd f n x = some r) (h' : prun cd f m x = some r') : r = r' := by
  have h1 := prun_mono m h
  have h2 := prun_mono n h'
  rw [Nat.add_comm] at h2
  exact Option.some.inj (h1.symm.trans h2)
