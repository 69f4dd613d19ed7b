/-! OUR OWN MACHINE: numbers are integers, cells lie in a row, an address is a place in the row; a step a function, a method's run a relation -/
/-- a value: an int, a long, a reference (its place, none: null) -/
abbrev sd_V : Type := Int ⊕ (Int ⊕ Option Nat)
/-- a cell: an object (number of its class, fields), or an array (kind: 0 int, 1 long, 2 byte, 3 boolean, 4 + n references to class n; length; contents) -/
abbrev sd_E : Type := (Nat × List sd_V) ⊕ (Nat × Nat × (Nat → sd_V))
/-- a frame: pc, locals, stack, cells, how many cells and slots it made so far -/
abbrev sd_F : Type := Nat × List (Nat × sd_V) × List sd_V × List sd_E × Nat × Nat
/-- how a method ends: its answer, the cells, how many cells and slots it made -/
abbrev sd_A : Type := Option sd_V × List sd_E × Nat × Nat
def sd_w (z : Int) : Int := z.bmod 4294967296
def sd_wl (z : Int) : Int := z.bmod 18446744073709551616
def sd_cat (v : sd_V) : Nat := match v with
  | .inr (.inl _) => 2
  | _ => 1
/-- a local that is written, of one word, of two -/
def sd_s1 (i : Nat) (v : sd_V) (lv : List (Nat × sd_V)) : List (Nat × sd_V) := (i, v) :: lv.filter (fun q => !(q.1 == i) && !(q.1 + 1 == i && sd_cat q.2 == 2))
def sd_s2 (i : Nat) (v : sd_V) (lv : List (Nat × sd_V)) : List (Nat × sd_V) := (i, v) :: lv.filter (fun q => !(q.1 == i) && (!(q.1 == i + 1) && !(q.1 + 1 == i && sd_cat q.2 == 2)))
/-- the frame goes on at pc with the stack st -/
def sd_n (F : sd_F) (pc : Nat) (st : List sd_V) : Option (sd_F ⊕ sd_A) := some (.inl (pc, F.2.1, st, F.2.2.2))
def sd_nl (F : sd_F) (pc : Nat) (lv : List (Nat × sd_V)) (st : List sd_V) : Option (sd_F ⊕ sd_A) := some (.inl (pc, lv, st, F.2.2.2))
def sd_nm (F : sd_F) (pc : Nat) (st : List sd_V) (E : List sd_E) : Option (sd_F ⊕ sd_A) := some (.inl (pc, F.2.1, st, E, F.2.2.2.2))
def sd_load (F : sd_F) (n i : Nat) : Option (sd_F ⊕ sd_A) := match F.2.1.lookup i with
  | some v => sd_n F (F.1 + n) (v :: F.2.2.1)
  | none => none
def sd_isI (v : sd_V) : Bool := match v with
  | .inl _ => true
  | _ => false
def sd_isL (v : sd_V) : Bool := match v with
  | .inr (.inl _) => true
  | _ => false
def sd_isR (v : sd_V) : Bool := match v with
  | .inr (.inr (some _)) => true
  | _ => false
def sd_ldk (k : sd_V → Bool) (F : sd_F) (n i : Nat) : Option (sd_F ⊕ sd_A) := match F.2.1.lookup i with
  | some v => if k v = true then sd_n F (F.1 + n) (v :: F.2.2.1) else none
  | none => none
def sd_sto1 (k : sd_V → Bool) (F : sd_F) (nL n i : Nat) : Option (sd_F ⊕ sd_A) := match F.2.2.1 with
  | v :: r => if k v = true ∧ i < nL then sd_nl F (F.1 + n) (sd_s1 i v F.2.1) r else none
  | _ => none
def sd_sto2 (F : sd_F) (nL n i : Nat) : Option (sd_F ⊕ sd_A) := match F.2.2.1 with
  | v :: r => if sd_isL v = true ∧ i + 1 < nL then sd_nl F (F.1 + n) (sd_s2 i v F.2.1) r else none
  | _ => none
def sd_i2 (F : sd_F) (f : Int → Int → Int) : Option (sd_F ⊕ sd_A) := match F.2.2.1 with
  | .inl y :: .inl x :: r => sd_n F (F.1 + 1) (.inl (f x y) :: r)
  | _ => none
def sd_i2z (F : sd_F) (f : Int → Int → Int) : Option (sd_F ⊕ sd_A) := match F.2.2.1 with
  | .inl y :: .inl x :: r => if y = 0 then none else sd_n F (F.1 + 1) (.inl (f x y) :: r)
  | _ => none
def sd_l2 (F : sd_F) (f : Int → Int → Int) : Option (sd_F ⊕ sd_A) := match F.2.2.1 with
  | .inr (.inl y) :: .inr (.inl x) :: r => sd_n F (F.1 + 1) (.inr (.inl (f x y)) :: r)
  | _ => none
def sd_l2z (F : sd_F) (f : Int → Int → Int) : Option (sd_F ⊕ sd_A) := match F.2.2.1 with
  | .inr (.inl y) :: .inr (.inl x) :: r => if y = 0 then none else sd_n F (F.1 + 1) (.inr (.inl (f x y)) :: r)
  | _ => none
def sd_and (x y : Int) : Int := (Int32.ofInt x &&& Int32.ofInt y).toInt
def sd_or (x y : Int) : Int := (Int32.ofInt x ||| Int32.ofInt y).toInt
def sd_xor (x y : Int) : Int := (Int32.ofInt x ^^^ Int32.ofInt y).toInt
def sd_shl (x y : Int) : Int := (Int32.ofInt x <<< (Int32.ofInt y &&& 31)).toInt
def sd_shr (x y : Int) : Int := (Int32.ofInt x >>> (Int32.ofInt y &&& 31)).toInt
def sd_ush (x y : Int) : Int := ((Int32.ofInt x).toUInt32 >>> ((Int32.ofInt y).toUInt32 &&& Int32.toUInt32 31)).toInt32.toInt
def sd_landl (x y : Int) : Int := (Int64.ofInt x &&& Int64.ofInt y).toInt
def sd_lorl (x y : Int) : Int := (Int64.ofInt x ||| Int64.ofInt y).toInt
def sd_lshl (x y : Int) : Int := (Int64.ofInt x <<< ((Int32.ofInt y).toInt64 &&& 63)).toInt
def sd_cmpl (x y : Int) : Int := if x < y then -1 else if x = y then 0 else 1
def sd_cnd (c : Jvm.ClassFile.Cond) (x y : Int) : Bool := match c with
  | .eq => decide (x = y)
  | .ne => decide (x ≠ y)
  | .lt => decide (x < y)
  | .ge => decide (y ≤ x)
  | .gt => decide (y < x)
  | .le => decide (x ≤ y)
/-- a jump by an offset -/
def sd_j (F : sd_F) (off : Int) (st : List sd_V) : Option (sd_F ⊕ sd_A) := if 0 ≤ (F.1 : Int) + off then sd_n F ((F.1 : Int) + off).toNat st else none
def sd_br (F : sd_F) (b : Bool) (off : Int) (st : List sd_V) : Option (sd_F ⊕ sd_A) := if 0 ≤ (F.1 : Int) + off then sd_n F (if b = true then ((F.1 : Int) + off).toNat else F.1 + 3) st else none
/-- what a field of a type takes -/
def sd_fit (ty : FieldType) (v : sd_V) : Bool := match ty, v with
  | .int, .inl _ => true
  | .boolean, .inl z => decide (z = 0 ∨ z = 1)
  | .long, .inr (.inl _) => true
  | .object _, .inr (.inr (some _)) => true
  | .array _, .inr (.inr (some _)) => true
  | _, _ => false
def sd_ty : Nat → Nat → FieldType := fun o => match o with
  | 0 => tyX0
  | 1 => tyX1
  | 2 => tyX2
  | 3 => tyX3
  | 4 => tyX4
  | 5 => tyX5
  | 6 => tyX6
  | 7 => tyX7
  | 8 => tyX8
  | 9 => tyX9
  | _ => tyX10
def sd_nf : Nat → Nat := fun o => match vwCl[o]? with
  | some q => q.2.2
  | none => 0
def sd_fin (o k : Nat) : Bool := match vwCl[o]? with
  | some q => (q.2.1 k).2.2.2
  | none => true
def sd_get (o : Nat) (F : sd_F) (index : Nat) : Option (sd_F ⊕ sd_A) := match sd_flT.lookup (o, index), F.2.2.1 with
  | some (ci, k), .inr (.inr (some a)) :: r => match F.2.2.2.1[a]? with
    | some (.inl (cj, fs)) => if cj = ci then match fs[k]? with
        | some v => sd_n F (F.1 + 3) (v :: r)
        | none => none
      else none
    | _ => none
  | _, _ => none
def sd_put (o : Nat) (ini : Bool) (F : sd_F) (index : Nat) : Option (sd_F ⊕ sd_A) := match sd_flT.lookup (o, index), F.2.2.1 with
  | some (ci, k), v :: .inr (.inr (some a)) :: r => match F.2.2.2.1[a]? with
    | some (.inl (cj, fs)) => if cj = ci ∧ k < fs.length ∧ sd_fit (sd_ty ci k) v = true ∧ (sd_fin ci k = false ∨ (ini = true ∧ ci = o)) then sd_nm F (F.1 + 3) r (F.2.2.2.1.set a (.inl (cj, fs.set k v))) else none
    | _ => none
  | _, _ => none
/-- an index into n -/
def sd_in (i : Int) (n : Nat) : Bool := decide (0 ≤ i ∧ i < (n : Int))
def sd_isA (v : sd_V) : Bool := match v with
  | .inr (.inr _) => true
  | _ => false
def sd_ald (k : Nat → Bool) (F : sd_F) : Option (sd_F ⊕ sd_A) := match F.2.2.1 with
  | .inl i :: .inr (.inr (some a)) :: r => match F.2.2.2.1[a]? with
    | some (.inr (t, n, f)) => if k t = true ∧ sd_in i n = true then sd_n F (F.1 + 1) (f i.toNat :: r) else none
    | _ => none
  | _ => none
def sd_up (f : Nat → sd_V) (k : Nat) (v : sd_V) : Nat → sd_V := fun j => if j = k then v else f j
def sd_ast (k : Nat → sd_V → Option sd_V) (F : sd_F) : Option (sd_F ⊕ sd_A) := match F.2.2.1 with
  | v :: .inl i :: .inr (.inr (some a)) :: r => match F.2.2.2.1[a]? with
    | some (.inr (t, n, f)) => match k t v with
      | some u => if sd_in i n = true then sd_nm F (F.1 + 1) r (F.2.2.2.1.set a (.inr (t, n, sd_up f i.toNat u))) else none
      | none => none
    | _ => none
  | _ => none
def sd_kI (t : Nat) (v : sd_V) : Option sd_V := match t, v with
  | 0, .inl z => some (.inl z)
  | _, _ => none
def sd_kL (t : Nat) (v : sd_V) : Option sd_V := match t, v with
  | 1, .inr (.inl z) => some (.inr (.inl z))
  | _, _ => none
def sd_kB (t : Nat) (v : sd_V) : Option sd_V := match t, v with
  | 2, .inl z => some (.inl (z.bmod 256))
  | 3, .inl z => if z = 0 ∨ z = 1 then some (.inl z) else none
  | _, _ => none
def sd_kA (E : List sd_E) (t : Nat) (v : sd_V) : Option sd_V := match v with
  | .inr (.inr (some b)) => match E[b]? with
    | some (.inl (ci, _)) => if t = 4 + ci then some v else none
    | _ => none
  | _ => none
def sd_at (a : ArrayType) : Option (Nat × sd_V) := match a with
  | .int => some (0, .inl 0)
  | .long => some (1, .inr (.inl 0))
  | .byte => some (2, .inl 0)
  | .boolean => some (3, .inl 0)
  | _ => none
/-- a new cell of n slots -/
def sd_nc (F : sd_F) (n : Nat) (r : List sd_V) (m : Nat) (e : sd_E) : Option (sd_F ⊕ sd_A) := some (.inl (F.1 + n, F.2.1, .inr (.inr (some F.2.2.2.1.length)) :: r, F.2.2.2.1 ++ [e], F.2.2.2.2.1 + 1, F.2.2.2.2.2 + m))
def sd_newa (F : sd_F) (n : Nat) (t : Option (Nat × sd_V)) : Option (sd_F ⊕ sd_A) := match F.2.2.1, t with
  | .inl z :: r, some (t, d) => if 0 ≤ z ∧ z ≤ 60000000 then sd_nc F n r z.toNat (.inr (t, z.toNat, fun _ => d)) else none
  | _, _ => none
def sd_dv (ty : FieldType) : sd_V := match ty with
  | .long => .inr (.inl 0)
  | .object _ => .inr (.inr none)
  | .array _ => .inr (.inr none)
  | _ => .inl 0
def sd_tk (ty : FieldType) : Bool := match ty with
  | .float => false
  | .double => false
  | _ => true
def sd_new (F : sd_F) (ci : Option Nat) : Option (sd_F ⊕ sd_A) := match ci with
  | some ci => if (List.range (sd_nf ci)).all (fun k => sd_tk (sd_ty ci k)) = true then sd_nc F 3 F.2.2.1 (sd_nf ci) (.inl (ci, (List.range (sd_nf ci)).map (fun k => sd_dv (sd_ty ci k)))) else none
  | none => none
def sd_sum (r : List sd_V) : Nat := (r.map sd_cat).sum
/-- the calls that are no methods of ours: 4 Object.<init>, 5 Math.max, 6 Math.min, 7 System.arraycopy of ints -/
def sd_prim (F : sd_F) (k : Nat) : Option (sd_F ⊕ sd_A) := match k, F.2.2.1 with
  | 4, .inr (.inr (some _)) :: r => if sd_sum r ≤ 8 then sd_n F (F.1 + 3) r else none
  | 5, .inl y :: .inl x :: r => if sd_sum r ≤ 8 then sd_n F (F.1 + 3) (.inl (if x < y then y else x) :: r) else none
  | 6, .inl y :: .inl x :: r => if sd_sum r ≤ 8 then sd_n F (F.1 + 3) (.inl (if y < x then y else x) :: r) else none
  | 7, .inl n :: .inl dp :: .inr (.inr (some b)) :: .inl sp :: .inr (.inr (some a)) :: r => match F.2.2.2.1[a]?, F.2.2.2.1[b]? with
    | some (.inr (0, n0, f)), some (.inr (0, n1, g)) => if sd_sum r ≤ 8 ∧ 0 ≤ n ∧ 0 ≤ sp ∧ 0 ≤ dp ∧ sp + n ≤ (n0 : Int) ∧ dp + n ≤ (n1 : Int) then sd_nm F (F.1 + 3) r (F.2.2.2.1.set b (.inr (0, n1, va_cpy f g sp.toNat dp.toNat n.toNat))) else none
    | _, _ => none
  | _, _ => none
def sd_ret (F : sd_F) (k : sd_V → Bool) : Option (sd_F ⊕ sd_A) := match F.2.2.1 with
  | [v] => if k v = true then some (.inr (some v, F.2.2.2)) else none
  | _ => none
def sd_cst (F : sd_F) (n : Nat) (v : Option sd_V) : Option (sd_F ⊕ sd_A) := match v with
  | some v => sd_n F (F.1 + n) (v :: F.2.2.1)
  | none => none
/-- one step of an instruction that isn't a call of a method of ours: own class, in a constructor?, locals, what it answers -/
def sd_st (o : Nat) (ini : Bool) (nL : Nat) (rt : Option FieldType) (ins : Jvm.ClassFile.Instr) (len : Nat) (F : sd_F) : Option (sd_F ⊕ sd_A) := match ins with
  | .iconst n => if (Int32.ofInt n).toInt = n ∧ len = 1 then sd_n F (F.1 + 1) (.inl n :: F.2.2.1) else none
  | .bipush n => if (Int8.ofInt n).toInt32.toInt = n ∧ len = 2 then sd_n F (F.1 + 2) (.inl n :: F.2.2.1) else none
  | .sipush n => if (Int16.ofInt n).toInt32.toInt = n ∧ len = 3 then sd_n F (F.1 + 3) (.inl n :: F.2.2.1) else none
  | .lconst n => if len = 1 then sd_n F (F.1 + 1) (.inr (.inl ((n : Nat) : Int)) :: F.2.2.1) else none
  | .ldc i => if len = 2 then sd_cst F 2 ((sd_lcT.lookup (o, i)).map .inl) else none
  | .ldc_w i => if len = 3 then sd_cst F 3 ((sd_lcT.lookup (o, i)).map .inl) else none
  | .ldc2_w i => if len = 3 then sd_cst F 3 ((sd_l2T.lookup (o, i)).map (fun z => .inr (.inl z))) else none
  | .aconst_null => if len = 1 then sd_n F (F.1 + 1) (.inr (.inr none) :: F.2.2.1) else none
  | .iload i => if len = 2 then sd_ldk sd_isI F 2 i else none
  | .iload_n i => if len = 1 then sd_ldk sd_isI F 1 i else none
  | .lload i => if len = 2 then sd_ldk sd_isL F 2 i else none
  | .lload_n i => if len = 1 then sd_ldk sd_isL F 1 i else none
  | .aload i => if len = 2 then sd_ldk sd_isA F 2 i else none
  | .aload_n i => if len = 1 then sd_ldk sd_isA F 1 i else none
  | .istore i => if len = 2 then sd_sto1 sd_isI F nL 2 i else none
  | .istore_n i => if len = 1 then sd_sto1 sd_isI F nL 1 i else none
  | .astore i => if len = 2 then sd_sto1 sd_isA F nL 2 i else none
  | .astore_n i => if len = 1 then sd_sto1 sd_isA F nL 1 i else none
  | .lstore i => if len = 2 then sd_sto2 F nL 2 i else none
  | .lstore_n i => if len = 1 then sd_sto2 F nL 1 i else none
  | .iinc i n => match F.2.1.lookup i with
    | some (.inl x) => if len = 3 ∧ i < nL ∧ (Int32.ofInt n).toInt = n then sd_nl F (F.1 + 3) (sd_s1 i (.inl (sd_w (x + n))) F.2.1) F.2.2.1 else none
    | _ => none
  | .iadd => if len = 1 then sd_i2 F (fun x y => sd_w (x + y)) else none
  | .isub => if len = 1 then sd_i2 F (fun x y => sd_w (x - y)) else none
  | .imul => if len = 1 then sd_i2 F (fun x y => sd_w (x * y)) else none
  | .iand => if len = 1 then sd_i2 F sd_and else none
  | .ior => if len = 1 then sd_i2 F sd_or else none
  | .ixor => if len = 1 then sd_i2 F sd_xor else none
  | .ishl => if len = 1 then sd_i2 F sd_shl else none
  | .ishr => if len = 1 then sd_i2 F sd_shr else none
  | .iushr => if len = 1 then sd_i2 F sd_ush else none
  | .idiv => if len = 1 then sd_i2z F (fun x y => sd_w (x.tdiv y)) else none
  | .irem => if len = 1 then sd_i2z F Int.tmod else none
  | .ladd => if len = 1 then sd_l2 F (fun x y => sd_wl (x + y)) else none
  | .lsub => if len = 1 then sd_l2 F (fun x y => sd_wl (x - y)) else none
  | .lmul => if len = 1 then sd_l2 F (fun x y => sd_wl (x * y)) else none
  | .land => if len = 1 then sd_l2 F sd_landl else none
  | .lor => if len = 1 then sd_l2 F sd_lorl else none
  | .ldiv => if len = 1 then sd_l2z F (fun x y => sd_wl (x.tdiv y)) else none
  | .lrem => if len = 1 then sd_l2z F Int.tmod else none
  | .lshl => match F.2.2.1 with
    | .inl y :: .inr (.inl x) :: r => if len = 1 then sd_n F (F.1 + 1) (.inr (.inl (sd_lshl x y)) :: r) else none
    | _ => none
  | .lcmp => match F.2.2.1 with
    | .inr (.inl y) :: .inr (.inl x) :: r => if len = 1 then sd_n F (F.1 + 1) (.inl (sd_cmpl x y) :: r) else none
    | _ => none
  | .i2l => match F.2.2.1 with
    | .inl x :: r => if len = 1 then sd_n F (F.1 + 1) (.inr (.inl x) :: r) else none
    | _ => none
  | .l2i => match F.2.2.1 with
    | .inr (.inl x) :: r => if len = 1 then sd_n F (F.1 + 1) (.inl (sd_w x) :: r) else none
    | _ => none
  | .i2b => match F.2.2.1 with
    | .inl x :: r => if len = 1 then sd_n F (F.1 + 1) (.inl (x.bmod 256) :: r) else none
    | _ => none
  | .pop => match F.2.2.1 with
    | v :: r => if len = 1 ∧ sd_cat v = 1 then sd_n F (F.1 + 1) r else none
    | _ => none
  | .dup => match F.2.2.1 with
    | v :: r => if len = 1 ∧ sd_cat v = 1 then sd_n F (F.1 + 1) (v :: v :: r) else none
    | _ => none
  | .dup2 => match F.2.2.1 with
    | v :: u :: r => if len = 1 ∧ sd_cat v = 1 ∧ sd_cat u = 1 then sd_n F (F.1 + 1) (v :: u :: v :: u :: r) else none
    | _ => none
  | .goto off => if len = 3 then sd_j F off F.2.2.1 else none
  | .ifCond c off => match F.2.2.1 with
    | .inl x :: r => if len = 3 then sd_br F (sd_cnd c x 0) off r else none
    | _ => none
  | .if_icmp c off => match F.2.2.1 with
    | .inl y :: .inl x :: r => if len = 3 then sd_br F (sd_cnd c x y) off r else none
    | _ => none
  | .ifnonnull off => match F.2.2.1 with
    | .inr (.inr q) :: r => if len = 3 then sd_br F q.isSome off r else none
    | _ => none
  | .tableswitch d lo hi offs => match F.2.2.1 with
    | .inl x :: r => if x < lo ∨ hi < x then sd_j F d r else match offs[(x - lo).toNat]? with
      | some off => sd_j F off r
      | none => none
    | _ => none
  | .lookupswitch d ps => match F.2.2.1 with
    | .inl x :: r => if (ps.toList.zip (ps.toList.drop 1)).all (fun (a, next) => a.1 < next.1) = true then sd_j F (Op.lookupswitch.offset ps.toList d x) r else none
    | _ => none
  | .getfield i => if len = 3 then sd_get o F i else none
  | .putfield i => if len = 3 then sd_put o ini F i else none
  | .iaload => if len = 1 then sd_ald (fun t => t == 0) F else none
  | .laload => if len = 1 then sd_ald (fun t => t == 1) F else none
  | .baload => if len = 1 then sd_ald (fun t => t == 2 || t == 3) F else none
  | .aaload => if len = 1 then sd_ald (fun t => decide (4 ≤ t)) F else none
  | .iastore => if len = 1 then sd_ast sd_kI F else none
  | .lastore => if len = 1 then sd_ast sd_kL F else none
  | .bastore => if len = 1 then sd_ast sd_kB F else none
  | .aastore => if len = 1 then sd_ast (sd_kA F.2.2.2.1) F else none
  | .newarray a => if len = 2 then sd_newa F 2 (sd_at a) else none
  | .anewarray i => if len = 3 then sd_newa F 3 ((sd_alT.lookup (o, i)).map (fun ci => (4 + ci, .inr (.inr none)))) else none
  | .new i => if len = 3 then sd_new F (sd_nlT.lookup (o, i)) else none
  | .invokestatic i => match sd_mlT.lookup (o, i) with
    | some (k, _) => if len = 3 ∧ 5 ≤ k then sd_prim F k else none
    | none => none
  | .invokespecial i => match sd_mlT.lookup (o, i) with
    | some (k, _) => if len = 3 ∧ k = 4 then sd_prim F k else none
    | none => none
  | .ireturn => if len = 1 then match rt with
      | some .int => sd_ret F sd_isI
      | some .boolean => sd_ret F (sd_fit .boolean)
      | _ => none
    else none
  | .lreturn => if len = 1 ∧ rt = some .long then sd_ret F sd_isL else none
  | .areturn => if len = 1 then match rt with
      | some (.object _) => sd_ret F sd_isA
      | _ => none
    else none
  | .return_ => if len = 1 ∧ rt = none ∧ F.2.2.1 = [] then some (.inr (none, F.2.2.2)) else none
  | _ => none
/-- a call of a method of ours: its number, and whether a receiver comes first -/
def sd_cl (o : Nat) (ins : Jvm.ClassFile.Instr) (len : Nat) : Option (Nat × Nat) := match ins with
  | .invokevirtual i => match sd_mlT.lookup (o, i) with
    | some (0, j) => if len = 3 then some (0, j) else none
    | _ => none
  | .invokestatic i => match sd_mlT.lookup (o, i) with
    | some (1, j) => if len = 3 then some (1, j) else none
    | some (3, j) => if len = 3 then some (3, j) else none
    | _ => none
  | .invokespecial i => match sd_mlT.lookup (o, i) with
    | some (2, j) => if len = 3 then some (2, j) else none
    | _ => none
  | _ => none
/-- the receiver of a call of kind k of a method of class o -/
def sd_rc (k o : Nat) (E : List sd_E) (As : List sd_V) : Bool := match As with
  | .inr (.inr (some a)) :: _ => if k = 0 then match E[a]? with
      | some (.inl (c, _)) => c == o
      | _ => false
    else true
  | _ => !(k == 0 || k == 2)
/-- one step of method q in a frame, calls by C -/
def sd_sR (C : Nat → List sd_V → List sd_E → sd_A → Prop) (q : sd_MI) (F : sd_F) (G : sd_F ⊕ sd_A) : Prop := match q.2.2.2.2.2.2.lookup F.1 with
  | none => False
  | some (ins, len) => match sd_cl q.2.2.2.2.1 ins len with
    | none => sd_st q.2.2.2.2.1 (q.1.name == "<init>") q.2.2.1 q.2.2.2.1 ins len F = some G
    | some (k, j) => ∃ (qj : sd_MI) (As r : List sd_V) (R : sd_A), sd_mL[j]? = some qj ∧ F.2.2.1 = As.reverse ++ r ∧ As.length = qj.2.2.2.2.2.1 + (if k = 0 ∨ k = 2 then 1 else 0) ∧ sd_sum r ≤ 8 ∧ sd_rc k qj.2.2.2.2.1 F.2.2.2.1 As = true ∧ C j As F.2.2.2.1 R ∧ G = .inl (F.1 + 3, F.2.1, R.1.toList ++ r, R.2.1, F.2.2.2.2.1 + R.2.2.1, F.2.2.2.2.2 + R.2.2.2)
/-- the text constant of the class, and its two uses: length(), charAt(i) -/
def sd_words : List Nat := [111, 102, 102, 101, 114, 32, 119, 114, 105, 116, 101, 115, 32, 115, 116, 97, 110, 100, 115, 32, 110, 101, 101, 100, 115, 32, 108, 105, 110, 101, 115, 32, 112, 108, 97, 99, 101, 100, 32, 111, 114, 100, 101, 114, 32, 115, 104, 111, 114, 116, 32, 119, 97, 105, 116, 105, 110, 103, 32, 103, 111, 110, 101, 32, 100, 97, 121, 32, 115, 108, 105, 112, 32, 116, 97, 107, 101, 32, 105, 102, 32, 97, 110, 100, 32, 111, 114, 32, 110, 111, 116, 32]
def sd_word (i : Nat) : Int := ((sd_words.getD i 0 : Nat) : Int)
def sd_Y (q : sd_MI) (F : sd_F) : Option sd_F := if q.2.2.2.2.1 = 7 then match q.2.2.2.2.2.2.lookup F.1 with
  | some (.ldc 62, 2) => match q.2.2.2.2.2.2.lookup (F.1 + 2) with
    | some (.invokevirtual 64, 3) => if sd_sum F.2.2.1 ≤ 8 then some (F.1 + 5, F.2.1, .inl 92 :: F.2.2.1, F.2.2.2) else none
    | some (.iload i, 2) => match q.2.2.2.2.2.2.lookup (F.1 + 4), F.2.1.lookup i with
      | some (.invokevirtual 69, 3), some (.inl z) => if sd_sum F.2.2.1 ≤ 8 ∧ 0 ≤ z ∧ z < 92 then some (F.1 + 7, F.2.1, .inl (sd_word z.toNat) :: F.2.2.1, F.2.2.2) else none
      | _, _ => none
    | _ => none
  | _ => none
  else none
/-- n steps, to the end; locals may be forgotten on the way -/
def sd_Ex (C : Nat → List sd_V → List sd_E → sd_A → Prop) (q : sd_MI) : Nat → sd_F → sd_A → Prop
  | 0, _, _ => False
  | n + 1, F, R => ((∃ G, sd_sR C q F G ∧ match G with
    | .inl F1 => sd_Ex C q n F1 R
    | .inr R1 => R1 = R) ∨ ∃ lv : List (Nat × sd_V), (∀ e ∈ lv, F.2.1.lookup e.1 = some e.2) ∧ sd_Ex C q n (F.1, lv, F.2.2) R) ∨ ∃ F1, sd_Y q F = some F1 ∧ sd_Ex C q n F1 R
/-- the locals at a method's begin -/
def sd_en : Nat → List sd_V → List (Nat × sd_V)
  | _, [] => []
  | i, v :: l => (i, v) :: sd_en (i + sd_cat v) l
/-- method j, with at most d frames above its own -/
def sd_Cal (X : Nat → List sd_V → List sd_E → sd_A → Prop) : Nat → Nat → List sd_V → List sd_E → sd_A → Prop
  | 0, _, _, _, _ => False
  | d + 1, j, As, E, R => X j As E R ∨ ∃ (q : sd_MI) (n : Nat), sd_mL[j]? = some q ∧ sd_sum As ≤ q.2.2.1 ∧ sd_Ex (sd_Cal X d) q n (0, sd_en 0 As, [], E, 0, 0) R
