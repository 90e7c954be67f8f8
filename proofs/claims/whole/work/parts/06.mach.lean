/-! A small machine over cells with fixed names: what an instruction does, without the tables, the frames and the heap's addresses. 'ex' runs a method on it; part 07 shows that the machine of the Statement does the same. -/
abbrev Lc : Type := List (Nat × Value)
/-- what the cells hold: ints, longs, references, by the cell's name and the place in it -/
abbrev St : Type := (Nat → Nat → Int32) × (Nat → Nat → Int64) × (Nat → Nat → Option Nat)
def up2 {α : Type} (f : Nat → Nat → α) (a k : Nat) (v : α) : Nat → Nat → α := fun b j => if b = a then (if j = k then v else f b j) else f b j
def rI (S : St) (a : Nat) : Nat → Int32 := S.1 a
def rJ (S : St) (a : Nat) : Nat → Int64 := S.2.1 a
def rQ (S : St) (a : Nat) : Nat → Option Nat := S.2.2 a
def wI (S : St) (a k : Nat) (v : Int32) : St := (up2 S.1 a k v, S.2)
def wJ (S : St) (a k : Nat) (v : Int64) : St := (S.1, up2 S.2.1 a k v, S.2.2)
def wQ (S : St) (a k : Nat) (v : Option Nat) : St := (S.1, S.2.1, up2 S.2.2 a k v)
/-- the kinds of the names (0 an object of a class, 1 ints, 2 chars, 3 booleans, 4 longs, 5, 6, 7 references to constants, states, standings; its length), the references that stay (by class, name, place), and the methods that are proved by hand -/
abbrev Cfg : Type := (Nat → Nat × Nat) × (Nat → Nat → Nat → Option Nat) × (Nat → List Value → St → Option (Option Value × St))
def qv (o : Option Nat) : Value := match o with | none => .null | some b => .ref b
def lget (lc : Lc) (i : Nat) : Option Value := lc.lookup i
def lset1 (lc : Lc) (i : Nat) (v : Value) : Lc := (i, v) :: lc.filter (fun q => !(q.1 == i) && !(q.1 + 1 == i && q.2.category == 2))
def lset2 (lc : Lc) (i : Nat) (v : Value) : Lc := (i, v) :: lc.filter (fun q => !(q.1 == i) && (!(q.1 == i + 1) && !(q.1 + 1 == i && q.2.category == 2)))
def swt (x : Int32) (pc : Nat) (dflt lo : Int) : List Int → Nat
  | [] => ((pc : Int) + dflt).toNat
  | t :: ts => if x.toInt = lo then ((pc : Int) + t).toNat else swt x pc dflt (lo + 1) ts
abbrev Nx : Type := Nat × Lc × List Value × St
def ld (lc : Lc) (i pc' : Nat) (st : List Value) (S : St) : Option Nx := match lget lc i with
  | some v => some (pc', lc, v :: st, S)
  | none => none
def sto (nL : Nat) (lc : Lc) (i pc' : Nat) (st : List Value) (S : St) : Option Nx := match st with
  | .int v :: r => if i < nL then some (pc', lset1 lc i (.int v), r, S) else none
  | .ref v :: r => if i < nL then some (pc', lset1 lc i (.ref v), r, S) else none
  | .null :: r => if i < nL then some (pc', lset1 lc i .null, r, S) else none
  | .long v :: r => if i + 1 < nL then some (pc', lset2 lc i (.long v), r, S) else none
  | _ => none
def b2 (f : Int32 → Int32 → Int32) (pc : Nat) (lc : Lc) (st : List Value) (S : St) : Option Nx := match st with
  | .int y :: .int x :: r => some (pc + 1, lc, .int (f x y) :: r, S)
  | _ => none
def d2 (f : Int32 → Int32 → Int32) (pc : Nat) (lc : Lc) (st : List Value) (S : St) : Option Nx := match st with
  | .int y :: .int x :: r => if y = 0 then none else some (pc + 1, lc, .int (f x y) :: r, S)
  | _ => none
def b2L (f : Int64 → Int64 → Int64) (pc : Nat) (lc : Lc) (st : List Value) (S : St) : Option Nx := match st with
  | .long y :: .long x :: r => some (pc + 1, lc, .long (f x y) :: r, S)
  | _ => none
def d2L (f : Int64 → Int64 → Int64) (pc : Nat) (lc : Lc) (st : List Value) (S : St) : Option Nx := match st with
  | .long y :: .long x :: r => if y = 0 then none else some (pc + 1, lc, .long (f x y) :: r, S)
  | _ => none
def sh2 (f : Int64 → Int32 → Int64) (pc : Nat) (lc : Lc) (st : List Value) (S : St) : Option Nx := match st with
  | .int y :: .long x :: r => some (pc + 1, lc, .long (f x y) :: r, S)
  | _ => none
def jmp (pc : Nat) (off : Int) (tgt : Nat) (lc : Lc) (st : List Value) (S : St) : Option Nx := if (pc : Int) + off = (tgt : Int) then some (tgt, lc, st, S) else none
def icm (c : ClassFile.Cond) (x y : Int32) (A B : Nat) : Nat := match c with
  | .eq => if x = y then A else B
  | .ne => if x = y then B else A
  | .lt => if x < y then A else B
  | .ge => if x < y then B else A
  | .gt => if y < x then A else B
  | .le => if y < x then B else A
def fget (K : Cfg) (S : St) (a c k : Nat) : Value := match kG c k with
  | 0 => .int (rI S a k)
  | 3 => .int (rI S a k)
  | 1 => .long (rJ S a k)
  | _ => match K.2.1 c a k with
    | some b => .ref b
    | none => qv (rQ S a k)
/-- a name that stands for something -/
def okn (K : Cfg) (a : Nat) : Prop := (K.1 a).1 < 8 ∨ (K.1 a).1 = 20
def acm (c : ClassFile.ACond) (a b A B : Nat) : Nat := match c with
  | .eq => if a = b then A else B
  | .ne => if a = b then B else A
def acn (c : ClassFile.ACond) (A B : Nat) : Nat := match c with
  | .eq => B
  | .ne => A
def isBo (v : Int32) : Bool := v == 0 || v == 1
/-- one instruction that is no call and no return: the frame behind it -/
def sx (K : Cfg) (nL : Nat) (pc : Nat) (ins : Instr) (x y z : Nat) (lc : Lc) (st : List Value) (S : St) : Option Nx := match ins with
  | .iconst c => some (pc + 1, lc, .int (Int32.ofInt c) :: st, S)
  | .bipush c => some (pc + 2, lc, .int (Int8.ofInt c).toInt32 :: st, S)
  | .sipush c => some (pc + 3, lc, .int (Int16.ofInt c).toInt32 :: st, S)
  | .lconst c => some (pc + 1, lc, .long (Int64.ofNat (c : Nat)) :: st, S)
  | .ldc_w _ => if y = 9 then none else some (pc + 3, lc, .int (Int32.ofNat x) :: st, S)
  | .ldc _ => if y = 9 then none else some (pc + 2, lc, .int (Int32.ofNat x) :: st, S)
  | .ldc2_w _ => some (pc + 3, lc, .long (Int64.ofNat x) :: st, S)
  | .aconst_null => some (pc + 1, lc, .null :: st, S)
  | .iload i => (match lget lc i with | some (.int v) => some (pc + 2, lc, .int v :: st, S) | _ => none)
  | .iload_n i => (match lget lc i with | some (.int v) => some (pc + 1, lc, .int v :: st, S) | _ => none)
  | .lload i => (match lget lc i with | some (.long v) => some (pc + 2, lc, .long v :: st, S) | _ => none)
  | .lload_n i => (match lget lc i with | some (.long v) => some (pc + 1, lc, .long v :: st, S) | _ => none)
  | .aload i => (match lget lc i with | some (.ref v) => some (pc + 2, lc, .ref v :: st, S) | some .null => some (pc + 2, lc, .null :: st, S) | _ => none)
  | .aload_n i => (match lget lc i with | some (.ref v) => some (pc + 1, lc, .ref v :: st, S) | some .null => some (pc + 1, lc, .null :: st, S) | _ => none)
  | .istore i => (match st with | .int v :: r => if i < nL then some (pc + 2, lset1 lc i (.int v), r, S) else none | _ => none)
  | .istore_n i => (match st with | .int v :: r => if (i : Nat) < nL then some (pc + 1, lset1 lc i (.int v), r, S) else none | _ => none)
  | .lstore i => (match st with | .long v :: r => if i + 1 < nL then some (pc + 2, lset2 lc i (.long v), r, S) else none | _ => none)
  | .lstore_n i => (match st with | .long v :: r => if (i : Nat) + 1 < nL then some (pc + 1, lset2 lc i (.long v), r, S) else none | _ => none)
  | .astore i => (match st with | .ref v :: r => if i < nL then some (pc + 2, lset1 lc i (.ref v), r, S) else none | .null :: r => if i < nL then some (pc + 2, lset1 lc i .null, r, S) else none | _ => none)
  | .astore_n i => (match st with | .ref v :: r => if (i : Nat) < nL then some (pc + 1, lset1 lc i (.ref v), r, S) else none | .null :: r => if (i : Nat) < nL then some (pc + 1, lset1 lc i .null, r, S) else none | _ => none)
  | .iinc i c => (match lget lc i with | some (.int v) => if i < nL then some (pc + 3, lset1 lc i (.int (v + Int32.ofInt c)), st, S) else none | _ => none)
  | .iadd => b2 (fun x y => x + y) pc lc st S
  | .isub => b2 (fun x y => x - y) pc lc st S
  | .imul => b2 (fun x y => x * y) pc lc st S
  | .iand => b2 (fun x y => x &&& y) pc lc st S
  | .ior => b2 (fun x y => x ||| y) pc lc st S
  | .ixor => b2 (fun x y => x ^^^ y) pc lc st S
  | .ishl => b2 (fun x y => x <<< (y &&& 31)) pc lc st S
  | .ishr => b2 (fun x y => x >>> (y &&& 31)) pc lc st S
  | .iushr => b2 (fun x y => (x.toUInt32 >>> (y.toUInt32 &&& Int32.toUInt32 31)).toInt32) pc lc st S
  | .idiv => d2 (fun x y => x / y) pc lc st S
  | .irem => d2 (fun x y => x - x / y * y) pc lc st S
  | .ladd => b2L (fun x y => x + y) pc lc st S
  | .lsub => b2L (fun x y => x - y) pc lc st S
  | .lmul => b2L (fun x y => x * y) pc lc st S
  | .land => b2L (fun x y => x &&& y) pc lc st S
  | .lor => b2L (fun x y => x ||| y) pc lc st S
  | .ldiv => d2L (fun x y => x / y) pc lc st S
  | .lrem => d2L (fun x y => x - x / y * y) pc lc st S
  | .lshl => sh2 (fun x y => x <<< (y.toInt64 &&& 63)) pc lc st S
  | .lshr => sh2 (fun x y => x >>> (y.toInt64 &&& 63)) pc lc st S
  | .lushr => sh2 (fun x y => (x.toUInt64 >>> (y.toInt64.toUInt64 &&& Int64.toUInt64 63)).toInt64) pc lc st S
  | .lcmp => (match st with | .long y :: .long x :: r => some (pc + 1, lc, .int (lg_cmp x y) :: r, S) | _ => none)
  | .i2l => (match st with | .int x :: r => some (pc + 1, lc, .long x.toInt64 :: r, S) | _ => none)
  | .l2i => (match st with | .long x :: r => some (pc + 1, lc, .int x.toInt32 :: r, S) | _ => none)
  | .i2c => (match st with | .int x :: r => some (pc + 1, lc, .int (x.toUInt32 % 65536).toInt32 :: r, S) | _ => none)
  | .dup => (match st with | .int x :: r => some (pc + 1, lc, .int x :: .int x :: r, S) | .ref x :: r => some (pc + 1, lc, .ref x :: .ref x :: r, S) | _ => none)
  | .dup2 => (match st with | .int x :: .ref a :: r => some (pc + 1, lc, .int x :: .ref a :: .int x :: .ref a :: r, S) | _ => none)
  | .pop => (match st with | .int _ :: r => some (pc + 1, lc, r, S) | .ref _ :: r => some (pc + 1, lc, r, S) | _ => none)
  | .goto o => jmp pc o x lc st S
  | .if_icmp c o => (match st with | .int b :: .int a :: r => jmp pc o x lc r S >>= fun _ => some (icm c a b x (pc + 3), lc, r, S) | _ => none)
  | .ifCond c o => (match st with | .int a :: r => jmp pc o x lc r S >>= fun _ => some (icm c a 0 x (pc + 3), lc, r, S) | _ => none)
  | .if_acmp c o => (match st with
    | .ref b :: .ref a :: r => if ((K.1 a).1 < 8 ∨ (K.1 a).1 = 20) ∧ ((K.1 b).1 < 8 ∨ (K.1 b).1 = 20) then jmp pc o x lc r S >>= fun _ => some (acm c a b x (pc + 3), lc, r, S) else none
    | .null :: .ref _ :: r => jmp pc o x lc r S >>= fun _ => some (acn c x (pc + 3), lc, r, S)
    | .ref _ :: .null :: r => jmp pc o x lc r S >>= fun _ => some (acn c x (pc + 3), lc, r, S)
    | _ => none)
  | .getstatic _ => if x < 2 ∧ y < 42 then some (pc + 3, lc, .ref (1000 + y) :: st, S) else if x < 2 ∧ y = 42 then some (pc + 3, lc, .ref 1100 :: st, S) else none
  | .aastore => (match st with
    | .ref v :: .int i :: .ref a :: r => if ((K.1 a).1 = 5 ∧ (K.1 v).1 = 20) ∨ ((K.1 a).1 = 6 ∧ K.1 v = (0, 6)) ∨ ((K.1 a).1 = 7 ∧ K.1 v = (0, 5)) then (if i < 0 ∨ (K.1 a).2 ≤ i.toNatClampNeg then none else some (pc + 1, lc, r, wQ S a i.toNatClampNeg (some v))) else none
    | .null :: .int i :: .ref a :: r => if 5 ≤ (K.1 a).1 ∧ (K.1 a).1 < 8 then (if i < 0 ∨ (K.1 a).2 ≤ i.toNatClampNeg then none else some (pc + 1, lc, r, wQ S a i.toNatClampNeg none)) else none
    | _ => none)
  | .ifnull o => (match st with | .null :: r => jmp pc o x lc r S | .ref _ :: r => some (pc + 3, lc, r, S) | _ => none)
  | .ifnonnull o => (match st with | .ref _ :: r => jmp pc o x lc r S | .null :: r => some (pc + 3, lc, r, S) | _ => none)
  | .tableswitch d lo hi offs => (match st with | .int a :: r => if hi = lo + (offs.size : Int) - 1 ∧ 0 ≤ (pc : Int) + d ∧ offs.toList.all (fun t => decide (0 ≤ (pc : Int) + t)) = true then some (swt a pc d lo offs.toList, lc, r, S) else none | _ => none)
  | .getfield _ => (match st with
    | .ref a :: r => if K.1 a = (0, y) ∧ x < 2 ∧ z < kF y then some (pc + 3, lc, fget K S a y z :: r, S) else if (K.1 a).1 = 20 ∧ x < 2 ∧ y = 9 ∧ 0 < z ∧ z < 5 then some (pc + 3, lc, tokV (K.1 a).2 z :: r, S) else none
    | _ => none)
  | .putfield _ => (match st with
    | .int v :: .ref a :: r => if K.1 a = (0, y) ∧ x < 2 ∧ (kT y z).2.2.2 = false ∧ z < kF y then (match kG y z with | 0 => some (pc + 3, lc, r, wI S a z v) | 3 => if isBo v then some (pc + 3, lc, r, wI S a z v) else none | _ => none) else none
    | .long v :: .ref a :: r => if K.1 a = (0, y) ∧ x < 2 ∧ (kT y z).2.2.2 = false ∧ z < kF y ∧ kG y z = 1 then some (pc + 3, lc, r, wJ S a z v) else none
    | .ref v :: .ref a :: r => if K.1 a = (0, y) ∧ x < 2 ∧ (kT y z).2.2.2 = false ∧ z < kF y ∧ kG y z = 2 ∧ K.2.1 y a z = none then some (pc + 3, lc, r, wQ S a z (some v)) else none
    | _ => none)
  | .iaload => (match st with
    | .int i :: .ref a :: r => (if (K.1 a).1 = 1 then (if i < 0 ∨ (K.1 a).2 ≤ i.toNatClampNeg then none else some (pc + 1, lc, .int (rI S a i.toNatClampNeg) :: r, S)) else if (K.1 a).1 = 30 then (if i < 0 ∨ (K.1 a).2 ≤ i.toNatClampNeg then none else some (pc + 1, lc, .int (smL.getD i.toNatClampNeg 0) :: r, S)) else none)
    | _ => none)
  | .caload => (match st with
    | .int i :: .ref a :: r => (if (K.1 a).1 = 2 then (if i < 0 ∨ (K.1 a).2 ≤ i.toNatClampNeg then none else some (pc + 1, lc, .int (rI S a i.toNatClampNeg) :: r, S)) else none)
    | _ => none)
  | .baload => (match st with
    | .int i :: .ref a :: r => (if (K.1 a).1 = 3 then (if i < 0 ∨ (K.1 a).2 ≤ i.toNatClampNeg then none else some (pc + 1, lc, .int (rI S a i.toNatClampNeg) :: r, S)) else none)
    | _ => none)
  | .laload => (match st with
    | .int i :: .ref a :: r => (if (K.1 a).1 = 4 then (if i < 0 ∨ (K.1 a).2 ≤ i.toNatClampNeg then none else some (pc + 1, lc, .long (rJ S a i.toNatClampNeg) :: r, S)) else none)
    | _ => none)
  | .aaload => (match st with
    | .int i :: .ref a :: r => if 5 ≤ (K.1 a).1 ∧ (K.1 a).1 < 8 then (if i < 0 ∨ (K.1 a).2 ≤ i.toNatClampNeg then none else some (pc + 1, lc, qv (rQ S a i.toNatClampNeg) :: r, S)) else none
    | _ => none)
  | .iastore => (match st with
    | .int v :: .int i :: .ref a :: r => (if (K.1 a).1 = 1 then (if i < 0 ∨ (K.1 a).2 ≤ i.toNatClampNeg then none else some (pc + 1, lc, r, wI S a i.toNatClampNeg v)) else none)
    | _ => none)
  | .castore => (match st with
    | .int v :: .int i :: .ref a :: r => (if (K.1 a).1 = 2 then (if i < 0 ∨ (K.1 a).2 ≤ i.toNatClampNeg then none else some (pc + 1, lc, r, wI S a i.toNatClampNeg (vp_nar .char v))) else none)
    | _ => none)
  | .bastore => (match st with
    | .int v :: .int i :: .ref a :: r => (if (K.1 a).1 = 3 then (if i < 0 ∨ (K.1 a).2 ≤ i.toNatClampNeg then none else some (pc + 1, lc, r, wI S a i.toNatClampNeg (vp_nar .boolean v))) else none)
    | _ => none)
  | .lastore => (match st with
    | .long v :: .int i :: .ref a :: r => (if (K.1 a).1 = 4 then (if i < 0 ∨ (K.1 a).2 ≤ i.toNatClampNeg then none else some (pc + 1, lc, r, wJ S a i.toNatClampNeg v)) else none)
    | _ => none)
  | .arraylength => (match st with
    | .ref a :: r => if 1 ≤ (K.1 a).1 ∧ (K.1 a).1 < 8 then some (pc + 1, lc, .int (Int32.ofNat (K.1 a).2) :: r, S) else none
    | _ => none)
  | _ => none
/-- what a method of type ret answers with what is on its stack -/
def rti (ret : Option FieldType) (st : List Value) (S : St) : Option (Option Value × St) := match ret, st with
  | some .int, [.int v] => some (some (.int v), S)
  | some .boolean, [.int v] => if isBo v then some (some (.int v), S) else none
  | _, _ => none
def rtv (ret : Option FieldType) (st : List Value) (S : St) : Option (Option Value × St) := match ret, st with
  | none, [] => some (none, S)
  | _, _ => none
def rtl (ret : Option FieldType) (st : List Value) (S : St) : Option (Option Value × St) := match ret, st with
  | some .long, [.long v] => some (some (.long v), S)
  | _, _ => none
def rta (ret : Option FieldType) (st : List Value) (S : St) : Option (Option Value × St) := match ret, st with
  | some (.object _), [.ref v] => some (some (.ref v), S)
  | some (.object _), [.null] => some (some .null, S)
  | _, _ => none
/-- the first n places of a, as ints, into b -/
def cpA (S : St) (a b n : Nat) : St := (fun q k => if q = b ∧ k < n then S.1 a k else S.1 q k, S.2)
def csum (st : List Value) : Nat := (st.map fun v => v.category).sum
/-- a call: by hand, or by its run -/
def call (K : Cfg) (run : Option (Option Value × St)) (y : Nat) (as : List Value) (S : St) : Option (Option Value × St) := match K.2.2 y as S with
  | some o => some o
  | none => run
/-- a run: n steps at most, calls d deep at most -/
def ex (K : Cfg) : Nat → Nat → Nat → Nat → Lc → List Value → St → Option (Option Value × St)
  | 0, _, _, _, _, _, _ => none
  | n + 1, d, M, pc, lc, st, S => match mX M with
    | none => none
    | some e => match e.2.lookup pc with
      | none => none
      | some (ins, _, x, y, z) => match ins with
        | .ireturn => rti e.1.2.2.2.1 st S
        | .lreturn => rtl e.1.2.2.2.1 st S
        | .areturn => rta e.1.2.2.2.1 st S
        | .return_ => rtv e.1.2.2.2.1 st S
        | .invokevirtual i => if x = 9 then (match st with
            | .ref b :: r => if y = 1 ∧ ((e.1.2.2.2.2 = 1 ∧ i = 108) ∨ (e.1.2.2.2.2 = 3 ∧ i = 49)) ∧ (K.1 b).1 = 20 ∧ csum r ≤ 8 ∧ 0 < d then ex K n d M (pc + 3) lc (.int (Int32.ofNat (K.1 b).2) :: r) S else none
            | _ => none) else (match st.drop z, mX y, d with
          | .ref b :: r, some e', d' + 1 => if x < 2 ∧ (K.1 b = (0, e'.1.2.2.2.2) ∨ ((K.1 b).1 = 20 ∧ e'.1.2.2.2.2 = 9)) ∧ csum r ≤ 8 ∧ csum (.ref b :: (st.take z).reverse) ≤ e'.1.2.2.1 then (match call K (ex K n d' y 0 (lv_args 0 (.ref b :: (st.take z).reverse)) [] S) y (.ref b :: (st.take z).reverse) S with
              | none => none
              | some o => ex K n (d' + 1) M (pc + 3) lc (o.1.toList ++ r) o.2) else none
          | _, _, _ => none)
        | .invokestatic i => if x = 9 then (match st with
            | .int cn :: .int dp :: .ref b :: .int sp :: .ref a :: r => if y = 4 ∧ e.1.2.2.2.2 = 7 ∧ i = 37 ∧ (K.1 a).1 = 1 ∧ (K.1 b).1 = 1 ∧ a ≠ b ∧ sp = 0 ∧ dp = 0 ∧ cn = Int32.ofNat (K.1 b).2 ∧ (K.1 a).2 = (K.1 b).2 ∧ (K.1 b).2 < 100000 ∧ csum r ≤ 8 ∧ 0 < d then ex K n d M (pc + 3) lc r (cpA S a b (K.1 b).2) else none
            | _ => none) else (match mX y, d with
          | some e', d' + 1 => if 1 < x ∧ x < 4 ∧ z ≤ st.length ∧ csum (st.drop z) ≤ 8 ∧ csum (st.take z).reverse ≤ e'.1.2.2.1 then (match call K (ex K n d' y 0 (lv_args 0 (st.take z).reverse) [] S) y (st.take z).reverse S with
              | none => none
              | some o => ex K n (d' + 1) M (pc + 3) lc (o.1.toList ++ st.drop z) o.2) else none
          | _, _ => none)
        | ins => match sx K e.1.2.2.1 pc ins x y z lc st S with
          | none => none
          | some q => ex K n d M q.1 q.2.1 q.2.2.1 q.2.2.2
