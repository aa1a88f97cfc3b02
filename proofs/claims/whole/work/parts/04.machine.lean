/-! the abstract machine: ids for cells; kinds (class or 100 and on for arrays, with a count), references, ints, longs by id and place; the next id, slots used -/
abbrev qK : Type := Nat → Option (Nat × Nat)
abbrev qA : Type := Nat → Nat → Option Nat
abbrev qI : Type := Nat → Nat → Int32
abbrev qJ : Type := Nat → Nat → Int64
abbrev qG : Type := qK × qA × Nat × Nat
abbrev qF : Type := Nat × List Value × List Value × qG × qI × qJ
abbrev qS : Type := Option Value × qG × qI × qJ
abbrev qR : Type := qF ⊕ (Option Value ⊕ (Nat × List Value × Nat × List Value))
abbrev qw {α : Type} (I : Nat → Nat → α) (a k : Nat) (v : α) : Nat → Nat → α := va_up I a (va_up (I a) k v)
abbrev qpad : Value := .retAddr 0
abbrev qnx (pc : Nat) (ls st : List Value) (g : qG) (I : qI) (J : qJ) : Option qR := some (.inl (pc, ls, st, g, I, J))
def qcat (v : Value) : Nat := match v with
  | .long _ => 2
  | .double _ => 2
  | _ => 1
/-- a value of one word into a local -/
def qst1 (ls : List Value) (i : Nat) (v : Value) : Option (List Value) := match i with
  | 0 => match ls with
    | [] => none
    | _ :: l => some (v :: l)
  | j + 1 => match ls[j]?, ls[j + 1]? with
    | some w, some _ => match qcat w with
      | 1 => some (ls.set (j + 1) v)
      | _ => none
    | _, _ => none
def qst2 (ls : List Value) (i : Nat) (v : Value) : Option (List Value) := match ls[i + 1]? with
  | some _ => (qst1 ls i v).map (fun l => l.set (i + 1) qpad)
  | none => none
def qld (ls : List Value) (i t : Nat) : Option Value := match ls[i]? with
  | some (.int x) => match t with
    | 0 => some (.int x)
    | _ => none
  | some (.long x) => match t with
    | 1 => some (.long x)
    | _ => none
  | some (.ref x) => match t with
    | 2 => some (.ref x)
    | _ => none
  | some .null => match t with
    | 2 => some .null
    | _ => none
  | _ => none
def qc1 (c : Jvm.ClassFile.Cond) (x : Int32) : Bool := match c with
  | .eq => decide (x = 0)
  | .ne => decide (¬ x = 0)
  | .lt => decide (x < 0)
  | .ge => decide (0 ≤ x)
  | .gt => decide (0 < x)
  | .le => decide (x ≤ 0)
def qc2 (c : Jvm.ClassFile.Cond) (x y : Int32) : Bool := match c with
  | .eq => decide (x = y)
  | .ne => decide (¬ x = y)
  | .lt => decide (x < y)
  | .ge => decide (y ≤ x)
  | .gt => decide (y < x)
  | .le => decide (x ≤ y)
/-- arithmetic of two ints, of two longs, of a long and an int -/
def qi2 (i : Instr) (x y : Int32) : Option Int32 := match i with
  | .iadd => some (x + y)
  | .isub => some (x - y)
  | .imul => some (x * y)
  | .iand => some (x &&& y)
  | .ior => some (x ||| y)
  | .idiv => if y = 0 then none else some (x / y)
  | .irem => if y = 0 then none else some (x - x / y * y)
  | .ishl => some (x <<< (y &&& 31))
  | .ishr => some (x >>> (y &&& 31))
  | .iushr => some ((x.toUInt32 >>> (y.toUInt32 &&& Int32.toUInt32 31)).toInt32)
  | _ => none
def ql2 (i : Instr) (x y : Int64) : Option Int64 := match i with
  | .ladd => some (x + y)
  | .lsub => some (x - y)
  | .lmul => some (x * y)
  | .land => some (x &&& y)
  | .lor => some (x ||| y)
  | .lrem => if y = 0 then none else some (x - x / y * y)
  | _ => none
def qk2 (i : Instr) (x : Int64) (y : Int32) : Option Int64 := match i with
  | .lshl => some (x <<< (y.toInt64 &&& 63))
  | .lushr => some ((x.toUInt64 >>> (y.toInt64.toUInt64 &&& Int64.toUInt64 63)).toInt64)
  | _ => none
/-- an object's kind, an array's -/
def qob (g : qG) (o c : Nat) : Bool := match g.1 o with
  | some (k, _) => Nat.beq k c
  | none => false
def qar (g : qG) (o t : Nat) : Option Nat := match g.1 o with
  | some (k, n) => bif Nat.beq k t then some n else none
  | none => none
def qix (i : Int32) (n : Nat) : Bool := decide (0 ≤ i.toInt ∧ i.toInt < n)
/-- which class the elements of an array of references have -/
def qel (t : Nat) : Nat := match t with
  | 103 => 6
  | 104 => 7
  | 105 => 1
  | _ => 98
def qfs (st : List Value) : Nat := match st with
  | [] => 0
  | v :: r => qcat v + qfs r
/-- a new cell: its places are 0 -/
def qmk (k n : Nat) (g : qG) : qG := (va_up g.1 g.2.2.1 (some (k, n)), va_up g.2.1 g.2.2.1 (fun _ => none), g.2.2.1 + 1, g.2.2.2 + n)
abbrev qmI (g : qG) (I : qI) : qI := va_up I g.2.2.1 (fun _ => 0)
abbrev qmJ (g : qG) (J : qJ) : qJ := va_up J g.2.2.1 (fun _ => 0)
def qtb (pc : Nat) (o : Option Int) : Option Nat := match o with
  | some d => match (pc : Int) + d with
    | .ofNat k => some k
    | .negSucc _ => none
  | none => none
def qsw (pc : Nat) (d lo hi : Int) (offs : Array Int) (x : Int) : Option Nat := if x < lo ∨ hi < x then qtb pc (some d) else qtb pc offs[(x - lo).toNat]?
/-- the strings, by their ids 1, 2, 3 -/
def qstr (i : Nat) : List Nat := match i with
  | 1 => [112, 109]
  | 2 => [97, 98, 99, 100, 101, 102, 103, 104]
  | 3 => [68, 83, 76, 69, 82, 81, 84, 67, 72]
  | _ => []
def qpr (a n : Nat) (ls st : List Value) (g : qG) (I : qI) (J : qJ) : Option qR := match a with
  | 1000 => match st with
    | .ref _ :: r => if qfs r ≤ 8 then qnx n ls r g I J else none
    | _ => none
  | 1001 => match st with
    | .int y :: .int x :: r => if qfs r ≤ 8 then qnx n ls (.int (if y < x then y else x) :: r) g I J else none
    | _ => none
  | 1002 => match st with
    | .int y :: .int x :: r => if qfs r ≤ 8 then qnx n ls (.int (if x < y then y else x) :: r) g I J else none
    | _ => none
  | 1003 => match st with
    | .int k :: .int dp :: .ref b :: .int sp :: .ref a :: r => match qar g a 100, qar g b 100 with
      | some na, some nb => if (0 ≤ sp.toInt ∧ 0 ≤ dp.toInt ∧ 0 ≤ k.toInt ∧ sp.toInt + k.toInt ≤ na ∧ dp.toInt + k.toInt ≤ nb) ∧ qfs r ≤ 8 then
          qnx n ls r g (va_up I b (va_cpy (I a) (I b) sp.toNatClampNeg dp.toNatClampNeg k.toNatClampNeg)) J else none
      | _, _ => none
    | _ => none
  | 1004 => match st with
    | .ref o :: r => if 1 ≤ o ∧ o ≤ 3 ∧ qfs r ≤ 8 then qnx n ls (.int (Int32.ofNat (qstr o).length) :: r) g I J else none
    | _ => none
  | 1005 => match st with
    | .int i :: .ref o :: r => if 1 ≤ o ∧ o ≤ 3 ∧ qfs r ≤ 8 then
        (if qix i (qstr o).length then qnx n ls (.int (Int32.ofNat ((qstr o).getD i.toNatClampNeg 0)) :: r) g I J else none) else none
    | _ => none
  | _ => none
def qlay (vs : List Value) : List Value := match vs with
  | [] => []
  | v :: r => match qcat v with
    | 2 => v :: qpad :: qlay r
    | _ => v :: qlay r
def qcl (x : qE) (n : Nat) (ls st : List Value) (g : qG) (I : qI) (J : qJ) : Option qR := match x with
  | (_, _, a, b, t) => bif Nat.ble 1000 a then qpr a n ls st g I J else
    match t with
    | 1 => if qfs (st.drop b) ≤ 8 ∧ b ≤ st.length ∧ (qlay (st.take b).reverse).length ≤ qML a then some (.inr (.inr (a, (st.take b).reverse, n, st.drop b))) else none
    | _ => match st.drop b with
      | .ref o :: r => if qob g o (qOw a) = true ∧ qfs r ≤ 8 ∧ (qlay (.ref o :: (st.take b).reverse)).length ≤ qML a then some (.inr (.inr (a, .ref o :: (st.take b).reverse, n, r))) else none
      | _ => none
def qgf (a b t : Nat) (g : qG) (I : qI) (J : qJ) (o : Nat) : Option Value := bif qob g o a then
  (match t with
    | 1 => some (.long (J o b))
    | 2 => some (va_rf (g.2.1 o b))
    | _ => some (.int (I o b))) else none
def qpf (a b t n : Nat) (ls st : List Value) (g : qG) (I : qI) (J : qJ) : Option qR := match t with
  | 0 => match st with
    | .int v :: .ref o :: r => bif qob g o a then qnx n ls r g (qw I o b v) J else none
    | _ => none
  | 3 => match st with
    | .int v :: .ref o :: r => bif qob g o a then (if v = 0 ∨ v = 1 then qnx n ls r g (qw I o b v) J else none) else none
    | _ => none
  | 1 => match st with
    | .long v :: .ref o :: r => bif qob g o a then qnx n ls r g I (qw J o b v) else none
    | _ => none
  | 2 => match st with
    | .ref v :: .ref o :: r => bif qob g o a then qnx n ls r (g.1, qw g.2.1 o b (some v), g.2.2) I J else none
    | .null :: .ref o :: r => bif qob g o a then qnx n ls r (g.1, qw g.2.1 o b none, g.2.2) I J else none
    | _ => none
  | _ => none
def qstep (x : qE) (pc : Nat) (ls st : List Value) (g : qG) (I : qI) (J : qJ) : Option qR := match x with
  | (i, len, a, b, t) => match i with
    | .iconst k => qnx (pc + len) ls (.int (Int32.ofInt k) :: st) g I J
    | .bipush k => qnx (pc + len) ls (.int (Int8.ofInt k).toInt32 :: st) g I J
    | .sipush k => qnx (pc + len) ls (.int (Int16.ofInt k).toInt32 :: st) g I J
    | .lconst k => qnx (pc + len) ls (.long (Int64.ofNat (k : Nat)) :: st) g I J
    | .aconst_null => qnx (pc + len) ls (.null :: st) g I J
    | .ldc _ => match t with
      | 0 => qnx (pc + len) ls (.int (Int32.ofNat a) :: st) g I J
      | _ => qnx (pc + len) ls (.ref a :: st) g I J
    | .ldc_w _ => qnx (pc + len) ls (.int (Int32.ofNat a) :: st) g I J
    | .ldc2_w _ => qnx (pc + len) ls (.long (Int64.ofNat a) :: st) g I J
    | .iload_n k => (qld ls (k : Nat) 0).bind (fun v => qnx (pc + len) ls (v :: st) g I J)
    | .iload k => (qld ls k 0).bind (fun v => qnx (pc + len) ls (v :: st) g I J)
    | .lload_n k => (qld ls (k : Nat) 1).bind (fun v => qnx (pc + len) ls (v :: st) g I J)
    | .lload k => (qld ls k 1).bind (fun v => qnx (pc + len) ls (v :: st) g I J)
    | .aload_n k => (qld ls (k : Nat) 2).bind (fun v => qnx (pc + len) ls (v :: st) g I J)
    | .aload k => (qld ls k 2).bind (fun v => qnx (pc + len) ls (v :: st) g I J)
    | .istore_n k => match st with
      | .int v :: r => (qst1 ls (k : Nat) (.int v)).bind (fun l => qnx (pc + len) l r g I J)
      | _ => none
    | .istore k => match st with
      | .int v :: r => (qst1 ls k (.int v)).bind (fun l => qnx (pc + len) l r g I J)
      | _ => none
    | .lstore_n k => match st with
      | .long v :: r => (qst2 ls (k : Nat) (.long v)).bind (fun l => qnx (pc + len) l r g I J)
      | _ => none
    | .lstore k => match st with
      | .long v :: r => (qst2 ls k (.long v)).bind (fun l => qnx (pc + len) l r g I J)
      | _ => none
    | .astore_n k => match st with
      | .ref v :: r => (qst1 ls (k : Nat) (.ref v)).bind (fun l => qnx (pc + len) l r g I J)
      | .null :: r => (qst1 ls (k : Nat) .null).bind (fun l => qnx (pc + len) l r g I J)
      | _ => none
    | .astore k => match st with
      | .ref v :: r => (qst1 ls k (.ref v)).bind (fun l => qnx (pc + len) l r g I J)
      | .null :: r => (qst1 ls k .null).bind (fun l => qnx (pc + len) l r g I J)
      | _ => none
    | .iinc k d => match ls[k]? with
      | some (.int v) => (qst1 ls k (.int (v + Int32.ofInt d))).bind (fun l => qnx (pc + len) l st g I J)
      | _ => none
    | .i2l => match st with
      | .int v :: r => qnx (pc + len) ls (.long v.toInt64 :: r) g I J
      | _ => none
    | .l2i => match st with
      | .long v :: r => qnx (pc + len) ls (.int v.toInt32 :: r) g I J
      | _ => none
    | .i2b => match st with
      | .int v :: r => qnx (pc + len) ls (.int v.toInt8.toInt32 :: r) g I J
      | _ => none
    | .lneg => match st with
      | .long v :: r => qnx (pc + len) ls (.long (-v) :: r) g I J
      | _ => none
    | .lcmp => match st with
      | .long y :: .long x :: r => qnx (pc + len) ls (.int (lg_cmp x y) :: r) g I J
      | _ => none
    | .dup => match st with
      | v :: r => match qcat v with
        | 1 => qnx (pc + len) ls (v :: v :: r) g I J
        | _ => none
      | _ => none
    | .pop => match st with
      | v :: r => match qcat v with
        | 1 => qnx (pc + len) ls r g I J
        | _ => none
      | _ => none
    | .dup2 => match st with
      | v :: w :: r => match qcat v, qcat w with
        | 1, 1 => qnx (pc + len) ls (v :: w :: v :: w :: r) g I J
        | _, _ => none
      | _ => none
    | .goto _ => qnx a ls st g I J
    | .ifCond c _ => match st with
      | .int v :: r => bif qc1 c v then qnx a ls r g I J else qnx (pc + len) ls r g I J
      | _ => none
    | .if_icmp c _ => match st with
      | .int y :: .int x :: r => bif qc2 c x y then qnx a ls r g I J else qnx (pc + len) ls r g I J
      | _ => none
    | .ifnull _ => match st with
      | .null :: r => qnx a ls r g I J
      | .ref _ :: r => qnx (pc + len) ls r g I J
      | _ => none
    | .ifnonnull _ => match st with
      | .null :: r => qnx (pc + len) ls r g I J
      | .ref _ :: r => qnx a ls r g I J
      | _ => none
    | .tableswitch d lo hi offs => match st with
      | .int v :: r => (qsw pc d lo hi offs v.toInt).bind (fun k => qnx k ls r g I J)
      | _ => none
    | .lookupswitch d ps => match st with
      | .int v :: r => (qtb pc (some (Op.lookupswitch.offset ps.toList d v.toInt))).bind (fun k => qnx k ls r g I J)
      | _ => none
    | .getfield _ => match st with
      | .ref o :: r => (qgf a b t g I J o).bind (fun v => qnx (pc + len) ls (v :: r) g I J)
      | _ => none
    | .putfield _ => qpf a b t (pc + len) ls st g I J
    | .arraylength => match st with
      | .ref o :: r => match g.1 o with
        | some (k, n) => bif Nat.ble 100 k then qnx (pc + len) ls (.int (Int32.ofNat n) :: r) g I J else none
        | none => none
      | _ => none
    | .iaload => match st with
      | .int i :: .ref o :: r => match g.1 o with
        | some (k, n) => bif qix i n && (Nat.beq k 100 || Nat.beq k 110) then qnx (pc + len) ls (.int (I o i.toNatClampNeg) :: r) g I J else none
        | none => none
      | _ => none
    | .baload => match st with
      | .int i :: .ref o :: r => match qar g o 101 with
        | some n => bif qix i n then qnx (pc + len) ls (.int (I o i.toNatClampNeg) :: r) g I J else none
        | none => none
      | _ => none
    | .laload => match st with
      | .int i :: .ref o :: r => match qar g o 102 with
        | some n => bif qix i n then qnx (pc + len) ls (.long (J o i.toNatClampNeg) :: r) g I J else none
        | none => none
      | _ => none
    | .aaload => match st with
      | .int i :: .ref o :: r => match g.1 o with
        | some (k, n) => bif qix i n && (Nat.beq k 103 || (Nat.beq k 104 || Nat.beq k 105)) then qnx (pc + len) ls (va_rf (g.2.1 o i.toNatClampNeg) :: r) g I J else none
        | none => none
      | _ => none
    | .iastore => match st with
      | .int v :: .int i :: .ref o :: r => match qar g o 100 with
        | some n => bif qix i n then qnx (pc + len) ls r g (qw I o i.toNatClampNeg v) J else none
        | none => none
      | _ => none
    | .bastore => match st with
      | .int v :: .int i :: .ref o :: r => match qar g o 101 with
        | some n => bif qix i n then qnx (pc + len) ls r g (qw I o i.toNatClampNeg v.toInt8.toInt32) J else none
        | none => none
      | _ => none
    | .lastore => match st with
      | .long v :: .int i :: .ref o :: r => match qar g o 102 with
        | some n => bif qix i n then qnx (pc + len) ls r g I (qw J o i.toNatClampNeg v) else none
        | none => none
      | _ => none
    | .aastore => match st with
      | .ref v :: .int i :: .ref o :: r => match g.1 o with
        | some (k, n) => bif qix i n && ((Nat.beq k 103 || (Nat.beq k 104 || Nat.beq k 105)) && qob g v (qel k)) then qnx (pc + len) ls r (g.1, qw g.2.1 o i.toNatClampNeg (some v), g.2.2) I J else none
        | none => none
      | _ => none
    | .new _ => bif Nat.beq a 99 then (bif st.isEmpty then some (.inr (.inl (some (.retAddr 1)))) else none) else
        qnx (pc + len) ls (.ref g.2.2.1 :: st) (qmk a b g) (qmI g I) (qmJ g J)
    | .newarray ty => match st with
      | .int v :: r => if 0 ≤ v.toInt ∧ v.toInt ≤ 1000000 then
          (match ty with
            | .int => qnx (pc + len) ls (.ref g.2.2.1 :: r) (qmk 100 v.toNatClampNeg g) (qmI g I) (qmJ g J)
            | .byte => qnx (pc + len) ls (.ref g.2.2.1 :: r) (qmk 101 v.toNatClampNeg g) (qmI g I) (qmJ g J)
            | .long => qnx (pc + len) ls (.ref g.2.2.1 :: r) (qmk 102 v.toNatClampNeg g) (qmI g I) (qmJ g J)
            | _ => none) else none
      | _ => none
    | .anewarray _ => match st with
      | .int v :: r => if 0 ≤ v.toInt ∧ v.toInt ≤ 1000000 then qnx (pc + len) ls (.ref g.2.2.1 :: r) (qmk a v.toNatClampNeg g) (qmI g I) (qmJ g J) else none
      | _ => none
    | .ireturn => match st with
      | [.int v] => match t with
        | 0 => some (.inr (.inl (some (.int v))))
        | 3 => if v = 0 ∨ v = 1 then some (.inr (.inl (some (.int v)))) else none
        | _ => none
      | _ => none
    | .lreturn => match st with
      | [.long v] => some (.inr (.inl (some (.long v))))
      | _ => none
    | .areturn => match st with
      | [.ref v] => some (.inr (.inl (some (.ref v))))
      | [.null] => some (.inr (.inl (some .null)))
      | _ => none
    | .return_ => match st with
      | [] => some (.inr (.inl none))
      | _ => none
    | .invokevirtual _ => qcl (i, len, a, b, t) (pc + len) ls st g I J
    | .invokespecial _ => qcl (i, len, a, b, t) (pc + len) ls st g I J
    | .invokestatic _ => qcl (i, len, a, b, t) (pc + len) ls st g I J
    | i => match st with
      | .int y :: .int x :: r => (qi2 i x y).bind (fun v => qnx (pc + len) ls (.int v :: r) g I J)
      | .long y :: .long x :: r => (ql2 i x y).bind (fun v => qnx (pc + len) ls (.long v :: r) g I J)
      | .int y :: .long x :: r => (qk2 i x y).bind (fun v => qnx (pc + len) ls (.long v :: r) g I J)
      | _ => none
def qfil (n : Nat) (l : List Value) : List Value := match n, l with
  | 0, l => l
  | n + 1, [] => qpad :: qfil n []
  | n + 1, v :: l => v :: qfil n l
abbrev qent (m : Nat) (as : List Value) : List Value := qfil (qML m) (qlay as)
/-- an answer that is the sign of a throw: only the law's own method catches it -/
def qthr (v : Option Value) : Bool := match v with
  | some (.retAddr _) => true
  | _ => false
def qrun : Nat → Nat → Nat → qF → Option qS
  | 0, _, _, _ => none
  | n + 1, d, m, (pc, ls, st, g, I, J) => match qP m pc with
    | none => none
    | some x => match qstep x pc ls st g I J with
      | none => none
      | some (.inl f) => qrun n d m f
      | some (.inr (.inl v)) => some (v, g, I, J)
      | some (.inr (.inr (c, as, pc', rest))) => match d with
        | 0 => none
        | d' + 1 => match qrun n d' c (0, qent c as, [], g, I, J) with
          | none => none
          | some (v, g', I', J') => match qthr v with
            | false => qrun n (d' + 1) m (pc', ls, v.toList ++ rest, g', I', J')
            | true => bif Nat.beq m 269 then qrun n (d' + 1) m (13, ls, [.ref g'.2.2.1], (g'.1, g'.2.1, g'.2.2.1 + 1, g'.2.2.2 + 6), I', J') else none
