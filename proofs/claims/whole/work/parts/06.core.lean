/-! A pure picture of the heap: cells by small numbers (0: the script; n + 1: the n-th cell made since the start), contents by kinds; and a pure weakest-precondition semantics of the bytecode over it (Wp), as the least predicate closed under one step (F). -/
abbrev HP : Type := (Nat → Nat → Int32) × (Nat → Nat → Int64) × (Nat → Nat → Nat) × (Nat → Nat) × (Nat → Nat) × Nat
/-- ints: fields, int, byte and boolean arrays -/
def gI (h : HP) : Nat → Nat → Int32 := h.1
/-- longs -/
def gJ (h : HP) : Nat → Nat → Int64 := h.2.1
/-- references: 0 is null -/
def gR (h : HP) : Nat → Nat → Nat := h.2.2.1
/-- kinds: below 100 the class; 100 int[], 101 byte[], 102 boolean[], 103 long[], 104 Row[], 105 Text[] -/
def gK (h : HP) : Nat → Nat := h.2.2.2.1
/-- lengths of arrays -/
def gL (h : HP) : Nat → Nat := h.2.2.2.2.1
/-- how many cells -/
def gS (h : HP) : Nat := h.2.2.2.2.2
def stA (h : HP) (a : Nat) (f : Nat → Int32) : HP := (va_up (gI h) a f, gJ h, gR h, gK h, gL h, gS h)
def stI (h : HP) (a k : Nat) (v : Int32) : HP := stA h a (va_up (gI h a) k v)
def stJ (h : HP) (a k : Nat) (v : Int64) : HP := (gI h, va_up (gJ h) a (va_up (gJ h a) k v), gR h, gK h, gL h, gS h)
def stR (h : HP) (a k r : Nat) : HP := (gI h, gJ h, va_up (gR h) a (va_up (gR h a) k r), gK h, gL h, gS h)
def nwC (h : HP) (kd n : Nat) : HP := (va_up (gI h) (gS h) (fun _ => 0), va_up (gJ h) (gS h) (fun _ => 0), va_up (gR h) (gS h) (fun _ => 0), va_up (gK h) (gS h) kd, va_up (gL h) (gS h) n, gS h + 1)
def isO (h : HP) (a ci : Nat) : Prop := 0 < a ∧ a < gS h ∧ gK h a = ci
def isA (h : HP) (a kd : Nat) (i : Int32) : Prop := 0 < a ∧ a < gS h ∧ gK h a = kd ∧ vp_in i (gL h a)
/-- an array that may be the script -/
def isL (h : HP) (a kd : Nat) (i : Int32) : Prop := a < gS h ∧ gK h a = kd ∧ vp_in i (gL h a)
def narB : Nat → Int32 → Int32
  | 101, x => x.toInt8.toInt32
  | _, x => x &&& 1
abbrev LO : Type := List (Option Value)
def nth : LO → Nat → Option Value
  | [], _ => none
  | x :: _, 0 => x
  | _ :: l, n + 1 => nth l n
def sto : LO → Nat → Option Value → LO
  | [], _, _ => []
  | _ :: l, 0, v => v :: l
  | x :: l, n + 1, v => x :: sto l n v
def kil (ks : List Nat) (lo : LO) : LO := ks.foldl (fun l i => sto l i none) lo
/-- no long stands right ahead of place n -/
def lgb (lo : LO) (n : Nat) : Bool := match n with
  | 0 => true
  | k + 1 => match nth lo k with
    | some v => !(v.category == 2)
    | none => true
def ent : List Value → LO
  | [] => []
  | v :: vs => match v.category with
    | 2 => some v :: none :: ent vs
    | _ => some v :: ent vs
def entM (X : Nat) (vs : List Value) : LO := ent vs ++ List.replicate (mxl X - (ent vs).length) none
def popN : Nat → List Value → List Value → Option (List Value × List Value)
  | 0, acc, st => some (acc, st)
  | n + 1, acc, v :: st => popN n (v :: acc) st
  | _ + 1, _, [] => none
def catS (st : List Value) : Nat := (st.map fun v => v.category).sum
abbrev QT : Type := Option Value → HP → Prop
abbrev PT : Type := Nat → Nat → LO → List Value → HP → Nat × Nat → QT → Prop
def aft (k : Nat) (K : QT) (Q' : QT) : Prop := match k with
  | 0 => ∀ h' : HP, Q' none h' → K none h'
  | 2 => ∀ (v : Int64) (h' : HP), Q' (some (.long v)) h' → K (some (.long v)) h'
  | _ => ∀ (v : Int32) (h' : HP), Q' (some (.int v)) h' → K (some (.int v)) h'
/-- a call of method a -/
def Fcall (P : PT) (X nx : Nat) (a : Nat) (as : List Value) (rest : List Value) (lo : LO) (h : HP) (bd : Nat × Nat) (Q : QT) : Prop :=
  catS rest ≤ 8 ∧ mcM a ≤ bd.1 ∧ msM a ≤ bd.2 ∧ (ent as).length ≤ mxl a ∧ ∃ Q' : QT, P a 0 (entM a as) [] h (mcM a, msM a) Q' ∧ aft (rk a) (fun v h' => P X nx lo (v.toList ++ rest) h' (bd.1 - mcM a, bd.2 - msM a) Q) Q'
def Fcmp (cd : ClassFile.Cond) (x y : Int32) (A B : Prop) : Prop := match cd with
  | .eq => (x = y → A) ∧ (¬ x = y → B)
  | .ne => (¬ x = y → A) ∧ (x = y → B)
  | .lt => (x < y → A) ∧ (¬ x < y → B)
  | .ge => (y ≤ x → A) ∧ (¬ y ≤ x → B)
  | .gt => (y < x → A) ∧ (¬ y < x → B)
  | .le => (x ≤ y → A) ∧ (¬ x ≤ y → B)
def Fld (P : PT) (X nx : Nat) (lo : LO) (st : List Value) (h : HP) (bd : Nat × Nat) (Q : QT) (t n : Nat) (kn : List Nat) : Prop := match t, nth lo n with
  | 0, some (.int x) => P X nx (kil kn lo) (.int x :: st) h bd Q
  | 1, some (.long x) => P X nx (kil kn lo) (.long x :: st) h bd Q
  | 2, some (.ref x) => P X nx (kil kn lo) (.ref x :: st) h bd Q
  | _, _ => False
def Fst (P : PT) (X nx : Nat) (lo : LO) (st : List Value) (h : HP) (bd : Nat × Nat) (Q : QT) (t n : Nat) (kn : List Nat) : Prop := match t, st with
  | 0, .int x :: st => lgb lo n = true ∧ P X nx (kil kn (sto lo n (some (.int x)))) st h bd Q
  | 1, .long x :: st => lgb lo n = true ∧ P X nx (kil kn (sto (sto lo n (some (.long x))) (n + 1) none)) st h bd Q
  | 2, .ref x :: st => lgb lo n = true ∧ P X nx (kil kn (sto lo n (some (.ref x)))) st h bd Q
  | _, _ => False
def Fi (P : PT) (X pc : Nat) (i : Instr) (nx : Nat) (kn : List Nat) (a : Nat) (ka : List Nat) (b : Nat) (c : Int32) (lo : LO) (st : List Value) (h : HP) (bd : Nat × Nat) (Q : QT) : Prop :=
  match i with
  | .iload n => Fld P X nx lo st h bd Q 0 n kn
  | .iload_n n => Fld P X nx lo st h bd Q 0 n.val kn
  | .lload n => Fld P X nx lo st h bd Q 1 n kn
  | .lload_n n => Fld P X nx lo st h bd Q 1 n.val kn
  | .aload n => Fld P X nx lo st h bd Q 2 n kn
  | .aload_n n => Fld P X nx lo st h bd Q 2 n.val kn
  | .istore n => Fst P X nx lo st h bd Q 0 n kn
  | .istore_n n => Fst P X nx lo st h bd Q 0 n.val kn
  | .lstore n => Fst P X nx lo st h bd Q 1 n kn
  | .lstore_n n => Fst P X nx lo st h bd Q 1 n.val kn
  | .astore n => Fst P X nx lo st h bd Q 2 n kn
  | .astore_n n => Fst P X nx lo st h bd Q 2 n.val kn
  | .iinc n _ => match nth lo n with
    | some (.int x) => lgb lo n = true ∧ P X nx (kil kn (sto lo n (some (.int (x + c))))) st h bd Q
    | _ => False
  | .iconst _ => P X nx (kil kn lo) (.int c :: st) h bd Q
  | .bipush _ => P X nx (kil kn lo) (.int c :: st) h bd Q
  | .sipush _ => P X nx (kil kn lo) (.int c :: st) h bd Q
  | .ldc _ => P X nx (kil kn lo) (.int c :: st) h bd Q
  | .lconst _ => P X nx (kil kn lo) (.long (lN a) :: st) h bd Q
  | .ldc2_w _ => P X nx (kil kn lo) (.long (lN a) :: st) h bd Q
  | .iadd => match st with
    | .int y :: .int x :: st => P X nx (kil kn lo) (.int (x + y) :: st) h bd Q
    | _ => False
  | .isub => match st with
    | .int y :: .int x :: st => P X nx (kil kn lo) (.int (x - y) :: st) h bd Q
    | _ => False
  | .imul => match st with
    | .int y :: .int x :: st => P X nx (kil kn lo) (.int (x * y) :: st) h bd Q
    | _ => False
  | .iand => match st with
    | .int y :: .int x :: st => P X nx (kil kn lo) (.int (x &&& y) :: st) h bd Q
    | _ => False
  | .ior => match st with
    | .int y :: .int x :: st => P X nx (kil kn lo) (.int (x ||| y) :: st) h bd Q
    | _ => False
  | .idiv => match st with
    | .int y :: .int x :: st => ¬ y = 0 ∧ P X nx (kil kn lo) (.int (x / y) :: st) h bd Q
    | _ => False
  | .land => match st with
    | .long y :: .long x :: st => P X nx (kil kn lo) (.long (x &&& y) :: st) h bd Q
    | _ => False
  | .lor => match st with
    | .long y :: .long x :: st => P X nx (kil kn lo) (.long (x ||| y) :: st) h bd Q
    | _ => False
  | .lshl => match st with
    | .int y :: .long x :: st => P X nx (kil kn lo) (.long (x <<< (y.toInt64 &&& 63)) :: st) h bd Q
    | _ => False
  | .lshr => match st with
    | .int y :: .long x :: st => P X nx (kil kn lo) (.long (x >>> (y.toInt64 &&& 63)) :: st) h bd Q
    | _ => False
  | .lushr => match st with
    | .int y :: .long x :: st => P X nx (kil kn lo) (.long (x.toUInt64 >>> (y.toInt64.toUInt64 &&& Int64.toUInt64 63)).toInt64 :: st) h bd Q
    | _ => False
  | .i2l => match st with
    | .int x :: st => P X nx (kil kn lo) (.long x.toInt64 :: st) h bd Q
    | _ => False
  | .l2i => match st with
    | .long x :: st => P X nx (kil kn lo) (.int x.toInt32 :: st) h bd Q
    | _ => False
  | .i2b => match st with
    | .int x :: st => P X nx (kil kn lo) (.int x.toInt8.toInt32 :: st) h bd Q
    | _ => False
  | .lcmp => match st with
    | .long y :: .long x :: st => P X nx (kil kn lo) (.int (lg_cmp x y) :: st) h bd Q
    | _ => False
  | .dup => match st with
    | .int x :: st => P X nx (kil kn lo) (.int x :: .int x :: st) h bd Q
    | .ref x :: st => P X nx (kil kn lo) (.ref x :: .ref x :: st) h bd Q
    | _ => False
  | .dup2 => match st with
    | .int y :: .ref x :: st => P X nx (kil kn lo) (.int y :: .ref x :: .int y :: .ref x :: st) h bd Q
    | _ => False
  | .pop => match st with
    | .int _ :: st => P X nx (kil kn lo) st h bd Q
    | _ => False
  | .goto _ => P X a (kil ka lo) st h bd Q
  | .ifCond cd _ => match st with
    | .int x :: st => Fcmp cd x 0 (P X a (kil ka lo) st h bd Q) (P X nx (kil kn lo) st h bd Q)
    | _ => False
  | .if_icmp cd _ => match st with
    | .int y :: .int x :: st => Fcmp cd x y (P X a (kil ka lo) st h bd Q) (P X nx (kil kn lo) st h bd Q)
    | _ => False
  | .tableswitch _ l u offs => match st with
    | .int x :: st => (x.toInt < l ∨ u < x.toInt → P X a (kil ka lo) st h bd Q) ∧ ∀ (j : Nat) (off : Int), offs[j]? = some off → x.toInt = l + j → P X ((pc : Int) + off).toNat (kil ka lo) st h bd Q
    | _ => False
  | .lookupswitch d ps => match st with
    | .int x :: st => P X ((pc : Int) + Op.lookupswitch.offset ps.toList d x.toInt).toNat (kil ka lo) st h bd Q
    | _ => False
  | .getfield _ => match st with
    | .ref r :: st => isO h r a ∧ (match isRf a b with
      | false => P X nx (kil kn lo) (.int (gI h r b) :: st) h bd Q
      | true => 0 < gR h r b ∧ P X nx (kil kn lo) (.ref (gR h r b) :: st) h bd Q)
    | _ => False
  | .putfield _ => match isRf a b, st with
    | false, .int v :: .ref r :: st => isO h r a ∧ P X nx (kil kn lo) st (stI h r b v) bd Q
    | true, .ref v :: .ref r :: st => isO h r a ∧ 0 < v ∧ P X nx (kil kn lo) st (stR h r b v) bd Q
    | _, _ => False
  | .iaload => match st with
    | .int i :: .ref r :: st => isL h r 100 i ∧ P X nx (kil kn lo) (.int (gI h r i.toNatClampNeg) :: st) h bd Q
    | _ => False
  | .baload => match st with
    | .int i :: .ref r :: st => isA h r b i ∧ P X nx (kil kn lo) (.int (gI h r i.toNatClampNeg) :: st) h bd Q
    | _ => False
  | .laload => match st with
    | .int i :: .ref r :: st => isA h r 103 i ∧ P X nx (kil kn lo) (.long (gJ h r i.toNatClampNeg) :: st) h bd Q
    | _ => False
  | .aaload => match st with
    | .int i :: .ref r :: st => 0 < r ∧ r < gS h ∧ (gK h r = 104 ∨ gK h r = 105) ∧ vp_in i (gL h r) ∧ 0 < gR h r i.toNatClampNeg ∧ P X nx (kil kn lo) (.ref (gR h r i.toNatClampNeg) :: st) h bd Q
    | _ => False
  | .iastore => match st with
    | .int v :: .int i :: .ref r :: st => isA h r 100 i ∧ P X nx (kil kn lo) st (stI h r i.toNatClampNeg v) bd Q
    | _ => False
  | .bastore => match st with
    | .int v :: .int i :: .ref r :: st => isA h r b i ∧ P X nx (kil kn lo) st (stI h r i.toNatClampNeg (narB b v)) bd Q
    | _ => False
  | .lastore => match st with
    | .long v :: .int i :: .ref r :: st => isA h r 103 i ∧ P X nx (kil kn lo) st (stJ h r i.toNatClampNeg v) bd Q
    | _ => False
  | .aastore => match st with
    | .ref v :: .int i :: .ref r :: st => ((gK h r = 104 ∧ isO h v 6) ∨ (gK h r = 105 ∧ isO h v 7)) ∧ 0 < r ∧ r < gS h ∧ vp_in i (gL h r) ∧ P X nx (kil kn lo) st (stR h r i.toNatClampNeg v) bd Q
    | _ => False
  | .arraylength => match st with
    | .ref r :: st => (r < gS h ∧ 100 ≤ gK h r ∧ gK h r ≤ 105 ∧ (r = 0 → gK h r = 100)) ∧ P X nx (kil kn lo) (.int (nI (gL h r)) :: st) h bd Q
    | _ => False
  | .newarray _ => match st with
    | .int n :: st => ¬ n < 0 ∧ n.toNatClampNeg ≤ 60000000 ∧ 1 ≤ bd.1 ∧ n.toNatClampNeg ≤ bd.2 ∧ P X nx (kil kn lo) (.ref (gS h) :: st) (nwC h b n.toNatClampNeg) (bd.1 - 1, bd.2 - n.toNatClampNeg) Q
    | _ => False
  | .anewarray _ => match st with
    | .int n :: st => ¬ n < 0 ∧ n.toNatClampNeg ≤ 60000000 ∧ 1 ≤ bd.1 ∧ n.toNatClampNeg ≤ bd.2 ∧ P X nx (kil kn lo) (.ref (gS h) :: st) (nwC h b n.toNatClampNeg) (bd.1 - 1, bd.2 - n.toNatClampNeg) Q
    | _ => False
  | .new _ => 1 ≤ bd.1 ∧ nF a ≤ bd.2 ∧ P X nx (kil kn lo) (.ref (gS h) :: st) (nwC h a 0) (bd.1 - 1, bd.2 - nF a) Q
  | .invokevirtual _ => match popN b [] st with
    | some (as, .ref r :: rest) => isO h r (ownC a) ∧ Fcall P X nx a (.ref r :: as) rest (kil kn lo) h bd Q
    | _ => False
  | .invokespecial _ => match Nat.beq a 1000, popN b [] st with
    | true, some (_, .ref _ :: rest) => catS rest ≤ 8 ∧ P X nx (kil kn lo) rest h bd Q
    | false, some (as, .ref r :: rest) => Fcall P X nx a (.ref r :: as) rest (kil kn lo) h bd Q
    | _, _ => False
  | .invokestatic _ => match spc a, st with
    | 1, .int n :: .int dp :: .ref dst :: .int sp :: .ref src :: rest => (0 < src ∧ src < gS h ∧ gK h src = 101) ∧ (0 < dst ∧ dst < gS h ∧ gK h dst = 101) ∧ (¬ sp < 0 ∧ ¬ dp < 0 ∧ ¬ n < 0) ∧ (sp.toNatClampNeg + n.toNatClampNeg ≤ gL h src ∧ dp.toNatClampNeg + n.toNatClampNeg ≤ gL h dst) ∧ (∀ i, i < n.toNatClampNeg → fits .byte (.int (gI h src (sp.toNatClampNeg + i))) = true) ∧ catS rest ≤ 8 ∧
        P X nx (kil kn lo) rest (stA h dst (va_cpy (gI h src) (gI h dst) sp.toNatClampNeg dp.toNatClampNeg n.toNatClampNeg)) bd Q
    | 2, .int y :: .int x :: rest => catS rest ≤ 8 ∧ P X nx (kil kn lo) (.int (if x < y then y else x) :: rest) h bd Q
    | 3, .int y :: .int x :: rest => catS rest ≤ 8 ∧ P X nx (kil kn lo) (.int (if y < x then y else x) :: rest) h bd Q
    | 0, st => (match popN b [] st with
      | some (as, rest) => Fcall P X nx a as rest (kil kn lo) h bd Q
      | none => False)
    | _, _ => False
  | .ireturn => match st with
    | [.int v] => (match rk X with
      | 1 => Q (some (.int v)) h
      | 3 => (v = 0 ∨ v = 1) ∧ Q (some (.int v)) h
      | _ => False)
    | _ => False
  | .lreturn => match st with
    | [.long v] => rk X = 2 ∧ Q (some (.long v)) h
    | _ => False
  | .return_ => match st with
    | [] => rk X = 0 ∧ Q none h
    | _ => False
  | _ => False
def F (P : PT) (X pc : Nat) (lo : LO) (st : List Value) (h : HP) (bd : Nat × Nat) (Q : QT) : Prop :=
  match (tab X).lookup pc with
  | none => False
  | some te => Fi P X pc te.1 te.2.1 te.2.2.1 te.2.2.2.1 te.2.2.2.2.1 te.2.2.2.2.2.1 te.2.2.2.2.2.2.2 lo st h bd Q
def Wp (X pc : Nat) (lo : LO) (st : List Value) (h : HP) (bd : Nat × Nat) (Q : QT) : Prop :=
  ∀ P : PT, (∀ X pc lo st h bd Q, F P X pc lo st h bd Q → P X pc lo st h bd Q) → P X pc lo st h bd Q
