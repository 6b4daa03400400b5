/-! THE PURE MACHINE: frames with lists of locals, a heap of numbered cells (ints, longs, references apart), a weakest precondition of one instruction, and its least fixed point. A special reference (the script, a constant text) is a value .float k here. -/
abbrev PL : Type := List (Nat × Value)
abbrev PS : Type := List Value
/-- cells made, slots made, a cell's kind and length, ints, longs, references, the script's length and ints -/
abbrev PH : Type := Nat × Nat × (Nat → Nat × Nat) × (Nat → Nat → Int32) × (Nat → Nat → Int64) × (Nat → Nat → Option Nat) × Nat × (Nat → Int32)
abbrev hN (h : PH) : Nat := h.1
abbrev hSl (h : PH) : Nat := h.2.1
abbrev hK (h : PH) : Nat → Nat × Nat := h.2.2.1
abbrev hI (h : PH) : Nat → Nat → Int32 := h.2.2.2.1
abbrev hL (h : PH) : Nat → Nat → Int64 := h.2.2.2.2.1
abbrev hR (h : PH) : Nat → Nat → Option Nat := h.2.2.2.2.2.1
abbrev hX (h : PH) : Nat × (Nat → Int32) := h.2.2.2.2.2.2
def sI (I : Nat → Nat → Int32) (o k : Nat) (v : Int32) : Nat → Nat → Int32 := va_up I o (upd (I o) k v)
def sL (L : Nat → Nat → Int64) (o k : Nat) (v : Int64) : Nat → Nat → Int64 := va_up L o (vp_updL (L o) k v)
def sR (R : Nat → Nat → Option Nat) (o k : Nat) (v : Option Nat) : Nat → Nat → Option Nat := va_up R o (va_up (R o) k v)
abbrev puI (h : PH) (o k : Nat) (v : Int32) : PH := (h.1, h.2.1, h.2.2.1, sI h.2.2.2.1 o k v, h.2.2.2.2)
abbrev puL (h : PH) (o k : Nat) (v : Int64) : PH := (h.1, h.2.1, h.2.2.1, h.2.2.2.1, sL h.2.2.2.2.1 o k v, h.2.2.2.2.2)
abbrev puR (h : PH) (o k : Nat) (v : Option Nat) : PH := (h.1, h.2.1, h.2.2.1, h.2.2.2.1, h.2.2.2.2.1, sR h.2.2.2.2.2.1 o k v, h.2.2.2.2.2.2)
abbrev puA (h : PH) (o : Nat) (f : Nat → Int32) : PH := (h.1, h.2.1, h.2.2.1, va_up h.2.2.2.1 o f, h.2.2.2.2)
/-- a new cell of a kind and a length (an object's length is its number of fields), all blank -/
def puN (h : PH) (k len : Nat) : PH := (h.1 + 1, h.2.1 + len, va_up h.2.2.1 h.1 (k, len), va_up h.2.2.2.1 h.1 (fun _ => 0), va_up h.2.2.2.2.1 h.1 (fun _ => 0), va_up h.2.2.2.2.2.1 h.1 (fun _ => none), h.2.2.2.2.2.2)
/-- instruction, next pc, two numbers (a target; class and field; method and number of arguments), a value (a constant; a kind of field or call), the place of its word in the tables -/
def lkp : PC → Nat → Option PE
  | [], _ => none
  | (q, E) :: r, pc => bif Nat.beq q pc then some E else lkp r pc
def lget : PL → Nat → Option Value
  | [], _ => none
  | (k, v) :: r, i => bif Nat.beq k i then some v else lget r i
def lins (i : Nat) (v : Value) : PL → PL
  | [] => [(i, v)]
  | (k, w) :: r => bif Nat.blt i k then (i, v) :: (k, w) :: r else (k, w) :: lins i v r
def lset1 (ls : PL) (i : Nat) (v : Value) : PL := lins i v (ls.filter (fun q => !(q.1 == i) && !(q.1 + 1 == i && q.2.category == 2)))
def lset2 (ls : PL) (i : Nat) (v : Value) : PL := lins i v (ls.filter (fun q => !(q.1 == i) && (!(q.1 == i + 1) && !(q.1 + 1 == i && q.2.category == 2))))
def s1i (st : PS) (f : Int32 → PS → Prop) : Prop := match st with | .int x :: r => f x r | _ => False
def s2i (st : PS) (f : Int32 → Int32 → PS → Prop) : Prop := match st with | .int y :: .int x :: r => f x y r | _ => False
def s1l (st : PS) (f : Int64 → PS → Prop) : Prop := match st with | .long x :: r => f x r | _ => False
def s2l (st : PS) (f : Int64 → Int64 → PS → Prop) : Prop := match st with | .long y :: .long x :: r => f x y r | _ => False
def s2q (st : PS) (f : Int64 → Int32 → PS → Prop) : Prop := match st with | .int y :: .long x :: r => f x y r | _ => False
def s1r (st : PS) (f : Nat → PS → Prop) : Prop := match st with | .ref o :: r => f o r | _ => False
def s1v (st : PS) (f : Value → PS → Prop) : Prop := match st with | v :: r => f v r | _ => False
def s2v (st : PS) (f : Value → Value → PS → Prop) : Prop := match st with | v :: w :: r => f v w r | _ => False
def sir (st : PS) (f : Int32 → Nat → PS → Prop) : Prop := match st with | .int x :: .ref o :: r => f x o r | _ => False
def slr (st : PS) (f : Int64 → Nat → PS → Prop) : Prop := match st with | .long x :: .ref o :: r => f x o r | _ => False
def srr (st : PS) (f : Nat → Nat → PS → Prop) : Prop := match st with | .ref x :: .ref o :: r => f x o r | _ => False
def siir (st : PS) (f : Int32 → Int32 → Nat → PS → Prop) : Prop := match st with | .int x :: .int i :: .ref o :: r => f x i o r | _ => False
def slir (st : PS) (f : Int64 → Int32 → Nat → PS → Prop) : Prop := match st with | .long x :: .int i :: .ref o :: r => f x i o r | _ => False
def srir (st : PS) (f : Nat → Int32 → Nat → PS → Prop) : Prop := match st with | .ref x :: .int i :: .ref o :: r => f x i o r | _ => False
def scpy (st : PS) (f : Int32 → Int32 → Nat → Int32 → Nat → PS → Prop) : Prop := match st with | .int n :: .int dp :: .ref q1 :: .int sp :: .ref q0 :: r => f n dp q1 sp q0 r | _ => False
def isRV (v : Value) : Prop := match v with | .ref _ => True | .null => True | .float _ => True | _ => False
def isIV (v : Value) : Prop := match v with | .int _ => True | _ => False
def isLV (v : Value) : Prop := match v with | .long _ => True | _ => False
def gLoc (ls : PL) (i : Nat) (P : Value → Prop) (f : Value → Prop) : Prop := match lget ls i with | some v => P v ∧ f v | none => False
def rfp (r : Option Nat) : Value := match r with | none => .null | some a => .ref a
/-- a field's value, by its kind -/
def fvp (h : PH) (v : Value) (o k : Nat) : Value := match v with | .int _ => .int (hI h o k) | .long _ => .long (hL h o k) | _ => rfp (hR h o k)
/-- a compare of two ints -/
def icp (c : Jvm.ClassFile.Cond) (x y : Int32) : Prop := match c with | .eq => x = y | .ne => ¬ x = y | .lt => x < y | .ge => y ≤ x | .gt => y < x | .le => x ≤ y
def ifp (c : Jvm.ClassFile.Cond) (x : Int32) : Prop := match c with | .eq => x = 0 | .ne => ¬ x = 0 | .lt => x < 0 | .ge => 0 ≤ x | .gt => 0 < x | .le => x ≤ 0
def tgo (pc : Nat) (off : Int) : Nat := ((pc : Int) + off).toNat
def tsw (kk : Nat → Prop) (pc : Nat) (x : Int32) : List Int → Int → Prop
  | [], _ => True
  | o :: r, v => (x.toInt = v → kk (tgo pc o)) ∧ tsw kk pc x r (v + 1)
def lsw (kk : Nat → Prop) (pc : Nat) (x : Int32) (d : Int) : List (Int × Int) → Prop
  | [] => kk (tgo pc d)
  | (v, o) :: r => (x.toInt = v → kk (tgo pc o)) ∧ (¬ x.toInt = v → lsw kk pc x d r)
def csum (st : PS) : Nat := (st.map fun v => v.category).sum
/-- what a return gives; a boolean is 0 or 1 -/
def rok (rt : Option FieldType) (v : Int32) : Prop := match rt with | some .int => True | some .boolean => v = 0 ∨ v = 1 | _ => False
def rfit (al : Nat × Nat) (n0 s0 : Nat) (h : PH) : Prop := (al.1 = 0 ∧ al.2 = 0) ∨ (hN h = n0 + al.1 ∧ hSl h = s0 + al.2)
abbrev PQ : Type := Option Value → PH → Prop
abbrev PCall : Type := Nat → List Value → PH → PQ → Prop
/-- a call: 'b' values off the stack -/
def cal (C : PCall) (kk : Nat → PL → PS → PH → Prop) (k b nx : Nat) (ls : PL) (st : PS) (h : PH) : Prop :=
  b ≤ st.length ∧ csum (st.drop b) ≤ 8 ∧ C k (st.take b).reverse h (fun r h1 => kk nx ls (r.toList ++ st.drop b) h1)
/-- the receiver is a cell of this class -/
def rcv (st : PS) (b ci : Nat) (h : PH) : Prop := match (st.take b).reverse with | .ref o :: _ => o < hN h ∧ (hK h o).1 = ci | _ => False
def rrf (st : PS) (b : Nat) : Prop := match (st.take b).reverse with | .ref _ :: _ => True | _ => False
def rsp (st : PS) (b : Nat) : Prop := match (st.take b).reverse with | .float _ :: _ => True | _ => False
def alk (mc ms : Nat) (al : Nat × Nat) (n0 s0 : Nat) (h : PH) : Prop := hN h + mc ≤ n0 + al.1 ∧ hSl h + ms ≤ s0 + al.2
/-- the weakest precondition of one instruction: kk what follows, Q the end of the method -/
def wpi (C : PCall) (al : Nat × Nat) (rt : Option FieldType) (n0 s0 : Nat) (Q : PQ) (kk : Nat → PL → PS → PH → Prop) (E : PE) (ls : PL) (st : PS) (h : PH) : Prop :=
  match E.1 with
  | .aconst_null => kk E.2.1 ls (.null :: st) h
  | .iconst _ => kk E.2.1 ls (E.2.2.2.2.1 :: st) h
  | .bipush _ => kk E.2.1 ls (E.2.2.2.2.1 :: st) h
  | .sipush _ => kk E.2.1 ls (E.2.2.2.2.1 :: st) h
  | .lconst _ => kk E.2.1 ls (E.2.2.2.2.1 :: st) h
  | .ldc _ => kk E.2.1 ls (E.2.2.2.2.1 :: st) h
  | .ldc_w _ => kk E.2.1 ls (E.2.2.2.2.1 :: st) h
  | .ldc2_w _ => kk E.2.1 ls (E.2.2.2.2.1 :: st) h
  | .iload i => gLoc ls i isIV fun v => kk E.2.1 ls (v :: st) h
  | .iload_n i => gLoc ls i isIV fun v => kk E.2.1 ls (v :: st) h
  | .lload i => gLoc ls i isLV fun v => kk E.2.1 ls (v :: st) h
  | .lload_n i => gLoc ls i isLV fun v => kk E.2.1 ls (v :: st) h
  | .aload i => gLoc ls i isRV fun v => kk E.2.1 ls (v :: st) h
  | .aload_n i => gLoc ls i isRV fun v => kk E.2.1 ls (v :: st) h
  | .istore i => s1i st fun x r => kk E.2.1 (lset1 ls i (.int x)) r h
  | .istore_n i => s1i st fun x r => kk E.2.1 (lset1 ls i (.int x)) r h
  | .lstore i => s1l st fun x r => kk E.2.1 (lset2 ls i (.long x)) r h
  | .lstore_n i => s1l st fun x r => kk E.2.1 (lset2 ls i (.long x)) r h
  | .astore i => s1v st fun v r => isRV v ∧ kk E.2.1 (lset1 ls i v) r h
  | .astore_n i => s1v st fun v r => isRV v ∧ kk E.2.1 (lset1 ls i v) r h
  | .iinc i _ => gLoc ls i isIV fun v => match v, E.2.2.2.2.1 with | .int x, .int c => kk E.2.1 (lset1 ls i (.int (x + c))) st h | _, _ => False
  | .iadd => s2i st fun x y r => kk E.2.1 ls (.int (x + y) :: r) h
  | .isub => s2i st fun x y r => kk E.2.1 ls (.int (x - y) :: r) h
  | .imul => s2i st fun x y r => kk E.2.1 ls (.int (x * y) :: r) h
  | .iand => s2i st fun x y r => kk E.2.1 ls (.int (x &&& y) :: r) h
  | .ior => s2i st fun x y r => kk E.2.1 ls (.int (x ||| y) :: r) h
  | .ixor => s2i st fun x y r => kk E.2.1 ls (.int (x ^^^ y) :: r) h
  | .ishl => s2i st fun x y r => kk E.2.1 ls (.int (x <<< (y &&& 31)) :: r) h
  | .ishr => s2i st fun x y r => kk E.2.1 ls (.int (x >>> (y &&& 31)) :: r) h
  | .iushr => s2i st fun x y r => kk E.2.1 ls (.int (x.toUInt32 >>> (y.toUInt32 &&& Int32.toUInt32 31)).toInt32 :: r) h
  | .idiv => s2i st fun x y r => ¬ y = 0 ∧ kk E.2.1 ls (.int (x / y) :: r) h
  | .irem => s2i st fun x y r => ¬ y = 0 ∧ kk E.2.1 ls (.int (x - x / y * y) :: r) h
  | .ineg => s1i st fun x r => kk E.2.1 ls (.int (-x) :: r) h
  | .ladd => s2l st fun x y r => kk E.2.1 ls (.long (x + y) :: r) h
  | .lsub => s2l st fun x y r => kk E.2.1 ls (.long (x - y) :: r) h
  | .lmul => s2l st fun x y r => kk E.2.1 ls (.long (x * y) :: r) h
  | .lor => s2l st fun x y r => kk E.2.1 ls (.long (x ||| y) :: r) h
  | .ldiv => s2l st fun x y r => ¬ y = 0 ∧ kk E.2.1 ls (.long (x / y) :: r) h
  | .lrem => s2l st fun x y r => ¬ y = 0 ∧ kk E.2.1 ls (.long (x - x / y * y) :: r) h
  | .lneg => s1l st fun x r => kk E.2.1 ls (.long (-x) :: r) h
  | .lshl => s2q st fun x y r => kk E.2.1 ls (.long (x <<< (y.toInt64 &&& 63)) :: r) h
  | .lshr => s2q st fun x y r => kk E.2.1 ls (.long (x >>> (y.toInt64 &&& 63)) :: r) h
  | .lcmp => s2l st fun x y r => kk E.2.1 ls (.int (lg_cmp x y) :: r) h
  | .i2l => s1i st fun x r => kk E.2.1 ls (.long x.toInt64 :: r) h
  | .l2i => s1l st fun x r => kk E.2.1 ls (.int x.toInt32 :: r) h
  | .dup => s1v st fun v r => v.category = 1 ∧ kk E.2.1 ls (v :: v :: r) h
  | .dup2 => s2v st fun v w r => v.category = 1 ∧ w.category = 1 ∧ kk E.2.1 ls (v :: w :: v :: w :: r) h
  | .pop => s1v st fun v r => v.category = 1 ∧ kk E.2.1 ls r h
  | .goto _ => kk E.2.2.1 ls st h
  | .if_icmp c _ => s2i st fun x y r => (icp c x y → kk E.2.2.1 ls r h) ∧ (¬ icp c x y → kk E.2.1 ls r h)
  | .ifCond c _ => s1i st fun x r => (ifp c x → kk E.2.2.1 ls r h) ∧ (¬ ifp c x → kk E.2.1 ls r h)
  | .ifnull _ => s1v st fun v r => match v with | .ref _ => kk E.2.1 ls r h | .null => kk E.2.2.1 ls r h | _ => False
  | .ifnonnull _ => s1v st fun v r => match v with | .ref _ => kk E.2.2.1 ls r h | .null => kk E.2.1 ls r h | _ => False
  | .tableswitch d lo hi offs => s1i st fun x r => (x.toInt < lo ∨ hi < x.toInt → kk (tgo E.2.2.1 d) ls r h) ∧ tsw (fun q => kk q ls r h) E.2.2.1 x offs.toList lo
  | .lookupswitch d ps => s1i st fun x r => lsw (fun q => kk q ls r h) E.2.2.1 x d ps.toList
  | .getfield _ => s1r st fun o r => o < hN h ∧ (hK h o).1 = E.2.2.1 ∧ kk E.2.1 ls (fvp h E.2.2.2.2.1 o E.2.2.2.1 :: r) h
  | .putfield _ => match E.2.2.2.2.1 with
    | .int z => sir st fun x o r => o < hN h ∧ (hK h o).1 = E.2.2.1 ∧ (z = 0 ∨ x = 0 ∨ x = 1) ∧ kk E.2.1 ls r (puI h o E.2.2.2.1 x)
    | .long _ => slr st fun x o r => o < hN h ∧ (hK h o).1 = E.2.2.1 ∧ kk E.2.1 ls r (puL h o E.2.2.2.1 x)
    | _ => srr st fun x o r => o < hN h ∧ (hK h o).1 = E.2.2.1 ∧ kk E.2.1 ls r (puR h o E.2.2.2.1 (some x))
  | .iaload => s2v st fun v w r => match v, w with
    | .int i, .ref o => o < hN h ∧ (hK h o).1 = 10 ∧ vp_in i (hK h o).2 ∧ kk E.2.1 ls (.int (hI h o i.toNatClampNeg) :: r) h
    | .int i, .float f => f = 0 ∧ vp_in i (hX h).1 ∧ kk E.2.1 ls (.int ((hX h).2 i.toNatClampNeg) :: r) h
    | _, _ => False
  | .laload => sir st fun i o r => o < hN h ∧ (hK h o).1 = 11 ∧ vp_in i (hK h o).2 ∧ kk E.2.1 ls (.long (hL h o i.toNatClampNeg) :: r) h
  | .baload => sir st fun i o r => o < hN h ∧ (hK h o).1 = 12 ∧ vp_in i (hK h o).2 ∧ kk E.2.1 ls (.int (hI h o i.toNatClampNeg) :: r) h
  | .aaload => sir st fun i o r => o < hN h ∧ (hK h o).1 = E.2.2.1 ∧ vp_in i (hK h o).2 ∧ kk E.2.1 ls (rfp (hR h o i.toNatClampNeg) :: r) h
  | .iastore => siir st fun x i o r => o < hN h ∧ (hK h o).1 = 10 ∧ vp_in i (hK h o).2 ∧ kk E.2.1 ls r (puI h o i.toNatClampNeg x)
  | .lastore => slir st fun x i o r => o < hN h ∧ (hK h o).1 = 11 ∧ vp_in i (hK h o).2 ∧ kk E.2.1 ls r (puL h o i.toNatClampNeg x)
  | .bastore => siir st fun x i o r => o < hN h ∧ (hK h o).1 = 12 ∧ vp_in i (hK h o).2 ∧ (x = 0 ∨ x = 1) ∧ kk E.2.1 ls r (puI h o i.toNatClampNeg x)
  | .aastore => srir st fun x i o r => o < hN h ∧ (hK h o).1 = E.2.2.1 ∧ vp_in i (hK h o).2 ∧ x < hN h ∧ (hK h x).1 = E.2.2.2.1 ∧ kk E.2.1 ls r (puR h o i.toNatClampNeg (some x))
  | .arraylength => s1v st fun v r => match v with
    | .ref o => o < hN h ∧ 10 ≤ (hK h o).1 ∧ (hK h o).1 ≤ 14 ∧ kk E.2.1 ls (.int (Int32.ofNat (hK h o).2) :: r) h
    | .float f => f = 0 ∧ kk E.2.1 ls (.int (Int32.ofNat (hX h).1) :: r) h
    | _ => False
  | .new _ => alk 1 E.2.2.2.1 al n0 s0 h ∧ kk E.2.1 ls (.ref (hN h) :: st) (puN h E.2.2.1 E.2.2.2.1)
  | .newarray _ => s1i st fun n r => ¬ n < 0 ∧ n.toNatClampNeg ≤ 10000 ∧ alk 1 n.toNatClampNeg al n0 s0 h ∧ kk E.2.1 ls (.ref (hN h) :: r) (puN h E.2.2.1 n.toNatClampNeg)
  | .anewarray _ => s1i st fun n r => ¬ n < 0 ∧ n.toNatClampNeg ≤ 10000 ∧ alk 1 n.toNatClampNeg al n0 s0 h ∧ kk E.2.1 ls (.ref (hN h) :: r) (puN h E.2.2.1 n.toNatClampNeg)
  | .invokestatic _ => match E.2.2.2.2.1 with
    | .float _ => scpy st fun n dp q1 sp q0 r => q0 < hN h ∧ q1 < hN h ∧ (hK h q0).1 = 10 ∧ (hK h q1).1 = 10 ∧ ¬ sp < 0 ∧ ¬ dp < 0 ∧ ¬ n < 0 ∧ sp.toNatClampNeg + n.toNatClampNeg ≤ (hK h q0).2 ∧ dp.toNatClampNeg + n.toNatClampNeg ≤ (hK h q1).2 ∧ csum r ≤ 8 ∧ kk E.2.1 ls r (puA h q1 (va_cpy (hI h q0) (hI h q1) sp.toNatClampNeg dp.toNatClampNeg n.toNatClampNeg))
    | _ => cal C kk E.2.2.1 E.2.2.2.1 E.2.1 ls st h
  | .invokevirtual _ => match E.2.2.2.2.1 with
    | .ref ci => rcv st E.2.2.2.1 ci h ∧ cal C kk E.2.2.1 E.2.2.2.1 E.2.1 ls st h
    | _ => rsp st E.2.2.2.1 ∧ cal C kk E.2.2.1 E.2.2.2.1 E.2.1 ls st h
  | .invokespecial _ => match E.2.2.2.2.1 with
    | .float _ => s1r st fun _ r => csum r ≤ 8 ∧ kk E.2.1 ls r h
    | _ => rrf st E.2.2.2.1 ∧ alk (mcs E.2.2.1).1 (mcs E.2.2.1).2 al n0 s0 h ∧ cal C kk E.2.2.1 E.2.2.2.1 E.2.1 ls st h
  | .ireturn => match st with | [.int v] => rok rt v ∧ rfit al n0 s0 h ∧ Q (some (.int v)) h | _ => False
  | .lreturn => match st with | [.long v] => rt = some .long ∧ rfit al n0 s0 h ∧ Q (some (.long v)) h | _ => False
  | .areturn => match st with | [v] => isRV v ∧ rfit al n0 s0 h ∧ Q (some v) h | _ => False
  | .return_ => match st with | [] => rt = none ∧ rfit al n0 s0 h ∧ Q none h | _ => False
  | _ => False
