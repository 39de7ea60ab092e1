/-! A MACHINE OF PURE CONFIGURATIONS for the program's own instructions: its runs are the claim's machine's runs (part 05). Cells by address. -/
abbrev xE : Type := (Nat × vp_A) ⊕ (Nat × List Value)
abbrev xH : Type := Nat → xE
abbrev xN : Type := Nat × Nat × Nat
abbrev xLs : Type := List (Option Value)
abbrev xC : Type := Nat × xLs × List Value × xH × xN
def xbad : xE := .inr (999, [])
def xkill : Option Value → Option Value
  | some (.long _) => none
  | some (.double _) => none
  | o => o
def xmod : xLs → Nat → xLs
  | [], _ => []
  | x :: l, 0 => xkill x :: l
  | x :: l, n + 1 => x :: xmod l n
def xput : xLs → Nat → Option Value → xLs
  | [], _, _ => []
  | _ :: l, 0, v => v :: l
  | x :: l, n + 1, v => x :: xput l n v
def xat : xLs → Nat → Option Value
  | [], _ => none
  | x :: _, 0 => x
  | _ :: l, n + 1 => xat l n
def xkl (ls : xLs) (i : Nat) : xLs := match i with
  | 0 => ls
  | j + 1 => xmod ls j
def xst1 (ls : xLs) (i : Nat) (v : Value) : xLs := xput (xkl ls i) i (some v)
def xst2 (ls : xLs) (i : Nat) (v : Value) : xLs := xput (xput (xkl ls i) i (some v)) (i + 1) none
def xj (pc : Nat) (off : Int) : Option Nat := match (pc : Int) + off with
  | .ofNat t => some t
  | .negSucc _ => none
def xldI (n pc : Nat) (ls : xLs) (st : List Value) (i : Nat) : Option (Nat × xLs × List Value) := match xat ls i with
  | some (.int x) => some (pc + n, ls, .int x :: st)
  | _ => none
def xldL (n pc : Nat) (ls : xLs) (st : List Value) (i : Nat) : Option (Nat × xLs × List Value) := match xat ls i with
  | some (.long x) => some (pc + n, ls, .long x :: st)
  | _ => none
def xldA (n pc : Nat) (ls : xLs) (st : List Value) (i : Nat) : Option (Nat × xLs × List Value) := match xat ls i with
  | some (.ref x) => some (pc + n, ls, .ref x :: st)
  | _ => none
def xstI (n pc : Nat) (ls : xLs) (st : List Value) (i : Nat) : Option (Nat × xLs × List Value) := match st with
  | .int x :: r => bif Nat.blt i ls.length then some (pc + n, xst1 ls i (.int x), r) else none
  | _ => none
def xstL (n pc : Nat) (ls : xLs) (st : List Value) (i : Nat) : Option (Nat × xLs × List Value) := match st with
  | .long x :: r => bif Nat.blt (i + 1) ls.length then some (pc + n, xst2 ls i (.long x), r) else none
  | _ => none
def xstA (n pc : Nat) (ls : xLs) (st : List Value) (i : Nat) : Option (Nat × xLs × List Value) := match st with
  | .ref x :: r => bif Nat.blt i ls.length then some (pc + n, xst1 ls i (.ref x), r) else none
  | _ => none
def xii (f : Int32 → Int32 → Int32) (pc : Nat) (ls : xLs) (st : List Value) : Option (Nat × xLs × List Value) := match st with
  | .int y :: .int x :: r => some (pc + 1, ls, .int (f x y) :: r)
  | _ => none
def xll (f : Int64 → Int64 → Int64) (pc : Nat) (ls : xLs) (st : List Value) : Option (Nat × xLs × List Value) := match st with
  | .long y :: .long x :: r => some (pc + 1, ls, .long (f x y) :: r)
  | _ => none
def xi (f : Int32 → Int32) (pc : Nat) (ls : xLs) (st : List Value) : Option (Nat × xLs × List Value) := match st with
  | .int x :: r => some (pc + 1, ls, .int (f x) :: r)
  | _ => none
def xc1 (v : Value) : Bool := Nat.beq v.category 1
/-- instructions on locals and stack alone, that don't branch and can't throw -/
def xs1 (own : Nat) (ins : Instr) (pc : Nat) (ls : xLs) (st : List Value) : Option (Nat × xLs × List Value) :=
  match ins with
  | .iconst n => some (pc + 1, ls, .int (Int32.ofInt n) :: st)
  | .bipush n => bif (decide (-128 ≤ n) && decide (n ≤ 127)) then some (pc + 2, ls, .int (Int32.ofInt n) :: st) else none
  | .sipush n => bif (decide (-32768 ≤ n) && decide (n ≤ 32767)) then some (pc + 3, ls, .int (Int32.ofInt n) :: st) else none
  | .lconst n => some (pc + 1, ls, .long (Int64.ofInt (n.val : Int)) :: st)
  | .ldc ix => match xas (xconT own) ix with
    | some n => some (pc + 2, ls, .int (Int32.ofInt n) :: st)
    | none => none
  | .ldc_w ix => match xas (xconT own) ix with
    | some n => some (pc + 3, ls, .int (Int32.ofInt n) :: st)
    | none => none
  | .ldc2_w ix => match xas (xconLT own) ix with
    | some n => some (pc + 3, ls, .long (Int64.ofInt n) :: st)
    | none => none
  | .iload i => xldI 2 pc ls st i
  | .iload_n k => xldI 1 pc ls st k.val
  | .lload i => xldL 2 pc ls st i
  | .lload_n k => xldL 1 pc ls st k.val
  | .aload i => xldA 2 pc ls st i
  | .aload_n k => xldA 1 pc ls st k.val
  | .istore i => xstI 2 pc ls st i
  | .istore_n k => xstI 1 pc ls st k.val
  | .lstore i => xstL 2 pc ls st i
  | .lstore_n k => xstL 1 pc ls st k.val
  | .astore i => xstA 2 pc ls st i
  | .astore_n k => xstA 1 pc ls st k.val
  | .iinc i n => match xat ls i with
    | some (.int x) => bif Nat.blt i ls.length then some (pc + 3, xst1 ls i (.int (x + Int32.ofInt n)), st) else none
    | _ => none
  | .iadd => xii (fun x y => x + y) pc ls st
  | .isub => xii (fun x y => x - y) pc ls st
  | .imul => xii (fun x y => x * y) pc ls st
  | .iand => xii (fun x y => x &&& y) pc ls st
  | .ior => xii (fun x y => x ||| y) pc ls st
  | .ixor => xii (fun x y => x ^^^ y) pc ls st
  | .ishl => xii (fun x y => x <<< (y &&& 31)) pc ls st
  | .ishr => xii (fun x y => x >>> (y &&& 31)) pc ls st
  | .iushr => xii (fun x y => (x.toUInt32 >>> (y.toUInt32 &&& Int32.toUInt32 31)).toInt32) pc ls st
  | .ineg => xi (fun x => -x) pc ls st
  | .i2b => xi (fun x => x.toInt8.toInt32) pc ls st
  | .i2s => xi (fun x => x.toInt16.toInt32) pc ls st
  | .i2l => match st with
    | .int x :: r => some (pc + 1, ls, .long x.toInt64 :: r)
    | _ => none
  | .l2i => match st with
    | .long x :: r => some (pc + 1, ls, .int x.toInt32 :: r)
    | _ => none
  | .ladd => xll (fun x y => x + y) pc ls st
  | .lsub => xll (fun x y => x - y) pc ls st
  | .lmul => xll (fun x y => x * y) pc ls st
  | .lneg => match st with
    | .long x :: r => some (pc + 1, ls, .long (-x) :: r)
    | _ => none
  | .lcmp => match st with
    | .long y :: .long x :: r => some (pc + 1, ls, .int (lg_cmp x y) :: r)
    | _ => none
  | .dup => match st with
    | v :: r => bif xc1 v then some (pc + 1, ls, v :: v :: r) else none
    | _ => none
  | .pop => match st with
    | v :: r => bif xc1 v then some (pc + 1, ls, r) else none
    | _ => none
  | .dup2 => match st with
    | .long x :: r => some (pc + 1, ls, .long x :: .long x :: r)
    | v :: w :: r => bif (xc1 v && xc1 w) then some (pc + 1, ls, v :: w :: v :: w :: r) else none
    | _ => none
  | .goto off => match xj pc off with
    | some t => some (t, ls, st)
    | none => none
  | _ => none
/-- what a field of a type takes as it is -/
def xok : FieldType → Value → Bool
  | .int, .int _ => true
  | .long, .long _ => true
  | .boolean, .int v => v == 0 || v == 1
  | .object _, .ref _ => true
  | .array _, .ref _ => true
  | _, _ => false
/-- an array's kinds: 0 int, 1 long, 2 boolean, 3 EvenErrors$Sheet, 4 EvenErrors$Points -/
def xaty : Nat → FieldType := fun k => match k with
  | 0 => .int
  | 1 => .long
  | 2 => .boolean
  | 3 => .object (xR 5)
  | _ => .object (xR 4)
def xdef : FieldType → Value
  | .int => .int 0
  | .long => .long 0
  | .boolean => .int 0
  | _ => .null
def xgf (own ix : Nat) (st : List Value) (h : xH) : Option (List Value) := match xas (xfldT own) ix with
  | some (ci, k) => match st with
    | .ref a :: r => match h a with
      | .inr (c2, fs) => match Nat.beq c2 ci with
        | true => match fs[k]? with
          | some v => some (v :: r)
          | none => none
        | false => none
      | .inl _ => none
    | _ => none
  | none => none
def xpf (own : Nat) (ini : Bool) (ix : Nat) (st : List Value) (h : xH) : Option (List Value × xH) := match xas (xfldT own) ix with
  | some (ci, k) => match st with
    | v :: .ref a :: r => match h a with
      | .inr (c2, fs) => match Nat.beq c2 ci && (xok (xFt ci k) v && (Nat.blt k fs.length && Nat.blt k (xFn ci)) && (!(xF ci k).2.2.2 || (ini && Nat.beq own ci))) with
        | true => some (r, va_up h a (.inr (ci, fs.set k v)))
        | false => none
      | .inl _ => none
    | _ => none
  | none => none
/-- i is a place of a row of n -/
def xin (i : Int32) (n : Nat) : Bool := !(decide (i < 0)) && Nat.blt i.toNatClampNeg n
def xs2 (own : Nat) (mc ms : Nat) (ini : Bool) (ins : Instr) (st : List Value) (h : xH) (n : xN) : Option (List Value × xH × xN) :=
  match ins with
  | .getfield ix => match xgf own ix st h with
    | some st2 => some (st2, h, n)
    | none => none
  | .putfield ix => match xpf own ini ix st h with
    | some (st2, h2) => some (st2, h2, n)
    | none => none
  | .iaload => match st with
    | .int i :: .ref a :: r => match h a with
      | .inl (0, len, .inl f) => match xin i len with
        | true => some (.int (f i.toNatClampNeg) :: r, h, n)
        | false => none
      | _ => none
    | _ => none
  | .laload => match st with
    | .int i :: .ref a :: r => match h a with
      | .inl (1, len, .inr (.inl f)) => match xin i len with
        | true => some (.long (f i.toNatClampNeg) :: r, h, n)
        | false => none
      | _ => none
    | _ => none
  | .baload => match st with
    | .int i :: .ref a :: r => match h a with
      | .inl (2, len, .inl f) => match xin i len with
        | true => some (.int (f i.toNatClampNeg) :: r, h, n)
        | false => none
      | _ => none
    | _ => none
  | .aaload => match st with
    | .int i :: .ref a :: r => match h a with
      | .inl (t, len, .inr (.inr (.inr (.inr f)))) => match xin i len && (Nat.beq t 3 || Nat.beq t 4) with
        | true => some (va_rf (f i.toNatClampNeg) :: r, h, n)
        | false => none
      | _ => none
    | _ => none
  | .iastore => match st with
    | .int x :: .int i :: .ref a :: r => match h a with
      | .inl (0, len, .inl f) => match xin i len with
        | true => some (r, va_up h a (.inl (0, len, .inl (upd f i.toNatClampNeg x))), n)
        | false => none
      | _ => none
    | _ => none
  | .lastore => match st with
    | .long x :: .int i :: .ref a :: r => match h a with
      | .inl (1, len, .inr (.inl f)) => match xin i len with
        | true => some (r, va_up h a (.inl (1, len, .inr (.inl (vp_updL f i.toNatClampNeg x)))), n)
        | false => none
      | _ => none
    | _ => none
  | .bastore => match st with
    | .int x :: .int i :: .ref a :: r => match h a with
      | .inl (2, len, .inl f) => match xin i len with
        | true => some (r, va_up h a (.inl (2, len, .inl (upd f i.toNatClampNeg (vp_nar .boolean x)))), n)
        | false => none
      | _ => none
    | _ => none
  | .aastore => match st with
    | .ref x :: .int i :: .ref a :: r => match h a with
      | .inl (t, len, .inr (.inr (.inr (.inr f)))) => match h x with
        | .inr (ci, _) => match xin i len && ((Nat.beq t 3 && Nat.beq ci 5) || (Nat.beq t 4 && Nat.beq ci 4)) with
          | true => some (r, va_up h a (.inl (t, len, .inr (.inr (.inr (.inr (va_up f i.toNatClampNeg (some x))))))), n)
          | false => none
        | _ => none
      | _ => none
    | _ => none
  | .idiv => match st with
    | .int y :: .int x :: r => match decide (y = 0) with
      | false => some (.int (x / y) :: r, h, n)
      | true => none
    | _ => none
  | .irem => match st with
    | .int y :: .int x :: r => match decide (y = 0) with
      | false => some (.int (x - x / y * y) :: r, h, n)
      | true => none
    | _ => none
  | .ldiv => match st with
    | .long y :: .long x :: r => match decide (y = 0) with
      | false => some (.long (x / y) :: r, h, n)
      | true => none
    | _ => none
  | .lrem => match st with
    | .long y :: .long x :: r => match decide (y = 0) with
      | false => some (.long (x - x / y * y) :: r, h, n)
      | true => none
    | _ => none
  | .new ix => match xas (xclsT own) ix with
    | some ci => match Nat.blt n.2.1 mc && Nat.ble (n.2.2 + xFn ci) ms with
      | true => some (.ref n.1 :: st, va_up h n.1 (.inr (ci, (List.range (xFn ci)).map fun k => xdef (xFt ci k))), (n.1 + 1, n.2.1 + 1, n.2.2 + xFn ci))
      | false => none
    | none => none
  | .newarray ty => match st with
    | .int k :: r => match !(decide (k < 0)) && (Nat.blt n.2.1 mc && Nat.ble (n.2.2 + k.toNatClampNeg) ms && Nat.ble k.toNatClampNeg 1000) with
      | true => match ty with
        | .int => some (.ref n.1 :: r, va_up h n.1 (.inl (0, k.toNatClampNeg, .inl fun _ => 0)), (n.1 + 1, n.2.1 + 1, n.2.2 + k.toNatClampNeg))
        | .long => some (.ref n.1 :: r, va_up h n.1 (.inl (1, k.toNatClampNeg, .inr (.inl fun _ => 0))), (n.1 + 1, n.2.1 + 1, n.2.2 + k.toNatClampNeg))
        | .boolean => some (.ref n.1 :: r, va_up h n.1 (.inl (2, k.toNatClampNeg, .inl fun _ => 0)), (n.1 + 1, n.2.1 + 1, n.2.2 + k.toNatClampNeg))
        | _ => none
      | false => none
    | _ => none
  | .anewarray ix => match st with
    | .int k :: r => match !(decide (k < 0)) && (Nat.blt n.2.1 mc && Nat.ble (n.2.2 + k.toNatClampNeg) ms && Nat.ble k.toNatClampNeg 1000) with
      | true => match xas (xclsT own) ix with
        | some 5 => some (.ref n.1 :: r, va_up h n.1 (.inl (3, k.toNatClampNeg, .inr (.inr (.inr (.inr fun _ => none))))), (n.1 + 1, n.2.1 + 1, n.2.2 + k.toNatClampNeg))
        | some 4 => some (.ref n.1 :: r, va_up h n.1 (.inl (4, k.toNatClampNeg, .inr (.inr (.inr (.inr fun _ => none))))), (n.1 + 1, n.2.1 + 1, n.2.2 + k.toNatClampNeg))
        | _ => none
      | false => none
    | _ => none
  | _ => none
/-- a branch's condition: the second from the top against the top -/
def xcd (c : ClassFile.Cond) (x y : Int32) : Bool := match c with
  | .eq => decide (x = y)
  | .ne => !(decide (x = y))
  | .lt => decide (x < y)
  | .ge => decide (y ≤ x)
  | .gt => decide (y < x)
  | .le => decide (x ≤ y)
def xs3 (ins : Instr) (pc : Nat) (st : List Value) : Option (Nat × List Value) := match ins with
  | .ifCond c off => match st, xj pc off with
    | .int x :: r, some t => match xcd c x 0 with
      | true => some (t, r)
      | false => some (pc + 3, r)
    | _, _ => none
  | .if_icmp c off => match st, xj pc off with
    | .int y :: .int x :: r, some t => match xcd c x y with
      | true => some (t, r)
      | false => some (pc + 3, r)
    | _, _ => none
  | .tableswitch d lo hi offs => match st with
    | .int x :: r => match decide (x.toInt < lo) || decide (hi < x.toInt) with
      | true => match xj pc d with
        | some t => some (t, r)
        | none => none
      | false => match offs[(x.toInt - lo).toNat]? with
        | some o => match xj pc o with
          | some t => some (t, r)
          | none => none
        | none => none
    | _ => none
  | .lookupswitch d ps => match st with
    | .int x :: r => match (ps.toList.zip (ps.toList.drop 1)).all (fun (a, next) => decide (a.1 < next.1)) with
      | true => match xj pc (Op.lookupswitch.offset ps.toList d x.toInt) with
        | some t => some (t, r)
        | none => none
      | false => none
    | _ => none
  | _ => none
def xstep (I : xI) (ins : Instr) (g : xC) : Option xC := match xs1 I.1 ins g.1 g.2.1 g.2.2.1 with
  | some (pc, ls, st) => some (pc, ls, st, g.2.2.2)
  | none => match xs2 I.1 I.2.2.2.2.2.1 I.2.2.2.2.2.2.1 I.2.2.2.2.2.2.2 ins g.2.2.1 g.2.2.2.1 g.2.2.2.2 with
    | some (st, h, n) => some (g.1 + xlen ins, g.2.1, st, h, n)
    | none => match xs3 ins g.1 g.2.2.1 with
      | some (pc, st) => some (pc, g.2.1, st, g.2.2.2)
      | none => none
def xsum (st : List Value) : Nat := (st.map fun v => v.category).sum
/-- a call: its kind, the callee, how many are taken from the stack -/
def xinv (own : Nat) (ins : Instr) : Option (Nat × Nat × Nat) := match ins with
  | .invokevirtual ix => match xas (xinvT own) ix with
    | some (0, q) => some (0, q)
    | _ => none
  | .invokestatic ix => match xas (xinvT own) ix with
    | some (1, q) => some (1, q)
    | some (2, q) => some (2, q)
    | some (6, q) => some (6, q)
    | some (7, q) => some (7, q)
    | some (8, q) => some (8, q)
    | some (9, q) => some (9, q)
    | _ => none
  | .invokespecial ix => match xas (xinvT own) ix with
    | some (3, q) => some (3, q)
    | some (4, q) => some (4, q)
    | some (5, q) => some (5, q)
    | _ => none
  | _ => none
/-- the receiver is an object of the callee's class -/
def xrecv (k cj : Nat) (h : xH) (av : List Value) : Bool := match k with
  | 0 => match av with
    | .ref b :: _ => match h b with
      | .inr (c2, _) => Nat.beq c2 cj && Nat.blt c2 9
      | .inl _ => false
    | _ => false
  | 3 | 4 => match av with
    | .ref _ :: _ => true
    | _ => false
  | _ => true
/-- a row copied: System.arraycopy -/
def xcopy (st : List Value) (h : xH) : Option (List Value × xH) := match st with
  | .int k :: .int dp :: .ref a :: .int sp :: .ref b :: r => match h b with
    | .inl (0, n0, .inl f) => match h a with
      | .inl (0, n1, .inl g) => match (!(decide (sp < 0)) && !(decide (dp < 0)) && !(decide (k < 0))) && (Nat.ble (sp.toNatClampNeg + k.toNatClampNeg) n0 && Nat.ble (dp.toNatClampNeg + k.toNatClampNeg) n1) with
        | true => some (r, va_up h a (.inl (0, n1, .inl (va_cpy f g sp.toNatClampNeg dp.toNatClampNeg k.toNatClampNeg))))
        | false => none
      | _ => none
    | .inl (1, n0, .inr (.inl f)) => match h a with
      | .inl (1, n1, .inr (.inl g)) => match (!(decide (sp < 0)) && !(decide (dp < 0)) && !(decide (k < 0))) && (Nat.ble (sp.toNatClampNeg + k.toNatClampNeg) n0 && Nat.ble (dp.toNatClampNeg + k.toNatClampNeg) n1) with
        | true => some (r, va_up h a (.inl (1, n1, .inr (.inl (va_cpy f g sp.toNatClampNeg dp.toNatClampNeg k.toNatClampNeg)))))
        | false => none
      | _ => none
    | _ => none
  | _ => none
/-- java/lang/Math: abs of an int, of a long, min of ints -/
def xmath (k : Nat) (st : List Value) : Option (Value × List Value) := match k with
  | 7 => match st with
    | .int x :: r => some (.int (if 0 ≤ x then x else 0 - x), r)
    | _ => none
  | 8 => match st with
    | .long x :: r => some (.long (if 0 < x then x else -x), r)
    | _ => none
  | _ => match st with
    | .int y :: .int x :: r => some (.int (if y < x then y else x), r)
    | _ => none
abbrev xCall : Type := Nat → List Value → xH → Nat → Option (Option Value × xH × Nat)
/-- a callee's room beside the caller's -/
def xfit (I J : xI) (n : xN) : Bool := (Nat.ble (J.2.2.2.1 + 1) I.2.2.2.1 && Nat.ble (8 + (J.2.2.1 + 11) + J.2.2.2.2.1) I.2.2.2.2.1) && (Nat.ble (n.2.1 + J.2.2.2.2.2.1) I.2.2.2.2.2.1 && Nat.ble (n.2.2 + J.2.2.2.2.2.2.1) I.2.2.2.2.2.2.1)
def xdoC (call : xCall) (I : xI) (k j na : Nat) (g : xC) : Option xC := match xtab[j]? with
  | some J => match (Nat.ble na g.2.2.1.length && Nat.ble (xsum (g.2.2.1.drop na)) 8) && (xrecv k J.1 g.2.2.2.1 (g.2.2.1.take na).reverse && xfit I J g.2.2.2.2) with
    | true => match call j (g.2.2.1.take na).reverse g.2.2.2.1 g.2.2.2.2.1 with
      | some (r, h, t) => match decide (t = g.2.2.2.2.1 + J.2.2.2.2.2.1) with
        | true => some (g.1 + 3, g.2.1, r.toList ++ g.2.2.1.drop na, h, (t, g.2.2.2.2.2.1 + J.2.2.2.2.2.1, g.2.2.2.2.2.2 + J.2.2.2.2.2.2.1))
        | false => none
      | none => none
    | false => none
  | none => none
def xdoO (I : xI) (g : xC) : Option xC := match g.2.2.1 with
  | .ref _ :: r => match Nat.ble 1 I.2.2.2.1 && Nat.ble (xsum r + 12) I.2.2.2.2.1 with
    | true => some (g.1 + 3, g.2.1, r, g.2.2.2)
    | false => none
  | _ => none
def xdoA (I : xI) (g : xC) : Option xC := match xcopy g.2.2.1 g.2.2.2.1 with
  | some (r, h) => match Nat.ble 1 I.2.2.2.1 && Nat.ble (xsum r + 18) I.2.2.2.2.1 with
    | true => some (g.1 + 3, g.2.1, r, h, g.2.2.2.2)
    | false => none
  | none => none
def xdoM (I : xI) (k : Nat) (g : xC) : Option xC := match xmath k g.2.2.1 with
  | some (v, r) => match Nat.ble 1 I.2.2.2.1 && Nat.ble (xsum r + 13) I.2.2.2.2.1 with
    | true => some (g.1 + 3, g.2.1, v :: r, g.2.2.2)
    | false => none
  | none => none
def xdo (call : xCall) (I : xI) (k j na : Nat) (g : xC) : Option xC := match k with
  | 5 => xdoO I g
  | 6 => xdoA I g
  | 7 => xdoM I 7 g
  | 8 => xdoM I 8 g
  | 9 => xdoM I 9 g
  | _ => xdoC call I k j na g
/-- a return: of the method's own type -/
def xret (rt : Option FieldType) (ins : Instr) (st : List Value) : Option (Option Value) := match ins with
  | .return_ => match st, rt with
    | [], none => some none
    | _, _ => none
  | .ireturn => match st, rt with
    | [.int v], some .int => some (some (.int v))
    | [.int v], some .boolean => match v == 0 || v == 1 with
      | true => some (some (.int v))
      | false => none
    | _, _ => none
  | .lreturn => match st, rt with
    | [.long v], some .long => some (some (.long v))
    | _, _ => none
  | _ => none
def xrun (call : xCall) (I : xI) (rt : Option FieldType) : Nat → xC → Option (Option Value × xH × Nat)
  | 0, _ => none
  | f + 1, g => match xget I.2.1 g.1 with
    | none => none
    | some ins => match xret rt ins g.2.2.1 with
      | some v => match Nat.ble g.2.2.2.2.2.1 I.2.2.2.2.2.1 && Nat.ble g.2.2.2.2.2.2 I.2.2.2.2.2.2.1 with
        | true => some (v, g.2.2.2.1, g.2.2.2.2.1)
        | false => none
      | none => match xinv I.1 ins with
        | some (k, j, na) => match xdo call I k j na g with
          | some g2 => xrun call I rt f g2
          | none => none
        | none => match xstep I ins g with
          | some g2 => xrun call I rt f g2
          | none => none
/-- the locals at a method's entry -/
def xent : List Value → xLs
  | [] => []
  | .long v :: l => some (.long v) :: none :: xent l
  | .double v :: l => some (.double v) :: none :: xent l
  | v :: l => some v :: xent l
def xpad : Nat → xLs → xLs
  | 0, l => l
  | n + 1, [] => none :: xpad n []
  | n + 1, x :: l => x :: xpad n l
/-- methods by number, to a depth -/
def xsem : Nat → xCall
  | 0, _, _, _, _ => none
  | d + 1, i, av, h, t => match xtab[i]?, xrt[i]? with
    | some I, some rt => match Nat.ble (xent av).length I.2.2.1 with
      | true => xrun (xsem d) I rt d (0, xpad I.2.2.1 (xent av), [], h, (t, 0, 0))
      | false => none
    | _, _ => none
