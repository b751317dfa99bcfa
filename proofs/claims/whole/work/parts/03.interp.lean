/-! A PURE MACHINE: ids for addresses, one plane of ints, one of references; what it does the real one does (part 04) -/
/-- memory: how many objects, how many slots, the references, the ints -/
abbrev Mem : Type := Nat × Nat × (Nat → Nat → Option Nat) × (Nat → Nat → Int32)
/-- a frame: pc, locals, stack -/
abbrev Frm : Type := Nat × List Value × List Value
abbrev Scr : Type := Bool × Nat × (Nat → Int32)
def sc0 : Scr := (false, 0, fun _ => 0)
def UU : Value := .retAddr 0
def upN {α : Type} (f : Nat → Nat → α) (o k : Nat) (v : α) : Nat → Nat → α := fun a b => bif Nat.beq a o && Nat.beq b k then v else f a b
def nth : List Value → Nat → Value
  | [], _ => UU
  | v :: _, 0 => v
  | _ :: l, k + 1 => nth l k
def stL : List Value → Nat → Value → List Value
  | [], _, _ => []
  | _ :: l, 0, v => v :: l
  | w :: l, k + 1, v => w :: stL l k v
def isLg : Value → Bool
  | .long _ => true
  | .double _ => true
  | _ => false
def okS (L : List Value) (k : Nat) : Bool := Nat.blt k L.length && (match k with | 0 => true | j + 1 => !isLg (nth L j))
def wid (j : Nat) : Int32 := match j with
  | 2 => 1
  | 3 => 1
  | 5 => 4
  | _ => 0
abbrev i32 (n : Int) : Int32 := c32 n
def tg (pc : Nat) (off : Int) : Option Nat := match (pc : Int) + off with
  | .ofNat t => some t
  | .negSucc _ => none
def jc (c : Prop) [Decidable c] (pc : Nat) (off : Int) (L st : List Value) (σ : Mem) : Option (Frm × Mem) := match tg pc off with
  | some t => some ((if c then t else pc + 3, L, st), σ)
  | none => none
def jm (pc : Nat) (off : Int) (L st : List Value) (σ : Mem) : Option (Frm × Mem) := match tg pc off with
  | some t => some ((t, L, st), σ)
  | none => none
def bin (f : Int32 → Int32 → Int32) (pc : Nat) (L st : List Value) (σ : Mem) : Option (Frm × Mem) := match st with
  | .int y :: .int x :: r => some ((pc + 1, L, .int (f x y) :: r), σ)
  | _ => none
def una (f : Int32 → Int32) (pc : Nat) (L st : List Value) (σ : Mem) : Option (Frm × Mem) := match st with
  | .int x :: r => some ((pc + 1, L, .int (f x) :: r), σ)
  | _ => none
/-- is the index within -/
abbrev inA (j : Int32) (n : Nat) : Prop := ¬ (j < 0 ∨ n ≤ j.toNatClampNeg)
def ldI (len : Nat) (L : List Value) (k : Nat) (pc : Nat) (st : List Value) (σ : Mem) : Option (Frm × Mem) := match nth L k with
  | .int x => some ((pc + len, L, .int x :: st), σ)
  | _ => none
def ldA (len : Nat) (L : List Value) (k : Nat) (pc : Nat) (st : List Value) (σ : Mem) : Option (Frm × Mem) := match nth L k with
  | .ref x => some ((pc + len, L, .ref x :: st), σ)
  | _ => none
def ldL (len : Nat) (L : List Value) (k : Nat) (pc : Nat) (st : List Value) (σ : Mem) : Option (Frm × Mem) := match nth L k with
  | .long x => some ((pc + len, L, .long x :: st), σ)
  | _ => none
def stI (len : Nat) (L : List Value) (k : Nat) (pc : Nat) (st : List Value) (σ : Mem) : Option (Frm × Mem) := match st with
  | .int x :: r => bif okS L k then some ((pc + len, stL L k (.int x), r), σ) else none
  | _ => none
def stA (len : Nat) (L : List Value) (k : Nat) (pc : Nat) (st : List Value) (σ : Mem) : Option (Frm × Mem) := match st with
  | .ref x :: r => bif okS L k then some ((pc + len, stL L k (.ref x), r), σ) else none
  | _ => none
def xGet (cls cp pc : Nat) (L st : List Value) (σ : Mem) : Option (Frm × Mem) := match st with
  | .ref o :: r => (match asc (fldT cls) cp with
    | some (ci, k) => bif Nat.beq (Kd o).1 ci && Nat.blt o σ.1 then
        (bif isR ci k then (match σ.2.2.1 o k with
          | some q => some ((pc + 3, L, .ref q :: r), σ)
          | none => none)
        else some ((pc + 3, L, .int (σ.2.2.2 o k) :: r), σ)) else none
    | none => none)
  | _ => none
def xPut (cls : Nat) (ini : Bool) (cp pc : Nat) (L st : List Value) (σ : Mem) : Option (Frm × Mem) := match st with
  | .int x :: .ref o :: r => (match asc (fldT cls) cp with
    | some (ci, k) => bif Nat.beq (Kd o).1 ci && Nat.blt o σ.1 && !isR ci k then
        (bif isB ci k then (if x = 0 ∨ x = 1 then some ((pc + 3, L, r), (σ.1, σ.2.1, σ.2.2.1, upN σ.2.2.2 o k x)) else none)
        else some ((pc + 3, L, r), (σ.1, σ.2.1, σ.2.2.1, upN σ.2.2.2 o k x))) else none
    | none => none)
  | .ref q :: .ref o :: r => (match asc (fldT cls) cp with
    | some (ci, k) => bif Nat.beq (Kd o).1 ci && Nat.blt o σ.1 && isR ci k && ini && Nat.beq ci cls then some ((pc + 3, L, r), (σ.1, σ.2.1, upN σ.2.2.1 o k (some q), σ.2.2.2)) else none
    | none => none)
  | _ => none
def xIald (sc : Scr) (pc : Nat) (L st : List Value) (σ : Mem) : Option (Frm × Mem) := match st with
  | .int j :: .ref a :: r => (match Kd a with
    | (10, n) => bif Nat.blt a σ.1 then (if inA j n then some ((pc + 1, L, .int (σ.2.2.2 a j.toNatClampNeg) :: r), σ) else none) else none
    | (20, n) => bif Nat.beq a 5000 then (if inA j n then some ((pc + 1, L, .int (wid j.toNatClampNeg) :: r), σ) else none) else none
    | (21, _) => bif Nat.beq a 5001 && sc.1 then (if inA j sc.2.1 then some ((pc + 1, L, .int (sc.2.2 j.toNatClampNeg) :: r), σ) else none) else none
    | _ => none)
  | _ => none
def xIast (pc : Nat) (L st : List Value) (σ : Mem) : Option (Frm × Mem) := match st with
  | .int x :: .int j :: .ref a :: r => (match Kd a with
    | (10, n) => bif Nat.blt a σ.1 then (if inA j n then some ((pc + 1, L, r), (σ.1, σ.2.1, σ.2.2.1, upN σ.2.2.2 a j.toNatClampNeg x)) else none) else none
    | _ => none)
  | _ => none
def xBald (pc : Nat) (L st : List Value) (σ : Mem) : Option (Frm × Mem) := match st with
  | .int j :: .ref a :: r => (match Kd a with
    | (11, n) => bif Nat.blt a σ.1 then (if inA j n then some ((pc + 1, L, .int (σ.2.2.2 a j.toNatClampNeg) :: r), σ) else none) else none
    | _ => none)
  | _ => none
def xBast (pc : Nat) (L st : List Value) (σ : Mem) : Option (Frm × Mem) := match st with
  | .int x :: .int j :: .ref a :: r => (match Kd a with
    | (11, n) => bif Nat.blt a σ.1 then (if inA j n then (if x = 0 ∨ x = 1 then some ((pc + 1, L, r), (σ.1, σ.2.1, σ.2.2.1, upN σ.2.2.2 a j.toNatClampNeg x)) else none) else none) else none
    | _ => none)
  | _ => none
def xAald (pc : Nat) (L st : List Value) (σ : Mem) : Option (Frm × Mem) := match st with
  | .int j :: .ref a :: r => (match Kd a with
    | (12, n) => bif Nat.blt a σ.1 then (if inA j n then (match σ.2.2.1 a j.toNatClampNeg with
      | some q => some ((pc + 1, L, .ref q :: r), σ)
      | none => none) else none) else none
    | (13, n) => bif Nat.blt a σ.1 then (if inA j n then (match σ.2.2.1 a j.toNatClampNeg with
      | some q => some ((pc + 1, L, .ref q :: r), σ)
      | none => none) else none) else none
    | _ => none)
  | _ => none
def xAast (pc : Nat) (L st : List Value) (σ : Mem) : Option (Frm × Mem) := match st with
  | .ref q :: .int j :: .ref a :: r => (match Kd a with
    | (12, n) => if inA j n then (bif Nat.beq (Kd q).1 5 && Nat.blt q σ.1 && Nat.blt a σ.1 then some ((pc + 1, L, r), (σ.1, σ.2.1, upN σ.2.2.1 a j.toNatClampNeg (some q), σ.2.2.2)) else none) else none
    | _ => none)
  | _ => none
def allB : Nat → (Nat → Bool) → Bool
  | 0, _ => true
  | n + 1, f => f n && allB n f
/-- a fresh object: its planes are empty -/
def zI (f : Nat → Nat → Int32) (o len : Nat) : Bool := allB len (fun j => decide (f o j = 0))
def zR (f : Nat → Nat → Option Nat) (o len : Nat) : Bool := allB len (fun j => (f o j).isNone)
def zO (R : Nat → Nat → Option Nat) (I : Nat → Nat → Int32) (o c : Nat) : Bool := allB (nfs c) (fun k => bif isR c k then (R o k).isNone else decide (I o k = 0))
def xNew (cls cp pc : Nat) (L st : List Value) (σ : Mem) : Option (Frm × Mem) := match asc (clT cls) cp with
  | some ci => bif Nat.blt ci 8 && Nat.beq (Kd σ.1).1 ci && Nat.blt σ.1 4000 && zO σ.2.2.1 σ.2.2.2 σ.1 ci then some ((pc + 3, L, .ref σ.1 :: st), (σ.1 + 1, σ.2.1 + nfs ci, σ.2.2.1, σ.2.2.2)) else none
  | none => none
def xNewa (kd len : Nat) (pc : Nat) (L st : List Value) (σ : Mem) : Option (Frm × Mem) := match st with
  | .int c :: r => if 0 ≤ c then (bif Nat.beq (Kd σ.1).1 kd && Nat.beq (Kd σ.1).2 c.toNatClampNeg && Nat.blt σ.1 4000 && Nat.blt c.toNatClampNeg 10000 && (bif Nat.beq kd 12 then zR σ.2.2.1 σ.1 c.toNatClampNeg else zI σ.2.2.2 σ.1 c.toNatClampNeg) then some ((pc + len, L, .ref σ.1 :: r), (σ.1 + 1, σ.2.1 + c.toNatClampNeg, σ.2.2.1, σ.2.2.2)) else none) else none
  | _ => none
/-- the rows of an int[n][k] are the next n objects -/
def rowsOk (I : Nat → Nat → Int32) (k o : Nat) : Nat → Bool
  | 0 => true
  | n + 1 => Nat.beq (Kd (o + n)).1 10 && Nat.beq (Kd (o + n)).2 k && zI I (o + n) k && rowsOk I k o n
def frRn (f : Nat → Nat → Option Nat) (n k : Nat) : Nat → Nat → Option Nat := fun a b => bif Nat.beq a n then (bif Nat.blt b k then some (n + 1 + b) else none) else f a b
def xMulti (pc : Nat) (L st : List Value) (σ : Mem) : Option (Frm × Mem) := match st with
  | .int k :: .int n :: r => if 0 ≤ k ∧ 0 ≤ n then (bif Nat.beq (Kd σ.1).1 13 && Nat.beq (Kd σ.1).2 n.toNatClampNeg && rowsOk σ.2.2.2 k.toNatClampNeg (σ.1 + 1) n.toNatClampNeg && Nat.blt (σ.1 + n.toNatClampNeg) 4000 && Nat.blt k.toNatClampNeg 10000 then
      some ((pc + 4, L, .ref σ.1 :: r), (σ.1 + (1 + n.toNatClampNeg), σ.2.1 + (n.toNatClampNeg + n.toNatClampNeg * k.toNatClampNeg), frRn σ.2.2.1 σ.1 n.toNatClampNeg, σ.2.2.2)) else none) else none
  | _ => none
def cpy (f : Nat → Nat → Int32) (a b sp dp n : Nat) : Nat → Nat → Int32 := fun o k => bif Nat.beq o b then (if dp ≤ k ∧ k < dp + n then f a (sp + (k - dp)) else f b k) else f o k
/-- calls that are no calls of ours: Object(), System.arraycopy -/
def xObj (cls cp pc : Nat) (L st : List Value) (σ : Mem) : Option (Frm × Mem) := match asc (mthT cls) cp with
  | some (t, fl) => bif Nat.beq t 900 && !fl then (match st with
      | .ref _ :: r => bif Nat.ble r.length 4 then some ((pc + 3, L, r), σ) else none
      | _ => none) else none
  | none => none
def xCopy (cls cp pc : Nat) (L st : List Value) (σ : Mem) : Option (Frm × Mem) := match asc (mthT cls) cp with
  | some (t, fl) => bif Nat.beq t 901 && !fl then (match st with
      | [.int n, .int dp, .ref b, .int sp, .ref a] => (match Kd a, Kd b with
        | (10, na), (10, nb) => bif Nat.blt a σ.1 && Nat.blt b σ.1 then (if ¬ sp < 0 ∧ ¬ dp < 0 ∧ ¬ n < 0 ∧ sp.toNatClampNeg + n.toNatClampNeg ≤ na ∧ dp.toNatClampNeg + n.toNatClampNeg ≤ nb then
            some ((pc + 3, L, []), (σ.1, σ.2.1, σ.2.2.1, cpy σ.2.2.2 a b sp.toNatClampNeg dp.toNatClampNeg n.toNatClampNeg)) else none) else none
        | _, _ => none)
      | _ => none) else none
  | none => none
/-- one step of an instruction that is no call of ours and no return -/
def stp (cls : Nat) (ini : Bool) (sc : Scr) (ins : Instr) (pc : Nat) (L st : List Value) (σ : Mem) : Option (Frm × Mem) := match ins with
  | .aload_n k => ldA 1 L k pc st σ
  | .aload k => ldA 2 L k pc st σ
  | .iload_n k => ldI 1 L k pc st σ
  | .iload k => ldI 2 L k pc st σ
  | .lload_n k => ldL 1 L k pc st σ
  | .lload k => ldL 2 L k pc st σ
  | .istore_n k => stI 1 L k pc st σ
  | .istore k => stI 2 L k pc st σ
  | .astore_n k => stA 1 L k pc st σ
  | .iconst n => some ((pc + 1, L, .int (i32 n) :: st), σ)
  | .bipush n => some ((pc + 2, L, .int (i32 n) :: st), σ)
  | .sipush n => some ((pc + 3, L, .int (i32 n) :: st), σ)
  | .lconst n => some ((pc + 1, L, .long (Int64.ofNat n) :: st), σ)
  | .ldc k => (match asc (cstT cls) k with
    | some v => some ((pc + 2, L, .int v :: st), σ)
    | none => none)
  | .ldc_w k => (match asc (cstT cls) k with
    | some v => some ((pc + 3, L, .int v :: st), σ)
    | none => none)
  | .ldc2_w k => (match asc (cslT cls) k with
    | some v => some ((pc + 3, L, .long v :: st), σ)
    | none => none)
  | .iadd => bin (fun x y => x + y) pc L st σ
  | .isub => bin (fun x y => x - y) pc L st σ
  | .imul => bin (fun x y => x * y) pc L st σ
  | .iand => bin (fun x y => x &&& y) pc L st σ
  | .ior => bin (fun x y => x ||| y) pc L st σ
  | .ixor => bin (fun x y => x ^^^ y) pc L st σ
  | .ishl => bin (fun x y => x <<< (y &&& 31)) pc L st σ
  | .ishr => bin (fun x y => x >>> (y &&& 31)) pc L st σ
  | .iushr => bin (fun x y => (x.toUInt32 >>> (y.toUInt32 &&& Int32.toUInt32 31)).toInt32) pc L st σ
  | .idiv => (match st with
    | .int y :: .int x :: r => if y = 0 then none else some ((pc + 1, L, .int (x / y) :: r), σ)
    | _ => none)
  | .irem => (match st with
    | .int y :: .int x :: r => if y = 0 then none else some ((pc + 1, L, .int (x - x / y * y) :: r), σ)
    | _ => none)
  | .ineg => una (fun x => -x) pc L st σ
  | .i2b => una (fun x => x.toInt8.toInt32) pc L st σ
  | .i2s => una (fun x => x.toInt16.toInt32) pc L st σ
  | .i2l => (match st with
    | .int x :: r => some ((pc + 1, L, .long x.toInt64 :: r), σ)
    | _ => none)
  | .ladd => (match st with
    | .long y :: .long x :: r => some ((pc + 1, L, .long (x + y) :: r), σ)
    | _ => none)
  | .lcmp => (match st with
    | .long y :: .long x :: r => some ((pc + 1, L, .int (lg_cmp x y) :: r), σ)
    | _ => none)
  | .iinc k n => (match nth L k with
    | .int x => bif okS L k then some ((pc + 3, stL L k (.int (x + i32 n)), st), σ) else none
    | _ => none)
  | .dup => (match st with
    | v :: r => bif isLg v then none else some ((pc + 1, L, v :: v :: r), σ)
    | _ => none)
  | .dup2 => (match st with
    | v :: w :: r => bif isLg v || isLg w then none else some ((pc + 1, L, v :: w :: v :: w :: r), σ)
    | _ => none)
  | .goto off => jm pc off L st σ
  | .ifCond c off => (match st with
    | .int x :: r => (match c with
      | .eq => jc (x = 0) pc off L r σ
      | .ne => jc (¬ x = 0) pc off L r σ
      | .lt => jc (x < 0) pc off L r σ
      | .ge => jc (0 ≤ x) pc off L r σ
      | .gt => jc (0 < x) pc off L r σ
      | .le => jc (x ≤ 0) pc off L r σ)
    | _ => none)
  | .if_icmp c off => (match st with
    | .int y :: .int x :: r => (match c with
      | .eq => jc (x = y) pc off L r σ
      | .ne => jc (¬ x = y) pc off L r σ
      | .lt => jc (x < y) pc off L r σ
      | .ge => jc (y ≤ x) pc off L r σ
      | .gt => jc (y < x) pc off L r σ
      | .le => jc (x ≤ y) pc off L r σ)
    | _ => none)
  | .tableswitch dflt lo hi offs => (match st with
    | .int x :: r => if x.toInt < lo ∨ hi < x.toInt then jm pc dflt L r σ else (match offs[(x.toInt - lo).toNat]? with
      | some off => jm pc off L r σ
      | none => none)
    | _ => none)
  | .lookupswitch dflt ps => (match st with
    | .int x :: r => jm pc (Op.lookupswitch.offset ps.toList dflt x.toInt) L r σ
    | _ => none)
  | .getfield k => xGet cls k pc L st σ
  | .putfield k => xPut cls ini k pc L st σ
  | .getstatic k => bif Nat.beq cls 6 && Nat.beq k widerCp then some ((pc + 3, L, .ref 5000 :: st), σ) else none
  | .iaload => xIald sc pc L st σ
  | .iastore => xIast pc L st σ
  | .baload => xBald pc L st σ
  | .bastore => xBast pc L st σ
  | .aaload => xAald pc L st σ
  | .aastore => xAast pc L st σ
  | .arraylength => (match st with
    | .ref a :: r => bif Nat.beq a 5001 && sc.1 then some ((pc + 1, L, .int (Int32.ofNat sc.2.1) :: r), σ) else none
    | _ => none)
  | .new k => xNew cls k pc L st σ
  | .newarray t => (match t with
    | .int => xNewa 10 2 pc L st σ
    | .boolean => xNewa 11 2 pc L st σ
    | _ => none)
  | .anewarray k => (match asc (clT cls) k with
    | some 5 => xNewa 12 3 pc L st σ
    | _ => none)
  | .multianewarray k d => bif Nat.beq d 2 then (match asc (clT cls) k with
    | some 13 => xMulti pc L st σ
    | _ => none) else none
  | .invokespecial k => xObj cls k pc L st σ
  | .invokestatic k => xCopy cls k pc L st σ
  | _ => none
/-- a call of ours: the method, its arguments, the stack that stays -/
def takeA : Nat → List Value → List Value → Option (List Value × List Value)
  | 0, st, acc => some (acc, st)
  | n + 1, v :: st, acc => takeA n st (v :: acc)
  | _ + 1, [], _ => none
/-- is it the receiver of a method of this class -/
def isRecv (n c : Nat) : Value → Bool
  | .ref o => Nat.beq (Kd o).1 c && Nat.blt o n
  | _ => false
def cal (nn cls : Nat) (ins : Instr) (st : List Value) : Option (Nat × List Value × List Value) := match ins with
  | .invokestatic k => (match asc (mthT cls) k with
    | some (t, _) => (match asc mT t with
      | some e => bif e.2.2.2.2.2.2.1 then (match takeA e.2.2.2.2.2.1 st [] with
        | some (as, r) => bif Nat.ble r.length 4 then some (t, as, r) else none
        | none => none) else none
      | none => none)
    | none => none)
  | .invokevirtual k => (match asc (mthT cls) k with
    | some (t, _) => (match asc mT t with
      | some e => bif !e.2.2.2.2.2.2.1 && !e.2.2.2.2.2.2.2 then (match takeA e.2.2.2.2.2.1 st [] with
        | some (as, v :: r) => bif isRecv nn e.1 v && Nat.ble r.length 4 then some (t, v :: as, r) else none
        | _ => none) else none
      | none => none)
    | none => none)
  | .invokespecial k => (match asc (mthT cls) k with
    | some (t, _) => (match asc mT t with
      | some e => bif !e.2.2.2.2.2.2.1 && e.2.2.2.2.2.2.2 then (match takeA e.2.2.2.2.2.1 st [] with
        | some (as, v :: r) => bif isRecv nn e.1 v && Nat.ble r.length 4 then some (t, v :: as, r) else none
        | _ => none) else none
      | none => none)
    | none => none)
  | _ => none
def rtn (ret : Option FieldType) (ins : Instr) (st : List Value) : Option (Option Value) := match ins with
  | .ireturn => (match st with
    | [.int v] => (match ret with
      | some .int => some (some (.int v))
      | some .boolean => if v = 0 ∨ v = 1 then some (some (.int v)) else none
      | _ => none)
    | _ => none)
  | .areturn => (match st with
    | [.ref v] => (match ret with
      | some (.object _) => some (some (.ref v))
      | _ => none)
    | _ => none)
  | .return_ => (match st with
    | [] => (match ret with
      | none => some none
      | _ => none)
    | _ => none)
  | _ => none
def mle (σ σ1 : Mem) : Bool := Nat.ble σ.1 σ1.1 && Nat.ble σ.2.1 σ1.2.1
/-- what a run of at most n steps within one frame comes to -/
def Go (call : Nat → List Value → Mem → Option Value → Mem → Prop) (mi cls : Nat) (ini : Bool) (ret : Option FieldType) (sc : Scr) : Nat → Nat → List Value → List Value → Mem → Option Value → Mem → Prop
  | 0, _, _, _, _, _, _ => False
  | n + 1, pc, L, st, σ, r, σ' => ∃ q, asc (cdT mi) pc = some q ∧
      ((∃ F σ1, stp cls ini sc q.1 pc L st σ = some (F, σ1) ∧ mle σ σ1 = true ∧ Go call mi cls ini ret sc n F.1 F.2.1 F.2.2 σ1 r σ') ∨
       (rtn ret q.1 st = some r ∧ σ' = σ) ∨
       (∃ t as rest v σ1, cal σ.1 cls q.1 st = some (t, as, rest) ∧ call t as σ v σ1 ∧ mle σ σ1 = true ∧ Go call mi cls ini ret sc n (pc + 3) L (v.toList ++ rest) σ1 r σ'))
/-- the locals at a method's entry -/
def entL : List Value → List Value
  | [] => []
  | v :: vs => bif isLg v then v :: UU :: entL vs else v :: entL vs
def padL (n : Nat) (L : List Value) : List Value := L ++ List.replicate (n - L.length) UU
/-- the method t, called with these arguments over this memory, with calls at most d deep, returns r over that memory -/
def Ev : Nat → Nat → List Value → Mem → Option Value → Mem → Prop
  | 0, _, _, _, _, _ => False
  | d + 1, t, as, σ, r, σ' => ∃ e, asc mT t = some e ∧ Nat.ble (entL as).length e.2.2.2.1 = true ∧
      ∃ n, Go (Ev d) t e.1 e.2.2.2.2.2.2.2 e.2.2.2.2.1 sc0 n 0 (padL e.2.2.2.1 (entL as)) [] σ r σ'
