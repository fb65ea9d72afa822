/-! AN ABSTRACT MACHINE: the whole system's cells by numbers, its memory two functions; one step of it, and runs of steps -/
abbrev Mem : Type := (Nat → Nat → Int32) × (Nat → Nat → Int64)
def sI (M : Mem) (k j : Nat) (x : Int32) : Mem := (fun a b => if a = k then (if b = j then x else M.1 a b) else M.1 a b, M.2)
def sL (M : Mem) (k j : Nat) (x : Int64) : Mem := (M.1, fun a b => if a = k then (if b = j then x else M.2 a b) else M.2 a b)
/-- the cells: an object (its class's number, its slots' types: 0 int, 1 long, t + 2 a reference to cell t) or an array (0 int, 1 long, 2 boolean; its length) -/
def LAY : List ((Nat × List Nat) ⊕ (Nat × Nat)) := [
  .inl (5, [4, 3, 0, 6, 14, 16, 19]), .inr (1, 30), .inl (1, [0, 0, 0, 1, 1, 1, 5]), .inr (0, 36),
  .inl (2, [7, 8, 9, 10, 11, 12, 13, 0, 0, 0]), .inr (0, 6), .inr (0, 6), .inr (0, 6), .inr (0, 6), .inr (0, 56), .inr (0, 56), .inr (0, 36),
  .inl (0, [15]), .inr (0, 1024), .inl (3, [17, 18, 0]), .inr (0, 12), .inr (0, 4096), .inl (4, [0, 0, 20]), .inr (0, 36)]
abbrev Res : Type := Option Value ⊕ String
abbrev Fn : Type := List Value → Mem → Option (Res × Mem)
abbrev St : Type := Nat × List (Option Value) × List Value × Mem × Nat
abbrev Ou : Type := Res × Mem × Nat
def lk {α : Type} : List (Nat × α) → Nat → Option α
  | [], _ => none
  | a :: r, k => bif Nat.beq a.1 k then some a.2 else lk r k
theorem lk_mem {α : Type} : ∀ {l : List (Nat × α)} {k : Nat} {v : α}, lk l k = some v → (k, v) ∈ l
  | a :: r, k, v, h => by
    unfold lk at h
    cases e : Nat.beq a.1 k with
    | true =>
      rw [e] at h
      have h1 := Nat.eq_of_beq_eq_true e
      have h2 : a.2 = v := Option.some.inj h
      exact List.mem_cons.mpr (Or.inl (by rw [← h1, ← h2]))
    | false =>
      rw [e] at h
      exact List.mem_cons_of_mem _ (lk_mem h)
/-- a call: kind (0 static, 1 static of a nest mate, 2 virtual, 3 virtual of a nest mate), the receiver's class number, how many values, cells, what it does -/
abbrev CallE : Type := Nat × Nat × Nat × Nat × Fn
/-- the machine's own tables for a method: code, cells at hand, fields, calls, ints, longs, classes thrown, handlers, the script's length and values, the kind of answer -/
abbrev Cfg : Type := List (Nat × Instr × Nat) × List Nat × List (Nat × Nat × Nat) × List (Nat × CallE) × List (Nat × Int32) × List (Nat × Int64) × List (Nat × String × Nat × Nat × Nat × String) × List (Nat × Nat × Nat × Nat × String) × Option (Nat × (Nat → Int32)) × Option FieldType × Nat
abbrev Cfg.code (C : Cfg) := C.1
abbrev Cfg.cs (C : Cfg) := C.2.1
abbrev Cfg.fld (C : Cfg) := C.2.2.1
abbrev Cfg.calls (C : Cfg) := C.2.2.2.1
abbrev Cfg.ints (C : Cfg) := C.2.2.2.2.1
abbrev Cfg.longs (C : Cfg) := C.2.2.2.2.2.1
abbrev Cfg.excs (C : Cfg) := C.2.2.2.2.2.2.1
abbrev Cfg.hs (C : Cfg) := C.2.2.2.2.2.2.2.1
abbrev Cfg.scr (C : Cfg) := C.2.2.2.2.2.2.2.2.1
abbrev Cfg.ret (C : Cfg) := C.2.2.2.2.2.2.2.2.2.1
abbrev Cfg.cap (C : Cfg) := C.2.2.2.2.2.2.2.2.2.2
def inb (i : Int32) (n : Nat) : Bool := decide (0 ≤ i.toInt) && decide (i.toInt < n)
def ix (i : Int32) : Nat := i.toNatClampNeg
def clr1 (lo : List (Option Value)) (i : Nat) : List (Option Value) := match i with
  | 0 => lo
  | j + 1 => match lo[j]? with
    | some (some (.long _)) => lo.set j none
    | some (some (.double _)) => lo.set j none
    | _ => lo
def st1 (lo : List (Option Value)) (i : Nat) (v : Value) : List (Option Value) := (clr1 lo i).set i (some v)
def st2 (lo : List (Option Value)) (i : Nat) (v : Value) : List (Option Value) := ((clr1 lo i).set i (some v)).set (i + 1) none
def tgt (pc : Nat) (off : Int) : Nat := (Int.ofNat pc + off).toNat
def tgtok (pc : Nat) (off : Int) : Bool := decide (0 ≤ Int.ofNat pc + off)
def br (b : Bool) (pc n : Nat) (off : Int) : Nat := bif b then tgt pc off else pc + n
def nrw (ty : FieldType) (x : Int32) : Int32 := match ty with
  | .boolean => x &&& 1
  | _ => x
def catS (st : List Value) : Nat := (st.map fun v => v.category).sum
def tsw (pc : Nat) (dflt lo hi : Int) (offs : Array Int) (x : Int32) : Option Nat :=
  if x.toInt < lo ∨ hi < x.toInt then (if 0 ≤ Int.ofNat pc + dflt then some (tgt pc dflt) else none)
  else match offs[(x.toInt - lo).toNat]? with
    | some off => if 0 ≤ Int.ofNat pc + off then some (tgt pc off) else none
    | none => none
abbrev nx (pc : Nat) (lo : List (Option Value)) (st : List Value) (M : Mem) (k : Nat) : Option (St ⊕ Ou) := some (.inl (pc, lo, st, M, k))
/-- where an exception of the class E that rises at pc is caught: the code there lays it by and answers a number -/
def hnd (C : Cfg) (nL pc : Nat) (E : String) : List (Nat × Nat × Nat × Nat × String) → Option (Option Value)
  | [] => some none
  | h :: r => bif Nat.ble h.1 pc && Nat.blt pc h.2.1 && decide (h.2.2.2.2 = E) then
      (match C.ret, lk C.code h.2.2.1 with
       | some .long, some (.astore i, 2) => (match lk C.code (h.2.2.1 + 2), lk C.code (h.2.2.1 + 5) with
         | some (.ldc2_w j, 3), some (.lreturn, 1) => (match lk C.longs j with
           | some v => bif Nat.blt i nL then some (some (.long v)) else none
           | none => none)
         | _, _ => none)
       | _, _ => none)
    else hnd C nL pc E r
/-- is the receiver a cell at hand, of the class -/
def rcv (cs : List Nat) (mk ci : Nat) (av : List Value) : Bool := match mk with
  | 0 => true
  | _ => (match av with
    | .ref b :: _ => (match LAY[b]? with
      | some (.inl (c', _)) => Nat.beq c' ci && cs.contains b
      | _ => false)
    | _ => false)
def doCall (C : Cfg) (mk : Nat) (e : CallE) (pc : Nat) (lo : List (Option Value)) (st : List Value) (M : Mem) (k : Nat) : Option (St ⊕ Ou) :=
  bif Nat.ble e.2.2.1 st.length && Nat.ble (catS (st.drop e.2.2.1)) 8 && Nat.beq (e.1 / 2) mk && Nat.ble (k + e.2.2.2.1) C.cap then
    bif rcv C.cs mk e.2.1 (st.take e.2.2.1).reverse then
      (match e.2.2.2.2 (st.take e.2.2.1).reverse M with
       | some (.inl v, M') => nx (pc + 3) lo (v.toList ++ st.drop e.2.2.1) M' (k + e.2.2.2.1)
       | some (.inr E, M') => (match C.hs with
         | [] => some (.inr (.inr E, M', k + e.2.2.2.1))
         | h :: hr => (match hnd C lo.length pc E (h :: hr) with
           | some (some r) => some (.inr (.inl (some r), M', k + e.2.2.2.1))
           | _ => none))
       | none => none)
    else none
  else none
def xi (C : Cfg) (pc : Nat) (lo : List (Option Value)) (st : List Value) (M : Mem) (k : Nat) (n : Nat) : Instr → Option (St ⊕ Ou)
  | .iconst v => nx (pc + n) lo (.int (Int32.ofInt v) :: st) M k
  | .bipush v => nx (pc + n) lo (.int (Int8.ofInt v).toInt32 :: st) M k
  | .sipush v => nx (pc + n) lo (.int (Int16.ofInt v).toInt32 :: st) M k
  | .lconst v => nx (pc + n) lo (.long (Int64.ofNat (v : Nat)) :: st) M k
  | .ldc i => (match lk C.ints i with | some x => nx (pc + n) lo (.int x :: st) M k | none => none)
  | .ldc_w i => (match lk C.ints i with | some x => nx (pc + n) lo (.int x :: st) M k | none => none)
  | .ldc2_w i => (match lk C.longs i with | some x => nx (pc + n) lo (.long x :: st) M k | none => none)
  | .iload_n i => (match lo[(i : Nat)]? with | some (some (.int x)) => nx (pc + n) lo (.int x :: st) M k | _ => none)
  | .iload i => (match lo[i]? with | some (some (.int x)) => nx (pc + n) lo (.int x :: st) M k | _ => none)
  | .lload_n i => (match lo[(i : Nat)]? with | some (some (.long x)) => nx (pc + n) lo (.long x :: st) M k | _ => none)
  | .lload i => (match lo[i]? with | some (some (.long x)) => nx (pc + n) lo (.long x :: st) M k | _ => none)
  | .aload_n i => (match lo[(i : Nat)]? with | some (some (.ref x)) => nx (pc + n) lo (.ref x :: st) M k | _ => none)
  | .aload i => (match lo[i]? with | some (some (.ref x)) => nx (pc + n) lo (.ref x :: st) M k | _ => none)
  | .istore_n i => (match st with | .int x :: r => (bif Nat.blt i lo.length then nx (pc + n) (st1 lo i (.int x)) r M k else none) | _ => none)
  | .istore i => (match st with | .int x :: r => (bif Nat.blt i lo.length then nx (pc + n) (st1 lo i (.int x)) r M k else none) | _ => none)
  | .astore_n i => (match st with | .ref x :: r => (bif Nat.blt i lo.length then nx (pc + n) (st1 lo i (.ref x)) r M k else none) | _ => none)
  | .astore i => (match st with | .ref x :: r => (bif Nat.blt i lo.length then nx (pc + n) (st1 lo i (.ref x)) r M k else none) | _ => none)
  | .lstore_n i => (match st with | .long x :: r => (bif Nat.blt (i + 1) lo.length then nx (pc + n) (st2 lo i (.long x)) r M k else none) | _ => none)
  | .lstore i => (match st with | .long x :: r => (bif Nat.blt (i + 1) lo.length then nx (pc + n) (st2 lo i (.long x)) r M k else none) | _ => none)
  | .iinc i v => (match lo[i]? with | some (some (.int x)) => nx (pc + n) (st1 lo i (.int (x + Int32.ofInt v))) st M k | _ => none)
  | .iadd => (match st with | .int y :: .int x :: r => nx (pc + n) lo (.int (x + y) :: r) M k | _ => none)
  | .isub => (match st with | .int y :: .int x :: r => nx (pc + n) lo (.int (x - y) :: r) M k | _ => none)
  | .ineg => (match st with | .int x :: r => nx (pc + n) lo (.int (-x) :: r) M k | _ => none)
  | .imul => (match st with | .int y :: .int x :: r => nx (pc + n) lo (.int (x * y) :: r) M k | _ => none)
  | .iand => (match st with | .int y :: .int x :: r => nx (pc + n) lo (.int (x &&& y) :: r) M k | _ => none)
  | .ior => (match st with | .int y :: .int x :: r => nx (pc + n) lo (.int (x ||| y) :: r) M k | _ => none)
  | .ixor => (match st with | .int y :: .int x :: r => nx (pc + n) lo (.int (x ^^^ y) :: r) M k | _ => none)
  | .ishl => (match st with | .int y :: .int x :: r => nx (pc + n) lo (.int (x <<< (y &&& 31)) :: r) M k | _ => none)
  | .iushr => (match st with | .int y :: .int x :: r => nx (pc + n) lo (.int (x.toUInt32 >>> (y.toUInt32 &&& Int32.toUInt32 31)).toInt32 :: r) M k | _ => none)
  | .idiv => (match st with | .int y :: .int x :: r => if y = 0 then none else nx (pc + n) lo (.int (x / y) :: r) M k | _ => none)
  | .irem => (match st with | .int y :: .int x :: r => if y = 0 then none else nx (pc + n) lo (.int (x - x / y * y) :: r) M k | _ => none)
  | .ladd => (match st with | .long y :: .long x :: r => nx (pc + n) lo (.long (x + y) :: r) M k | _ => none)
  | .lsub => (match st with | .long y :: .long x :: r => nx (pc + n) lo (.long (x - y) :: r) M k | _ => none)
  | .lmul => (match st with | .long y :: .long x :: r => nx (pc + n) lo (.long (x * y) :: r) M k | _ => none)
  | .land => (match st with | .long y :: .long x :: r => nx (pc + n) lo (.long (x &&& y) :: r) M k | _ => none)
  | .lor => (match st with | .long y :: .long x :: r => nx (pc + n) lo (.long (x ||| y) :: r) M k | _ => none)
  | .lxor => (match st with | .long y :: .long x :: r => nx (pc + n) lo (.long (x ^^^ y) :: r) M k | _ => none)
  | .lshl => (match st with | .int y :: .long x :: r => nx (pc + n) lo (.long (x <<< (y.toInt64 &&& 63)) :: r) M k | _ => none)
  | .lushr => (match st with | .int y :: .long x :: r => nx (pc + n) lo (.long (x.toUInt64 >>> (y.toInt64.toUInt64 &&& Int64.toUInt64 63)).toInt64 :: r) M k | _ => none)
  | .lrem => (match st with | .long y :: .long x :: r => if y = 0 then none else nx (pc + n) lo (.long (x - x / y * y) :: r) M k | _ => none)
  | .lcmp => (match st with | .long y :: .long x :: r => nx (pc + n) lo (.int (lg_cmp x y) :: r) M k | _ => none)
  | .i2l => (match st with | .int x :: r => nx (pc + n) lo (.long x.toInt64 :: r) M k | _ => none)
  | .l2i => (match st with | .long x :: r => nx (pc + n) lo (.int x.toInt32 :: r) M k | _ => none)
  | .dup => (match st with
    | .int x :: r => nx (pc + n) lo (.int x :: .int x :: r) M k
    | .ref x :: r => nx (pc + n) lo (.ref x :: .ref x :: r) M k
    | _ => none)
  | .dup2 => (match st with
    | .int y :: .ref x :: r => nx (pc + n) lo (.int y :: .ref x :: .int y :: .ref x :: r) M k
    | _ => none)
  | .goto off => bif tgtok pc off then nx (tgt pc off) lo st M k else none
  | .ifCond op off => (match st with
    | .int x :: r => bif tgtok pc off then
      (match op with
       | .eq => nx (br (decide (x = 0)) pc n off) lo r M k
       | .ne => nx (br (!decide (x = 0)) pc n off) lo r M k
       | .lt => nx (br (decide (x < 0)) pc n off) lo r M k
       | .ge => nx (br (!decide (x < 0)) pc n off) lo r M k
       | .gt => nx (br (!decide (x ≤ 0)) pc n off) lo r M k
       | .le => nx (br (decide (x ≤ 0)) pc n off) lo r M k) else none
    | _ => none)
  | .if_icmp op off => (match st with
    | .int y :: .int x :: r => bif tgtok pc off then
      (match op with
       | .eq => nx (br (decide (x = y)) pc n off) lo r M k
       | .ne => nx (br (!decide (x = y)) pc n off) lo r M k
       | .lt => nx (br (decide (x < y)) pc n off) lo r M k
       | .ge => nx (br (!decide (x < y)) pc n off) lo r M k
       | .gt => nx (br (!decide (x ≤ y)) pc n off) lo r M k
       | .le => nx (br (decide (x ≤ y)) pc n off) lo r M k) else none
    | _ => none)
  | .tableswitch dflt l h offs => (match st with
    | .int x :: r => (match tsw pc dflt l h offs x with | some t => nx t lo r M k | none => none)
    | _ => none)
  | .getfield i => (match st with
    | .ref a :: r => (match lk C.fld i with
      | some (c, j) => bif Nat.beq a c && C.cs.contains c then
        (match LAY[c]? with
         | some (.inl (_, tys)) => (match tys[j]? with
           | some 0 => nx (pc + n) lo (.int (M.1 c j) :: r) M k
           | some 1 => nx (pc + n) lo (.long (M.2 c j) :: r) M k
           | some (t + 2) => nx (pc + n) lo (.ref t :: r) M k
           | none => none)
         | _ => none) else none
      | none => none)
    | _ => none)
  | .putfield i => (match st with
    | .int x :: .ref a :: r => (match lk C.fld i with
      | some (c, j) => bif Nat.beq a c && C.cs.contains c then
        (match LAY[c]? with
         | some (.inl (_, tys)) => (match tys[j]? with
           | some 0 => nx (pc + n) lo r (sI M c j x) k
           | _ => none)
         | _ => none) else none
      | none => none)
    | .long x :: .ref a :: r => (match lk C.fld i with
      | some (c, j) => bif Nat.beq a c && C.cs.contains c then
        (match LAY[c]? with
         | some (.inl (_, tys)) => (match tys[j]? with
           | some 1 => nx (pc + n) lo r (sL M c j x) k
           | _ => none)
         | _ => none) else none
      | none => none)
    | _ => none)
  | .iaload => (match st with
    | .int i :: .ref a :: r => bif Nat.beq a 30 then
        (match C.scr with
         | some (L, xs) => if inb i L = true then nx (pc + n) lo (.int (xs (ix i)) :: r) M k else none
         | none => none)
      else (match LAY[a]? with
        | some (.inr (0, len)) => bif C.cs.contains a then (if inb i len = true then nx (pc + n) lo (.int (M.1 a (ix i)) :: r) M k else none) else none
        | _ => none)
    | _ => none)
  | .laload => (match st with
    | .int i :: .ref a :: r => (match LAY[a]? with
        | some (.inr (1, len)) => bif C.cs.contains a then (if inb i len = true then nx (pc + n) lo (.long (M.2 a (ix i)) :: r) M k else none) else none
        | _ => none)
    | _ => none)
  | .iastore => (match st with
    | .int x :: .int i :: .ref a :: r => (match LAY[a]? with
        | some (.inr (0, len)) => bif C.cs.contains a then (if inb i len = true then nx (pc + n) lo r (sI M a (ix i) x) k else none) else none
        | _ => none)
    | _ => none)
  | .lastore => (match st with
    | .long x :: .int i :: .ref a :: r => (match LAY[a]? with
        | some (.inr (1, len)) => bif C.cs.contains a then (if inb i len = true then nx (pc + n) lo r (sL M a (ix i) x) k else none) else none
        | _ => none)
    | _ => none)
  | .arraylength => (match st with
    | .ref a :: r => bif Nat.beq a 30 then
        (match C.scr with
         | some (L, _) => nx (pc + n) lo (.int (Int32.ofNat L) :: r) M k
         | none => none)
      else (match LAY[a]? with
        | some (.inr (_, len)) => bif C.cs.contains a then nx (pc + n) lo (.int (Int32.ofNat len) :: r) M k else none
        | _ => none)
    | _ => none)
  | .invokestatic i => (match lk C.calls i with | some e => doCall C 0 e pc lo st M k | none => none)
  | .invokevirtual i => (match lk C.calls i with | some e => doCall C 1 e pc lo st M k | none => none)
  | .new i => (match lk C.excs pc, C.hs with
    | some (E, ik, is, ic, _), [] => bif Nat.beq i ik && Nat.ble (k + 1) C.cap && Nat.ble (catS st) 8 then
      (match lk C.code (pc + 3), lk C.code (pc + 4) with
       | some (.dup, 1), some (.ldc j, 2) => (match lk C.code (pc + 6), lk C.code (pc + 9) with
         | some (.invokespecial z, 3), some (.athrow, 1) => bif Nat.beq j is && Nat.beq z ic then some (.inr (.inr E, M, k + 1)) else none
         | _, _ => none)
       | some (.dup, 1), some (.ldc_w j, 3) => (match lk C.code (pc + 7), lk C.code (pc + 10) with
         | some (.invokespecial z, 3), some (.athrow, 1) => bif Nat.beq j is && Nat.beq z ic then some (.inr (.inr E, M, k + 1)) else none
         | _, _ => none)
       | _, _ => none) else none
    | _, _ => none)
  | .ireturn => (match st, C.ret with
    | [.int x], some ty => (match ty with
      | .int => some (.inr (.inl (some (.int x)), M, k))
      | .boolean => some (.inr (.inl (some (.int (x &&& 1))), M, k))
      | _ => none)
    | _, _ => none)
  | .lreturn => (match st, C.ret with
    | [.long x], some .long => some (.inr (.inl (some (.long x)), M, k))
    | _, _ => none)
  | .return_ => (match st, C.ret with
    | [], none => some (.inr (.inl none, M, k))
    | _, _ => none)
  | _ => none
/-- how long an instruction is; 0: any length -/
def ilen : Instr → Nat
  | .bipush _ | .ldc _ | .iload _ | .lload _ | .aload _ | .istore _ | .lstore _ | .astore _ => 2
  | .sipush _ | .ldc_w _ | .ldc2_w _ | .iinc _ _ | .goto _ | .ifCond _ _ | .if_icmp _ _ | .getfield _ | .putfield _ | .invokestatic _ | .invokevirtual _ | .new _ => 3
  | .tableswitch _ _ _ _ => 0
  | _ => 1
def lenok (q n : Nat) : Bool := match q with
  | 0 => true
  | q + 1 => Nat.beq (q + 1) n
def stp (C : Cfg) (x : St) : Option (St ⊕ Ou) := match lk C.code x.1 with
  | some (i, n) => bif lenok (ilen i) n && Nat.ble x.2.2.2.2 C.cap then xi C x.1 x.2.1 x.2.2.1 x.2.2.2.1 x.2.2.2.2 n i else none
  | none => none
def run (C : Cfg) : Nat → St → Option (St ⊕ Ou)
  | 0, x => some (.inl x)
  | n + 1, x => match stp C x with
    | some (.inl y) => run C n y
    | r => r
/-- some locals are not looked at any more -/
def fgt (is : List Nat) (lo : List (Option Value)) : List (Option Value) := is.foldl (fun l i => l.set i none) lo
/-- runs of steps, with locals forgotten between them -/
def runA (C : Cfg) : List (Nat ⊕ List Nat) → St → Option (St ⊕ Ou)
  | [], x => some (.inl x)
  | .inl n :: r, x => match run C n x with
    | some (.inl y) => runA C r y
    | z => z
  | .inr is :: r, x => runA C r (x.1, fgt is x.2.1, x.2.2)
/-- from x the machine comes to y -/
def Rto (C : Cfg) (x y : St) : Prop := ∃ n, runA C n x = some (.inl y)
/-- from x the machine ends so -/
def Rend (C : Cfg) (x : St) (o : Res) (M : Mem) : Prop := ∃ n k, runA C n x = some (.inr (o, M, k))
