/-! A PLAIN MACHINE: whole numbers as Int, cells by numbers of our own; one step of it, and its runs. Section by section: values, memory, steps, runs. -/
abbrev XV : Type := Int ⊕ (Int ⊕ (Nat ⊕ Unit))
abbrev xI (x : Int) : XV := Sum.inl x
abbrev xL (x : Int) : XV := Sum.inr (Sum.inl x)
abbrev xR (a : Nat) : XV := Sum.inr (Sum.inr (Sum.inl a))
abbrev xU : XV := Sum.inr (Sum.inr (Sum.inr ()))
/-- what stands still: kinds and lengths, references, cells and slots made, which number the next cell gets -/
abbrev XG : Type := (Nat → Nat × Nat) × (Nat → Int → Option Nat) × Nat × Nat × (Nat → Nat)
abbrev XM : Type := (Nat → Int → Int) × XG
abbrev XO : Type := Option (Option XV × XM)
abbrev XR : Type := (List XV × List XV × XM) ⊕ ((Nat × List XV × List XV × XM) ⊕ ((Option XV × XM) ⊕ (Nat × List XV × List XV × List XV × XM)))
def vA (V : Nat → Int → Int) (a : Nat) (f : Int → Int) : Nat → Int → Int := fun b => if b = a then f else V b
def vU (f : Int → Int) (i : Int) (x : Int) : Int → Int := fun j => if j = i then x else f j
/-- one new cell a of a kind -/
def gN (G : XG) (a : Nat) (sh : Nat × Nat) (n : Nat) : XG := (fun b => if b = a then sh else G.1 b, fun b => if b = a then fun _ => none else G.2.1 b, G.2.2.1 + 1, G.2.2.2.1 + n, G.2.2.2.2)
def gR (G : XG) (a : Nat) (i : Int) (b : Nat) : XG := (G.1, fun c => if c = a then (fun j => if j = i then some b else G.2.1 a j) else G.2.1 c, G.2.2)
def b32 (f : Int32 → Int32 → Int32) (x y : Int) : Int := (f (Int32.ofInt x) (Int32.ofInt y)).toInt
def b64 (f : Int64 → Int64 → Int64) (x y : Int) : Int := (f (Int64.ofInt x) (Int64.ofInt y)).toInt
def s64 (f : Int64 → Int32 → Int64) (x y : Int) : Int := (f (Int64.ofInt x) (Int32.ofInt y)).toInt
abbrev rN (ls st : List XV) (μ : XM) : Option XR := some (.inl (ls, st, μ))
abbrev rG (t : Nat) (ls st : List XV) (μ : XM) : Option XR := some (.inr (.inl (t, ls, st, μ)))
abbrev rT (v : Option XV) (μ : XM) : Option XR := some (.inr (.inr (.inl (v, μ))))
abbrev rC (mj : Nat) (as ls st : List XV) (μ : XM) : Option XR := some (.inr (.inr (.inr (mj, as, ls, st, μ))))
def ldI (ls : List XV) (i : Nat) (k : Int → Option XR) : Option XR := match ls[i]? with
  | some (.inl x) => k x
  | _ => none
def ldL (ls : List XV) (i : Nat) (k : Int → Option XR) : Option XR := match ls[i]? with
  | some (.inr (.inl x)) => k x
  | _ => none
def ldA (ls : List XV) (i : Nat) (k : Nat → Option XR) : Option XR := match ls[i]? with
  | some (.inr (.inr (.inl x))) => k x
  | _ => none
/-- a long lies just below place i -/
def lgB (ls : List XV) (i : Nat) : Bool := match i with
  | 0 => false
  | j + 1 => match ls[j]? with
    | some (.inr (.inl _)) => true
    | _ => false
def st1 (ls : List XV) (i : Nat) (v : XV) (k : List XV → Option XR) : Option XR := if i < ls.length ∧ lgB ls i = false then k (ls.set i v) else none
def st2 (ls : List XV) (i : Nat) (v : XV) (k : List XV → Option XR) : Option XR := if i + 1 < ls.length ∧ lgB ls i = false then k ((ls.set i v).set (i + 1) xU) else none
def tI (st : List XV) (k : Int → List XV → Option XR) : Option XR := match st with
  | .inl x :: st => k x st
  | _ => none
def tL (st : List XV) (k : Int → List XV → Option XR) : Option XR := match st with
  | .inr (.inl x) :: st => k x st
  | _ => none
def tA (st : List XV) (k : Nat → List XV → Option XR) : Option XR := match st with
  | .inr (.inr (.inl x)) :: st => k x st
  | _ => none
def bI (st : List XV) (k : Int → Int → List XV → Option XR) : Option XR := tI st fun y st => tI st fun x st => k x y st
def bL (st : List XV) (k : Int → Int → List XV → Option XR) : Option XR := tL st fun y st => tL st fun x st => k x y st
def c1 (v : XV) : Bool := match v with
  | .inl _ => true
  | .inr (.inr (.inl _)) => true
  | _ => false
def br (c : ClassFile.Cond) (x y : Int) (a b : Option XR) : Option XR := match c with
  | .eq => if x = y then a else b
  | .ne => if x = y then b else a
  | .lt => if x < y then a else b
  | .ge => if y ≤ x then a else b
  | .gt => if y < x then a else b
  | .le => if x ≤ y then a else b
def lkp : List (Int × Int) → Int → Int → Int
  | [], d, _ => d
  | q :: l, d, x => if x = q.1 then q.2 else lkp l d x
def xw (v : XV) : List XV := match v with
  | .inr (.inl x) => [xL x, xU]
  | v => [v]
-- ft: the types of fields by class and slot: 0 int, 1 boolean, 2 long, 3 a reference; np: how many arguments a method takes; co: how many fields a class has. Methods are numbered 100 * class + place
section XSteps

/-- one step. Codes are resolved: fields as 100 * class + slot, classes and methods by our numbers, jumps by their targets; jsr_w: a long constant; monitorexit: Object's constructor; monitorenter: System.arraycopy of ints; freturn: the return of a boolean -/
def xs (i : Instr) (ls st : List XV) (μ : XM) : Option XR := match i with
  | .iconst n => rN ls (xI n :: st) μ
  | .bipush n => rN ls (xI n :: st) μ
  | .sipush n => rN ls (xI n :: st) μ
  | .lconst n => rN ls (xL (n.val : Nat) :: st) μ
  | .jsr_w v => rN ls (xL v :: st) μ
  | .iload_n k => ldI ls k.val fun x => rN ls (xI x :: st) μ
  | .iload k => ldI ls k fun x => rN ls (xI x :: st) μ
  | .lload_n k => ldL ls k.val fun x => rN ls (xL x :: st) μ
  | .lload k => ldL ls k fun x => rN ls (xL x :: st) μ
  | .aload_n k => ldA ls k.val fun x => rN ls (xR x :: st) μ
  | .aload k => ldA ls k fun x => rN ls (xR x :: st) μ
  | .istore_n k => tI st fun x st => st1 ls k.val (xI x) fun ls => rN ls st μ
  | .istore k => tI st fun x st => st1 ls k (xI x) fun ls => rN ls st μ
  | .astore_n k => tA st fun x st => st1 ls k.val (xR x) fun ls => rN ls st μ
  | .astore k => tA st fun x st => st1 ls k (xR x) fun ls => rN ls st μ
  | .lstore_n k => tL st fun x st => st2 ls k.val (xL x) fun ls => rN ls st μ
  | .lstore k => tL st fun x st => st2 ls k (xL x) fun ls => rN ls st μ
  | .iinc k n => ldI ls k fun x => if i32 (x + n) then st1 ls k (xI (x + n)) fun ls => rN ls st μ else none
  | .iadd => bI st fun x y st => if i32 (x + y) then rN ls (xI (x + y) :: st) μ else none
  | .isub => bI st fun x y st => if i32 (x - y) then rN ls (xI (x - y) :: st) μ else none
  | .imul => bI st fun x y st => if i32 (x * y) then rN ls (xI (x * y) :: st) μ else none
  | .idiv => bI st fun x y st => if 0 < y then rN ls (xI (x.tdiv y) :: st) μ else none
  | .irem => bI st fun x y st => if 0 < y then rN ls (xI (x.tmod y) :: st) μ else none
  | .ineg => tI st fun x st => if i32 (-x) then rN ls (xI (-x) :: st) μ else none
  | .iand => bI st fun x y st => rN ls (xI (b32 (fun a b => a &&& b) x y) :: st) μ
  | .ior => bI st fun x y st => rN ls (xI (b32 (fun a b => a ||| b) x y) :: st) μ
  | .ixor => bI st fun x y st => rN ls (xI (b32 (fun a b => a ^^^ b) x y) :: st) μ
  | .ishl => bI st fun x y st => rN ls (xI (b32 (fun a b => a <<< (b &&& 31)) x y) :: st) μ
  | .ishr => bI st fun x y st => rN ls (xI (b32 (fun a b => a >>> (b &&& 31)) x y) :: st) μ
  | .i2l => tI st fun x st => rN ls (xL x :: st) μ
  | .l2i => tL st fun x st => rN ls (xI (Int64.ofInt x).toInt32.toInt :: st) μ
  | .lmul => bL st fun x y st => if i64 (x * y) then rN ls (xL (x * y) :: st) μ else none
  | .ldiv => bL st fun x y st => if 0 < y then rN ls (xL (x.tdiv y) :: st) μ else none
  | .lrem => bL st fun x y st => if 0 < y then rN ls (xL (x.tmod y) :: st) μ else none
  | .land => bL st fun x y st => rN ls (xL (b64 (fun a b => a &&& b) x y) :: st) μ
  | .lor => bL st fun x y st => rN ls (xL (b64 (fun a b => a ||| b) x y) :: st) μ
  | .lshl => tI st fun y st => tL st fun x st => rN ls (xL (s64 (fun a b => a <<< (b.toInt64 &&& 63)) x y) :: st) μ
  | .lshr => tI st fun y st => tL st fun x st => rN ls (xL (s64 (fun a b => a >>> (b.toInt64 &&& 63)) x y) :: st) μ
  | .lushr => tI st fun y st => tL st fun x st => rN ls (xL (s64 (fun a b => (a.toUInt64 >>> (b.toInt64.toUInt64 &&& Int64.toUInt64 63)).toInt64) x y) :: st) μ
  | .lcmp => bL st fun x y st => rN ls (xI (if x < y then -1 else if x = y then 0 else 1) :: st) μ
  | .dup => match st with
    | v :: st => if c1 v then rN ls (v :: v :: st) μ else none
    | _ => none
  | .dup_x1 => match st with
    | v :: w :: st => if c1 v && c1 w then rN ls (v :: w :: v :: st) μ else none
    | _ => none
  | .dup2 => match st with
    | v :: w :: st => if c1 v && c1 w then rN ls (v :: w :: v :: w :: st) μ else none
    | _ => none
  | .ifCond c t => tI st fun x st => br c x 0 (rG t.toNat ls st μ) (rN ls st μ)
  | .if_icmp c t => bI st fun x y st => br c x y (rG t.toNat ls st μ) (rN ls st μ)
  | .goto t => rG t.toNat ls st μ
  | .tableswitch d lo hi offs => tI st fun x st => if x < lo ∨ hi < x then rG d.toNat ls st μ else match offs[(x - lo).toNat]? with
    | some t => rG t.toNat ls st μ
    | none => none
  | .lookupswitch d ps => tI st fun x st => rG (lkp ps.toList d x).toNat ls st μ
  | .ireturn => match st with
    | [.inl x] => rT (some (xI x)) μ
    | _ => none
  | .freturn => match st with
    | [.inl x] => if x = 0 ∨ x = 1 then rT (some (xI x)) μ else none
    | _ => none
  | .areturn => match st with
    | [.inr (.inr (.inl a))] => rT (some (xR a)) μ
    | _ => none
  | .return_ => match st with
    | [] => rT none μ
    | _ => none
  | .arraylength => tA st fun a st => if ((μ.2.1 a).1 = 1 ∨ (μ.2.1 a).1 = 3 ∨ (μ.2.1 a).1 = 9) ∧ (μ.2.1 a).2 ≤ 100000 then rN ls (xI ((μ.2.1 a).2 : Nat) :: st) μ else none
  | .iaload => tI st fun j st => tA st fun a st => if ((μ.2.1 a).1 = 1 ∨ (μ.2.1 a).1 = 9) ∧ 0 ≤ j ∧ j < ((μ.2.1 a).2 : Nat) then rN ls (xI (μ.1 a j) :: st) μ else none
  | .baload => tI st fun j st => tA st fun a st => if (μ.2.1 a).1 = 2 ∧ 0 ≤ j ∧ j < ((μ.2.1 a).2 : Nat) then rN ls (xI (μ.1 a j) :: st) μ else none
  | .laload => tI st fun j st => tA st fun a st => if (μ.2.1 a).1 = 3 ∧ 0 ≤ j ∧ j < ((μ.2.1 a).2 : Nat) then rN ls (xL (μ.1 a j) :: st) μ else none
  | .aaload => tI st fun j st => tA st fun a st => if ((μ.2.1 a).1 = 4 ∨ (μ.2.1 a).1 = 5) ∧ 0 ≤ j ∧ j < ((μ.2.1 a).2 : Nat) then (match μ.2.2.1 a j with
    | some b => rN ls (xR b :: st) μ
    | none => none) else none
  | .iastore => tI st fun x st => tI st fun j st => tA st fun a st => if (μ.2.1 a).1 = 1 ∧ 0 ≤ j ∧ j < ((μ.2.1 a).2 : Nat) then rN ls st (vA μ.1 a (vU (μ.1 a) j x), μ.2) else none
  | .bastore => tI st fun x st => tI st fun j st => tA st fun a st => if ((μ.2.1 a).1 = 2 ∧ (x = 0 ∨ x = 1)) ∧ 0 ≤ j ∧ j < ((μ.2.1 a).2 : Nat) then rN ls st (vA μ.1 a (vU (μ.1 a) j x), μ.2) else none
  | .lastore => tL st fun x st => tI st fun j st => tA st fun a st => if (μ.2.1 a).1 = 3 ∧ 0 ≤ j ∧ j < ((μ.2.1 a).2 : Nat) then rN ls st (vA μ.1 a (vU (μ.1 a) j x), μ.2) else none
  | .aastore => tA st fun b st => tI st fun j st => tA st fun a st => if ((μ.2.1 a).1 = 5 ∧ (μ.2.1 b).1 = 16) ∧ 0 ≤ j ∧ j < ((μ.2.1 a).2 : Nat) then rN ls st (μ.1, gR μ.2 a j b) else none
  | .getfield q => tA st fun a st => if (μ.2.1 a).1 = 10 + q / 100 then (if fT (q / 100) (q % 100) = 0 ∨ fT (q / 100) (q % 100) = 1 then rN ls (xI (μ.1 a ((q % 100 : Nat) : Int)) :: st) μ
      else if fT (q / 100) (q % 100) = 2 then rN ls (xL (μ.1 a ((q % 100 : Nat) : Int)) :: st) μ
      else if fT (q / 100) (q % 100) = 3 then (match μ.2.2.1 a ((q % 100 : Nat) : Int) with
        | some b => rN ls (xR b :: st) μ
        | none => none) else none) else none
  | .putfield q => if fT (q / 100) (q % 100) = 0 then tI st fun x st => tA st fun a st => (if (μ.2.1 a).1 = 10 + q / 100 then rN ls st (vA μ.1 a (vU (μ.1 a) ((q % 100 : Nat) : Int) x), μ.2) else none)
      else if fT (q / 100) (q % 100) = 1 then tI st fun x st => tA st fun a st => (if (μ.2.1 a).1 = 10 + q / 100 ∧ (x = 0 ∨ x = 1) then rN ls st (vA μ.1 a (vU (μ.1 a) ((q % 100 : Nat) : Int) x), μ.2) else none)
      else if fT (q / 100) (q % 100) = 2 then tL st fun x st => tA st fun a st => (if (μ.2.1 a).1 = 10 + q / 100 then rN ls st (vA μ.1 a (vU (μ.1 a) ((q % 100 : Nat) : Int) x), μ.2) else none)
      else if fT (q / 100) (q % 100) = 3 then tA st fun b st => tA st fun a st => (if (μ.2.1 a).1 = 10 + q / 100 then rN ls st (μ.1, gR μ.2 a ((q % 100 : Nat) : Int) b) else none)
      else none
  | .new c => rN ls (xR (μ.2.2.2.2.2 μ.2.2.2.1) :: st) (vA μ.1 (μ.2.2.2.2.2 μ.2.2.2.1) (fun _ => 0), gN μ.2 (μ.2.2.2.2.2 μ.2.2.2.1) (10 + c, 0) (cO c))
  | .newarray ty => tI st fun n st => if 0 ≤ n ∧ n ≤ 100000 then rN ls (xR (μ.2.2.2.2.2 μ.2.2.2.1) :: st) (vA μ.1 (μ.2.2.2.2.2 μ.2.2.2.1) (fun _ => 0), gN μ.2 (μ.2.2.2.2.2 μ.2.2.2.1) ((match ty with
    | .int => 1
    | .boolean => 2
    | .long => 3
    | _ => 7), n.toNat) n.toNat) else none
  | .anewarray _ => tI st fun n st => if 0 ≤ n ∧ n ≤ 100000 then rN ls (xR (μ.2.2.2.2.2 μ.2.2.2.1) :: st) (vA μ.1 (μ.2.2.2.2.2 μ.2.2.2.1) (fun _ => 0), gN μ.2 (μ.2.2.2.2.2 μ.2.2.2.1) (5, n.toNat) n.toNat) else none
  | .multianewarray _ _ => bI st fun n k st => if (0 ≤ n ∧ n ≤ 10000) ∧ (0 ≤ k ∧ k ≤ 10000) then rN ls (xR (μ.2.2.2.2.2 μ.2.2.2.1) :: st)
      (fun b => if (List.range (1 + n.toNat)).any (fun j => b == μ.2.2.2.2.2 (μ.2.2.2.1 + j)) then fun _ => 0 else μ.1 b,
       fun b => if b = μ.2.2.2.2.2 μ.2.2.2.1 then (4, n.toNat) else if (List.range n.toNat).any (fun j => b == μ.2.2.2.2.2 (μ.2.2.2.1 + 1 + j)) then (1, k.toNat) else μ.2.1 b,
       fun b => if b = μ.2.2.2.2.2 μ.2.2.2.1 then (fun j => if 0 ≤ j ∧ j < n then some (μ.2.2.2.2.2 (μ.2.2.2.1 + 1 + j.toNat)) else none) else μ.2.2.1 b,
       μ.2.2.2.1 + 1 + n.toNat, μ.2.2.2.2.1 + n.toNat + n.toNat * k.toNat, μ.2.2.2.2.2) else none
  | .invokevirtual q => if nP q ≤ st.length ∧ (st.drop (nP q)).length ≤ 4 ∧ ((st.take (nP q)).reverse.flatMap xw).length ≤ mL q then (match (st.take (nP q)).reverse with
    | .inr (.inr (.inl a)) :: as => if (μ.2.1 a).1 = 10 + q / 100 then rC q (xR a :: as) ls (st.drop (nP q)) μ else none
    | _ => none) else none
  | .invokespecial q => if nP q ≤ st.length ∧ (st.drop (nP q)).length ≤ 4 ∧ ((st.take (nP q)).reverse.flatMap xw).length ≤ mL q then (match (st.take (nP q)).reverse with
    | .inr (.inr (.inl a)) :: as => rC q (xR a :: as) ls (st.drop (nP q)) μ
    | _ => none) else none
  | .invokestatic q => if nP q ≤ st.length ∧ (st.drop (nP q)).length ≤ 4 ∧ ((st.take (nP q)).reverse.flatMap xw).length ≤ mL q then rC q (st.take (nP q)).reverse ls (st.drop (nP q)) μ else none
  | .monitorexit => tA st fun _ st => if st.length ≤ 4 then rN ls st μ else none
  | .monitorenter => tI st fun n st => tI st fun dp st => tA st fun a st => tI st fun sp st => tA st fun b st => if ((μ.2.1 a).1 = 1 ∧ (μ.2.1 b).1 = 1 ∧ a ≠ b) ∧ (0 ≤ n ∧ 0 ≤ sp ∧ 0 ≤ dp) ∧ sp + n ≤ ((μ.2.1 b).2 : Nat) ∧ dp + n ≤ ((μ.2.1 a).2 : Nat) ∧ st.length ≤ 4
      then rN ls st (vA μ.1 a (fun j => if dp ≤ j ∧ j < dp + n then μ.1 b (sp + (j - dp)) else μ.1 a j), μ.2) else none
  | _ => none
end XSteps
