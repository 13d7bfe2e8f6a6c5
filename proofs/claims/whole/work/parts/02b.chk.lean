/-! WHAT THE TABLES SAY, in a form that a program decides: each row of code is what 'decode' reads, its links are words of lw_tbl. -/
abbrev i32 (x : Int) : Prop := -2147483648 ≤ x ∧ x < 2147483648
abbrev i64 (x : Int) : Prop := -9223372036854775808 ≤ x ∧ x < 9223372036854775808
def unres (pc : Nat) (i : Instr) (idx : Nat) : Instr := match i with
  | .getfield _ => .getfield idx
  | .putfield _ => .putfield idx
  | .invokevirtual _ => .invokevirtual idx
  | .invokespecial _ => .invokespecial idx
  | .invokestatic _ => .invokestatic idx
  | .monitorexit => .invokespecial idx
  | .monitorenter => .invokestatic idx
  | .new _ => .new idx
  | .anewarray _ => .anewarray idx
  | .multianewarray _ _ => .multianewarray idx 2
  | .jsr_w _ => .ldc2_w idx
  | .ifCond c t => .ifCond c (t - (pc : Int))
  | .if_icmp c t => .if_icmp c (t - (pc : Int))
  | .goto t => .goto (t - (pc : Int))
  | .tableswitch d lo hi offs => .tableswitch (d - (pc : Int)) lo hi (offs.map fun t => t - (pc : Int))
  | .lookupswitch d ps => .lookupswitch (d - (pc : Int)) (ps.map fun q => (q.1, q.2 - (pc : Int)))
  | .freturn => .ireturn
  | i => i
def iln (i : Instr) (l : Nat) : Nat := match i with
  | .bipush _ => 2
  | .newarray _ => 2
  | .iload _ => 2
  | .lload _ => 2
  | .aload _ => 2
  | .istore _ => 2
  | .lstore _ => 2
  | .astore _ => 2
  | .sipush _ => 3
  | .getfield _ => 3
  | .putfield _ => 3
  | .invokevirtual _ => 3
  | .invokespecial _ => 3
  | .invokestatic _ => 3
  | .monitorexit => 3
  | .monitorenter => 3
  | .new _ => 3
  | .anewarray _ => 3
  | .jsr_w _ => 3
  | .ifCond _ _ => 3
  | .if_icmp _ _ => 3
  | .goto _ => 3
  | .iinc _ _ => 3
  | .multianewarray _ _ => 4
  | .tableswitch _ _ _ _ => l
  | .lookupswitch _ _ => l
  | _ => 1
def TF (c : Nat) : u_T := match clX[c]? with
  | some q => q.2.1
  | none => fun _ => ("", "", "", false)
def sta (r : MR) : Bool := decide ((parseMethodDescriptor r.1.1.desc).map (fun d => d.parameters.length) = some r.2.1)
def staQ (q : Nat) : Bool := match mT q with
  | some r => sta r
  | none => false
def insQ (q : Nat) : Bool := match mT q with
  | some r => decide ((parseMethodDescriptor r.1.1.desc).map (fun d => d.parameters.length) = some (r.2.1 - 1)) && decide (1 ≤ r.2.1)
  | none => false
def iniQ (q : Nat) : Bool := match mT q with
  | some r => decide (r.1.1.name = "<init>") && decide (r.1.2.2.2 = none)
  | none => false
def selQ (q : Nat) : Bool := match mT q with
  | some r => decide (lw_tbl[r.2.2.1.2.2]? = some (.selects r.1.1.cls r.1.1 r.1.1))
  | none => false
def side (own : Nat) (y : MethodName) (ret : Option FieldType) (i : Instr) (idx : Nat) : Bool := match i with
  | .getfield q => lF.any (fun w => w.1 == own && (w.2.1 == idx && w.2.2.1 == q)) && decide (q % 100 < cO (q / 100) ∧ q / 100 < 12)
  | .putfield q => lF.any (fun w => w.1 == own && (w.2.1 == idx && w.2.2.1 == q)) && (decide (q % 100 < cO (q / 100) ∧ q / 100 < 12) && (!(TF (q / 100) (q % 100)).2.2.2 || decide (y.name = "<init>" ∧ q / 100 = own)))
  | .invokevirtual q => lM.any (fun w => w.1 == own && (w.2.1 == idx && w.2.2.1 == q)) && (insQ q && selQ q)
  | .invokespecial q => (lM.any (fun w => w.1 == own && (w.2.1 == idx && w.2.2.1 == q)) || lV.any (fun w => w.1 == own && (w.2.1 == idx && w.2.2.1 == q))) && (insQ q && iniQ q)
  | .invokestatic q => lM.any (fun w => w.1 == own && (w.2.1 == idx && w.2.2.1 == q)) && staQ q
  | .monitorexit => lO.any fun w => w.1 == own && w.2.1 == idx
  | .monitorenter => lY.any fun w => w.1 == own && w.2.1 == idx
  | .new c => lC.any (fun w => w.1 == own && (w.2.1 == idx && w.2.2.1 == c)) && decide (c < 12)
  | .anewarray _ => lC.any fun w => w.1 == own && (w.2.1 == idx && w.2.2.1 == 6)
  | .multianewarray _ _ => lW.any fun w => w.1 == own && w.2.1 == idx
  | .jsr_w v => lL.any (fun w => w.1 == own && (w.2.1 == idx && w.2.2.1 == v)) && decide (i64 v)
  | .iconst n => decide (-1 ≤ n ∧ n ≤ 5)
  | .bipush n => decide (-128 ≤ n ∧ n ≤ 127)
  | .sipush n => decide (-32768 ≤ n ∧ n ≤ 32767)
  | .iinc _ n => decide (-128 ≤ n ∧ n ≤ 127)
  | .ifCond _ t => decide (0 ≤ t)
  | .if_icmp _ t => decide (0 ≤ t)
  | .goto t => decide (0 ≤ t)
  | .tableswitch d lo hi offs => decide (0 ≤ d ∧ offs.size = (hi - lo + 1).toNat) && offs.toList.all fun t => decide (0 ≤ t)
  | .lookupswitch d ps => decide (0 ≤ d) && (ps.toList.all (fun q => decide (0 ≤ q.2)) && (ps.toList.zip (ps.toList.drop 1)).all (fun (a, next) => a.1 < next.1))
  | .ireturn => decide (ret = some .int)
  | .freturn => decide (ret = some .boolean)
  | .areturn => decide (ret = some (.array .int) ∨ ret = some (.object "LightPlate$Row"))
  | .return_ => decide (ret = none)
  | .newarray t => decide (t = .int ∨ t = .boolean ∨ t = .long)
  | _ => true
def rwOK (own : Nat) (h : MethodName × ByteArray × Nat × Option FieldType) (w : Nat × Instr × Nat × Nat) : Bool := decide (decode h.2.1 w.1 = .ok (unres w.1 w.2.1 w.2.2.1, w.2.2.2)) && (decide (w.2.2.2 = iln w.2.1 w.2.2.2) && side own h.1 h.2.2.2 w.2.1 w.2.2.1)
def hdOK (own : Nat) (r : MR) : Bool := decide (r.1.1.cls = cN own ∧ plainFor r.1.1 = true ∧ r.1.2.2.1 ≤ 20) && (decide (r.1.1.cls ≠ "java/lang/invoke/MethodHandle") && decide (r.1.1.cls ≠ "java/lang/invoke/VarHandle"))
def rowOK (own : Nat) (r : MR) : Bool := r.2.2.2.all (rwOK own r.1) && hdOK own r
def wrdOK (own : Nat) (r : MR) : Bool := decide (lw_tbl[r.2.2.1.1]? = some (.code r.1.1 r.1.2.1 r.1.2.2.1 r.1.2.2.2)) && (decide (lw_tbl[r.2.2.1.2.1]? = some (if sta r then .static r.1.1 else .instanceMethod r.1.1)) && decide (lw_tbl[pI.getD own 0]? = some (.initialized (cN own))))
