/-! What is checked of every entry of the code tables -/
def jrg (n : Int) : Bool := decide (-2147483648 ≤ n) && decide (n < 2147483648)
def jtabl (pc a : Nat) : List Int → List Nat
  | [] => []
  | o :: l => a :: ((pc : Int) + o).toNat :: jtabl pc (a + 1) l
def jlook (pc : Nat) : List (Int × Int) → List Nat
  | [] => []
  | q :: l => q.1.toNat :: ((pc : Int) + q.2).toNat :: jlook pc l
def jmi (z : Nat) : jMI := match jinfo[z]? with
  | some q => q
  | none => (⟨"", "", ""⟩, ByteArray.empty, 0, none, 0, false, 0, 0, 0)
def jhF (o i f k : Nat) : Bool := jlF.any fun q => Nat.beq q.1 o && Nat.beq q.2.1 i && Nat.beq q.2.2.1 f && Nat.beq q.2.2.2.1 k
def jhM (o i z : Nat) : Bool := jlM.any fun q => Nat.beq q.1 o && Nat.beq q.2.1 i && Nat.beq q.2.2.1 z
def jhN (o i z : Nat) : Bool := jlN.any fun q => Nat.beq q.1 o && Nat.beq q.2.1 i && Nat.beq q.2.2.1 z
def jhK (o i a b t : Nat) : Bool := jlK.any fun q => Nat.beq q.1 o && Nat.beq q.2.1 i && Nat.beq q.2.2.1 a && Nat.beq q.2.2.2.1 b && Nat.beq q.2.2.2.2.1 t
def jhC (o i : Nat) : Bool := jlC.any fun q => Nat.beq q.1 o && Nat.beq q.2.1 i
def jhS (o i k : Nat) : Bool := jlS.any fun q => Nat.beq q.1 o && Nat.beq q.2.1 i && Nat.beq q.2.2 k
abbrev jOwn (q : jMI) : Nat := q.2.2.2.2.2.2.2.2
abbrev jRk (q : jMI) : Nat := q.2.2.2.2.2.2.1
abbrev jRf (q : jMI) : Nat := q.2.2.2.2.2.2.2.1
abbrev jNa (q : jMI) : Nat := q.2.2.2.2.1
abbrev jSt (q : jMI) : Bool := q.2.2.2.2.2.1
abbrev jRet (q : jMI) : Option FieldType := q.2.2.2.1
abbrev jMl (q : jMI) : Nat := q.2.2.1
def jchF (o i f k kd f' mp : Nat) : Bool := Nat.blt f 12 && jhF o i f k && decide ((jfds.getD f [])[k]? = some (kd, f', mp)) && decide (k < (jcl f).2.2) && decide (((jcl f).2.1 k).1 = (jcl f).1)
def jchA (f n t : Nat) : Bool := Nat.ble 12 f && Nat.blt f 67 && (match jarrs[f - 12]? with
  | some a => Nat.beq a.1 t && Nat.beq a.2.1 n
  | none => false)
def jchI (q : jMI) (i z n rk rf : Nat) : Bool := Nat.blt z 250 && Nat.beq n (jNa (jmi z)) && Nat.beq rk (jRk (jmi z)) && Nat.beq rf (jRf (jmi z)) && (jhM (jOwn q) i z || (jhN (jOwn q) i z && Nat.blt z 248))
def jchk1 (q : jMI) (pc : Nat) (ins : Instr) (npc : Nat) (aux : List Nat) : Bool := match ins with
  | .iconst n => Nat.beq npc (pc + 1) && jrg n
  | .bipush n => Nat.beq npc (pc + 2) && jrg n && decide ((Int8.ofInt n).toInt32 = Int32.ofInt n)
  | .sipush n => Nat.beq npc (pc + 3) && jrg n && decide ((Int16.ofInt n).toInt32 = Int32.ofInt n)
  | .lconst _ => Nat.beq npc (pc + 1)
  | .ldc i => Nat.beq npc (pc + 2) && (match aux with
    | [0, a, b] => jhK (jOwn q) i a b 0 && jrg ((a : Int) - (b : Int))
    | [1, f, k] => Nat.beq f 100 && jhS (jOwn q) i k && Nat.blt k 7
    | _ => false)
  | .ldc_w i => Nat.beq npc (pc + 3) && (match aux with
    | [0, a, b] => jhK (jOwn q) i a b 0 && jrg ((a : Int) - (b : Int))
    | _ => false)
  | .ldc2_w i => Nat.beq npc (pc + 3) && (match aux with
    | [a] => jhK (jOwn q) i a 0 1 && decide ((a : Int) < 9223372036854775808)
    | _ => false)
  | .aconst_null => Nat.beq npc (pc + 1)
  | .iload _ | .lload _ | .aload _ => Nat.beq npc (pc + 2)
  | .iload_n _ | .lload_n _ | .aload_n _ => Nat.beq npc (pc + 1)
  | .istore i => Nat.beq npc (pc + 2) && Nat.blt i (jMl q)
  | .lstore i => Nat.beq npc (pc + 2) && Nat.blt (i + 1) (jMl q)
  | .istore_n i => Nat.beq npc (pc + 1) && Nat.blt i.val (jMl q)
  | .lstore_n i => Nat.beq npc (pc + 1) && Nat.blt (i.val + 1) (jMl q)
  | .iinc _ _ => Nat.beq npc (pc + 3)
  | .ifCond _ off | .if_icmp _ off => Nat.beq npc (pc + 3) && (match aux with
    | [t] => decide ((pc : Int) + off = (t : Int))
    | _ => false)
  | .ifnull off | .ifnonnull off => Nat.beq npc (pc + 3) && (match aux with
    | [t, _] => decide ((pc : Int) + off = (t : Int))
    | _ => false)
  | .goto off => (match aux with
    | [t] => decide ((pc : Int) + off = (t : Int)) && Nat.beq npc (pc + 3)
    | _ => false)
  | .tableswitch d lo hi offs => decide (0 ≤ (pc : Int) + d) && decide (0 ≤ lo) && decide (hi = lo + offs.toList.length - 1) && offs.toList.all (fun o => decide (0 ≤ (pc : Int) + o)) && decide (aux = ((pc : Int) + d).toNat :: jtabl pc lo.toNat offs.toList)
  | .lookupswitch d ps => decide (0 ≤ (pc : Int) + d) && ps.toList.all (fun q => decide (0 ≤ (pc : Int) + q.2) && decide (0 ≤ q.1)) && (ps.toList.zip (ps.toList.drop 1)).all (fun (a, next) => a.1 < next.1) && decide (aux = ((pc : Int) + d).toNat :: jlook pc ps.toList)
  | .getfield i => Nat.beq npc (pc + 3) && (match aux with
    | [f, k, kd, f', mp] => jchF (jOwn q) i f k kd f' mp && (match kd with
      | 0 => true
      | 1 => true
      | 2 => decide (jcnt f ≤ jcnt f')
      | 3 => true
      | _ => decide (mp < jcnt f'))
    | _ => false)
  | .putfield i => Nat.beq npc (pc + 3) && (match aux with
    | [f, k, 0, f', _] => jchF (jOwn q) i f k 0 f' 0 && decide (((jcl f).2.1 k).2.2 = ("I", false))
    | [f, k, 1, f', _] => jchF (jOwn q) i f k 1 f' 0 && decide (((jcl f).2.1 k).2.2 = ("J", false))
    | [f, k, 3, f', _] => jchF (jOwn q) i f k 3 f' 0 && decide (((jcl f).2.1 k).2.2.2 = false) && (match parseFieldDescriptor ((jcl f).2.1 k).2.2.1 with
      | some (.object _) => true
      | _ => false)
    | [f, k, 4, f', _] => jchF (jOwn q) i f k 0 f' 0 && decide (((jcl f).2.1 k).2.2 = ("Z", false))
    | _ => false)
  | .iaload => Nat.beq npc (pc + 1) && (match aux with
    | [f, n] => jchA f n 0
    | _ => false)
  | .baload => Nat.beq npc (pc + 1) && (match aux with
    | [f, n] => jchA f n 2 || jchA f n 3
    | _ => false)
  | .laload => Nat.beq npc (pc + 1) && (match aux with
    | [f, n] => jchA f n 1
    | _ => false)
  | .aaload => Nat.beq npc (pc + 1) && (match aux with
    | [f, n, f', mp] => Nat.ble 12 f && Nat.blt f 67 && (match jarrs[f - 12]? with
      | some a => Nat.ble 4 a.1 && Nat.ble a.1 6 && Nat.beq a.2.1 n && Nat.beq a.2.2.1 f' && Nat.beq a.2.2.2 mp && Nat.ble (n + mp) (jcnt f')
      | none => false)
    | _ => false)
  | .iastore => Nat.beq npc (pc + 1) && (match aux with
    | [f, n, 0] => jchA f n 0
    | _ => false)
  | .lastore => Nat.beq npc (pc + 1) && (match aux with
    | [f, n, 1] => jchA f n 1
    | _ => false)
  | .bastore => Nat.beq npc (pc + 1) && (match aux with
    | [f, n, 2] => jchA f n 2
    | [f, n, 3] => jchA f n 3
    | _ => false)
  | .arraylength => Nat.beq npc (pc + 1) && (match aux with
    | [f, n] => Nat.blt n 2147483648 && (jchA f n 0 || jchA f n 1 || jchA f n 2 || jchA f n 3)
    | _ => false)
  | .invokestatic i => Nat.beq npc (pc + 3) && (match aux with
    | [f, n, f', n'] => jhC (jOwn q) i && jchA f n 0 && jchA f' n' 0 && (Nat.beq f f' || true)
    | [z, n, rk, rf, 0] => jchI q i z n rk rf && jSt (jmi z)
    | _ => false)
  | .invokevirtual i => Nat.beq npc (pc + 3) && (match aux with
    | [z, n, rk, rf, f + 1] => jchI q i z n rk rf && !jSt (jmi z) && (bif Nat.beq f 100 then decide ((jmi z).1.cls = "java/lang/String") else Nat.blt f 12 && decide ((jmi z).1.cls = (jcl f).1))
    | _ => false)
  | .ireturn => Nat.beq npc (pc + 1) && Nat.beq (jRk q) 1 && (match aux with
    | [0] => decide (jRet q = some .int)
    | [1] => decide (jRet q = some .boolean)
    | _ => false)
  | .lreturn => Nat.beq npc (pc + 1) && Nat.beq (jRk q) 2 && decide (jRet q = some .long)
  | .areturn => Nat.beq npc (pc + 1) && Nat.beq (jRk q) 3 && decide (aux = [jRf q]) && (match jRet q with
    | some (.object _) => true
    | _ => false)
  | .return_ => Nat.beq npc (pc + 1) && Nat.beq (jRk q) 0 && decide (jRet q = none)
  | _ => Nat.beq npc (pc + 1)
def jchk (q : jMI) (pc : Nat) (en : jE) : Bool := decide (decode q.2.1 pc = .ok (en.1, en.2.1 - pc)) && Nat.ble pc en.2.1 && jchk1 q pc en.1 en.2.1 en.2.2.1
def jchks (y : Nat) (cd : jCode) : Bool := cd.all fun x => jchk (jmi y) x.1 x.2
