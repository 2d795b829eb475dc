/-! An abstract machine over typed memory: its runs are pure functions; part 30 ties them to the real machine. -/
abbrev jV : Type := Int ⊕ (Int ⊕ ((Nat × Option Int) ⊕ Unit))
abbrev vI (x : Int) : jV := .inl x
abbrev vJ (x : Int) : jV := .inr (.inl x)
abbrev vR (f : Nat) (o : Option Int) : jV := .inr (.inr (.inl (f, o)))
abbrev vU : jV := .inr (.inr (.inr ()))
/-- ints, longs, references that change: by family, number, place -/
abbrev jMem : Type := (Nat → Int → Int → Int) × ((Nat → Int → Int → Int) × (Nat → Int → Nat → Option Int))
abbrev jR : Type := Option (jV × jMem)
def jrI (m : jMem) (f : Nat) (i k : Int) : Int := m.1 f i k
def jrJ (m : jMem) (f : Nat) (i k : Int) : Int := m.2.1 f i k
def jrS (m : jMem) (f : Nat) (i : Int) (k : Nat) : Option Int := m.2.2 f i k
def jieq (a b : Int) : Bool := match a, b with
  | .ofNat m, .ofNat n => Nat.beq m n
  | .negSucc m, .negSucc n => Nat.beq m n
  | _, _ => false
def jwI (m : jMem) (f : Nat) (i k v : Int) : jMem := (fun f' i' k' => bif Nat.beq f' f then bif jieq i' i then bif jieq k' k then v else m.1 f' i' k' else m.1 f' i' k' else m.1 f' i' k', m.2)
def jwJ (m : jMem) (f : Nat) (i k v : Int) : jMem := (m.1, fun f' i' k' => bif Nat.beq f' f then bif jieq i' i then bif jieq k' k then v else m.2.1 f' i' k' else m.2.1 f' i' k' else m.2.1 f' i' k', m.2.2)
def jwS (m : jMem) (f : Nat) (i : Int) (k : Nat) (v : Option Int) : jMem := (m.1, m.2.1, fun f' i' k' => bif Nat.beq f' f then bif jieq i' i then bif Nat.beq k' k then v else m.2.2 f' i' k' else m.2.2 f' i' k' else m.2.2 f' i' k')
/-- a row of ints copied into another -/
def jwC (m : jMem) (f : Nat) (i sp : Int) (f' : Nat) (i' dp n : Int) : jMem := (fun g j k => bif Nat.beq g f' then if j = i' ∧ dp ≤ k ∧ k < dp + n then m.1 f i (sp + (k - dp)) else m.1 g j k else m.1 g j k, m.2)
def jw32 (x : Int) : Int := Int.bmod x 4294967296
def jw64 (x : Int) : Int := Int.bmod x 18446744073709551616
def jw8 (x : Int) : Int := Int.bmod x 256
def jshl (x y : Int) : Int := (Int32.ofInt x <<< (Int32.ofInt y &&& 31)).toInt
def jshr (x y : Int) : Int := (Int32.ofInt x >>> (Int32.ofInt y &&& 31)).toInt
def jushr (x y : Int) : Int := ((Int32.ofInt x).toUInt32 >>> ((Int32.ofInt y).toUInt32 &&& Int32.toUInt32 31)).toInt32.toInt
def jand (x y : Int) : Int := (Int32.ofInt x &&& Int32.ofInt y).toInt
def jor (x y : Int) : Int := (Int32.ofInt x ||| Int32.ofInt y).toInt
def jlshl (x y : Int) : Int := (Int64.ofInt x <<< ((Int32.ofInt y).toInt64 &&& 63)).toInt
def jland (x y : Int) : Int := (Int64.ofInt x &&& Int64.ofInt y).toInt
def jlor (x y : Int) : Int := (Int64.ofInt x ||| Int64.ofInt y).toInt
def jlcmp (x y : Int) : Int := if x < y then -1 else if x = y then 0 else 1
def jsm (o : Option Int) (k : Int → jR) : jR := match o with
  | some i => k i
  | none => none
/-- ref null or not -/
def jnl (o : Option Int) (a b : jR) : jR := match o with
  | some _ => b
  | none => a
def jix (n : Nat) (x : Int) (k : jR) : jR := match x with
  | .ofNat j => bif Nat.blt j n then k else none
  | .negSucc _ => none
def jbo (v : Int) (k : jR) : jR := match v with
  | .ofNat j => bif Nat.blt j 2 then k else none
  | .negSucc _ => none
def jnz (v : Int) (k : jR) : jR := match v with
  | .ofNat j => bif Nat.blt 0 j then k else none
  | .negSucc _ => k
def jnth : List jV → Nat → jV
  | [], _ => vU
  | v :: _, 0 => v
  | _ :: l, n + 1 => jnth l n
def jset : List jV → Nat → jV → List jV
  | [], _, _ => []
  | _ :: l, 0, v => v :: l
  | w :: l, n + 1, v => w :: jset l n v
def jkill : List Nat → List jV → List jV
  | [], ls => ls
  | i :: is, ls => jkill is (jset ls i vU)
def jcat : jV → Nat
  | .inr (.inl _) => 2
  | _ => 1
def jsum : List jV → Nat
  | [] => 0
  | v :: l => jcat v + jsum l
def jinv (ls : List jV) (i : Nat) : List jV := match i with
  | 0 => ls
  | j + 1 => match jnth ls j with
    | .inr (.inl _) => jset ls j vU
    | _ => ls
/-- the same with the rest of the work behind it, so that the row is written out at once -/
def jsetK : List jV → Nat → jV → (List jV → jR) → jR
  | [], _, _, k => k []
  | _ :: l, 0, v, k => k (v :: l)
  | w :: l, n + 1, v, k => jsetK l n v fun l => k (w :: l)
def jkillK : List Nat → List jV → (List jV → jR) → jR
  | [], ls, k => k ls
  | i :: is, ls, k => jsetK ls i vU fun ls => jkillK is ls k
def jinvK (ls : List jV) (i : Nat) (k : List jV → jR) : jR := match i with
  | 0 => k ls
  | j + 1 => match jnth ls j with
    | .inr (.inl _) => jsetK ls j vU k
    | _ => k ls
def jst1 (ls : List jV) (i : Nat) (v : jV) (k : List jV → jR) : jR := jinvK ls i fun ls => jsetK ls i v k
def jst2 (ls : List jV) (i : Nat) (v : jV) (k : List jV → jR) : jR := jinvK ls i fun ls => jsetK ls i v fun ls => jsetK ls (i + 1) vU k
def jpI (st : List jV) (k : Int → List jV → jR) : jR := match st with
  | .inl x :: st => k x st
  | _ => none
def jpJ (st : List jV) (k : Int → List jV → jR) : jR := match st with
  | .inr (.inl x) :: st => k x st
  | _ => none
def jpR (f : Nat) (st : List jV) (k : Option Int → List jV → jR) : jR := match st with
  | .inr (.inr (.inl (g, o))) :: st => bif Nat.beq g f then k o st else none
  | _ => none
def jpD (f : Nat) (st : List jV) (k : Int → List jV → jR) : jR := jpR f st fun o st => jsm o fun i => k i st
def jtake : Nat → List jV → List jV → Option (List jV × List jV)
  | 0, st, acc => some (acc, st)
  | _ + 1, [], _ => none
  | n + 1, v :: st, acc => jtake n st (v :: acc)
def jasI : jV → Int
  | .inl x => x
  | _ => 0
def jasJ : jV → Int
  | .inr (.inl x) => x
  | _ => 0
def jasR : jV → Option Int
  | .inr (.inr (.inl (_, o))) => o
  | _ => none
def jpush (rk rf : Nat) (v : jV) (st : List jV) : List jV := match rk with
  | 0 => st
  | 1 => vI (jasI v) :: st
  | 2 => vJ (jasJ v) :: st
  | _ => vR rf (jasR v) :: st
def jrecv (rv : Nat) (as : List jV) (k : jR) : jR := match rv with
  | 0 => k
  | f + 1 => match as with
    | .inr (.inr (.inl (g, o))) :: _ => bif Nat.beq g f then jsm o (fun _ => k) else none
    | _ => none
def jbnd (r : jR) (k : jV → jMem → jR) : jR := match r with
  | some q => k q.1 q.2
  | none => none
def jswi (x : Int) (d : jR) (k : Nat → jR) : List Nat → jR
  | a :: t :: l => if x = (a : Int) then k t else jswi x d k l
  | _ => d
abbrev jCall : Type := Nat → List jV → jMem → jR
abbrev jKf : Type := List jV → List jV → jMem → jR
def jinvoke (aux : List Nat) (ls st : List jV) (mem : jMem) (call : jCall) (kf : jKf) : jR := match aux with
  | [z, n, rk, rf, rv] => match jtake n st [] with
    | some (as, rest) => bif Nat.ble (jsum rest) 8 then jrecv rv as (jbnd (call z as mem) fun v mem => kf ls (jpush rk rf v rest) mem) else none
    | none => none
  | _ => none
def jget5 (kd : Nat) (mem : jMem) (f : Nat) (i : Int) (k f' mp : Nat) : jV := match kd with
  | 0 => vI (jrI mem f i (k : Int))
  | 1 => vJ (jrJ mem f i (k : Int))
  | 2 => vR f' (some i)
  | 3 => vR f' (jrS mem f i k)
  | _ => vR f' (some (mp : Int))
def jgetf (aux : List Nat) (ls st : List jV) (mem : jMem) (kf : jKf) : jR := match aux with
  | [f, k, kd, f', mp] => jpD f st fun i st => kf ls (jget5 kd mem f i k f' mp :: st) mem
  | _ => none
def jputf (aux : List Nat) (ls st : List jV) (mem : jMem) (kf : jKf) : jR := match aux with
  | [f, k, 0, _, _] => jpI st fun v st => jpD f st fun i st => kf ls st (jwI mem f i (k : Int) v)
  | [f, k, 1, _, _] => jpJ st fun v st => jpD f st fun i st => kf ls st (jwJ mem f i (k : Int) v)
  | [f, k, 3, f', _] => jpR f' st fun v st => jpD f st fun i st => kf ls st (jwS mem f i k v)
  | [f, k, 4, _, _] => jpI st fun v st => jpD f st fun i st => jbo v (kf ls st (jwI mem f i (k : Int) v))
  | _ => none
def jald (J : Bool) (aux : List Nat) (ls st : List jV) (mem : jMem) (kf : jKf) : jR := match aux with
  | [f, n] => jpI st fun x st => jpD f st fun i st => jix n x (kf ls ((bif J then vJ (jrJ mem f i x) else vI (jrI mem f i x)) :: st) mem)
  | _ => none
def jaald (aux : List Nat) (ls st : List jV) (mem : jMem) (kf : jKf) : jR := match aux with
  | [f, n, f', 0] => jpI st fun x st => jpD f st fun _ st => jix n x (kf ls (vR f' (some x) :: st) mem)
  | [f, n, f', mp] => jpI st fun x st => jpD f st fun _ st => jix n x (kf ls (vR f' (some (x + (mp : Int))) :: st) mem)
  | _ => none
def jast (aux : List Nat) (ls st : List jV) (mem : jMem) (kf : jKf) : jR := match aux with
  | [f, n, 0] => jpI st fun v st => jpI st fun x st => jpD f st fun i st => jix n x (kf ls st (jwI mem f i x v))
  | [f, n, 1] => jpJ st fun v st => jpI st fun x st => jpD f st fun i st => jix n x (kf ls st (jwJ mem f i x v))
  | [f, n, 2] => jpI st fun v st => jpI st fun x st => jpD f st fun i st => jix n x (kf ls st (jwI mem f i x (jw8 v)))
  | [f, n, 3] => jpI st fun v st => jpI st fun x st => jpD f st fun i st => jix n x (jbo v (kf ls st (jwI mem f i x v)))
  | _ => none
def jb1 (st : List jV) (k : Int → Int → List jV → jR) : jR := jpI st fun y st => jpI st fun x st => k x y st
def jb2 (st : List jV) (k : Int → Int → List jV → jR) : jR := jpJ st fun y st => jpJ st fun x st => k x y st
/-- arraycopy of whole or part rows of ints -/
def jcopy (aux : List Nat) (ls st : List jV) (mem : jMem) (kf : jKf) : jR := match aux with
  | [f, n, f', n'] => jpI st fun c st => jpI st fun dp st => jpD f' st fun i' st => jpI st fun sp st => jpD f st fun i st =>
      if 0 ≤ sp ∧ 0 ≤ dp ∧ 0 ≤ c ∧ sp + c ≤ (n : Int) ∧ dp + c ≤ (n' : Int) then (bif Nat.ble (jsum st) 8 then kf ls st (jwC mem f i sp f' i' dp c) else none) else none
  | _ => none
def jcond (c : Jvm.ClassFile.Cond) (x y : Int) (a b : jR) : jR := match c with
  | .eq => if x = y then a else b
  | .ne => if x = y then b else a
  | .lt => if x < y then a else b
  | .ge => if x < y then b else a
  | .gt => if y < x then a else b
  | .le => if y < x then b else a
def jstep (ins : Instr) (aux : List Nat) (ls st : List jV) (mem : jMem) (call : jCall) (kf : jKf) (kj : Nat → jKf) : jR := match ins with
  | .iconst v => kf ls (vI v :: st) mem
  | .bipush v => kf ls (vI v :: st) mem
  | .sipush v => kf ls (vI v :: st) mem
  | .lconst v => kf ls (vJ (v.val : Int) :: st) mem
  | .ldc _ => match aux with
    | [0, a, b] => kf ls (vI ((a : Int) - (b : Int)) :: st) mem
    | [1, f, i] => kf ls (vR f (some (i : Int)) :: st) mem
    | _ => none
  | .ldc_w _ => match aux with
    | [0, a, b] => kf ls (vI ((a : Int) - (b : Int)) :: st) mem
    | _ => none
  | .ldc2_w _ => match aux with
    | [a] => kf ls (vJ (a : Int) :: st) mem
    | _ => none
  | .aconst_null => match aux with
    | [f] => kf ls (vR f none :: st) mem
    | _ => none
  | .iload i => match jnth ls i with
    | .inl x => kf ls (vI x :: st) mem
    | _ => none
  | .iload_n i => match jnth ls i.val with
    | .inl x => kf ls (vI x :: st) mem
    | _ => none
  | .lload i => match jnth ls i with
    | .inr (.inl x) => kf ls (vJ x :: st) mem
    | _ => none
  | .lload_n i => match jnth ls i.val with
    | .inr (.inl x) => kf ls (vJ x :: st) mem
    | _ => none
  | .aload i => match jnth ls i with
    | .inr (.inr (.inl q)) => kf ls (vR q.1 q.2 :: st) mem
    | _ => none
  | .aload_n i => match jnth ls i.val with
    | .inr (.inr (.inl q)) => kf ls (vR q.1 q.2 :: st) mem
    | _ => none
  | .istore i => jpI st fun x st => jst1 ls i (vI x) fun ls => kf ls st mem
  | .istore_n i => jpI st fun x st => jst1 ls i.val (vI x) fun ls => kf ls st mem
  | .lstore i => jpJ st fun x st => jst2 ls i (vJ x) fun ls => kf ls st mem
  | .lstore_n i => jpJ st fun x st => jst2 ls i.val (vJ x) fun ls => kf ls st mem
  | .iinc i n => match jnth ls i with
    | .inl x => jst1 ls i (vI (jw32 (x + n))) fun ls => kf ls st mem
    | _ => none
  | .pop => match st with
    | .inl _ :: st => kf ls st mem
    | .inr (.inr (.inl _)) :: st => kf ls st mem
    | _ => none
  | .dup => match st with
    | .inl x :: st => kf ls (vI x :: vI x :: st) mem
    | .inr (.inr (.inl q)) :: st => kf ls (vR q.1 q.2 :: vR q.1 q.2 :: st) mem
    | _ => none
  | .dup2 => match st with
    | .inr (.inl x) :: st => kf ls (vJ x :: vJ x :: st) mem
    | .inl x :: .inr (.inr (.inl q)) :: st => kf ls (vI x :: vR q.1 q.2 :: vI x :: vR q.1 q.2 :: st) mem
    | _ => none
  | .iadd => jb1 st fun x y st => kf ls (vI (jw32 (x + y)) :: st) mem
  | .isub => jb1 st fun x y st => kf ls (vI (jw32 (x - y)) :: st) mem
  | .imul => jb1 st fun x y st => kf ls (vI (jw32 (x * y)) :: st) mem
  | .idiv => jb1 st fun x y st => jnz y (kf ls (vI (jw32 (x.tdiv y)) :: st) mem)
  | .irem => jb1 st fun x y st => jnz y (kf ls (vI (x.tmod y) :: st) mem)
  | .ishl => jb1 st fun x y st => kf ls (vI (jshl x y) :: st) mem
  | .ishr => jb1 st fun x y st => kf ls (vI (jshr x y) :: st) mem
  | .iushr => jb1 st fun x y st => kf ls (vI (jushr x y) :: st) mem
  | .iand => jb1 st fun x y st => kf ls (vI (jand x y) :: st) mem
  | .ior => jb1 st fun x y st => kf ls (vI (jor x y) :: st) mem
  | .ladd => jb2 st fun x y st => kf ls (vJ (jw64 (x + y)) :: st) mem
  | .lsub => jb2 st fun x y st => kf ls (vJ (jw64 (x - y)) :: st) mem
  | .lmul => jb2 st fun x y st => kf ls (vJ (jw64 (x * y)) :: st) mem
  | .ldiv => jb2 st fun x y st => jnz y (kf ls (vJ (jw64 (x.tdiv y)) :: st) mem)
  | .lrem => jb2 st fun x y st => jnz y (kf ls (vJ (x.tmod y) :: st) mem)
  | .land => jb2 st fun x y st => kf ls (vJ (jland x y) :: st) mem
  | .lor => jb2 st fun x y st => kf ls (vJ (jlor x y) :: st) mem
  | .lshl => jpI st fun y st => jpJ st fun x st => kf ls (vJ (jlshl x y) :: st) mem
  | .lcmp => jb2 st fun x y st => kf ls (vI (jlcmp x y) :: st) mem
  | .i2l => jpI st fun x st => kf ls (vJ x :: st) mem
  | .l2i => jpJ st fun x st => kf ls (vI (jw32 x) :: st) mem
  | .i2b => jpI st fun x st => kf ls (vI (jw8 x) :: st) mem
  | .ifCond c _ => match aux with
    | [t] => jpI st fun x st => jcond c x 0 (kj t ls st mem) (kf ls st mem)
    | _ => none
  | .if_icmp c _ => match aux with
    | [t] => jb1 st fun x y st => jcond c x y (kj t ls st mem) (kf ls st mem)
    | _ => none
  | .ifnull _ => match aux with
    | [t, f] => jpR f st fun o st => jnl o (kj t ls st mem) (kf ls st mem)
    | _ => none
  | .ifnonnull _ => match aux with
    | [t, f] => jpR f st fun o st => jnl o (kf ls st mem) (kj t ls st mem)
    | _ => none
  | .goto _ => match aux with
    | [t] => kj t ls st mem
    | _ => none
  | .tableswitch _ _ _ _ => match aux with
    | d :: l => jpI st fun x st => jswi x (kj d ls st mem) (fun t => kj t ls st mem) l
    | _ => none
  | .lookupswitch _ _ => match aux with
    | d :: l => jpI st fun x st => jswi x (kj d ls st mem) (fun t => kj t ls st mem) l
    | _ => none
  | .getfield _ => jgetf aux ls st mem kf
  | .putfield _ => jputf aux ls st mem kf
  | .iaload => jald false aux ls st mem kf
  | .baload => jald false aux ls st mem kf
  | .laload => jald true aux ls st mem kf
  | .aaload => jaald aux ls st mem kf
  | .iastore => jast aux ls st mem kf
  | .lastore => jast aux ls st mem kf
  | .bastore => jast aux ls st mem kf
  | .arraylength => match aux with
    | [f, n] => jpD f st fun _ st => kf ls (vI (n : Int) :: st) mem
    | _ => none
  | .invokestatic _ => match aux with
    | [f, n, f', n'] => jcopy [f, n, f', n'] ls st mem kf
    | _ => jinvoke aux ls st mem call kf
  | .invokevirtual _ => jinvoke aux ls st mem call kf
  | .ireturn => match aux, st with
    | [0], [.inl x] => some (vI x, mem)
    | [1], [.inl x] => jbo x (some (vI x, mem))
    | _, _ => none
  | .lreturn => match st with
    | [.inr (.inl x)] => some (vJ x, mem)
    | _ => none
  | .areturn => match aux, st with
    | [f], [.inr (.inr (.inl q))] => bif Nat.beq q.1 f then some (vR q.1 q.2, mem) else none
    | _, _ => none
  | .return_ => match st with
    | [] => some (vU, mem)
    | _ => none
  | _ => none
/-- an instruction, the place behind it, what its numbers mean, locals that are dead where it falls through to, and where it jumps to -/
abbrev jE : Type := Instr × Nat × List Nat × List Nat × List Nat
abbrev jCode : Type := List (Nat × jE)
def jget : jCode → Nat → Option jE
  | [], _ => none
  | (p, e) :: l, pc => bif Nat.beq p pc then some e else jget l pc
def jrun (cd : jCode) (call : jCall) : Nat → Nat → List jV → List jV → jMem → jR
  | 0, _, _, _, _ => none
  | n + 1, pc, ls, st, mem => match jget cd pc with
    | none => none
    | some e => jstep e.1 e.2.2.1 ls st mem call (fun ls st mem => jkillK e.2.2.2.1 ls fun ls => jrun cd call n e.2.1 ls st mem) (fun t ls st mem => jkillK e.2.2.2.2 ls fun ls => jrun cd call n t ls st mem)
