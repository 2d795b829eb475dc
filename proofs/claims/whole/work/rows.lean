section
/-! An abstract machine over typed memory: its runs are pure functions; part 30 ties them to the real machine. -/
abbrev jV : Type := Int ⊕ (Int ⊕ ((Nat × Option Int) ⊕ Unit))
abbrev vI (x : Int) : jV := .inl x
abbrev vJ (x : Int) : jV := .inr (.inl x)
abbrev vR (f : Nat) (o : Option Int) : jV := .inr (.inr (.inl (f, o)))
abbrev vU : jV := .inr (.inr (.inr ()))
/-- ints, longs, references that change: by family, number, place -/
abbrev jMem : Type := (Nat → Int → Int → Int) × ((Nat → Int → Int → Int) × (Nat → Int → Nat → Option Int))
abbrev jR : Type := Option (jV × jMem)
def jrI (m : jMem) (f : Nat) (i k : Int) : Int := m.1 f i k
def jrJ (m : jMem) (f : Nat) (i k : Int) : Int := m.2.1 f i k
def jrS (m : jMem) (f : Nat) (i : Int) (k : Nat) : Option Int := m.2.2 f i k
def jieq (a b : Int) : Bool := match a, b with
  | .ofNat m, .ofNat n => Nat.beq m n
  | .negSucc m, .negSucc n => Nat.beq m n
  | _, _ => false
def jwI (m : jMem) (f : Nat) (i k v : Int) : jMem := (fun f' i' k' => bif Nat.beq f' f then bif jieq i' i then bif jieq k' k then v else m.1 f' i' k' else m.1 f' i' k' else m.1 f' i' k', m.2)
def jwJ (m : jMem) (f : Nat) (i k v : Int) : jMem := (m.1, fun f' i' k' => bif Nat.beq f' f then bif jieq i' i then bif jieq k' k then v else m.2.1 f' i' k' else m.2.1 f' i' k' else m.2.1 f' i' k', m.2.2)
def jwS (m : jMem) (f : Nat) (i : Int) (k : Nat) (v : Option Int) : jMem := (m.1, m.2.1, fun f' i' k' => bif Nat.beq f' f then bif jieq i' i then bif Nat.beq k' k then v else m.2.2 f' i' k' else m.2.2 f' i' k' else m.2.2 f' i' k')
/-- a row of ints copied into another -/
def jwC (m : jMem) (f : Nat) (i sp : Int) (f' : Nat) (i' dp n : Int) : jMem := (fun g j k => bif Nat.beq g f' then if j = i' ∧ dp ≤ k ∧ k < dp + n then m.1 f i (sp + (k - dp)) else m.1 g j k else m.1 g j k, m.2)
def jw32 (x : Int) : Int := Int.bmod x 4294967296
def jw64 (x : Int) : Int := Int.bmod x 18446744073709551616
def jw8 (x : Int) : Int := Int.bmod x 256
def jshl (x y : Int) : Int := (Int32.ofInt x <<< (Int32.ofInt y &&& 31)).toInt
def jshr (x y : Int) : Int := (Int32.ofInt x >>> (Int32.ofInt y &&& 31)).toInt
def jushr (x y : Int) : Int := ((Int32.ofInt x).toUInt32 >>> ((Int32.ofInt y).toUInt32 &&& Int32.toUInt32 31)).toInt32.toInt
def jand (x y : Int) : Int := (Int32.ofInt x &&& Int32.ofInt y).toInt
def jor (x y : Int) : Int := (Int32.ofInt x ||| Int32.ofInt y).toInt
def jlshl (x y : Int) : Int := (Int64.ofInt x <<< ((Int32.ofInt y).toInt64 &&& 63)).toInt
def jland (x y : Int) : Int := (Int64.ofInt x &&& Int64.ofInt y).toInt
def jlor (x y : Int) : Int := (Int64.ofInt x ||| Int64.ofInt y).toInt
def jlcmp (x y : Int) : Int := if x < y then -1 else if x = y then 0 else 1
def jsm (o : Option Int) (k : Int → jR) : jR := match o with
  | some i => k i
  | none => none
/-- ref null or not -/
def jnl (o : Option Int) (a b : jR) : jR := match o with
  | some _ => b
  | none => a
def jix (n : Nat) (x : Int) (k : jR) : jR := match x with
  | .ofNat j => bif Nat.blt j n then k else none
  | .negSucc _ => none
def jbo (v : Int) (k : jR) : jR := match v with
  | .ofNat j => bif Nat.blt j 2 then k else none
  | .negSucc _ => none
def jnz (v : Int) (k : jR) : jR := match v with
  | .ofNat j => bif Nat.blt 0 j then k else none
  | .negSucc _ => k
def jnth : List jV → Nat → jV
  | [], _ => vU
  | v :: _, 0 => v
  | _ :: l, n + 1 => jnth l n
def jset : List jV → Nat → jV → List jV
  | [], _, _ => []
  | _ :: l, 0, v => v :: l
  | w :: l, n + 1, v => w :: jset l n v
def jkill : List Nat → List jV → List jV
  | [], ls => ls
  | i :: is, ls => jkill is (jset ls i vU)
def jcat : jV → Nat
  | .inr (.inl _) => 2
  | _ => 1
def jsum : List jV → Nat
  | [] => 0
  | v :: l => jcat v + jsum l
def jinv (ls : List jV) (i : Nat) : List jV := match i with
  | 0 => ls
  | j + 1 => match jnth ls j with
    | .inr (.inl _) => jset ls j vU
    | _ => ls
/-- the same with the rest of the work behind it, so that the row is written out at once -/
def jsetK : List jV → Nat → jV → (List jV → jR) → jR
  | [], _, _, k => k []
  | _ :: l, 0, v, k => k (v :: l)
  | w :: l, n + 1, v, k => jsetK l n v fun l => k (w :: l)
def jkillK : List Nat → List jV → (List jV → jR) → jR
  | [], ls, k => k ls
  | i :: is, ls, k => jsetK ls i vU fun ls => jkillK is ls k
def jinvK (ls : List jV) (i : Nat) (k : List jV → jR) : jR := match i with
  | 0 => k ls
  | j + 1 => match jnth ls j with
    | .inr (.inl _) => jsetK ls j vU k
    | _ => k ls
def jst1 (ls : List jV) (i : Nat) (v : jV) (k : List jV → jR) : jR := jinvK ls i fun ls => jsetK ls i v k
def jst2 (ls : List jV) (i : Nat) (v : jV) (k : List jV → jR) : jR := jinvK ls i fun ls => jsetK ls i v fun ls => jsetK ls (i + 1) vU k
def jpI (st : List jV) (k : Int → List jV → jR) : jR := match st with
  | .inl x :: st => k x st
  | _ => none
def jpJ (st : List jV) (k : Int → List jV → jR) : jR := match st with
  | .inr (.inl x) :: st => k x st
  | _ => none
def jpR (f : Nat) (st : List jV) (k : Option Int → List jV → jR) : jR := match st with
  | .inr (.inr (.inl (g, o))) :: st => bif Nat.beq g f then k o st else none
  | _ => none
def jpD (f : Nat) (st : List jV) (k : Int → List jV → jR) : jR := jpR f st fun o st => jsm o fun i => k i st
def jtake : Nat → List jV → List jV → Option (List jV × List jV)
  | 0, st, acc => some (acc, st)
  | _ + 1, [], _ => none
  | n + 1, v :: st, acc => jtake n st (v :: acc)
def jasI : jV → Int
  | .inl x => x
  | _ => 0
def jasJ : jV → Int
  | .inr (.inl x) => x
  | _ => 0
def jasR : jV → Option Int
  | .inr (.inr (.inl (_, o))) => o
  | _ => none
def jpush (rk rf : Nat) (v : jV) (st : List jV) : List jV := match rk with
  | 0 => st
  | 1 => vI (jasI v) :: st
  | 2 => vJ (jasJ v) :: st
  | _ => vR rf (jasR v) :: st
def jrecv (rv : Nat) (as : List jV) (k : jR) : jR := match rv with
  | 0 => k
  | f + 1 => match as with
    | .inr (.inr (.inl (g, o))) :: _ => bif Nat.beq g f then jsm o (fun _ => k) else none
    | _ => none
def jbnd (r : jR) (k : jV → jMem → jR) : jR := match r with
  | some q => k q.1 q.2
  | none => none
def jswi (x : Int) (d : jR) (k : Nat → jR) : List Nat → jR
  | a :: t :: l => if x = (a : Int) then k t else jswi x d k l
  | _ => d
abbrev jCall : Type := Nat → List jV → jMem → jR
abbrev jKf : Type := List jV → List jV → jMem → jR
def jinvoke (aux : List Nat) (ls st : List jV) (mem : jMem) (call : jCall) (kf : jKf) : jR := match aux with
  | [z, n, rk, rf, rv] => match jtake n st [] with
    | some (as, rest) => bif Nat.ble (jsum rest) 8 then jrecv rv as (jbnd (call z as mem) fun v mem => kf ls (jpush rk rf v rest) mem) else none
    | none => none
  | _ => none
def jget5 (kd : Nat) (mem : jMem) (f : Nat) (i : Int) (k f' mp : Nat) : jV := match kd with
  | 0 => vI (jrI mem f i (k : Int))
  | 1 => vJ (jrJ mem f i (k : Int))
  | 2 => vR f' (some i)
  | 3 => vR f' (jrS mem f i k)
  | _ => vR f' (some (mp : Int))
def jgetf (aux : List Nat) (ls st : List jV) (mem : jMem) (kf : jKf) : jR := match aux with
  | [f, k, kd, f', mp] => jpD f st fun i st => kf ls (jget5 kd mem f i k f' mp :: st) mem
  | _ => none
def jputf (aux : List Nat) (ls st : List jV) (mem : jMem) (kf : jKf) : jR := match aux with
  | [f, k, 0, _, _] => jpI st fun v st => jpD f st fun i st => kf ls st (jwI mem f i (k : Int) v)
  | [f, k, 1, _, _] => jpJ st fun v st => jpD f st fun i st => kf ls st (jwJ mem f i (k : Int) v)
  | [f, k, 3, f', _] => jpR f' st fun v st => jpD f st fun i st => kf ls st (jwS mem f i k v)
  | [f, k, 4, _, _] => jpI st fun v st => jpD f st fun i st => jbo v (kf ls st (jwI mem f i (k : Int) v))
  | _ => none
def jald (J : Bool) (aux : List Nat) (ls st : List jV) (mem : jMem) (kf : jKf) : jR := match aux with
  | [f, n] => jpI st fun x st => jpD f st fun i st => jix n x (kf ls ((bif J then vJ (jrJ mem f i x) else vI (jrI mem f i x)) :: st) mem)
  | _ => none
def jaald (aux : List Nat) (ls st : List jV) (mem : jMem) (kf : jKf) : jR := match aux with
  | [f, n, f', 0] => jpI st fun x st => jpD f st fun _ st => jix n x (kf ls (vR f' (some x) :: st) mem)
  | [f, n, f', mp] => jpI st fun x st => jpD f st fun _ st => jix n x (kf ls (vR f' (some (x + (mp : Int))) :: st) mem)
  | _ => none
def jast (aux : List Nat) (ls st : List jV) (mem : jMem) (kf : jKf) : jR := match aux with
  | [f, n, 0] => jpI st fun v st => jpI st fun x st => jpD f st fun i st => jix n x (kf ls st (jwI mem f i x v))
  | [f, n, 1] => jpJ st fun v st => jpI st fun x st => jpD f st fun i st => jix n x (kf ls st (jwJ mem f i x v))
  | [f, n, 2] => jpI st fun v st => jpI st fun x st => jpD f st fun i st => jix n x (kf ls st (jwI mem f i x (jw8 v)))
  | [f, n, 3] => jpI st fun v st => jpI st fun x st => jpD f st fun i st => jix n x (jbo v (kf ls st (jwI mem f i x v)))
  | _ => none
def jb1 (st : List jV) (k : Int → Int → List jV → jR) : jR := jpI st fun y st => jpI st fun x st => k x y st
def jb2 (st : List jV) (k : Int → Int → List jV → jR) : jR := jpJ st fun y st => jpJ st fun x st => k x y st
/-- arraycopy of whole or part rows of ints -/
def jcopy (aux : List Nat) (ls st : List jV) (mem : jMem) (kf : jKf) : jR := match aux with
  | [f, n, f', n'] => jpI st fun c st => jpI st fun dp st => jpD f' st fun i' st => jpI st fun sp st => jpD f st fun i st =>
      if 0 ≤ sp ∧ 0 ≤ dp ∧ 0 ≤ c ∧ sp + c ≤ (n : Int) ∧ dp + c ≤ (n' : Int) then kf ls st (jwC mem f i sp f' i' dp c) else none
  | _ => none
def jcond (c : Jvm.ClassFile.Cond) (x y : Int) (a b : jR) : jR := match c with
  | .eq => if x = y then a else b
  | .ne => if x = y then b else a
  | .lt => if x < y then a else b
  | .ge => if x < y then b else a
  | .gt => if y < x then a else b
  | .le => if y < x then b else a
def jstep (ins : Instr) (aux : List Nat) (ls st : List jV) (mem : jMem) (call : jCall) (kf : jKf) (kj : Nat → jKf) : jR := match ins with
  | .iconst v => kf ls (vI v :: st) mem
  | .bipush v => kf ls (vI v :: st) mem
  | .sipush v => kf ls (vI v :: st) mem
  | .lconst v => kf ls (vJ (v.val : Int) :: st) mem
  | .ldc _ => match aux with
    | [0, a, b] => kf ls (vI ((a : Int) - (b : Int)) :: st) mem
    | [1, f, i] => kf ls (vR f (some (i : Int)) :: st) mem
    | _ => none
  | .ldc_w _ => match aux with
    | [0, a, b] => kf ls (vI ((a : Int) - (b : Int)) :: st) mem
    | _ => none
  | .ldc2_w _ => match aux with
    | [a] => kf ls (vJ (a : Int) :: st) mem
    | _ => none
  | .aconst_null => match aux with
    | [f] => kf ls (vR f none :: st) mem
    | _ => none
  | .iload i => match jnth ls i with
    | .inl x => kf ls (vI x :: st) mem
    | _ => none
  | .iload_n i => match jnth ls i.val with
    | .inl x => kf ls (vI x :: st) mem
    | _ => none
  | .lload i => match jnth ls i with
    | .inr (.inl x) => kf ls (vJ x :: st) mem
    | _ => none
  | .lload_n i => match jnth ls i.val with
    | .inr (.inl x) => kf ls (vJ x :: st) mem
    | _ => none
  | .aload i => match jnth ls i with
    | .inr (.inr (.inl q)) => kf ls (vR q.1 q.2 :: st) mem
    | _ => none
  | .aload_n i => match jnth ls i.val with
    | .inr (.inr (.inl q)) => kf ls (vR q.1 q.2 :: st) mem
    | _ => none
  | .istore i => jpI st fun x st => jst1 ls i (vI x) fun ls => kf ls st mem
  | .istore_n i => jpI st fun x st => jst1 ls i.val (vI x) fun ls => kf ls st mem
  | .lstore i => jpJ st fun x st => jst2 ls i (vJ x) fun ls => kf ls st mem
  | .lstore_n i => jpJ st fun x st => jst2 ls i.val (vJ x) fun ls => kf ls st mem
  | .iinc i n => match jnth ls i with
    | .inl x => jst1 ls i (vI (jw32 (x + n))) fun ls => kf ls st mem
    | _ => none
  | .pop => match st with
    | .inl _ :: st => kf ls st mem
    | .inr (.inr (.inl _)) :: st => kf ls st mem
    | _ => none
  | .dup => match st with
    | .inl x :: st => kf ls (vI x :: vI x :: st) mem
    | .inr (.inr (.inl q)) :: st => kf ls (vR q.1 q.2 :: vR q.1 q.2 :: st) mem
    | _ => none
  | .dup2 => match st with
    | .inr (.inl x) :: st => kf ls (vJ x :: vJ x :: st) mem
    | .inl x :: .inr (.inr (.inl q)) :: st => kf ls (vI x :: vR q.1 q.2 :: vI x :: vR q.1 q.2 :: st) mem
    | _ => none
  | .iadd => jb1 st fun x y st => kf ls (vI (jw32 (x + y)) :: st) mem
  | .isub => jb1 st fun x y st => kf ls (vI (jw32 (x - y)) :: st) mem
  | .imul => jb1 st fun x y st => kf ls (vI (jw32 (x * y)) :: st) mem
  | .idiv => jb1 st fun x y st => jnz y (kf ls (vI (jw32 (x.tdiv y)) :: st) mem)
  | .irem => jb1 st fun x y st => jnz y (kf ls (vI (x.tmod y) :: st) mem)
  | .ishl => jb1 st fun x y st => kf ls (vI (jshl x y) :: st) mem
  | .ishr => jb1 st fun x y st => kf ls (vI (jshr x y) :: st) mem
  | .iushr => jb1 st fun x y st => kf ls (vI (jushr x y) :: st) mem
  | .iand => jb1 st fun x y st => kf ls (vI (jand x y) :: st) mem
  | .ior => jb1 st fun x y st => kf ls (vI (jor x y) :: st) mem
  | .ladd => jb2 st fun x y st => kf ls (vJ (jw64 (x + y)) :: st) mem
  | .lsub => jb2 st fun x y st => kf ls (vJ (jw64 (x - y)) :: st) mem
  | .lmul => jb2 st fun x y st => kf ls (vJ (jw64 (x * y)) :: st) mem
  | .ldiv => jb2 st fun x y st => jnz y (kf ls (vJ (jw64 (x.tdiv y)) :: st) mem)
  | .lrem => jb2 st fun x y st => jnz y (kf ls (vJ (x.tmod y) :: st) mem)
  | .land => jb2 st fun x y st => kf ls (vJ (jland x y) :: st) mem
  | .lor => jb2 st fun x y st => kf ls (vJ (jlor x y) :: st) mem
  | .lshl => jpI st fun y st => jpJ st fun x st => kf ls (vJ (jlshl x y) :: st) mem
  | .lcmp => jb2 st fun x y st => kf ls (vI (jlcmp x y) :: st) mem
  | .i2l => jpI st fun x st => kf ls (vJ x :: st) mem
  | .l2i => jpJ st fun x st => kf ls (vI (jw32 x) :: st) mem
  | .i2b => jpI st fun x st => kf ls (vI (jw8 x) :: st) mem
  | .ifCond c _ => match aux with
    | [t] => jpI st fun x st => jcond c x 0 (kj t ls st mem) (kf ls st mem)
    | _ => none
  | .if_icmp c _ => match aux with
    | [t] => jb1 st fun x y st => jcond c x y (kj t ls st mem) (kf ls st mem)
    | _ => none
  | .ifnull _ => match aux with
    | [t, f] => jpR f st fun o st => jnl o (kj t ls st mem) (kf ls st mem)
    | _ => none
  | .ifnonnull _ => match aux with
    | [t, f] => jpR f st fun o st => jnl o (kf ls st mem) (kj t ls st mem)
    | _ => none
  | .goto _ => match aux with
    | [t] => kj t ls st mem
    | _ => none
  | .tableswitch _ _ _ _ => match aux with
    | d :: l => jpI st fun x st => jswi x (kj d ls st mem) (fun t => kj t ls st mem) l
    | _ => none
  | .lookupswitch _ _ => match aux with
    | d :: l => jpI st fun x st => jswi x (kj d ls st mem) (fun t => kj t ls st mem) l
    | _ => none
  | .getfield _ => jgetf aux ls st mem kf
  | .putfield _ => jputf aux ls st mem kf
  | .iaload => jald false aux ls st mem kf
  | .baload => jald false aux ls st mem kf
  | .laload => jald true aux ls st mem kf
  | .aaload => jaald aux ls st mem kf
  | .iastore => jast aux ls st mem kf
  | .lastore => jast aux ls st mem kf
  | .bastore => jast aux ls st mem kf
  | .arraylength => match aux with
    | [f, n] => jpD f st fun _ st => kf ls (vI (n : Int) :: st) mem
    | _ => none
  | .invokestatic _ => match aux with
    | [f, n, f', n'] => jcopy [f, n, f', n'] ls st mem kf
    | _ => jinvoke aux ls st mem call kf
  | .invokevirtual _ => jinvoke aux ls st mem call kf
  | .ireturn => match aux, st with
    | [0], [.inl x] => some (vI x, mem)
    | [1], [.inl x] => jbo x (some (vI x, mem))
    | _, _ => none
  | .lreturn => match st with
    | [.inr (.inl x)] => some (vJ x, mem)
    | _ => none
  | .areturn => match aux, st with
    | [f], [.inr (.inr (.inl q))] => bif Nat.beq q.1 f then some (vR q.1 q.2, mem) else none
    | _, _ => none
  | .return_ => match st with
    | [] => some (vU, mem)
    | _ => none
  | _ => none
/-- an instruction, the place behind it, what its numbers mean, locals that are dead where it falls through to, and where it jumps to -/
abbrev jE : Type := Instr × Nat × List Nat × List Nat × List Nat
abbrev jCode : Type := List (Nat × jE)
def jget : jCode → Nat → Option jE
  | [], _ => none
  | (p, e) :: l, pc => bif Nat.beq p pc then some e else jget l pc
def jrun (cd : jCode) (call : jCall) : Nat → Nat → List jV → List jV → jMem → jR
  | 0, _, _, _, _ => none
  | n + 1, pc, ls, st, mem => match jget cd pc with
    | none => none
    | some e => jstep e.1 e.2.2.1 ls st mem call (fun ls st mem => jkillK e.2.2.2.1 ls fun ls => jrun cd call n e.2.1 ls st mem) (fun t ls st mem => jkillK e.2.2.2.2 ls fun ls => jrun cd call n t ls st mem)
end
section
/-! One step takes just one way on; so runs have limits, and these satisfy the step's equation. -/
def jLin (F : jKf → (Nat → jKf) → jR) : Prop := (∃ r, ∀ kf kj, F kf kj = r) ∨ (∃ ls st mem, ∀ kf kj, F kf kj = kf ls st mem) ∨ (∃ t ls st mem, ∀ kf kj, F kf kj = kj t ls st mem)
theorem jl_c (r : jR) : jLin (fun _ _ => r) := Or.inl ⟨r, fun _ _ => rfl⟩
theorem jl_f (ls st : List jV) (mem : jMem) : jLin (fun kf _ => kf ls st mem) := Or.inr (Or.inl ⟨ls, st, mem, fun _ _ => rfl⟩)
theorem jl_j (t : Nat) (ls st : List jV) (mem : jMem) : jLin (fun _ kj => kj t ls st mem) := Or.inr (Or.inr ⟨t, ls, st, mem, fun _ _ => rfl⟩)
theorem jl_ite {c : Prop} {F G : jKf → (Nat → jKf) → jR} (d : Decidable c) (hF : jLin F) (hG : jLin G) : jLin (fun kf kj => @ite _ c d (F kf kj) (G kf kj)) := by
  by_cases h : c
  · simpa [h] using hF
  · simpa [h] using hG
theorem jl_cond {b : Bool} {F G : jKf → (Nat → jKf) → jR} (hF : jLin F) (hG : jLin G) : jLin (fun kf kj => bif b then F kf kj else G kf kj) := by
  cases b
  · exact hG
  · exact hF
theorem jl_sm {o : Option Int} {F : Int → jKf → (Nat → jKf) → jR} (h : ∀ i, jLin (F i)) : jLin (fun kf kj => jsm o fun i => F i kf kj) := by
  cases o with
  | none => exact jl_c none
  | some i => exact h i
theorem jl_nl {o : Option Int} {F G : jKf → (Nat → jKf) → jR} (hF : jLin F) (hG : jLin G) : jLin (fun kf kj => jnl o (F kf kj) (G kf kj)) := by
  cases o with
  | none => exact hF
  | some i => exact hG
theorem jl_pI {st : List jV} {F : Int → List jV → jKf → (Nat → jKf) → jR} (h : ∀ x s, jLin (F x s)) : jLin (fun kf kj => jpI st fun x s => F x s kf kj) := by
  unfold jpI
  split
  · exact h _ _
  · exact jl_c none
theorem jl_pJ {st : List jV} {F : Int → List jV → jKf → (Nat → jKf) → jR} (h : ∀ x s, jLin (F x s)) : jLin (fun kf kj => jpJ st fun x s => F x s kf kj) := by
  unfold jpJ
  split
  · exact h _ _
  · exact jl_c none
theorem jl_pR {f : Nat} {st : List jV} {F : Option Int → List jV → jKf → (Nat → jKf) → jR} (h : ∀ x s, jLin (F x s)) : jLin (fun kf kj => jpR f st fun x s => F x s kf kj) := by
  unfold jpR
  split
  · exact jl_cond (h _ _) (jl_c none)
  · exact jl_c none
theorem jl_pD {f : Nat} {st : List jV} {F : Int → List jV → jKf → (Nat → jKf) → jR} (h : ∀ x s, jLin (F x s)) : jLin (fun kf kj => jpD f st fun x s => F x s kf kj) :=
  jl_pR fun _ s => jl_sm fun i => h i s
theorem jl_ix {n : Nat} {x : Int} {F : jKf → (Nat → jKf) → jR} (h : jLin F) : jLin (fun kf kj => jix n x (F kf kj)) := by
  cases x with
  | ofNat j => exact jl_cond h (jl_c none)
  | negSucc j => exact jl_c none
theorem jl_bo {v : Int} {F : jKf → (Nat → jKf) → jR} (h : jLin F) : jLin (fun kf kj => jbo v (F kf kj)) := by
  cases v with
  | ofNat j => exact jl_cond h (jl_c none)
  | negSucc j => exact jl_c none
theorem jl_nz {v : Int} {F : jKf → (Nat → jKf) → jR} (h : jLin F) : jLin (fun kf kj => jnz v (F kf kj)) := by
  cases v with
  | ofNat j => exact jl_cond h (jl_c none)
  | negSucc j => exact h
theorem jl_bnd {r : jR} {F : jV → jMem → jKf → (Nat → jKf) → jR} (h : ∀ v m, jLin (F v m)) : jLin (fun kf kj => jbnd r fun v m => F v m kf kj) := by
  cases r with
  | none => exact jl_c none
  | some q => exact h _ _
theorem jl_recv {rv : Nat} {as : List jV} {F : jKf → (Nat → jKf) → jR} (h : jLin F) : jLin (fun kf kj => jrecv rv as (F kf kj)) := by
  unfold jrecv
  split
  · exact h
  · split
    · exact jl_cond (jl_sm fun _ => h) (jl_c none)
    · exact jl_c none
theorem jl_b1 {st : List jV} {F : Int → Int → List jV → jKf → (Nat → jKf) → jR} (h : ∀ x y s, jLin (F x y s)) : jLin (fun kf kj => jb1 st fun x y s => F x y s kf kj) := jl_pI fun _ _ => jl_pI fun _ _ => h _ _ _
theorem jl_b2 {st : List jV} {F : Int → Int → List jV → jKf → (Nat → jKf) → jR} (h : ∀ x y s, jLin (F x y s)) : jLin (fun kf kj => jb2 st fun x y s => F x y s kf kj) := jl_pJ fun _ _ => jl_pJ fun _ _ => h _ _ _
theorem jl_cd {c : Jvm.ClassFile.Cond} {x y : Int} {F G : jKf → (Nat → jKf) → jR} (hF : jLin F) (hG : jLin G) : jLin (fun kf kj => jcond c x y (F kf kj) (G kf kj)) := by
  cases c
  · exact jl_ite _ hF hG
  · exact jl_ite _ hG hF
  · exact jl_ite _ hF hG
  · exact jl_ite _ hG hF
  · exact jl_ite _ hF hG
  · exact jl_ite _ hG hF
theorem jl_swi {x : Int} {ls st : List jV} {mem : jMem} {d : Nat} : ∀ l : List Nat, jLin (fun _ kj => jswi x (kj d ls st mem) (fun t => kj t ls st mem) l)
  | [] => jl_j _ _ _ _
  | [_] => jl_j _ _ _ _
  | _ :: _ :: l => jl_ite _ (jl_j _ _ _ _) (jl_swi l)
theorem jsetK_eq : ∀ (ls : List jV) (i : Nat) (v : jV) (k : List jV → jR), jsetK ls i v k = k (jset ls i v)
  | [], _, _, _ => rfl
  | _ :: _, 0, _, _ => rfl
  | _ :: l, n + 1, v, k => by
    unfold jsetK jset
    rw [jsetK_eq l n v]
theorem jkillK_eq : ∀ (is : List Nat) (ls : List jV) (k : List jV → jR), jkillK is ls k = k (jkill is ls)
  | [], _, _ => rfl
  | i :: is, ls, k => by
    unfold jkillK jkill
    rw [jsetK_eq, jkillK_eq is]
theorem jinvK_eq (ls : List jV) (i : Nat) (k : List jV → jR) : jinvK ls i k = k (jinv ls i) := by
  unfold jinvK jinv
  split
  · rfl
  · split
    · rw [jsetK_eq]
    · rfl
theorem jst1_eq (ls : List jV) (i : Nat) (v : jV) (k : List jV → jR) : jst1 ls i v k = k (jset (jinv ls i) i v) := by
  unfold jst1
  rw [jinvK_eq, jsetK_eq]
theorem jst2_eq (ls : List jV) (i : Nat) (v : jV) (k : List jV → jR) : jst2 ls i v k = k (jset (jset (jinv ls i) i v) (i + 1) vU) := by
  unfold jst2
  rw [jinvK_eq, jsetK_eq, jsetK_eq]
theorem jl_st1 {ls : List jV} {i : Nat} {v : jV} {F : List jV → jKf → (Nat → jKf) → jR} (h : ∀ l, jLin (F l)) : jLin (fun kf kj => jst1 ls i v fun l => F l kf kj) := by
  simp only [jst1_eq]
  exact h _
theorem jl_st2 {ls : List jV} {i : Nat} {v : jV} {F : List jV → jKf → (Nat → jKf) → jR} (h : ∀ l, jLin (F l)) : jLin (fun kf kj => jst2 ls i v fun l => F l kf kj) := by
  simp only [jst2_eq]
  exact h _
theorem jl_invoke (aux : List Nat) (ls st : List jV) (mem : jMem) (call : jCall) : jLin (fun kf _ => jinvoke aux ls st mem call kf) := by
  unfold jinvoke
  split
  · split
    · exact jl_cond (jl_recv (jl_bnd fun _ _ => jl_f _ _ _)) (jl_c none)
    · exact jl_c none
  · exact jl_c none
theorem jl_copy (aux : List Nat) (ls st : List jV) (mem : jMem) : jLin (fun kf _ => jcopy aux ls st mem kf) := by
  unfold jcopy
  split
  · exact jl_pI fun _ _ => jl_pI fun _ _ => jl_pD fun _ _ => jl_pI fun _ _ => jl_pD fun _ _ => jl_ite _ (jl_f _ _ _) (jl_c none)
  · exact jl_c none
theorem jl_getf (aux : List Nat) (ls st : List jV) (mem : jMem) : jLin (fun kf _ => jgetf aux ls st mem kf) := by
  unfold jgetf
  split
  · exact jl_pD fun _ _ => jl_f _ _ _
  · exact jl_c none
theorem jl_putf (aux : List Nat) (ls st : List jV) (mem : jMem) : jLin (fun kf _ => jputf aux ls st mem kf) := by
  unfold jputf
  split
  · exact jl_pI fun _ _ => jl_pD fun _ _ => jl_f _ _ _
  · exact jl_pJ fun _ _ => jl_pD fun _ _ => jl_f _ _ _
  · exact jl_pR fun _ _ => jl_pD fun _ _ => jl_f _ _ _
  · exact jl_pI fun _ _ => jl_pD fun _ _ => jl_bo (jl_f _ _ _)
  · exact jl_c none
theorem jl_ald (J : Bool) (aux : List Nat) (ls st : List jV) (mem : jMem) : jLin (fun kf _ => jald J aux ls st mem kf) := by
  unfold jald
  split
  · exact jl_pI fun _ _ => jl_pD fun _ _ => jl_ix (jl_f _ _ _)
  · exact jl_c none
theorem jl_aald (aux : List Nat) (ls st : List jV) (mem : jMem) : jLin (fun kf _ => jaald aux ls st mem kf) := by
  unfold jaald
  split
  · exact jl_pI fun _ _ => jl_pD fun _ _ => jl_ix (jl_f _ _ _)
  · exact jl_pI fun _ _ => jl_pD fun _ _ => jl_ix (jl_f _ _ _)
  · exact jl_c none
theorem jl_ast (aux : List Nat) (ls st : List jV) (mem : jMem) : jLin (fun kf _ => jast aux ls st mem kf) := by
  unfold jast
  split
  · exact jl_pI fun _ _ => jl_pI fun _ _ => jl_pD fun _ _ => jl_ix (jl_f _ _ _)
  · exact jl_pJ fun _ _ => jl_pI fun _ _ => jl_pD fun _ _ => jl_ix (jl_f _ _ _)
  · exact jl_pI fun _ _ => jl_pI fun _ _ => jl_pD fun _ _ => jl_ix (jl_f _ _ _)
  · exact jl_pI fun _ _ => jl_pI fun _ _ => jl_pD fun _ _ => jl_ix (jl_bo (jl_f _ _ _))
  · exact jl_c none
set_option maxHeartbeats 4000000 in
theorem jl_step (ins : Instr) (aux : List Nat) (ls st : List jV) (mem : jMem) (call : jCall) : jLin (fun kf kj => jstep ins aux ls st mem call kf kj) := by
  cases ins <;> first
    | exact jl_c none
    | exact jl_f _ _ _
    | exact jl_getf _ _ _ _
    | exact jl_putf _ _ _ _
    | exact jl_ald _ _ _ _ _
    | exact jl_aald _ _ _ _
    | exact jl_ast _ _ _ _
    | exact jl_invoke _ _ _ _ _
    | exact jl_b1 fun _ _ _ => jl_f _ _ _
    | exact jl_b2 fun _ _ _ => jl_f _ _ _
    | exact jl_b1 fun _ _ _ => jl_nz (jl_f _ _ _)
    | exact jl_b2 fun _ _ _ => jl_nz (jl_f _ _ _)
    | exact jl_pI fun _ _ => jl_f _ _ _
    | exact jl_pI fun _ _ => jl_st1 fun _ => jl_f _ _ _
    | exact jl_pJ fun _ _ => jl_st2 fun _ => jl_f _ _ _
    | exact jl_pJ fun _ _ => jl_f _ _ _
    | exact jl_pI fun _ _ => jl_pJ fun _ _ => jl_f _ _ _
    | (dsimp only [jstep]; split <;> first
        | exact jl_c _
        | exact jl_f _ _ _
        | exact jl_st1 fun _ => jl_f _ _ _
        | exact jl_j _ _ _ _
        | exact jl_copy _ _ _ _
        | exact jl_invoke _ _ _ _ _
        | exact jl_bnd fun _ _ => jl_f _ _ _
        | exact jl_pD fun _ _ => jl_f _ _ _
        | exact jl_pI fun _ _ => jl_cd (jl_j _ _ _ _) (jl_f _ _ _)
        | exact jl_b1 fun _ _ _ => jl_cd (jl_j _ _ _ _) (jl_f _ _ _)
        | exact jl_pR fun _ _ => jl_nl (jl_j _ _ _ _) (jl_f _ _ _)
        | exact jl_pR fun _ _ => jl_nl (jl_f _ _ _) (jl_j _ _ _ _)
        | exact jl_pI fun _ _ => jl_swi _)
theorem jl_step3 (ins : Instr) (aux : List Nat) (ls st : List jV) (mem : jMem) (call : jCall) : (∃ r, ∀ kf kj, jstep ins aux ls st mem call kf kj = r) ∨ (∃ ls' st' mem', ∀ kf kj, jstep ins aux ls st mem call kf kj = kf ls' st' mem') ∨ (∃ t ls' st' mem', ∀ kf kj, jstep ins aux ls st mem call kf kj = kj t ls' st' mem') := jl_step ins aux ls st mem call
theorem jrun_s (cd : jCode) (call : jCall) (n pc : Nat) (ls st : List jV) (mem : jMem) : jrun cd call (n + 1) pc ls st mem = match jget cd pc with
    | none => none
    | some e => jstep e.1 e.2.2.1 ls st mem call (fun ls st mem => jkillK e.2.2.2.1 ls fun ls => jrun cd call n e.2.1 ls st mem) (fun t ls st mem => jkillK e.2.2.2.2 ls fun ls => jrun cd call n t ls st mem) := rfl
/-- more fuel, the same answer -/
theorem jrun_mono (cd : jCode) (call : jCall) : ∀ (n pc : Nat) (ls st : List jV) (mem : jMem) (r : jV × jMem), jrun cd call n pc ls st mem = some r → jrun cd call (n + 1) pc ls st mem = some r
  | 0, _, _, _, _, _, h => by cases h
  | n + 1, pc, ls, st, mem, r, h => by
    rw [jrun_s] at h ⊢
    cases he : jget cd pc with
    | none => rw [he] at h; cases h
    | some e =>
      rw [he] at h
      dsimp only at h ⊢
      rcases jl_step3 e.1 e.2.2.1 ls st mem call with ⟨x, hx⟩ | ⟨ls', st', mem', hx⟩ | ⟨t, ls', st', mem', hx⟩
      · rw [hx] at h ⊢
        exact h
      · rw [hx, jkillK_eq] at h ⊢
        exact jrun_mono cd call n _ _ _ _ _ h
      · rw [hx, jkillK_eq] at h ⊢
        exact jrun_mono cd call n _ _ _ _ _ h
theorem jrun_le (cd : jCode) (call : jCall) {n k pc : Nat} {ls st : List jV} {mem : jMem} {r : jV × jMem} (h : jrun cd call n pc ls st mem = some r) : jrun cd call (n + k) pc ls st mem = some r := by
  induction k with
  | zero => exact h
  | succ k ih => exact jrun_mono cd call _ _ _ _ _ _ ih
noncomputable def jlim (f : Nat → jR) : jR := (Classical.propDecidable (∃ n r, f n = some r)).casesOn (fun _ => none) (fun h => some (Classical.choose (Classical.choose_spec h)))
theorem jlim_of {f : Nat → jR} (hm : ∀ n r, f n = some r → f (n + 1) = some r) {n : Nat} {r : jV × jMem} (h : f n = some r) : jlim f = some r := by
  have hle : ∀ k n r, f n = some r → f (n + k) = some r := by
    intro k
    induction k with
    | zero => exact fun _ _ h => h
    | succ k ih => exact fun n r h => hm _ _ (ih n r h)
  unfold jlim
  cases Classical.propDecidable (∃ n r, f n = some r) with
  | isFalse q => exact absurd ⟨n, r, h⟩ q
  | isTrue q =>
    have h2 := Classical.choose_spec (Classical.choose_spec q)
    have h3 := hle n _ _ h2
    have h4 := hle (Classical.choose q) _ _ h
    rw [Nat.add_comm] at h4
    exact h3.symm.trans h4
theorem jlim_ex {f : Nat → jR} {r : jV × jMem} (h : jlim f = some r) : ∃ n, f n = some r := by
  unfold jlim at h
  cases hq : Classical.propDecidable (∃ n r, f n = some r) with
  | isFalse q => rw [hq] at h; cases h
  | isTrue q =>
    rw [hq] at h
    cases h
    exact ⟨_, Classical.choose_spec (Classical.choose_spec q)⟩
/-- the place's meaning, with the callees' meaning given -/
noncomputable def jAtC (cd : jCode) (call : jCall) (pc : Nat) (ls st : List jV) (mem : jMem) : jR := jlim fun n => jrun cd call n pc ls st mem
theorem jAt_step (cd : jCode) (call : jCall) (pc : Nat) (ls st : List jV) (mem : jMem) : jAtC cd call pc ls st mem = match jget cd pc with
    | none => none
    | some e => jstep e.1 e.2.2.1 ls st mem call (fun ls st mem => jkillK e.2.2.2.1 ls fun ls => jAtC cd call e.2.1 ls st mem) (fun t ls st mem => jkillK e.2.2.2.2 ls fun ls => jAtC cd call t ls st mem) := by
  have hm := jrun_mono cd call
  apply Option.ext
  intro r
  constructor
  · intro h
    obtain ⟨n, hn⟩ := jlim_ex h
    cases n with
    | zero => cases hn
    | succ n =>
      unfold jrun at hn
      split at hn
      · cases hn
      · rename_i e he
        simp only [he]
        rcases jl_step3 e.1 e.2.2.1 ls st mem call with ⟨x, hx⟩ | ⟨ls', st', mem', hx⟩ | ⟨t, ls', st', mem', hx⟩
        · rw [hx] at hn ⊢
          exact hn
        · rw [hx, jkillK_eq] at hn ⊢
          exact jlim_of (fun n r => hm n _ _ _ _ r) hn
        · rw [hx, jkillK_eq] at hn ⊢
          exact jlim_of (fun n r => hm n _ _ _ _ r) hn
  · intro h
    split at h
    · cases h
    · rename_i e he
      have key : ∀ n, jrun cd call (n + 1) pc ls st mem = jstep e.1 e.2.2.1 ls st mem call (fun ls st mem => jkillK e.2.2.2.1 ls fun ls => jrun cd call n e.2.1 ls st mem) (fun t ls st mem => jkillK e.2.2.2.2 ls fun ls => jrun cd call n t ls st mem) := by
        intro n
        conv => lhs; unfold jrun
        simp only [he]
      rcases jl_step3 e.1 e.2.2.1 ls st mem call with ⟨x, hx⟩ | ⟨ls', st', mem', hx⟩ | ⟨t, ls', st', mem', hx⟩
      · rw [hx] at h
        exact jlim_of (n := 1) (fun n r => hm n _ _ _ _ r) (by rw [key, hx]; exact h)
      · rw [hx, jkillK_eq] at h
        obtain ⟨n, hn⟩ := jlim_ex h
        exact jlim_of (n := n + 1) (fun n r => hm n _ _ _ _ r) (by rw [key, hx, jkillK_eq]; exact hn)
      · rw [hx, jkillK_eq] at h
        obtain ⟨n, hn⟩ := jlim_ex h
        exact jlim_of (n := n + 1) (fun n r => hm n _ _ _ _ r) (by rw [key, hx, jkillK_eq]; exact hn)
def jmem : List Nat → Nat → Bool
  | [], _ => false
  | a :: l, b => bif Nat.beq a b then true else jmem l b
/-- the code laid out from a place up to the cuts -/
noncomputable def jun (cd : jCode) (call : jCall) (cuts : List Nat) : Nat → Nat → List jV → List jV → jMem → jR
  | 0, pc, ls, st, mem => jAtC cd call pc ls st mem
  | n + 1, pc, ls, st, mem => bif jmem cuts pc then jAtC cd call pc ls st mem else match jget cd pc with
    | none => none
    | some e => jstep e.1 e.2.2.1 ls st mem call (fun ls st mem => jkillK e.2.2.2.1 ls fun ls => jun cd call cuts n e.2.1 ls st mem) (fun t ls st mem => jkillK e.2.2.2.2 ls fun ls => jun cd call cuts n t ls st mem)
theorem jun_eq (cd : jCode) (call : jCall) (cuts : List Nat) : ∀ (n pc : Nat) (ls st : List jV) (mem : jMem), jun cd call cuts n pc ls st mem = jAtC cd call pc ls st mem
  | 0, _, _, _, _ => rfl
  | n + 1, pc, ls, st, mem => by
    unfold jun
    cases jmem cuts pc with
    | true => rfl
    | false =>
      rw [jAt_step]
      simp only [cond_false]
      split
      · rfl
      · simp only [jun_eq cd call cuts n]
/-- from a cut on -/
noncomputable def jfrom (cd : jCode) (call : jCall) (cuts : List Nat) (n pc : Nat) (ls st : List jV) (mem : jMem) : jR := match jget cd pc with
    | none => none
    | some e => jstep e.1 e.2.2.1 ls st mem call (fun ls st mem => jkillK e.2.2.2.1 ls fun ls => jun cd call cuts n e.2.1 ls st mem) (fun t ls st mem => jkillK e.2.2.2.2 ls fun ls => jun cd call cuts n t ls st mem)
theorem jfrom_eq (cd : jCode) (call : jCall) (cuts : List Nat) (n pc : Nat) (ls st : List jV) (mem : jMem) : jAtC cd call pc ls st mem = jfrom cd call cuts n pc ls st mem := by
  rw [jAt_step]
  unfold jfrom
  split
  · rfl
  · simp only [jun_eq cd call cuts n]
end
section
/-! The program's code, decoded: printed by wip/whole/parts.py -/
/-- Ac_keep -/
def jc0 : jCode := [
  (0, .aload_n 0, 1, [], [], []),
  (1, .getfield 11, 4, [0, 0, 2, 12, 0], [], []),
  (4, .aload_n 0, 5, [], [], []),
  (5, .getfield 18, 8, [0, 1, 0, 0, 0], [], []),
  (8, .aaload, 9, [12, 20, 9, 5], [], []),
  (9, .aload_n 1, 10, [], [], []),
  (10, .invokevirtual 22, 13, [73, 2, 0, 0, 10], [], []),
  (13, .aload_n 0, 14, [], [], []),
  (14, .aload_n 0, 15, [], [], []),
  (15, .getfield 18, 18, [0, 1, 0, 0, 0], [], []),
  (18, .iconst 1, 19, [], [], []),
  (19, .iadd, 20, [], [], []),
  (20, .bipush 20, 22, [], [], []),
  (22, .irem, 23, [], [], []),
  (23, .putfield 18, 26, [0, 1, 0, 0, 0], [], []),
  (26, .aload_n 0, 27, [], [], []),
  (27, .aload_n 0, 28, [], [], []),
  (28, .getfield 26, 31, [0, 2, 0, 0, 0], [], []),
  (31, .iconst 1, 32, [], [], []),
  (32, .iadd, 33, [], [], []),
  (33, .bipush 20, 35, [], [], []),
  (35, .invokestatic 29, 38, [247, 2, 1, 0, 0], [], []),
  (38, .putfield 26, 41, [0, 2, 0, 0, 0], [], []),
  (41, .return_, 42, [], [], [])]
/-- Ac_takeBack -/
def jc1 : jCode := [
  (0, .aload_n 0, 1, [], [], []),
  (1, .getfield 26, 4, [0, 2, 0, 0, 0], [], []),
  (4, .ifCond .gt 5, 7, [9], [], []),
  (7, .iconst (-1), 8, [], [], []),
  (8, .ireturn, 9, [0], [], []),
  (9, .aload_n 0, 10, [], [], []),
  (10, .aload_n 0, 11, [], [], []),
  (11, .getfield 18, 14, [0, 1, 0, 0, 0], [], []),
  (14, .bipush 20, 16, [], [], []),
  (16, .iadd, 17, [], [], []),
  (17, .iconst 1, 18, [], [], []),
  (18, .isub, 19, [], [], []),
  (19, .bipush 20, 21, [], [], []),
  (21, .irem, 22, [], [], []),
  (22, .putfield 18, 25, [0, 1, 0, 0, 0], [], []),
  (25, .aload_n 1, 26, [], [], []),
  (26, .aload_n 0, 27, [], [], []),
  (27, .getfield 11, 30, [0, 0, 2, 12, 0], [], []),
  (30, .aload_n 0, 31, [], [], []),
  (31, .getfield 18, 34, [0, 1, 0, 0, 0], [], []),
  (34, .aaload, 35, [12, 20, 9, 5], [], []),
  (35, .invokevirtual 22, 38, [73, 2, 0, 0, 10], [], []),
  (38, .aload_n 0, 39, [], [], []),
  (39, .dup, 40, [], [], []),
  (40, .getfield 26, 43, [0, 2, 0, 0, 0], [], []),
  (43, .iconst 1, 44, [], [], []),
  (44, .isub, 45, [], [], []),
  (45, .putfield 26, 48, [0, 2, 0, 0, 0], [], []),
  (48, .aload_n 0, 49, [], [], []),
  (49, .getfield 26, 52, [0, 2, 0, 0, 0], [], []),
  (52, .ireturn, 53, [0], [], [])]
/-- As_after -/
def jc2 : jCode := [
  (0, .aload_n 0, 1, [], [], []),
  (1, .getfield 21, 4, [1, 1, 5, 9, 25], [], []),
  (4, .aload_n 1, 5, [], [], []),
  (5, .getfield 36, 8, [6, 1, 2, 9, 0], [], []),
  (8, .invokevirtual 41, 11, [73, 2, 0, 0, 10], [], []),
  (11, .aload_n 0, 12, [], [], []),
  (12, .getfield 12, 15, [1, 0, 5, 7, 1], [], []),
  (15, .aload_n 1, 16, [], [], []),
  (16, .getfield 45, 19, [6, 0, 2, 4, 0], [], []),
  (19, .aload_n 0, 20, [], [], []),
  (20, .getfield 21, 23, [1, 1, 5, 9, 25], [], []),
  (23, .aload_n 2, 24, [], [], []),
  (24, .iload_n 3, 25, [], [], []),
  (25, .invokevirtual 49, 28, [51, 5, 0, 0, 8], [], []),
  (28, .aload_n 0, 29, [], [], []),
  (29, .getfield 21, 32, [1, 1, 5, 9, 25], [], []),
  (32, .areturn, 33, [9], [], [])]
/-- As_firstCatch -/
def jc3 : jCode := [
  (0, .aload_n 0, 1, [], [], []),
  (1, .getfield 21, 4, [1, 1, 5, 9, 25], [], []),
  (4, .aload_n 1, 5, [], [], []),
  (5, .getfield 36, 8, [6, 1, 2, 9, 0], [], []),
  (8, .invokevirtual 41, 11, [73, 2, 0, 0, 10], [], []),
  (11, .iconst 0, 12, [], [], []),
  (12, .istore 5, 14, [], [], []),
  (14, .iload 5, 16, [], [], []),
  (16, .sipush 200, 19, [], [], []),
  (19, .if_icmp .ge 54, 22, [73], [], [1, 2, 5]),
  (22, .aload_n 0, 23, [], [], []),
  (23, .getfield 21, 26, [1, 1, 5, 9, 25], [], []),
  (26, .getfield 53, 29, [9, 1, 2, 38, 0], [], []),
  (29, .iload_n 3, 30, [], [], []),
  (30, .iaload, 31, [38, 6], [], []),
  (31, .invokestatic 56, 34, [116, 1, 1, 0, 0], [], []),
  (34, .ifCond .eq 39, 37, [73], [], [1, 2, 5]),
  (37, .aload_n 0, 38, [], [], []),
  (38, .getfield 12, 41, [1, 0, 5, 7, 1], [], []),
  (41, .aload_n 1, 42, [], [], []),
  (42, .getfield 45, 45, [6, 0, 2, 4, 0], [], []),
  (45, .aload_n 0, 46, [], [], []),
  (46, .getfield 21, 49, [1, 1, 5, 9, 25], [], []),
  (49, .aload_n 2, 50, [], [], []),
  (50, .iconst 1, 51, [], [], []),
  (51, .invokevirtual 49, 54, [51, 5, 0, 0, 8], [], []),
  (54, .aload_n 0, 55, [], [], []),
  (55, .getfield 12, 58, [1, 0, 5, 7, 1], [], []),
  (58, .invokevirtual 60, 61, [52, 1, 1, 0, 8], [], []),
  (61, .ifCond .eq 6, 64, [67], [], []),
  (64, .goto 9, 67, [73], [], [1, 2, 5]),
  (67, .iinc 5 1, 70, [], [], []),
  (70, .goto (-56), 73, [14], [], []),
  (73, .aload_n 0, 74, [], [], []),
  (74, .getfield 21, 77, [1, 1, 5, 9, 25], [], []),
  (77, .getfield 53, 80, [9, 1, 2, 38, 0], [], []),
  (80, .iload_n 3, 81, [], [], []),
  (81, .iaload, 82, [38, 6], [], []),
  (82, .bipush 20, 84, [], [], []),
  (84, .if_icmp .ge 6, 87, [90], [], []),
  (87, .bipush (-2), 89, [], [], []),
  (89, .ireturn, 90, [0], [], []),
  (90, .iload 4, 92, [], [], []),
  (92, .ifCond .ne 15, 95, [107], [], []),
  (95, .aload_n 0, 96, [], [], []),
  (96, .getfield 21, 99, [1, 1, 5, 9, 25], [], []),
  (99, .getfield 64, 102, [9, 0, 0, 0, 0], [], []),
  (102, .iconst 1, 103, [], [], []),
  (103, .isub, 104, [], [], []),
  (104, .goto 15, 107, [119], [], [0, 1, 2, 3, 4, 5]),
  (107, .aload_n 0, 108, [], [], []),
  (108, .getfield 21, 111, [1, 1, 5, 9, 25], [], []),
  (111, .getfield 53, 114, [9, 1, 2, 38, 0], [], []),
  (114, .iload_n 3, 115, [], [], []),
  (115, .iaload, 116, [38, 6], [], []),
  (116, .bipush 20, 118, [], [], []),
  (118, .isub, 119, [], [0, 1, 2, 3, 4, 5], []),
  (119, .ireturn, 120, [0], [], [])]
/-- As_firstFull -/
def jc4 : jCode := [
  (0, .aload_n 0, 1, [], [], []),
  (1, .getfield 21, 4, [1, 1, 5, 9, 25], [], []),
  (4, .aload_n 1, 5, [], [], []),
  (5, .getfield 36, 8, [6, 1, 2, 9, 0], [], []),
  (8, .invokevirtual 41, 11, [73, 2, 0, 0, 10], [], []),
  (11, .iconst 0, 12, [], [], []),
  (12, .istore_n 3, 13, [], [], []),
  (13, .iload_n 3, 14, [], [], []),
  (14, .sipush 200, 17, [], [], []),
  (17, .if_icmp .ge 75, 20, [92], [], [0, 1, 2, 3]),
  (20, .aload_n 0, 21, [], [], []),
  (21, .getfield 21, 24, [1, 1, 5, 9, 25], [], []),
  (24, .getfield 64, 27, [9, 0, 0, 0, 0], [], []),
  (27, .istore 4, 29, [], [], []),
  (29, .aload_n 0, 30, [], [], []),
  (30, .getfield 12, 33, [1, 0, 5, 7, 1], [], []),
  (33, .aload_n 1, 34, [], [], []),
  (34, .getfield 45, 37, [6, 0, 2, 4, 0], [], []),
  (37, .aload_n 0, 38, [], [], []),
  (38, .getfield 21, 41, [1, 1, 5, 9, 25], [], []),
  (41, .aload_n 2, 42, [], [], []),
  (42, .iconst 1, 43, [], [], []),
  (43, .invokevirtual 49, 46, [51, 5, 0, 0, 8], [], []),
  (46, .aload_n 0, 47, [], [], []),
  (47, .getfield 21, 50, [1, 1, 5, 9, 25], [], []),
  (50, .aload_n 1, 51, [], [], []),
  (51, .getfield 45, 54, [6, 0, 2, 4, 0], [], []),
  (54, .getfield 68, 57, [4, 6, 0, 0, 0], [], []),
  (57, .invokevirtual 73, 60, [76, 2, 1, 0, 10], [], []),
  (60, .aload_n 1, 61, [], [], []),
  (61, .getfield 45, 64, [6, 0, 2, 4, 0], [], []),
  (64, .getfield 68, 67, [4, 6, 0, 0, 0], [], []),
  (67, .if_icmp .ne 6, 70, [73], [], []),
  (70, .iload 4, 72, [], [], []),
  (72, .ireturn, 73, [0], [], []),
  (73, .aload_n 0, 74, [], [], []),
  (74, .getfield 12, 77, [1, 0, 5, 7, 1], [], []),
  (77, .invokevirtual 60, 80, [52, 1, 1, 0, 8], [], []),
  (80, .ifCond .eq 6, 83, [86], [], []),
  (83, .goto 9, 86, [92], [], [0, 1, 2, 3, 4]),
  (86, .iinc 3 1, 89, [], [], []),
  (89, .goto (-76), 92, [13], [], [4]),
  (92, .bipush (-2), 94, [], [], []),
  (94, .ireturn, 95, [0], [], [])]
/-- As_bestPlace -/
def jc5 : jCode := [
  (0, .aload_n 0, 1, [], [], []),
  (1, .aload_n 1, 2, [], [], []),
  (2, .aload_n 2, 3, [], [], []),
  (3, .iload 4, 5, [], [], []),
  (5, .invokevirtual 77, 8, [2, 4, 3, 9, 2], [], []),
  (8, .aload_n 1, 9, [], [], []),
  (9, .getfield 45, 12, [6, 0, 2, 4, 0], [], []),
  (12, .getfield 68, 15, [4, 6, 0, 0, 0], [], []),
  (15, .invokevirtual 73, 18, [76, 2, 1, 0, 10], [], []),
  (18, .istore 6, 20, [], [], []),
  (20, .iconst (-1), 21, [], [], []),
  (21, .istore 7, 23, [], [], []),
  (23, .iconst (-1), 24, [], [], []),
  (24, .istore 8, 26, [], [], []),
  (26, .aload_n 1, 27, [], [], []),
  (27, .invokestatic 81, 30, [6, 1, 1, 0, 0], [], []),
  (30, .istore 9, 32, [], [], []),
  (32, .iconst 0, 33, [], [], []),
  (33, .istore 10, 35, [], [], []),
  (35, .iload 10, 37, [], [], []),
  (37, .aload_n 1, 38, [], [], []),
  (38, .getfield 45, 41, [6, 0, 2, 4, 0], [], []),
  (41, .getfield 85, 44, [4, 1, 0, 0, 0], [], []),
  (44, .if_icmp .ge 151, 47, [195], [], []),
  (47, .iconst 0, 48, [], [], []),
  (48, .istore 11, 50, [], [], []),
  (50, .iconst 0, 51, [], [], []),
  (51, .istore 12, 53, [], [], []),
  (53, .iload 12, 55, [], [], []),
  (55, .bipush 8, 57, [], [], []),
  (57, .if_icmp .ge 132, 60, [189], [], []),
  (60, .iload 9, 62, [], [], []),
  (62, .iload 12, 64, [], [], []),
  (64, .ishr, 65, [], [], []),
  (65, .iconst 1, 66, [], [], []),
  (66, .iand, 67, [], [], []),
  (67, .ifCond .ne 7, 70, [74], [], []),
  (70, .iconst 1, 71, [], [], []),
  (71, .goto 4, 74, [75], [], []),
  (74, .iconst 0, 75, [], [], []),
  (75, .istore 13, 77, [], [], []),
  (77, .iload 13, 79, [], [], []),
  (79, .ifCond .eq 11, 82, [90], [], []),
  (82, .iload 11, 84, [], [], []),
  (84, .ifCond .eq 6, 87, [90], [], []),
  (87, .goto 96, 90, [183], [], [13]),
  (90, .iload 11, 92, [], [], []),
  (92, .iload 13, 94, [], [], []),
  (94, .ior, 95, [], [], []),
  (95, .istore 11, 97, [], [], []),
  (97, .aload_n 0, 98, [], [], []),
  (98, .getfield 21, 101, [1, 1, 5, 9, 25], [], []),
  (101, .aload_n 1, 102, [], [], []),
  (102, .getfield 36, 105, [6, 1, 2, 9, 0], [], []),
  (105, .invokevirtual 41, 108, [73, 2, 0, 0, 10], [], []),
  (108, .aload_n 0, 109, [], [], []),
  (109, .getfield 21, 112, [1, 1, 5, 9, 25], [], []),
  (112, .getfield 88, 115, [9, 3, 2, 40, 0], [], []),
  (115, .iload_n 3, 116, [], [], []),
  (116, .iload 10, 118, [], [], []),
  (118, .iastore, 119, [40, 4, 0], [], []),
  (119, .aload_n 0, 120, [], [], []),
  (120, .getfield 21, 123, [1, 1, 5, 9, 25], [], []),
  (123, .getfield 91, 126, [9, 5, 2, 42, 0], [], []),
  (126, .iload_n 3, 127, [], [], []),
  (127, .iload 12, 129, [], [], []),
  (129, .iastore, 130, [42, 4, 0], [], []),
  (130, .aload_n 0, 131, [], [], []),
  (131, .getfield 12, 134, [1, 0, 5, 7, 1], [], []),
  (134, .aload_n 1, 135, [], [], []),
  (135, .getfield 45, 138, [6, 0, 2, 4, 0], [], []),
  (138, .aload_n 0, 139, [], [], []),
  (139, .getfield 21, 142, [1, 1, 5, 9, 25], [], []),
  (142, .aload_n 2, 143, [], [], []),
  (143, .iload 4, 145, [], [], []),
  (145, .invokevirtual 49, 148, [51, 5, 0, 0, 8], [], []),
  (148, .aload_n 0, 149, [], [], []),
  (149, .getfield 21, 152, [1, 1, 5, 9, 25], [], []),
  (152, .aload_n 1, 153, [], [], []),
  (153, .getfield 45, 156, [6, 0, 2, 4, 0], [], []),
  (156, .getfield 68, 159, [4, 6, 0, 0, 0], [], []),
  (159, .invokevirtual 73, 162, [76, 2, 1, 0, 10], [], []),
  (162, .istore 14, 164, [], [], []),
  (164, .iload 14, 166, [], [], []),
  (166, .iload 6, 168, [], [], []),
  (168, .if_icmp .le 15, 171, [183], [], [13, 14]),
  (171, .iload 14, 173, [], [], []),
  (173, .istore 6, 175, [], [], []),
  (175, .iload 10, 177, [], [], []),
  (177, .istore 7, 179, [], [], []),
  (179, .iload 12, 181, [], [], []),
  (181, .istore 8, 183, [], [13, 14], []),
  (183, .iinc 12 1, 186, [], [], []),
  (186, .goto (-133), 189, [53], [], [13]),
  (189, .iinc 10 1, 192, [], [], []),
  (192, .goto (-157), 195, [35], [], [11, 12]),
  (195, .iload 5, 197, [], [], []),
  (197, .ifCond .ne 6, 200, [203], [], []),
  (200, .iload 6, 202, [], [], []),
  (202, .ireturn, 203, [0], [], []),
  (203, .iload 5, 205, [], [], []),
  (205, .iconst 1, 206, [], [], []),
  (206, .if_icmp .ne 8, 209, [214], [], []),
  (209, .iload 7, 211, [], [], []),
  (211, .goto 5, 214, [216], [], [0, 1, 2, 3, 4, 5, 6, 7, 8, 9, 10]),
  (214, .iload 8, 216, [], [0, 1, 2, 3, 4, 5, 6, 7, 8, 9, 10], []),
  (216, .ireturn, 217, [0], [], [])]
/-- As_smellsOfFree -/
def jc6 : jCode := [
  (0, .iconst 0, 1, [], [], []),
  (1, .istore_n 1, 2, [], [], []),
  (2, .iconst 0, 3, [], [], []),
  (3, .istore_n 2, 4, [], [], []),
  (4, .iload_n 2, 5, [], [], []),
  (5, .aload_n 0, 6, [], [], []),
  (6, .getfield 45, 9, [6, 0, 2, 4, 0], [], []),
  (9, .getfield 94, 12, [4, 5, 0, 0, 0], [], []),
  (12, .if_icmp .ge 38, 15, [50], [], []),
  (15, .aload_n 0, 16, [], [], []),
  (16, .getfield 36, 19, [6, 1, 2, 9, 0], [], []),
  (19, .getfield 53, 22, [9, 1, 2, 38, 0], [], []),
  (22, .iload_n 2, 23, [], [], []),
  (23, .iaload, 24, [38, 6], [], []),
  (24, .invokestatic 56, 27, [116, 1, 1, 0, 0], [], []),
  (27, .ifCond .eq 17, 30, [44], [], []),
  (30, .iload_n 1, 31, [], [], []),
  (31, .iconst 1, 32, [], [], []),
  (32, .aload_n 0, 33, [], [], []),
  (33, .getfield 45, 36, [6, 0, 2, 4, 0], [], []),
  (36, .getfield 97, 39, [4, 11, 2, 25, 0], [], []),
  (39, .iload_n 2, 40, [], [], []),
  (40, .iaload, 41, [25, 6], [], []),
  (41, .ishl, 42, [], [], []),
  (42, .ior, 43, [], [], []),
  (43, .istore_n 1, 44, [], [], []),
  (44, .iinc 2 1, 47, [], [], []),
  (47, .goto (-43), 50, [4], [], []),
  (50, .iload_n 1, 51, [], [], []),
  (51, .ireturn, 52, [0], [], [])]
/-- As_poolsBefore -/
def jc7 : jCode := [
  (0, .iconst 0, 1, [], [], []),
  (1, .istore 6, 3, [], [], []),
  (3, .iconst 0, 4, [], [], []),
  (4, .istore 7, 6, [], [], []),
  (6, .iload 7, 8, [], [], []),
  (8, .aload_n 1, 9, [], [], []),
  (9, .getfield 45, 12, [6, 0, 2, 4, 0], [], []),
  (12, .getfield 85, 15, [4, 1, 0, 0, 0], [], []),
  (15, .if_icmp .ge 72, 18, [87], [], []),
  (18, .aload_n 0, 19, [], [], []),
  (19, .getfield 21, 22, [1, 1, 5, 9, 25], [], []),
  (22, .aload_n 1, 23, [], [], []),
  (23, .getfield 36, 26, [6, 1, 2, 9, 0], [], []),
  (26, .invokevirtual 41, 29, [73, 2, 0, 0, 10], [], []),
  (29, .aload_n 0, 30, [], [], []),
  (30, .getfield 21, 33, [1, 1, 5, 9, 25], [], []),
  (33, .getfield 53, 36, [9, 1, 2, 38, 0], [], []),
  (36, .iload_n 3, 37, [], [], []),
  (37, .iload 7, 39, [], [], []),
  (39, .iastore, 40, [38, 6, 0], [], []),
  (40, .aload_n 0, 41, [], [], []),
  (41, .getfield 12, 44, [1, 0, 5, 7, 1], [], []),
  (44, .aload_n 1, 45, [], [], []),
  (45, .getfield 45, 48, [6, 0, 2, 4, 0], [], []),
  (48, .aload_n 0, 49, [], [], []),
  (49, .getfield 21, 52, [1, 1, 5, 9, 25], [], []),
  (52, .aload_n 2, 53, [], [], []),
  (53, .iload 4, 55, [], [], []),
  (55, .invokevirtual 49, 58, [51, 5, 0, 0, 8], [], []),
  (58, .aload_n 0, 59, [], [], []),
  (59, .getfield 21, 62, [1, 1, 5, 9, 25], [], []),
  (62, .getfield 53, 65, [9, 1, 2, 38, 0], [], []),
  (65, .iload_n 3, 66, [], [], []),
  (66, .iaload, 67, [38, 6], [], []),
  (67, .iload 5, 69, [], [], []),
  (69, .if_icmp .ne 12, 72, [81], [], []),
  (72, .iload 6, 74, [], [], []),
  (74, .iconst 1, 75, [], [], []),
  (75, .iload 7, 77, [], [], []),
  (77, .ishl, 78, [], [], []),
  (78, .ior, 79, [], [], []),
  (79, .istore 6, 81, [], [], []),
  (81, .iinc 7 1, 84, [], [], []),
  (84, .goto (-78), 87, [6], [], []),
  (87, .iload 6, 89, [], [], []),
  (89, .ireturn, 90, [0], [], [])]
/-- As_leastThroat -/
def jc8 : jCode := [
  (0, .iconst 1, 1, [], [], []),
  (1, .istore 5, 3, [], [], []),
  (3, .iload 5, 5, [], [], []),
  (5, .bipush 9, 7, [], [], []),
  (7, .if_icmp .gt 65, 10, [72], [], []),
  (10, .aload_n 0, 11, [], [], []),
  (11, .getfield 21, 14, [1, 1, 5, 9, 25], [], []),
  (14, .aload_n 1, 15, [], [], []),
  (15, .getfield 36, 18, [6, 1, 2, 9, 0], [], []),
  (18, .invokevirtual 41, 21, [73, 2, 0, 0, 10], [], []),
  (21, .aload_n 0, 22, [], [], []),
  (22, .getfield 21, 25, [1, 1, 5, 9, 25], [], []),
  (25, .getfield 100, 28, [9, 4, 2, 41, 0], [], []),
  (28, .iload_n 3, 29, [], [], []),
  (29, .iload 5, 31, [], [], []),
  (31, .iastore, 32, [41, 4, 0], [], []),
  (32, .aload_n 0, 33, [], [], []),
  (33, .getfield 12, 36, [1, 0, 5, 7, 1], [], []),
  (36, .aload_n 1, 37, [], [], []),
  (37, .getfield 45, 40, [6, 0, 2, 4, 0], [], []),
  (40, .aload_n 0, 41, [], [], []),
  (41, .getfield 21, 44, [1, 1, 5, 9, 25], [], []),
  (44, .aload_n 2, 45, [], [], []),
  (45, .iload 4, 47, [], [], []),
  (47, .invokevirtual 49, 50, [51, 5, 0, 0, 8], [], []),
  (50, .aload_n 0, 51, [], [], []),
  (51, .getfield 21, 54, [1, 1, 5, 9, 25], [], []),
  (54, .getfield 103, 57, [9, 6, 2, 43, 0], [], []),
  (57, .iload_n 3, 58, [], [], []),
  (58, .iaload, 59, [43, 4], [], []),
  (59, .iconst (-1), 60, [], [], []),
  (60, .if_icmp .eq 6, 63, [66], [], []),
  (63, .iload 5, 65, [], [], []),
  (65, .ireturn, 66, [0], [], []),
  (66, .iinc 5 1, 69, [], [], []),
  (69, .goto (-66), 72, [3], [], []),
  (72, .bipush (-2), 74, [], [], []),
  (74, .ireturn, 75, [0], [], [])]
/-- As_steadyBaits -/
def jc9 : jCode := [
  (0, .iconst 0, 1, [], [], []),
  (1, .istore 7, 3, [], [], []),
  (3, .iload 7, 5, [], [], []),
  (5, .bipush 64, 7, [], [], []),
  (7, .if_icmp .ge 100, 10, [107], [], []),
  (10, .aload_n 0, 11, [], [], []),
  (11, .getfield 21, 14, [1, 1, 5, 9, 25], [], []),
  (14, .aload_n 1, 15, [], [], []),
  (15, .getfield 36, 18, [6, 1, 2, 9, 0], [], []),
  (18, .invokevirtual 41, 21, [73, 2, 0, 0, 10], [], []),
  (21, .aload_n 0, 22, [], [], []),
  (22, .getfield 21, 25, [1, 1, 5, 9, 25], [], []),
  (25, .getfield 91, 28, [9, 5, 2, 42, 0], [], []),
  (28, .iload_n 3, 29, [], [], []),
  (29, .iload 7, 31, [], [], []),
  (31, .bipush 8, 33, [], [], []),
  (33, .idiv, 34, [], [], []),
  (34, .iastore, 35, [42, 4, 0], [], []),
  (35, .aload_n 0, 36, [], [], []),
  (36, .getfield 21, 39, [1, 1, 5, 9, 25], [], []),
  (39, .getfield 91, 42, [9, 5, 2, 42, 0], [], []),
  (42, .iload 4, 44, [], [], []),
  (44, .iload 7, 46, [], [], []),
  (46, .bipush 8, 48, [], [], []),
  (48, .irem, 49, [], [], []),
  (49, .iastore, 50, [42, 4, 0], [], []),
  (50, .aload_n 0, 51, [], [], []),
  (51, .getfield 12, 54, [1, 0, 5, 7, 1], [], []),
  (54, .aload_n 1, 55, [], [], []),
  (55, .getfield 45, 58, [6, 0, 2, 4, 0], [], []),
  (58, .aload_n 0, 59, [], [], []),
  (59, .getfield 21, 62, [1, 1, 5, 9, 25], [], []),
  (62, .aload_n 2, 63, [], [], []),
  (63, .iload 5, 65, [], [], []),
  (65, .invokevirtual 49, 68, [51, 5, 0, 0, 8], [], []),
  (68, .aload_n 0, 69, [], [], []),
  (69, .getfield 29, 72, [1, 3, 2, 14, 0], [], []),
  (72, .iload 7, 74, [], [], []),
  (74, .aload_n 0, 75, [], [], []),
  (75, .aload_n 1, 76, [], [], []),
  (76, .getfield 45, 79, [6, 0, 2, 4, 0], [], []),
  (79, .iload_n 3, 80, [], [], []),
  (80, .invokevirtual 106, 83, [10, 3, 1, 0, 2], [], []),
  (83, .iastore, 84, [14, 64, 0], [], []),
  (84, .aload_n 0, 85, [], [], []),
  (85, .getfield 33, 88, [1, 4, 2, 15, 0], [], []),
  (88, .iload 7, 90, [], [], []),
  (90, .aload_n 0, 91, [], [], []),
  (91, .aload_n 1, 92, [], [], []),
  (92, .getfield 45, 95, [6, 0, 2, 4, 0], [], []),
  (95, .iload 4, 97, [], [], []),
  (97, .invokevirtual 106, 100, [10, 3, 1, 0, 2], [], []),
  (100, .iastore, 101, [15, 64, 0], [], []),
  (101, .iinc 7 1, 104, [], [], []),
  (104, .goto (-101), 107, [3], [], []),
  (107, .iconst 0, 108, [], [], []),
  (108, .istore 7, 110, [], [], []),
  (110, .iconst (-1), 111, [], [], []),
  (111, .istore 8, 113, [], [], []),
  (113, .bipush 63, 115, [], [], []),
  (115, .istore 9, 117, [], [1, 2, 3, 4, 5], []),
  (117, .iload 9, 119, [], [], []),
  (119, .ifCond .lt 25, 122, [144], [], []),
  (122, .aload_n 0, 123, [], [], []),
  (123, .iload 9, 125, [], [], []),
  (125, .invokevirtual 110, 128, [11, 2, 1, 0, 2], [], []),
  (128, .ifCond .eq 10, 131, [138], [], [1, 2, 3, 4, 5]),
  (131, .iinc 7 1, 134, [], [], []),
  (134, .iload 9, 136, [], [], []),
  (136, .istore 8, 138, [], [1, 2, 3, 4, 5], []),
  (138, .iinc 9 (-1), 141, [], [], []),
  (141, .goto (-24), 144, [117], [], [1, 2, 3, 4, 5]),
  (144, .iload 6, 146, [], [], []),
  (146, .ifCond .ne 6, 149, [152], [], []),
  (149, .iload 7, 151, [], [], []),
  (151, .ireturn, 152, [0], [], []),
  (152, .iload 8, 154, [], [], []),
  (154, .iconst (-1), 155, [], [], []),
  (155, .if_icmp .ne 6, 158, [161], [], []),
  (158, .bipush (-2), 160, [], [], []),
  (160, .ireturn, 161, [0], [], []),
  (161, .iload 6, 163, [], [], []),
  (163, .iconst 1, 164, [], [], []),
  (164, .if_icmp .ne 11, 167, [175], [], []),
  (167, .iload 8, 169, [], [], []),
  (169, .bipush 8, 171, [], [], []),
  (171, .idiv, 172, [], [], []),
  (172, .goto 8, 175, [180], [], [0, 1, 2, 3, 4, 5, 6, 7, 8, 9]),
  (175, .iload 8, 177, [], [], []),
  (177, .bipush 8, 179, [], [], []),
  (179, .irem, 180, [], [0, 1, 2, 3, 4, 5, 6, 7, 8, 9], []),
  (180, .ireturn, 181, [0], [], [])]
/-- As_sizeIn -/
def jc10 : jCode := [
  (0, .aload_n 0, 1, [], [], []),
  (1, .getfield 21, 4, [1, 1, 5, 9, 25], [], []),
  (4, .getfield 103, 7, [9, 6, 2, 43, 0], [], []),
  (7, .iload_n 2, 8, [], [], []),
  (8, .iaload, 9, [43, 4], [], []),
  (9, .istore_n 3, 10, [], [], []),
  (10, .iload_n 3, 11, [], [], []),
  (11, .iconst (-1), 12, [], [], []),
  (12, .if_icmp .ne 7, 15, [19], [], []),
  (15, .iconst 0, 16, [], [], []),
  (16, .goto 9, 19, [25], [], [0, 1, 2, 3]),
  (19, .aload_n 1, 20, [], [], []),
  (20, .getfield 113, 23, [4, 10, 2, 24, 0], [], []),
  (23, .iload_n 3, 24, [], [], []),
  (24, .iaload, 25, [24, 6], [0, 1, 2, 3], []),
  (25, .ireturn, 26, [0], [], [])]
/-- As_isSteady -/
def jc11 : jCode := [
  (0, .iload_n 1, 1, [], [], []),
  (1, .bipush 8, 3, [], [], []),
  (3, .idiv, 4, [], [], []),
  (4, .istore_n 2, 5, [], [], []),
  (5, .iload_n 1, 6, [], [], []),
  (6, .bipush 8, 8, [], [], []),
  (8, .irem, 9, [], [], []),
  (9, .istore_n 3, 10, [], [], []),
  (10, .iconst 0, 11, [], [], []),
  (11, .istore 4, 13, [], [], []),
  (13, .iload 4, 15, [], [], []),
  (15, .bipush 8, 17, [], [], []),
  (17, .if_icmp .ge 53, 20, [70], [], []),
  (20, .aload_n 0, 21, [], [], []),
  (21, .getfield 29, 24, [1, 3, 2, 14, 0], [], []),
  (24, .iload 4, 26, [], [], []),
  (26, .bipush 8, 28, [], [], []),
  (28, .imul, 29, [], [], []),
  (29, .iload_n 3, 30, [], [], []),
  (30, .iadd, 31, [], [], []),
  (31, .iaload, 32, [14, 64], [], []),
  (32, .aload_n 0, 33, [], [], []),
  (33, .getfield 29, 36, [1, 3, 2, 14, 0], [], []),
  (36, .iload_n 1, 37, [], [], []),
  (37, .iaload, 38, [14, 64], [], []),
  (38, .if_icmp .gt 24, 41, [62], [], [0, 1, 2, 3, 4]),
  (41, .aload_n 0, 42, [], [], []),
  (42, .getfield 33, 45, [1, 4, 2, 15, 0], [], []),
  (45, .iload_n 2, 46, [], [], []),
  (46, .bipush 8, 48, [], [], []),
  (48, .imul, 49, [], [], []),
  (49, .iload 4, 51, [], [], []),
  (51, .iadd, 52, [], [], []),
  (52, .iaload, 53, [15, 64], [], []),
  (53, .aload_n 0, 54, [], [], []),
  (54, .getfield 33, 57, [1, 4, 2, 15, 0], [], []),
  (57, .iload_n 1, 58, [], [], []),
  (58, .iaload, 59, [15, 64], [], []),
  (59, .if_icmp .le 5, 62, [64], [0, 1, 2, 3, 4], []),
  (62, .iconst 0, 63, [], [], []),
  (63, .ireturn, 64, [1], [], []),
  (64, .iinc 4 1, 67, [], [], []),
  (67, .goto (-54), 70, [13], [], []),
  (70, .iconst 1, 71, [], [], []),
  (71, .ireturn, 72, [1], [], [])]
/-- As_firstRound -/
def jc12 : jCode := [
  (0, .aload_n 0, 1, [], [], []),
  (1, .getfield 21, 4, [1, 1, 5, 9, 25], [], []),
  (4, .aload_n 1, 5, [], [], []),
  (5, .getfield 36, 8, [6, 1, 2, 9, 0], [], []),
  (8, .invokevirtual 41, 11, [73, 2, 0, 0, 10], [], []),
  (11, .iconst 0, 12, [], [], []),
  (12, .istore 4, 14, [], [], []),
  (14, .iload 4, 16, [], [], []),
  (16, .bipush 60, 18, [], [], []),
  (18, .if_icmp .gt 47, 21, [65], [], []),
  (21, .aload_n 0, 22, [], [], []),
  (22, .getfield 25, 25, [1, 2, 2, 13, 0], [], []),
  (25, .iload 4, 27, [], [], []),
  (27, .aload_n 0, 28, [], [], []),
  (28, .getfield 21, 31, [1, 1, 5, 9, 25], [], []),
  (31, .aload_n 1, 32, [], [], []),
  (32, .getfield 45, 35, [6, 0, 2, 4, 0], [], []),
  (35, .getfield 94, 38, [4, 5, 0, 0, 0], [], []),
  (38, .invokevirtual 116, 41, [77, 2, 2, 0, 10], [], []),
  (41, .lastore, 42, [13, 61, 1], [], []),
  (42, .aload_n 0, 43, [], [], []),
  (43, .getfield 12, 46, [1, 0, 5, 7, 1], [], []),
  (46, .aload_n 1, 47, [], [], []),
  (47, .getfield 45, 50, [6, 0, 2, 4, 0], [], []),
  (50, .aload_n 0, 51, [], [], []),
  (51, .getfield 21, 54, [1, 1, 5, 9, 25], [], []),
  (54, .aload_n 2, 55, [], [], []),
  (55, .iconst 1, 56, [], [], []),
  (56, .invokevirtual 49, 59, [51, 5, 0, 0, 8], [], []),
  (59, .iinc 4 1, 62, [], [], []),
  (62, .goto (-48), 65, [14], [], []),
  (65, .iconst 1, 66, [], [], []),
  (66, .aload_n 1, 67, [], [], []),
  (67, .getfield 45, 70, [6, 0, 2, 4, 0], [], []),
  (70, .invokevirtual 119, 73, [32, 1, 1, 0, 5], [], []),
  (73, .invokestatic 123, 76, [246, 2, 1, 0, 0], [], []),
  (76, .istore 4, 78, [], [], []),
  (78, .iconst 0, 79, [], [], []),
  (79, .istore 5, 81, [], [2], []),
  (81, .iload 5, 83, [], [], []),
  (83, .bipush 60, 85, [], [], []),
  (85, .if_icmp .ge 74, 88, [159], [], []),
  (88, .iload 5, 90, [], [], []),
  (90, .iload 4, 92, [], [], []),
  (92, .iadd, 93, [], [], []),
  (93, .istore 6, 95, [], [2], []),
  (95, .iload 6, 97, [], [], []),
  (97, .bipush 60, 99, [], [], []),
  (99, .if_icmp .gt 54, 102, [153], [], []),
  (102, .aload_n 0, 103, [], [], []),
  (103, .getfield 25, 106, [1, 2, 2, 13, 0], [], []),
  (106, .iload 5, 108, [], [], []),
  (108, .laload, 109, [13, 61], [], []),
  (109, .aload_n 0, 110, [], [], []),
  (110, .getfield 25, 113, [1, 2, 2, 13, 0], [], []),
  (113, .iload 6, 115, [], [], []),
  (115, .laload, 116, [13, 61], [], []),
  (116, .lcmp, 117, [], [], []),
  (117, .ifCond .ne 26, 120, [143], [], []),
  (120, .iload_n 3, 121, [], [], []),
  (121, .ifCond .ne 16, 124, [137], [], []),
  (124, .aload_n 1, 125, [], [], []),
  (125, .getfield 36, 128, [6, 1, 2, 9, 0], [], []),
  (128, .getfield 64, 131, [9, 0, 0, 0, 0], [], []),
  (131, .iload 5, 133, [], [], []),
  (133, .iadd, 134, [], [], []),
  (134, .goto 8, 137, [142], [], [0, 1, 2, 3, 4, 5, 6]),
  (137, .iload 6, 139, [], [], []),
  (139, .iload 5, 141, [], [], []),
  (141, .isub, 142, [], [0, 1, 2, 3, 4, 5, 6], []),
  (142, .ireturn, 143, [0], [], []),
  (143, .iload 6, 145, [], [], []),
  (145, .iload 4, 147, [], [], []),
  (147, .iadd, 148, [], [], []),
  (148, .istore 6, 150, [], [], []),
  (150, .goto (-55), 153, [95], [], [2]),
  (153, .iinc 5 1, 156, [], [], []),
  (156, .goto (-75), 159, [81], [], [2, 6]),
  (159, .bipush (-2), 161, [], [], []),
  (161, .ireturn, 162, [0], [], [])]
/-- As_drawnNights -/
def jc13 : jCode := [
  (0, .aload_n 0, 1, [], [], []),
  (1, .aload_n 1, 2, [], [], []),
  (2, .getfield 129, 5, [6, 4, 0, 0, 0], [], []),
  (5, .i2l, 6, [], [], []),
  (6, .putfield 132, 9, [1, 5, 1, 0, 0], [], []),
  (9, .iconst 0, 10, [], [], []),
  (10, .istore 7, 12, [], [], []),
  (12, .iconst 0, 13, [], [], []),
  (13, .istore 8, 15, [], [], []),
  (15, .iload 8, 17, [], [], []),
  (17, .iload_n 3, 18, [], [], []),
  (18, .if_icmp .ge 137, 21, [155], [], []),
  (21, .aload_n 0, 22, [], [], []),
  (22, .getfield 21, 25, [1, 1, 5, 9, 25], [], []),
  (25, .aload_n 1, 26, [], [], []),
  (26, .getfield 36, 29, [6, 1, 2, 9, 0], [], []),
  (29, .invokevirtual 41, 32, [73, 2, 0, 0, 10], [], []),
  (32, .iconst 0, 33, [], [], []),
  (33, .istore 9, 35, [], [], []),
  (35, .iload 9, 37, [], [], []),
  (37, .iload 4, 39, [], [], []),
  (39, .if_icmp .ge 65, 42, [104], [], []),
  (42, .aload_n 1, 43, [], [], []),
  (43, .getfield 45, 46, [6, 0, 2, 4, 0], [], []),
  (46, .aload_n 0, 47, [], [], []),
  (47, .getfield 21, 50, [1, 1, 5, 9, 25], [], []),
  (50, .getfield 64, 53, [9, 0, 0, 0, 0], [], []),
  (53, .invokevirtual 135, 56, [33, 2, 1, 0, 5], [], []),
  (56, .istore 10, 58, [], [], []),
  (58, .aload_n 0, 59, [], [], []),
  (59, .invokevirtual 138, 62, [14, 1, 1, 0, 2], [], []),
  (62, .bipush 100, 64, [], [], []),
  (64, .irem, 65, [], [], []),
  (65, .iload 5, 67, [], [], []),
  (67, .if_icmp .ge 12, 70, [79], [], []),
  (70, .aload_n 0, 71, [], [], []),
  (71, .invokevirtual 138, 74, [14, 1, 1, 0, 2], [], []),
  (74, .bipush 10, 76, [], [], []),
  (76, .irem, 77, [], [], []),
  (77, .istore 10, 79, [], [], []),
  (79, .aload_n 0, 80, [], [], []),
  (80, .getfield 12, 83, [1, 0, 5, 7, 1], [], []),
  (83, .aload_n 1, 84, [], [], []),
  (84, .getfield 45, 87, [6, 0, 2, 4, 0], [], []),
  (87, .aload_n 0, 88, [], [], []),
  (88, .getfield 21, 91, [1, 1, 5, 9, 25], [], []),
  (91, .aload_n 2, 92, [], [], []),
  (92, .iload 10, 94, [], [], []),
  (94, .invokevirtual 141, 97, [53, 5, 1, 0, 8], [], []),
  (97, .pop, 98, [], [], []),
  (98, .iinc 9 1, 101, [], [], []),
  (101, .goto (-66), 104, [35], [], [10]),
  (104, .iload 7, 106, [], [], []),
  (106, .iload 6, 108, [], [], []),
  (108, .ifCond .ne 20, 111, [128], [], []),
  (111, .aload_n 0, 112, [], [], []),
  (112, .getfield 21, 115, [1, 1, 5, 9, 25], [], []),
  (115, .aload_n 1, 116, [], [], []),
  (116, .getfield 45, 119, [6, 0, 2, 4, 0], [], []),
  (119, .getfield 68, 122, [4, 6, 0, 0, 0], [], []),
  (122, .invokevirtual 73, 125, [76, 2, 1, 0, 10], [], []),
  (125, .goto 21, 128, [146], [], [7, 9]),
  (128, .aload_n 0, 129, [], [], []),
  (129, .getfield 21, 132, [1, 1, 5, 9, 25], [], []),
  (132, .iconst (-1), 133, [], [], []),
  (133, .aload_n 1, 134, [], [], []),
  (134, .getfield 45, 137, [6, 0, 2, 4, 0], [], []),
  (137, .getfield 94, 140, [4, 5, 0, 0, 0], [], []),
  (140, .invokevirtual 145, 143, [75, 3, 1, 0, 10], [], []),
  (143, .invokestatic 148, 146, [245, 1, 1, 0, 0], [7, 9], []),
  (146, .iadd, 147, [], [], []),
  (147, .istore 7, 149, [], [], []),
  (149, .iinc 8 1, 152, [], [], []),
  (152, .goto (-137), 155, [15], [], [9]),
  (155, .iload 7, 157, [], [], []),
  (157, .ireturn, 158, [0], [], [])]
/-- As_draw -/
def jc14 : jCode := [
  (0, .aload_n 0, 1, [], [], []),
  (1, .aload_n 0, 2, [], [], []),
  (2, .getfield 132, 5, [1, 5, 1, 0, 0], [], []),
  (5, .ldc2_w 153, 8, [1103515245], [], []),
  (8, .lmul, 9, [], [], []),
  (9, .ldc2_w 155, 12, [12345], [], []),
  (12, .ladd, 13, [], [], []),
  (13, .ldc2_w 157, 16, [2147483648], [], []),
  (16, .lrem, 17, [], [], []),
  (17, .putfield 132, 20, [1, 5, 1, 0, 0], [], []),
  (20, .aload_n 0, 21, [], [], []),
  (21, .getfield 132, 24, [1, 5, 1, 0, 0], [], []),
  (24, .ldc2_w 159, 27, [65536], [], []),
  (27, .ldiv, 28, [], [], []),
  (28, .l2i, 29, [], [], []),
  (29, .ireturn, 30, [0], [], [])]
/-- Gu_owners -/
def jc15 : jCode := [
  (0, .iconst 0, 1, [], [], []),
  (1, .istore 4, 3, [], [], []),
  (3, .iconst 0, 4, [], [], []),
  (4, .istore 5, 6, [], [], []),
  (6, .iload 5, 8, [], [], []),
  (8, .aload_n 1, 9, [], [], []),
  (9, .getfield 32, 12, [6, 0, 2, 4, 0], [], []),
  (12, .getfield 38, 15, [4, 4, 0, 0, 0], [], []),
  (15, .if_icmp .ge 51, 18, [66], [], []),
  (18, .aload_n 0, 19, [], [], []),
  (19, .getfield 21, 22, [2, 1, 5, 9, 26], [], []),
  (22, .aload_n 1, 23, [], [], []),
  (23, .getfield 32, 26, [6, 0, 2, 4, 0], [], []),
  (26, .invokevirtual 44, 29, [74, 2, 0, 0, 10], [], []),
  (29, .aload_n 0, 30, [], [], []),
  (30, .getfield 21, 33, [2, 1, 5, 9, 26], [], []),
  (33, .getfield 48, 36, [9, 2, 2, 39, 0], [], []),
  (36, .iload_n 3, 37, [], [], []),
  (37, .iload 5, 39, [], [], []),
  (39, .iastore, 40, [39, 6, 0], [], []),
  (40, .aload_n 0, 41, [], [], []),
  (41, .aload_n 1, 42, [], [], []),
  (42, .aload_n 2, 43, [], [], []),
  (43, .iconst 0, 44, [], [], []),
  (44, .iconst 0, 45, [], [], []),
  (45, .invokevirtual 51, 48, [18, 5, 1, 0, 3], [], []),
  (48, .ifCond .eq 12, 51, [60], [], []),
  (51, .iload 4, 53, [], [], []),
  (53, .iconst 1, 54, [], [], []),
  (54, .iload 5, 56, [], [], []),
  (56, .ishl, 57, [], [], []),
  (57, .ior, 58, [], [], []),
  (58, .istore 4, 60, [], [], []),
  (60, .iinc 5 1, 63, [], [], []),
  (63, .goto (-57), 66, [6], [], []),
  (66, .iload 4, 68, [], [], []),
  (68, .ireturn, 69, [0], [], [])]
/-- Gu_sieve -/
def jc16 : jCode := [
  (0, .iconst 0, 1, [], [], []),
  (1, .istore 5, 3, [], [], []),
  (3, .iconst (-1), 4, [], [], []),
  (4, .istore 6, 6, [], [], []),
  (6, .iload 6, 8, [], [], []),
  (8, .iload_n 3, 9, [], [], []),
  (9, .if_icmp .ge 65, 12, [74], [], [0, 1, 2, 3, 4, 6]),
  (12, .iload 6, 14, [], [], []),
  (14, .bipush 6, 16, [], [], []),
  (16, .if_icmp .ge 58, 19, [74], [], [0, 1, 2, 3, 4, 6]),
  (19, .aload_n 0, 20, [], [], []),
  (20, .getfield 21, 23, [2, 1, 5, 9, 26], [], []),
  (23, .aload_n 1, 24, [], [], []),
  (24, .getfield 32, 27, [6, 0, 2, 4, 0], [], []),
  (27, .invokevirtual 44, 30, [74, 2, 0, 0, 10], [], []),
  (30, .aload_n 0, 31, [], [], []),
  (31, .aload_n 1, 32, [], [], []),
  (32, .iload 6, 34, [], [], []),
  (34, .iconst (-1), 35, [], [], []),
  (35, .if_icmp .ne 7, 38, [42], [], []),
  (38, .aconst_null, 39, [5], [], []),
  (39, .goto 7, 42, [46], [], []),
  (42, .aload_n 2, 43, [], [], []),
  (43, .iload 6, 45, [], [], []),
  (45, .aaload, 46, [44, 6, 5, 0], [], []),
  (46, .iload 4, 48, [], [], []),
  (48, .iload 5, 50, [], [], []),
  (50, .invokevirtual 51, 53, [18, 5, 1, 0, 3], [], []),
  (53, .ifCond .eq 15, 56, [68], [], []),
  (56, .aload_n 0, 57, [], [], []),
  (57, .getfield 25, 60, [2, 2, 2, 16, 0], [], []),
  (60, .iload 5, 62, [], [], []),
  (62, .iload 6, 64, [], [], []),
  (64, .iastore, 65, [16, 7, 0], [], []),
  (65, .iinc 5 1, 68, [], [], []),
  (68, .iinc 6 1, 71, [], [], []),
  (71, .goto (-65), 74, [6], [], []),
  (74, .iload 5, 76, [], [], []),
  (76, .ireturn, 77, [0], [], [])]
/-- Gu_firstFitting -/
def jc17 : jCode := [
  (0, .aload_n 0, 1, [], [], []),
  (1, .getfield 25, 4, [2, 2, 2, 16, 0], [], []),
  (4, .iconst 0, 5, [], [], []),
  (5, .iaload, 6, [16, 7], [], []),
  (6, .ireturn, 7, [0], [], [])]
/-- Gu_fits -/
def jc18 : jCode := [
  (0, .iload_n 3, 1, [], [], []),
  (1, .aload_n 1, 2, [], [], []),
  (2, .getfield 55, 5, [6, 2, 2, 3, 0], [], []),
  (5, .invokevirtual 59, 8, [28, 1, 1, 0, 4], [], []),
  (8, .invokestatic 65, 11, [246, 2, 1, 0, 0], [], []),
  (11, .istore 5, 13, [], [], []),
  (13, .iconst 0, 14, [], [], []),
  (14, .istore 6, 16, [], [], []),
  (16, .iload 6, 18, [], [], []),
  (18, .iload 5, 20, [], [], []),
  (20, .if_icmp .gt 97, 23, [117], [], []),
  (23, .aload_n 1, 24, [], [], []),
  (24, .getfield 55, 27, [6, 2, 2, 3, 0], [], []),
  (27, .aload_n 0, 28, [], [], []),
  (28, .getfield 21, 31, [2, 1, 5, 9, 26], [], []),
  (31, .invokevirtual 71, 34, [29, 2, 1, 0, 4], [], []),
  (34, .ifCond .ne 5, 37, [39], [], []),
  (37, .iconst 0, 38, [], [], []),
  (38, .ireturn, 39, [1], [], []),
  (39, .iload 6, 41, [], [], []),
  (41, .iload_n 3, 42, [], [], []),
  (42, .if_icmp .ne 45, 45, [87], [], []),
  (45, .iconst 0, 46, [], [], []),
  (46, .istore 7, 48, [], [], []),
  (48, .iload 7, 50, [], [], []),
  (50, .bipush 6, 52, [], [], []),
  (52, .if_icmp .ge 35, 55, [87], [], [7]),
  (55, .aload_n 0, 56, [], [], []),
  (56, .getfield 29, 59, [2, 3, 2, 17, 0], [], []),
  (59, .iload 4, 61, [], [], []),
  (61, .bipush 6, 63, [], [], []),
  (63, .imul, 64, [], [], []),
  (64, .iload 7, 66, [], [], []),
  (66, .iadd, 67, [], [], []),
  (67, .aload_n 0, 68, [], [], []),
  (68, .getfield 21, 71, [2, 1, 5, 9, 26], [], []),
  (71, .getfield 75, 74, [9, 1, 2, 38, 0], [], []),
  (74, .iload 7, 76, [], [], []),
  (76, .iaload, 77, [38, 6], [], []),
  (77, .invokestatic 78, 80, [30, 1, 1, 0, 0], [], []),
  (80, .iastore, 81, [17, 42, 0], [], []),
  (81, .iinc 7 1, 84, [], [], []),
  (84, .goto (-36), 87, [48], [], []),
  (87, .iload 6, 89, [], [], []),
  (89, .iload 5, 91, [], [], []),
  (91, .if_icmp .ge 20, 94, [111], [], []),
  (94, .aload_n 0, 95, [], [], []),
  (95, .getfield 12, 98, [2, 0, 5, 7, 2], [], []),
  (98, .aload_n 1, 99, [], [], []),
  (99, .getfield 32, 102, [6, 0, 2, 4, 0], [], []),
  (102, .aload_n 0, 103, [], [], []),
  (103, .getfield 21, 106, [2, 1, 5, 9, 26], [], []),
  (106, .aload_n 2, 107, [], [], []),
  (107, .iconst 1, 108, [], [], []),
  (108, .invokevirtual 82, 111, [51, 5, 0, 0, 8], [], []),
  (111, .iinc 6 1, 114, [], [], []),
  (114, .goto (-98), 117, [16], [], []),
  (117, .iconst 1, 118, [], [], []),
  (118, .ireturn, 119, [1], [], [])]
/-- Gu_bestParting -/
def jc19 : jCode := [
  (0, .iconst (-1), 1, [], [], []),
  (1, .istore 4, 3, [], [], []),
  (3, .iload_n 1, 4, [], [], []),
  (4, .iconst 1, 5, [], [], []),
  (5, .iadd, 6, [], [], []),
  (6, .istore 5, 8, [], [], []),
  (8, .iconst 0, 9, [], [], []),
  (9, .istore 6, 11, [], [], []),
  (11, .iload 6, 13, [], [], []),
  (13, .iload_n 2, 14, [], [], []),
  (14, .if_icmp .ge 33, 17, [47], [], []),
  (17, .aload_n 0, 18, [], [], []),
  (18, .iload_n 1, 19, [], [], []),
  (19, .iload 6, 21, [], [], []),
  (21, .invokevirtual 86, 24, [20, 3, 1, 0, 3], [], []),
  (24, .istore 7, 26, [], [], []),
  (26, .iload 7, 28, [], [], []),
  (28, .iload 5, 30, [], [], []),
  (30, .if_icmp .ge 11, 33, [41], [], [7]),
  (33, .iload 7, 35, [], [], []),
  (35, .istore 5, 37, [], [], []),
  (37, .iload 6, 39, [], [], []),
  (39, .istore 4, 41, [], [7], []),
  (41, .iinc 6 1, 44, [], [], []),
  (44, .goto (-33), 47, [11], [], [7]),
  (47, .iload_n 3, 48, [], [], []),
  (48, .ifCond .ne 8, 51, [56], [], []),
  (51, .iload 4, 53, [], [], []),
  (53, .goto 5, 56, [58], [], [0, 1, 2, 3, 4, 5, 6]),
  (56, .iload 5, 58, [], [0, 1, 2, 3, 4, 5, 6], []),
  (58, .ireturn, 59, [0], [], [])]
/-- Gu_mostAlike -/
def jc20 : jCode := [
  (0, .iconst 0, 1, [], [], []),
  (1, .istore_n 3, 2, [], [], []),
  (2, .iconst 0, 3, [], [], []),
  (3, .istore 4, 5, [], [], []),
  (5, .iload 4, 7, [], [], []),
  (7, .iload_n 1, 8, [], [], []),
  (8, .if_icmp .ge 64, 11, [72], [], []),
  (11, .iconst 0, 12, [], [], []),
  (12, .istore 5, 14, [], [], []),
  (14, .iconst 0, 15, [], [], []),
  (15, .istore 6, 17, [], [], []),
  (17, .iload 6, 19, [], [], []),
  (19, .iload_n 1, 20, [], [], []),
  (20, .if_icmp .ge 39, 23, [59], [], []),
  (23, .aload_n 0, 24, [], [], []),
  (24, .getfield 29, 27, [2, 3, 2, 17, 0], [], []),
  (27, .iload 4, 29, [], [], []),
  (29, .bipush 6, 31, [], [], []),
  (31, .imul, 32, [], [], []),
  (32, .iload_n 2, 33, [], [], []),
  (33, .iadd, 34, [], [], []),
  (34, .iaload, 35, [17, 42], [], []),
  (35, .aload_n 0, 36, [], [], []),
  (36, .getfield 29, 39, [2, 3, 2, 17, 0], [], []),
  (39, .iload 6, 41, [], [], []),
  (41, .bipush 6, 43, [], [], []),
  (43, .imul, 44, [], [], []),
  (44, .iload_n 2, 45, [], [], []),
  (45, .iadd, 46, [], [], []),
  (46, .iaload, 47, [17, 42], [], []),
  (47, .if_icmp .ne 6, 50, [53], [], []),
  (50, .iinc 5 1, 53, [], [], []),
  (53, .iinc 6 1, 56, [], [], []),
  (56, .goto (-39), 59, [17], [], []),
  (59, .iload_n 3, 60, [], [], []),
  (60, .iload 5, 62, [], [], []),
  (62, .invokestatic 65, 65, [246, 2, 1, 0, 0], [], []),
  (65, .istore_n 3, 66, [], [], []),
  (66, .iinc 4 1, 69, [], [], []),
  (69, .goto (-64), 72, [5], [], [5, 6]),
  (72, .iload_n 3, 73, [], [], []),
  (73, .ireturn, 74, [0], [], [])]
/-- Ha_strayed -/
def jc21 : jCode := [
  (0, .iconst 0, 1, [], [], []),
  (1, .istore_n 1, 2, [], [], []),
  (2, .iconst 0, 3, [], [], []),
  (3, .istore_n 2, 4, [], [], []),
  (4, .iload_n 2, 5, [], [], []),
  (5, .aload_n 0, 6, [], [], []),
  (6, .getfield 9, 9, [6, 0, 2, 4, 0], [], []),
  (9, .getfield 15, 12, [4, 5, 0, 0, 0], [], []),
  (12, .if_icmp .ge 47, 15, [59], [], []),
  (15, .aload_n 0, 16, [], [], []),
  (16, .getfield 21, 19, [6, 1, 2, 9, 0], [], []),
  (19, .getfield 25, 22, [9, 1, 2, 38, 0], [], []),
  (22, .iload_n 2, 23, [], [], []),
  (23, .iaload, 24, [38, 6], [], []),
  (24, .istore_n 3, 25, [], [], []),
  (25, .iload_n 3, 26, [], [], []),
  (26, .bipush 30, 28, [], [], []),
  (28, .if_icmp .lt 25, 31, [53], [], [3]),
  (31, .iload_n 3, 32, [], [], []),
  (32, .bipush 30, 34, [], [], []),
  (34, .aload_n 0, 35, [], [], []),
  (35, .getfield 9, 38, [6, 0, 2, 4, 0], [], []),
  (38, .getfield 31, 41, [4, 12, 2, 26, 0], [], []),
  (41, .iload_n 2, 42, [], [], []),
  (42, .iaload, 43, [26, 6], [], []),
  (43, .iadd, 44, [], [], []),
  (44, .if_icmp .eq 9, 47, [53], [], [3]),
  (47, .iload_n 1, 48, [], [], []),
  (48, .iconst 1, 49, [], [], []),
  (49, .iload_n 2, 50, [], [], []),
  (50, .ishl, 51, [], [], []),
  (51, .ior, 52, [], [], []),
  (52, .istore_n 1, 53, [], [3], []),
  (53, .iinc 2 1, 56, [], [], []),
  (56, .goto (-52), 59, [4], [], [3]),
  (59, .iload_n 1, 60, [], [], []),
  (60, .ireturn, 61, [0], [], [])]
/-- Ha_ringed -/
def jc22 : jCode := [
  (0, .iconst 0, 1, [], [], []),
  (1, .istore_n 2, 2, [], [], []),
  (2, .iconst 0, 3, [], [], []),
  (3, .istore_n 3, 4, [], [], []),
  (4, .iconst 1, 5, [], [], []),
  (5, .istore 4, 7, [], [], []),
  (7, .iload 4, 9, [], [], []),
  (9, .iconst 1, 10, [], [], []),
  (10, .aload_n 0, 11, [], [], []),
  (11, .getfield 9, 14, [6, 0, 2, 4, 0], [], []),
  (14, .getfield 34, 17, [4, 4, 0, 0, 0], [], []),
  (17, .ishl, 18, [], [], []),
  (18, .if_icmp .ge 45, 21, [63], [], []),
  (21, .iload 4, 23, [], [], []),
  (23, .invokestatic 37, 26, [245, 1, 1, 0, 0], [], []),
  (26, .iconst 2, 27, [], [], []),
  (27, .if_icmp .lt 30, 30, [57], [], []),
  (30, .aload_n 0, 31, [], [], []),
  (31, .iload 4, 33, [], [], []),
  (33, .invokestatic 43, 36, [23, 2, 1, 0, 0], [], []),
  (36, .ifCond .eq 21, 39, [57], [], []),
  (39, .iinc 2 1, 42, [], [], []),
  (42, .iload 4, 44, [], [], []),
  (44, .invokestatic 37, 47, [245, 1, 1, 0, 0], [], []),
  (47, .iload_n 3, 48, [], [], []),
  (48, .invokestatic 37, 51, [245, 1, 1, 0, 0], [], []),
  (51, .if_icmp .le 6, 54, [57], [], []),
  (54, .iload 4, 56, [], [], []),
  (56, .istore_n 3, 57, [], [], []),
  (57, .iinc 4 1, 60, [], [], []),
  (60, .goto (-53), 63, [7], [], []),
  (63, .iload_n 1, 64, [], [], []),
  (64, .ifCond .ne 7, 67, [71], [], []),
  (67, .iload_n 2, 68, [], [], []),
  (68, .goto 4, 71, [72], [], [0, 1, 2, 3, 4]),
  (71, .iload_n 3, 72, [], [0, 1, 2, 3, 4], []),
  (72, .ireturn, 73, [0], [], [])]
/-- Ha_isRing -/
def jc23 : jCode := [
  (0, .iconst 0, 1, [], [], []),
  (1, .istore_n 2, 2, [], [], []),
  (2, .iconst 0, 3, [], [], []),
  (3, .istore_n 3, 4, [], [], []),
  (4, .aload_n 0, 5, [], [], []),
  (5, .invokestatic 49, 8, [21, 1, 1, 0, 0], [], []),
  (8, .istore 4, 10, [], [], []),
  (10, .iconst 0, 11, [], [], []),
  (11, .istore 5, 13, [], [], []),
  (13, .iload 5, 15, [], [], []),
  (15, .aload_n 0, 16, [], [], []),
  (16, .getfield 9, 19, [6, 0, 2, 4, 0], [], []),
  (19, .getfield 15, 22, [4, 5, 0, 0, 0], [], []),
  (22, .if_icmp .ge 74, 25, [96], [], []),
  (25, .iload 4, 27, [], [], []),
  (27, .iload 5, 29, [], [], []),
  (29, .ishr, 30, [], [], []),
  (30, .iconst 1, 31, [], [], []),
  (31, .iand, 32, [], [], []),
  (32, .ifCond .eq 58, 35, [90], [], []),
  (35, .iconst 1, 36, [], [], []),
  (36, .aload_n 0, 37, [], [], []),
  (37, .getfield 21, 40, [6, 1, 2, 9, 0], [], []),
  (40, .getfield 25, 43, [9, 1, 2, 38, 0], [], []),
  (43, .iload 5, 45, [], [], []),
  (45, .iaload, 46, [38, 6], [], []),
  (46, .bipush 30, 48, [], [], []),
  (48, .isub, 49, [], [], []),
  (49, .ishl, 50, [], [], []),
  (50, .istore 6, 52, [], [], []),
  (52, .iconst 1, 53, [], [], []),
  (53, .aload_n 0, 54, [], [], []),
  (54, .getfield 9, 57, [6, 0, 2, 4, 0], [], []),
  (57, .getfield 31, 60, [4, 12, 2, 26, 0], [], []),
  (60, .iload 5, 62, [], [], []),
  (62, .iaload, 63, [26, 6], [], []),
  (63, .ishl, 64, [], [], []),
  (64, .istore 7, 66, [], [], []),
  (66, .iload_n 1, 67, [], [], []),
  (67, .iload 6, 69, [], [], []),
  (69, .iand, 70, [], [], []),
  (70, .ifCond .eq 20, 73, [90], [], [6, 7]),
  (73, .iload_n 1, 74, [], [], []),
  (74, .iload 7, 76, [], [], []),
  (76, .iand, 77, [], [], []),
  (77, .ifCond .eq 13, 80, [90], [], [6, 7]),
  (80, .iload_n 2, 81, [], [], []),
  (81, .iload 6, 83, [], [], []),
  (83, .ior, 84, [], [], []),
  (84, .istore_n 2, 85, [], [], []),
  (85, .iload_n 3, 86, [], [], []),
  (86, .iload 7, 88, [], [], []),
  (88, .ior, 89, [], [], []),
  (89, .istore_n 3, 90, [], [6, 7], []),
  (90, .iinc 5 1, 93, [], [], []),
  (93, .goto (-80), 96, [13], [], []),
  (96, .iload_n 2, 97, [], [], []),
  (97, .iload_n 1, 98, [], [], []),
  (98, .if_icmp .ne 12, 101, [110], [], [0, 1, 2, 3, 4, 5]),
  (101, .iload_n 3, 102, [], [], []),
  (102, .iload_n 1, 103, [], [], []),
  (103, .if_icmp .ne 7, 106, [110], [], [0, 1, 2, 3, 4, 5]),
  (106, .iconst 1, 107, [], [], []),
  (107, .goto 4, 110, [111], [], [0, 1, 2, 3, 4, 5]),
  (110, .iconst 0, 111, [], [0, 1, 2, 3, 4, 5], []),
  (111, .ireturn, 112, [1], [], [])]
/-- Ha_share -/
def jc24 : jCode := [
  (0, .iconst 0, 1, [], [], []),
  (1, .istore_n 3, 2, [], [], []),
  (2, .iconst 0, 3, [], [], []),
  (3, .istore 4, 5, [], [], []),
  (5, .iconst 0, 6, [], [], []),
  (6, .istore 5, 8, [], [], []),
  (8, .iload 5, 10, [], [], []),
  (10, .aload_n 0, 11, [], [], []),
  (11, .getfield 9, 14, [6, 0, 2, 4, 0], [], []),
  (14, .getfield 34, 17, [4, 4, 0, 0, 0], [], []),
  (17, .if_icmp .ge 18, 20, [35], [], []),
  (20, .iload_n 3, 21, [], [], []),
  (21, .aload_n 0, 22, [], [], []),
  (22, .iload 5, 24, [], [], []),
  (24, .invokestatic 53, 27, [25, 2, 1, 0, 0], [], []),
  (27, .iadd, 28, [], [], []),
  (28, .istore_n 3, 29, [], [], []),
  (29, .iinc 5 1, 32, [], [], []),
  (32, .goto (-24), 35, [8], [], []),
  (35, .iload_n 3, 36, [], [], []),
  (36, .ifCond .ne 5, 39, [41], [], []),
  (39, .iconst 0, 40, [], [], []),
  (40, .ireturn, 41, [0], [], []),
  (41, .iload_n 1, 42, [], [], []),
  (42, .aload_n 0, 43, [], [], []),
  (43, .iload_n 2, 44, [], [], []),
  (44, .invokestatic 53, 47, [25, 2, 1, 0, 0], [], []),
  (47, .imul, 48, [], [], []),
  (48, .iload_n 3, 49, [], [], []),
  (49, .irem, 50, [], [], []),
  (50, .istore 5, 52, [], [], []),
  (52, .iconst 0, 53, [], [], []),
  (53, .istore 6, 55, [], [], []),
  (55, .iconst 0, 56, [], [], []),
  (56, .istore 7, 58, [], [], []),
  (58, .iload 7, 60, [], [], []),
  (60, .aload_n 0, 61, [], [], []),
  (61, .getfield 9, 64, [6, 0, 2, 4, 0], [], []),
  (64, .getfield 34, 67, [4, 4, 0, 0, 0], [], []),
  (67, .if_icmp .ge 55, 70, [122], [], []),
  (70, .iload_n 1, 71, [], [], []),
  (71, .aload_n 0, 72, [], [], []),
  (72, .iload 7, 74, [], [], []),
  (74, .invokestatic 53, 77, [25, 2, 1, 0, 0], [], []),
  (77, .imul, 78, [], [], []),
  (78, .istore 8, 80, [], [], []),
  (80, .iload 4, 82, [], [], []),
  (82, .iload 8, 84, [], [], []),
  (84, .iload_n 3, 85, [], [], []),
  (85, .idiv, 86, [], [], []),
  (86, .iadd, 87, [], [], []),
  (87, .istore 4, 89, [], [], []),
  (89, .iload 8, 91, [], [], []),
  (91, .iload_n 3, 92, [], [], []),
  (92, .irem, 93, [], [], []),
  (93, .iload 5, 95, [], [], []),
  (95, .if_icmp .gt 18, 98, [113], [], [8]),
  (98, .iload 8, 100, [], [], []),
  (100, .iload_n 3, 101, [], [], []),
  (101, .irem, 102, [], [], []),
  (102, .iload 5, 104, [], [], []),
  (104, .if_icmp .ne 12, 107, [116], [], [8]),
  (107, .iload 7, 109, [], [], []),
  (109, .iload_n 2, 110, [], [], []),
  (110, .if_icmp .ge 6, 113, [116], [8], [8]),
  (113, .iinc 6 1, 116, [], [8], []),
  (116, .iinc 7 1, 119, [], [], []),
  (119, .goto (-61), 122, [58], [], [8]),
  (122, .iload_n 1, 123, [], [], []),
  (123, .aload_n 0, 124, [], [], []),
  (124, .iload_n 2, 125, [], [], []),
  (125, .invokestatic 53, 128, [25, 2, 1, 0, 0], [], []),
  (128, .imul, 129, [], [], []),
  (129, .iload_n 3, 130, [], [], []),
  (130, .idiv, 131, [], [], []),
  (131, .iload 6, 133, [], [], []),
  (133, .iload_n 1, 134, [], [], []),
  (134, .iload 4, 136, [], [], []),
  (136, .isub, 137, [], [], []),
  (137, .if_icmp .ge 7, 140, [144], [], []),
  (140, .iconst 1, 141, [], [], []),
  (141, .goto 4, 144, [145], [], [0, 1, 2, 3, 4, 5, 6, 7]),
  (144, .iconst 0, 145, [], [0, 1, 2, 3, 4, 5, 6, 7], []),
  (145, .iadd, 146, [], [], []),
  (146, .ireturn, 147, [0], [], [])]
/-- Ha_sizesOf -/
def jc25 : jCode := [
  (0, .iconst 0, 1, [], [], []),
  (1, .istore_n 2, 2, [], [], []),
  (2, .iconst 0, 3, [], [], []),
  (3, .istore_n 3, 4, [], [], []),
  (4, .iload_n 3, 5, [], [], []),
  (5, .aload_n 0, 6, [], [], []),
  (6, .getfield 9, 9, [6, 0, 2, 4, 0], [], []),
  (9, .getfield 15, 12, [4, 5, 0, 0, 0], [], []),
  (12, .if_icmp .ge 37, 15, [49], [], []),
  (15, .aload_n 0, 16, [], [], []),
  (16, .getfield 21, 19, [6, 1, 2, 9, 0], [], []),
  (19, .getfield 25, 22, [9, 1, 2, 38, 0], [], []),
  (22, .iload_n 3, 23, [], [], []),
  (23, .iaload, 24, [38, 6], [], []),
  (24, .bipush 30, 26, [], [], []),
  (26, .iload_n 1, 27, [], [], []),
  (27, .iadd, 28, [], [], []),
  (28, .if_icmp .ne 15, 31, [43], [], []),
  (31, .iload_n 2, 32, [], [], []),
  (32, .aload_n 0, 33, [], [], []),
  (33, .getfield 9, 36, [6, 0, 2, 4, 0], [], []),
  (36, .getfield 57, 39, [4, 10, 2, 24, 0], [], []),
  (39, .iload_n 3, 40, [], [], []),
  (40, .iaload, 41, [24, 6], [], []),
  (41, .iadd, 42, [], [], []),
  (42, .istore_n 2, 43, [], [], []),
  (43, .iinc 3 1, 46, [], [], []),
  (46, .goto (-42), 49, [4], [], []),
  (49, .iload_n 2, 50, [], [], []),
  (50, .ireturn, 51, [0], [], [])]
/-- No_add -/
def jc26 : jCode := [
  (0, .aload_n 0, 1, [], [], []),
  (1, .getfield 21, 4, [3, 0, 0, 0, 0], [], []),
  (4, .bipush 10, 6, [], [], []),
  (6, .if_icmp .lt 5, 9, [11], [], []),
  (9, .iconst 0, 10, [], [], []),
  (10, .ireturn, 11, [1], [], []),
  (11, .aload_n 0, 12, [], [], []),
  (12, .getfield 9, 15, [3, 1, 2, 18, 0], [], []),
  (15, .aload_n 0, 16, [], [], []),
  (16, .getfield 21, 19, [3, 0, 0, 0, 0], [], []),
  (19, .iload_n 1, 20, [], [], []),
  (20, .iastore, 21, [18, 10, 0], [], []),
  (21, .aload_n 0, 22, [], [], []),
  (22, .getfield 15, 25, [3, 2, 2, 19, 0], [], []),
  (25, .aload_n 0, 26, [], [], []),
  (26, .getfield 21, 29, [3, 0, 0, 0, 0], [], []),
  (29, .iload_n 2, 30, [], [], []),
  (30, .iastore, 31, [19, 10, 0], [], []),
  (31, .aload_n 0, 32, [], [], []),
  (32, .getfield 18, 35, [3, 3, 2, 20, 0], [], []),
  (35, .aload_n 0, 36, [], [], []),
  (36, .getfield 21, 39, [3, 0, 0, 0, 0], [], []),
  (39, .iload_n 3, 40, [], [], []),
  (40, .iastore, 41, [20, 10, 0], [], []),
  (41, .aload_n 0, 42, [], [], []),
  (42, .dup, 43, [], [], []),
  (43, .getfield 21, 46, [3, 0, 0, 0, 0], [], []),
  (46, .iconst 1, 47, [], [], []),
  (47, .iadd, 48, [], [], []),
  (48, .putfield 21, 51, [3, 0, 0, 0, 0], [], []),
  (51, .iconst 1, 52, [], [], []),
  (52, .ireturn, 53, [1], [], [])]
/-- No_copy -/
def jc27 : jCode := [
  (0, .aload_n 0, 1, [], [], []),
  (1, .aload_n 1, 2, [], [], []),
  (2, .getfield 21, 5, [3, 0, 0, 0, 0], [], []),
  (5, .putfield 21, 8, [3, 0, 0, 0, 0], [], []),
  (8, .aload_n 1, 9, [], [], []),
  (9, .getfield 9, 12, [3, 1, 2, 18, 0], [], []),
  (12, .iconst 0, 13, [], [], []),
  (13, .aload_n 0, 14, [], [], []),
  (14, .getfield 9, 17, [3, 1, 2, 18, 0], [], []),
  (17, .iconst 0, 18, [], [], []),
  (18, .bipush 10, 20, [], [], []),
  (20, .invokestatic 25, 23, [18, 10, 18, 10], [], []),
  (23, .aload_n 1, 24, [], [], []),
  (24, .getfield 15, 27, [3, 2, 2, 19, 0], [], []),
  (27, .iconst 0, 28, [], [], []),
  (28, .aload_n 0, 29, [], [], []),
  (29, .getfield 15, 32, [3, 2, 2, 19, 0], [], []),
  (32, .iconst 0, 33, [], [], []),
  (33, .bipush 10, 35, [], [], []),
  (35, .invokestatic 25, 38, [19, 10, 19, 10], [], []),
  (38, .aload_n 1, 39, [], [], []),
  (39, .getfield 18, 42, [3, 3, 2, 20, 0], [], []),
  (42, .iconst 0, 43, [], [], []),
  (43, .aload_n 0, 44, [], [], []),
  (44, .getfield 18, 47, [3, 3, 2, 20, 0], [], []),
  (47, .iconst 0, 48, [], [], []),
  (48, .bipush 10, 50, [], [], []),
  (50, .invokestatic 25, 53, [20, 10, 20, 10], [], []),
  (53, .return_, 54, [], [], [])]
/-- No_lastNight -/
def jc28 : jCode := [
  (0, .iconst 0, 1, [], [], []),
  (1, .istore_n 1, 2, [], [], []),
  (2, .iconst 0, 3, [], [], []),
  (3, .istore_n 2, 4, [], [], []),
  (4, .iload_n 2, 5, [], [], []),
  (5, .aload_n 0, 6, [], [], []),
  (6, .getfield 21, 9, [3, 0, 0, 0, 0], [], []),
  (9, .if_icmp .ge 26, 12, [35], [], [0, 2]),
  (12, .iload_n 2, 13, [], [], []),
  (13, .bipush 10, 15, [], [], []),
  (15, .if_icmp .ge 20, 18, [35], [], [0, 2]),
  (18, .iload_n 1, 19, [], [], []),
  (19, .aload_n 0, 20, [], [], []),
  (20, .getfield 9, 23, [3, 1, 2, 18, 0], [], []),
  (23, .iload_n 2, 24, [], [], []),
  (24, .iaload, 25, [18, 10], [], []),
  (25, .invokestatic 31, 28, [246, 2, 1, 0, 0], [], []),
  (28, .istore_n 1, 29, [], [], []),
  (29, .iinc 2 1, 32, [], [], []),
  (32, .goto (-28), 35, [4], [], []),
  (35, .iload_n 1, 36, [], [], []),
  (36, .ireturn, 37, [0], [], [])]
/-- No_hold -/
def jc29 : jCode := [
  (0, .iconst 0, 1, [], [], []),
  (1, .istore_n 2, 2, [], [], []),
  (2, .iload_n 2, 3, [], [], []),
  (3, .aload_n 0, 4, [], [], []),
  (4, .getfield 21, 7, [3, 0, 0, 0, 0], [], []),
  (7, .if_icmp .ge 53, 10, [60], [], [0, 1, 2]),
  (10, .iload_n 2, 11, [], [], []),
  (11, .bipush 10, 13, [], [], []),
  (13, .if_icmp .ge 47, 16, [60], [], [0, 1, 2]),
  (16, .aload_n 0, 17, [], [], []),
  (17, .getfield 9, 20, [3, 1, 2, 18, 0], [], []),
  (20, .iload_n 2, 21, [], [], []),
  (21, .iaload, 22, [18, 10], [], []),
  (22, .aload_n 1, 23, [], [], []),
  (23, .getfield 37, 26, [9, 0, 0, 0, 0], [], []),
  (26, .if_icmp .ne 28, 29, [54], [], []),
  (29, .aload_n 1, 30, [], [], []),
  (30, .getfield 42, 33, [9, 1, 2, 38, 0], [], []),
  (33, .aload_n 0, 34, [], [], []),
  (34, .getfield 15, 37, [3, 2, 2, 19, 0], [], []),
  (37, .iload_n 2, 38, [], [], []),
  (38, .iaload, 39, [19, 10], [], []),
  (39, .iaload, 40, [38, 6], [], []),
  (40, .invokestatic 45, 43, [30, 1, 1, 0, 0], [], []),
  (43, .aload_n 0, 44, [], [], []),
  (44, .getfield 18, 47, [3, 3, 2, 20, 0], [], []),
  (47, .iload_n 2, 48, [], [], []),
  (48, .iaload, 49, [20, 10], [], []),
  (49, .if_icmp .eq 5, 52, [54], [], []),
  (52, .iconst 0, 53, [], [], []),
  (53, .ireturn, 54, [1], [], []),
  (54, .iinc 2 1, 57, [], [], []),
  (57, .goto (-55), 60, [2], [], []),
  (60, .iconst 1, 61, [], [], []),
  (61, .ireturn, 62, [1], [], [])]
/-- No_poolOrNone -/
def jc30 : jCode := [
  (0, .iload_n 0, 1, [], [], []),
  (1, .invokestatic 49, 4, [116, 1, 1, 0, 0], [], []),
  (4, .ifCond .eq 7, 7, [11], [], []),
  (7, .iload_n 0, 8, [], [], []),
  (8, .goto 4, 11, [12], [], [0]),
  (11, .iconst (-1), 12, [], [0], []),
  (12, .ireturn, 13, [0], [], [])]
/-- Ri_copy -/
def jc31 : jCode := [
  (0, .aload_n 0, 1, [], [], []),
  (1, .aload_n 1, 2, [], [], []),
  (2, .getfield 42, 5, [4, 0, 0, 0, 0], [], []),
  (5, .putfield 42, 8, [4, 0, 4, 0, 0], [], []),
  (8, .aload_n 0, 9, [], [], []),
  (9, .aload_n 1, 10, [], [], []),
  (10, .getfield 46, 13, [4, 1, 0, 0, 0], [], []),
  (13, .putfield 46, 16, [4, 1, 0, 0, 0], [], []),
  (16, .aload_n 0, 17, [], [], []),
  (17, .aload_n 1, 18, [], [], []),
  (18, .getfield 50, 21, [4, 2, 0, 0, 0], [], []),
  (21, .putfield 50, 24, [4, 2, 0, 0, 0], [], []),
  (24, .aload_n 0, 25, [], [], []),
  (25, .aload_n 1, 26, [], [], []),
  (26, .getfield 53, 29, [4, 3, 0, 0, 0], [], []),
  (29, .putfield 53, 32, [4, 3, 0, 0, 0], [], []),
  (32, .aload_n 0, 33, [], [], []),
  (33, .aload_n 1, 34, [], [], []),
  (34, .getfield 56, 37, [4, 4, 0, 0, 0], [], []),
  (37, .putfield 56, 40, [4, 4, 0, 0, 0], [], []),
  (40, .aload_n 0, 41, [], [], []),
  (41, .aload_n 1, 42, [], [], []),
  (42, .getfield 59, 45, [4, 5, 0, 0, 0], [], []),
  (45, .putfield 59, 48, [4, 5, 0, 0, 0], [], []),
  (48, .aload_n 0, 49, [], [], []),
  (49, .aload_n 1, 50, [], [], []),
  (50, .getfield 62, 53, [4, 6, 0, 0, 0], [], []),
  (53, .putfield 62, 56, [4, 6, 0, 0, 0], [], []),
  (56, .aload_n 1, 57, [], [], []),
  (57, .getfield 9, 60, [4, 7, 2, 21, 0], [], []),
  (60, .iconst 0, 61, [], [], []),
  (61, .aload_n 0, 62, [], [], []),
  (62, .getfield 9, 65, [4, 7, 2, 21, 0], [], []),
  (65, .iconst 0, 66, [], [], []),
  (66, .bipush 12, 68, [], [], []),
  (68, .invokestatic 65, 71, [21, 12, 21, 12], [], []),
  (71, .aload_n 1, 72, [], [], []),
  (72, .getfield 15, 75, [4, 8, 2, 22, 0], [], []),
  (75, .iconst 0, 76, [], [], []),
  (76, .aload_n 0, 77, [], [], []),
  (77, .getfield 15, 80, [4, 8, 2, 22, 0], [], []),
  (80, .iconst 0, 81, [], [], []),
  (81, .iconst 4, 82, [], [], []),
  (82, .invokestatic 65, 85, [22, 4, 22, 4], [], []),
  (85, .aload_n 1, 86, [], [], []),
  (86, .getfield 18, 89, [4, 9, 2, 23, 0], [], []),
  (89, .iconst 0, 90, [], [], []),
  (90, .aload_n 0, 91, [], [], []),
  (91, .getfield 18, 94, [4, 9, 2, 23, 0], [], []),
  (94, .iconst 0, 95, [], [], []),
  (95, .bipush 6, 97, [], [], []),
  (97, .invokestatic 65, 100, [23, 6, 23, 6], [], []),
  (100, .aload_n 1, 101, [], [], []),
  (101, .getfield 21, 104, [4, 10, 2, 24, 0], [], []),
  (104, .iconst 0, 105, [], [], []),
  (105, .aload_n 0, 106, [], [], []),
  (106, .getfield 21, 109, [4, 10, 2, 24, 0], [], []),
  (109, .iconst 0, 110, [], [], []),
  (110, .bipush 6, 112, [], [], []),
  (112, .invokestatic 65, 115, [24, 6, 24, 6], [], []),
  (115, .aload_n 1, 116, [], [], []),
  (116, .getfield 24, 119, [4, 11, 2, 25, 0], [], []),
  (119, .iconst 0, 120, [], [], []),
  (120, .aload_n 0, 121, [], [], []),
  (121, .getfield 24, 124, [4, 11, 2, 25, 0], [], []),
  (124, .iconst 0, 125, [], [], []),
  (125, .bipush 6, 127, [], [], []),
  (127, .invokestatic 65, 130, [25, 6, 25, 6], [], []),
  (130, .aload_n 1, 131, [], [], []),
  (131, .getfield 27, 134, [4, 12, 2, 26, 0], [], []),
  (134, .iconst 0, 135, [], [], []),
  (135, .aload_n 0, 136, [], [], []),
  (136, .getfield 27, 139, [4, 12, 2, 26, 0], [], []),
  (139, .iconst 0, 140, [], [], []),
  (140, .bipush 6, 142, [], [], []),
  (142, .invokestatic 65, 145, [26, 6, 26, 6], [], []),
  (145, .aload_n 1, 146, [], [], []),
  (146, .getfield 30, 149, [4, 13, 2, 27, 0], [], []),
  (149, .iconst 0, 150, [], [], []),
  (150, .aload_n 0, 151, [], [], []),
  (151, .getfield 30, 154, [4, 13, 2, 27, 0], [], []),
  (154, .iconst 0, 155, [], [], []),
  (155, .iconst 4, 156, [], [], []),
  (156, .invokestatic 65, 159, [27, 4, 27, 4], [], []),
  (159, .aload_n 1, 160, [], [], []),
  (160, .getfield 33, 163, [4, 14, 2, 28, 0], [], []),
  (163, .iconst 0, 164, [], [], []),
  (164, .aload_n 0, 165, [], [], []),
  (165, .getfield 33, 168, [4, 14, 2, 28, 0], [], []),
  (168, .iconst 0, 169, [], [], []),
  (169, .iconst 4, 170, [], [], []),
  (170, .invokestatic 65, 173, [28, 4, 28, 4], [], []),
  (173, .aload_n 1, 174, [], [], []),
  (174, .getfield 36, 177, [4, 15, 2, 29, 0], [], []),
  (177, .iconst 0, 178, [], [], []),
  (178, .aload_n 0, 179, [], [], []),
  (179, .getfield 36, 182, [4, 15, 2, 29, 0], [], []),
  (182, .iconst 0, 183, [], [], []),
  (183, .iconst 4, 184, [], [], []),
  (184, .invokestatic 65, 187, [29, 4, 29, 4], [], []),
  (187, .aload_n 1, 188, [], [], []),
  (188, .getfield 39, 191, [4, 16, 2, 30, 0], [], []),
  (191, .iconst 0, 192, [], [], []),
  (192, .aload_n 0, 193, [], [], []),
  (193, .getfield 39, 196, [4, 16, 2, 30, 0], [], []),
  (196, .iconst 0, 197, [], [], []),
  (197, .iconst 4, 198, [], [], []),
  (198, .invokestatic 65, 201, [30, 4, 30, 4], [], []),
  (201, .return_, 202, [], [], [])]
/-- Ri_round -/
def jc32 : jCode := [
  (0, .aload_n 0, 1, [], [], []),
  (1, .getfield 42, 4, [4, 0, 0, 0, 0], [], []),
  (4, .ifCond .eq 14, 7, [18], [], []),
  (7, .iconst 1, 8, [], [], []),
  (8, .aload_n 0, 9, [], [], []),
  (9, .getfield 53, 12, [4, 3, 0, 0, 0], [], []),
  (12, .invokestatic 71, 15, [246, 2, 1, 0, 0], [], []),
  (15, .goto 4, 18, [19], [], [0]),
  (18, .iconst 0, 19, [], [0], []),
  (19, .ireturn, 20, [0], [], [])]
/-- Ri_lightOf -/
def jc33 : jCode := [
  (0, .aload_n 0, 1, [], [], []),
  (1, .getfield 53, 4, [4, 3, 0, 0, 0], [], []),
  (4, .ifCond .le 7, 7, [11], [], [0, 1]),
  (7, .iload_n 1, 8, [], [], []),
  (8, .ifCond .ge 7, 11, [15], [0, 1], []),
  (11, .iconst 0, 12, [], [], []),
  (12, .goto 14, 15, [26], [], [0, 1]),
  (15, .aload_n 0, 16, [], [], []),
  (16, .getfield 9, 19, [4, 7, 2, 21, 0], [], []),
  (19, .iload_n 1, 20, [], [], []),
  (20, .aload_n 0, 21, [], [], []),
  (21, .getfield 53, 24, [4, 3, 0, 0, 0], [], []),
  (24, .irem, 25, [], [], []),
  (25, .iaload, 26, [21, 12], [0, 1], []),
  (26, .ireturn, 27, [0], [], [])]
/-- Ri_read -/
def jc34 : jCode := [
  (0, .aload_n 0, 1, [], [], []),
  (1, .iconst 0, 2, [], [], []),
  (2, .putfield 42, 5, [4, 0, 4, 0, 0], [], []),
  (5, .aload_n 0, 6, [], [], []),
  (6, .iconst 0, 7, [], [], []),
  (7, .putfield 53, 10, [4, 3, 0, 0, 0], [], []),
  (10, .aload_n 0, 11, [], [], []),
  (11, .iconst 0, 12, [], [], []),
  (12, .putfield 56, 15, [4, 4, 0, 0, 0], [], []),
  (15, .aload_n 0, 16, [], [], []),
  (16, .iconst 0, 17, [], [], []),
  (17, .putfield 59, 20, [4, 5, 0, 0, 0], [], []),
  (20, .aload_n 0, 21, [], [], []),
  (21, .iconst 0, 22, [], [], []),
  (22, .putfield 62, 25, [4, 6, 0, 0, 0], [], []),
  (25, .aload_n 1, 26, [], [], []),
  (26, .invokevirtual 77, 29, [62, 1, 0, 0, 9], [], []),
  (29, .iconst 0, 30, [], [], []),
  (30, .istore_n 2, 31, [], [], []),
  (31, .iload_n 2, 32, [], [], []),
  (32, .bipush 40, 34, [], [], []),
  (34, .if_icmp .gt 136, 37, [170], [], []),
  (37, .aload_n 1, 38, [], [], []),
  (38, .invokevirtual 82, 41, [66, 1, 0, 0, 9], [], []),
  (41, .aload_n 1, 42, [], [], []),
  (42, .ldc 85, 44, [1, 100, 0], [], []),
  (44, .invokevirtual 87, 47, [69, 2, 1, 0, 9], [], []),
  (47, .istore_n 3, 48, [], [], []),
  (48, .iload_n 3, 49, [], [], []),
  (49, .iconst (-1), 50, [], [], []),
  (50, .if_icmp .ne 13, 53, [63], [], []),
  (53, .aload_n 1, 54, [], [], []),
  (54, .aload_n 1, 55, [], [], []),
  (55, .getfield 91, 58, [8, 2, 0, 0, 0], [], []),
  (58, .iconst 0, 59, [], [], []),
  (59, .invokevirtual 94, 62, [63, 3, 1, 0, 9], [], []),
  (62, .ireturn, 63, [1], [], []),
  (63, .iload_n 2, 64, [], [], []),
  (64, .ifCond .ne 7, 67, [71], [], []),
  (67, .iconst 1, 68, [], [], []),
  (68, .goto 4, 71, [72], [], []),
  (71, .iconst 0, 72, [], [], []),
  (72, .istore 4, 74, [], [], []),
  (74, .iload_n 2, 75, [], [], []),
  (75, .bipush 40, 77, [], [], []),
  (77, .if_icmp .eq 25, 80, [102], [], [0, 2, 3, 4]),
  (80, .iload 4, 82, [], [], []),
  (82, .iload_n 3, 83, [], [], []),
  (83, .ifCond .ne 7, 86, [90], [], []),
  (86, .iconst 1, 87, [], [], []),
  (87, .goto 4, 90, [91], [], [4]),
  (90, .iconst 0, 91, [], [4], []),
  (91, .if_icmp .ne 11, 94, [102], [], [0, 2, 3, 4]),
  (94, .aload_n 0, 95, [], [], []),
  (95, .iload_n 3, 96, [], [], []),
  (96, .invokevirtual 98, 99, [35, 2, 1, 0, 5], [], []),
  (99, .ifCond .eq 13, 102, [112], [0, 2, 3, 4], []),
  (102, .aload_n 1, 103, [], [], []),
  (103, .aload_n 1, 104, [], [], []),
  (104, .getfield 91, 107, [8, 2, 0, 0, 0], [], []),
  (107, .iconst 4, 108, [], [], []),
  (108, .invokevirtual 94, 111, [63, 3, 1, 0, 9], [], []),
  (111, .ireturn, 112, [1], [], []),
  (112, .aload_n 1, 113, [], [], []),
  (113, .invokevirtual 102, 116, [70, 1, 0, 0, 9], [], []),
  (116, .aload_n 0, 117, [], [], []),
  (117, .aload_n 1, 118, [], [], []),
  (118, .iload_n 3, 119, [], [], []),
  (119, .invokevirtual 105, 122, [36, 3, 0, 0, 5], [], []),
  (122, .aload_n 1, 123, [], [], []),
  (123, .getfield 109, 126, [8, 3, 0, 0, 0], [], []),
  (126, .ifCond .eq 5, 129, [131], [], []),
  (129, .iconst 0, 130, [], [], []),
  (130, .ireturn, 131, [1], [], []),
  (131, .aload_n 1, 132, [], [], []),
  (132, .invokevirtual 112, 135, [67, 1, 1, 0, 9], [], []),
  (135, .ifCond .eq 10, 138, [145], [], []),
  (138, .aload_n 0, 139, [], [], []),
  (139, .iconst 1, 140, [], [], []),
  (140, .putfield 42, 143, [4, 0, 4, 0, 0], [], []),
  (143, .iconst 1, 144, [], [], []),
  (144, .ireturn, 145, [1], [], []),
  (145, .aload_n 1, 146, [], [], []),
  (146, .bipush 59, 148, [], [], []),
  (148, .invokevirtual 116, 151, [68, 2, 1, 0, 9], [], []),
  (151, .ifCond .ne 13, 154, [164], [], []),
  (154, .aload_n 1, 155, [], [], []),
  (155, .aload_n 1, 156, [], [], []),
  (156, .getfield 91, 159, [8, 2, 0, 0, 0], [], []),
  (159, .iconst 0, 160, [], [], []),
  (160, .invokevirtual 94, 163, [63, 3, 1, 0, 9], [], []),
  (163, .ireturn, 164, [1], [], []),
  (164, .iinc 2 1, 167, [], [], []),
  (167, .goto (-136), 170, [31], [], [3, 4]),
  (170, .iconst 0, 171, [], [], []),
  (171, .ireturn, 172, [1], [], [])]
/-- Ri_hasNoRoom -/
def jc35 : jCode := [
  (0, .iload_n 1, 1, [], [], []),
  (1, .tableswitch 89 1 4 #[31, 46, 60, 75], 32, [90, 1, 32, 2, 47, 3, 61, 4, 76], [], []),
  (32, .aload_n 0, 33, [], [], []),
  (33, .getfield 53, 36, [4, 3, 0, 0, 0], [], []),
  (36, .bipush 12, 38, [], [], []),
  (38, .if_icmp .lt 7, 41, [45], [], []),
  (41, .iconst 1, 42, [], [], []),
  (42, .goto 4, 45, [46], [], [0, 1]),
  (45, .iconst 0, 46, [], [0, 1], []),
  (46, .ireturn, 47, [1], [], []),
  (47, .aload_n 0, 48, [], [], []),
  (48, .getfield 56, 51, [4, 4, 0, 0, 0], [], []),
  (51, .iconst 4, 52, [], [], []),
  (52, .if_icmp .lt 7, 55, [59], [], []),
  (55, .iconst 1, 56, [], [], []),
  (56, .goto 4, 59, [60], [], [0, 1]),
  (59, .iconst 0, 60, [], [0, 1], []),
  (60, .ireturn, 61, [1], [], []),
  (61, .aload_n 0, 62, [], [], []),
  (62, .getfield 59, 65, [4, 5, 0, 0, 0], [], []),
  (65, .bipush 6, 67, [], [], []),
  (67, .if_icmp .lt 7, 70, [74], [], []),
  (70, .iconst 1, 71, [], [], []),
  (71, .goto 4, 74, [75], [], [0, 1]),
  (74, .iconst 0, 75, [], [0, 1], []),
  (75, .ireturn, 76, [1], [], []),
  (76, .aload_n 0, 77, [], [], []),
  (77, .getfield 62, 80, [4, 6, 0, 0, 0], [], []),
  (80, .iconst 4, 81, [], [], []),
  (81, .if_icmp .lt 7, 84, [88], [], []),
  (84, .iconst 1, 85, [], [], []),
  (85, .goto 4, 88, [89], [], [0, 1]),
  (88, .iconst 0, 89, [], [0, 1], []),
  (89, .ireturn, 90, [1], [], []),
  (90, .iconst 0, 91, [], [], []),
  (91, .ireturn, 92, [1], [], [])]
/-- Ri_readClause -/
def jc36 : jCode := [
  (0, .iload_n 2, 1, [], [], []),
  (1, .tableswitch 199 0 3 #[31, 56, 85, 114], 32, [200, 0, 32, 1, 57, 2, 86, 3, 115], [], []),
  (32, .aload_n 0, 33, [], [], []),
  (33, .aload_n 1, 34, [], [], []),
  (34, .iconst 2, 35, [], [], []),
  (35, .bipush 12, 37, [], [], []),
  (37, .invokevirtual 119, 40, [72, 3, 1, 0, 9], [], []),
  (40, .putfield 46, 43, [4, 1, 0, 0, 0], [], []),
  (43, .aload_n 0, 44, [], [], []),
  (44, .aload_n 1, 45, [], [], []),
  (45, .iconst 1, 46, [], [], []),
  (46, .bipush 9, 48, [], [], []),
  (48, .invokevirtual 119, 51, [72, 3, 1, 0, 9], [], []),
  (51, .putfield 50, 54, [4, 2, 0, 0, 0], [], []),
  (54, .goto 228, 57, [282], [], [0, 1, 2]),
  (57, .aload_n 0, 58, [], [], []),
  (58, .getfield 9, 61, [4, 7, 2, 21, 0], [], []),
  (61, .aload_n 0, 62, [], [], []),
  (62, .getfield 53, 65, [4, 3, 0, 0, 0], [], []),
  (65, .aload_n 1, 66, [], [], []),
  (66, .iconst 0, 67, [], [], []),
  (67, .bipush 9, 69, [], [], []),
  (69, .invokevirtual 119, 72, [72, 3, 1, 0, 9], [], []),
  (72, .iastore, 73, [21, 12, 0], [], []),
  (73, .aload_n 0, 74, [], [], []),
  (74, .dup, 75, [], [], []),
  (75, .getfield 53, 78, [4, 3, 0, 0, 0], [], []),
  (78, .iconst 1, 79, [], [], []),
  (79, .iadd, 80, [], [], []),
  (80, .putfield 53, 83, [4, 3, 0, 0, 0], [], []),
  (83, .goto 199, 86, [282], [], [0, 1, 2]),
  (86, .aload_n 0, 87, [], [], []),
  (87, .getfield 15, 90, [4, 8, 2, 22, 0], [], []),
  (90, .aload_n 0, 91, [], [], []),
  (91, .getfield 56, 94, [4, 4, 0, 0, 0], [], []),
  (94, .aload_n 1, 95, [], [], []),
  (95, .iconst 1, 96, [], [], []),
  (96, .bipush 9, 98, [], [], []),
  (98, .invokevirtual 119, 101, [72, 3, 1, 0, 9], [], []),
  (101, .iastore, 102, [22, 4, 0], [], []),
  (102, .aload_n 0, 103, [], [], []),
  (103, .dup, 104, [], [], []),
  (104, .getfield 56, 107, [4, 4, 0, 0, 0], [], []),
  (107, .iconst 1, 108, [], [], []),
  (108, .iadd, 109, [], [], []),
  (109, .putfield 56, 112, [4, 4, 0, 0, 0], [], []),
  (112, .goto 170, 115, [282], [], [0, 1, 2]),
  (115, .aload_n 0, 116, [], [], []),
  (116, .getfield 18, 119, [4, 9, 2, 23, 0], [], []),
  (119, .aload_n 0, 120, [], [], []),
  (120, .getfield 59, 123, [4, 5, 0, 0, 0], [], []),
  (123, .aload_n 1, 124, [], [], []),
  (124, .iconst 0, 125, [], [], []),
  (125, .aload_n 0, 126, [], [], []),
  (126, .getfield 46, 129, [4, 1, 0, 0, 0], [], []),
  (129, .iconst 1, 130, [], [], []),
  (130, .isub, 131, [], [], []),
  (131, .invokevirtual 119, 134, [72, 3, 1, 0, 9], [], []),
  (134, .iastore, 135, [23, 6, 0], [], []),
  (135, .aload_n 0, 136, [], [], []),
  (136, .getfield 21, 139, [4, 10, 2, 24, 0], [], []),
  (139, .aload_n 0, 140, [], [], []),
  (140, .getfield 59, 143, [4, 5, 0, 0, 0], [], []),
  (143, .aload_n 1, 144, [], [], []),
  (144, .iconst 1, 145, [], [], []),
  (145, .bipush 9, 147, [], [], []),
  (147, .invokevirtual 119, 150, [72, 3, 1, 0, 9], [], []),
  (150, .iastore, 151, [24, 6, 0], [], []),
  (151, .aload_n 0, 152, [], [], []),
  (152, .getfield 24, 155, [4, 11, 2, 25, 0], [], []),
  (155, .aload_n 0, 156, [], [], []),
  (156, .getfield 59, 159, [4, 5, 0, 0, 0], [], []),
  (159, .aload_n 1, 160, [], [], []),
  (160, .iconst 0, 161, [], [], []),
  (161, .bipush 7, 163, [], [], []),
  (163, .invokevirtual 119, 166, [72, 3, 1, 0, 9], [], []),
  (166, .iastore, 167, [25, 6, 0], [], []),
  (167, .aload_n 0, 168, [], [], []),
  (168, .getfield 27, 171, [4, 12, 2, 26, 0], [], []),
  (171, .aload_n 0, 172, [], [], []),
  (172, .getfield 59, 175, [4, 5, 0, 0, 0], [], []),
  (175, .aload_n 1, 176, [], [], []),
  (176, .iconst 0, 177, [], [], []),
  (177, .aload_n 0, 178, [], [], []),
  (178, .getfield 56, 181, [4, 4, 0, 0, 0], [], []),
  (181, .iconst 1, 182, [], [], []),
  (182, .isub, 183, [], [], []),
  (183, .invokevirtual 119, 186, [72, 3, 1, 0, 9], [], []),
  (186, .iastore, 187, [26, 6, 0], [], []),
  (187, .aload_n 0, 188, [], [], []),
  (188, .dup, 189, [], [], []),
  (189, .getfield 59, 192, [4, 5, 0, 0, 0], [], []),
  (192, .iconst 1, 193, [], [], []),
  (193, .iadd, 194, [], [], []),
  (194, .putfield 59, 197, [4, 5, 0, 0, 0], [], []),
  (197, .goto 85, 200, [282], [], [0, 1, 2]),
  (200, .aload_n 0, 201, [], [], []),
  (201, .getfield 30, 204, [4, 13, 2, 27, 0], [], []),
  (204, .aload_n 0, 205, [], [], []),
  (205, .getfield 62, 208, [4, 6, 0, 0, 0], [], []),
  (208, .aload_n 1, 209, [], [], []),
  (209, .iconst 0, 210, [], [], []),
  (210, .aload_n 0, 211, [], [], []),
  (211, .getfield 46, 214, [4, 1, 0, 0, 0], [], []),
  (214, .iconst 1, 215, [], [], []),
  (215, .isub, 216, [], [], []),
  (216, .invokevirtual 119, 219, [72, 3, 1, 0, 9], [], []),
  (219, .iastore, 220, [27, 4, 0], [], []),
  (220, .aload_n 0, 221, [], [], []),
  (221, .getfield 33, 224, [4, 14, 2, 28, 0], [], []),
  (224, .aload_n 0, 225, [], [], []),
  (225, .getfield 62, 228, [4, 6, 0, 0, 0], [], []),
  (228, .aload_n 1, 229, [], [], []),
  (229, .iconst 1, 230, [], [], []),
  (230, .bipush 9, 232, [], [], []),
  (232, .invokevirtual 119, 235, [72, 3, 1, 0, 9], [], []),
  (235, .iastore, 236, [28, 4, 0], [], []),
  (236, .aload_n 0, 237, [], [], []),
  (237, .getfield 36, 240, [4, 15, 2, 29, 0], [], []),
  (240, .aload_n 0, 241, [], [], []),
  (241, .getfield 62, 244, [4, 6, 0, 0, 0], [], []),
  (244, .aload_n 1, 245, [], [], []),
  (245, .iconst 0, 246, [], [], []),
  (246, .bipush 7, 248, [], [], []),
  (248, .invokevirtual 119, 251, [72, 3, 1, 0, 9], [], []),
  (251, .iastore, 252, [29, 4, 0], [], []),
  (252, .aload_n 0, 253, [], [], []),
  (253, .getfield 39, 256, [4, 16, 2, 30, 0], [], []),
  (256, .aload_n 0, 257, [], [], []),
  (257, .getfield 62, 260, [4, 6, 0, 0, 0], [], []),
  (260, .aload_n 1, 261, [], [], []),
  (261, .iconst 0, 262, [], [], []),
  (262, .aload_n 0, 263, [], [], []),
  (263, .getfield 56, 266, [4, 4, 0, 0, 0], [], []),
  (266, .iconst 1, 267, [], [], []),
  (267, .isub, 268, [], [], []),
  (268, .invokevirtual 119, 271, [72, 3, 1, 0, 9], [], []),
  (271, .iastore, 272, [30, 4, 0], [], []),
  (272, .aload_n 0, 273, [], [], []),
  (273, .dup, 274, [], [], []),
  (274, .getfield 62, 277, [4, 6, 0, 0, 0], [], []),
  (277, .iconst 1, 278, [], [], []),
  (278, .iadd, 279, [], [], []),
  (279, .putfield 62, 282, [4, 6, 0, 0, 0], [0, 1, 2], []),
  (282, .return_, 283, [], [], [])]
/-- Ru_read -/
def jc37 : jCode := [
  (0, .aload_n 0, 1, [], [], []),
  (1, .iconst 0, 2, [], [], []),
  (2, .putfield 18, 5, [5, 2, 0, 0, 0], [], []),
  (5, .aload_n 0, 6, [], [], []),
  (6, .iconst 0, 7, [], [], []),
  (7, .putfield 22, 10, [5, 3, 4, 0, 0], [], []),
  (10, .aload_n 0, 11, [], [], []),
  (11, .iconst 0, 12, [], [], []),
  (12, .putfield 26, 15, [5, 4, 0, 0, 0], [], []),
  (15, .aload_n 1, 16, [], [], []),
  (16, .invokevirtual 29, 19, [62, 1, 0, 0, 9], [], []),
  (19, .iconst 0, 20, [], [], []),
  (20, .istore_n 2, 21, [], [], []),
  (21, .iload_n 2, 22, [], [], []),
  (22, .bipush 12, 24, [], [], []),
  (24, .if_icmp .gt 129, 27, [153], [], []),
  (27, .aload_n 1, 28, [], [], []),
  (28, .invokevirtual 34, 31, [66, 1, 0, 0, 9], [], []),
  (31, .aload_n 1, 32, [], [], []),
  (32, .ldc 37, 34, [1, 100, 1], [], []),
  (34, .invokevirtual 39, 37, [69, 2, 1, 0, 9], [], []),
  (37, .iconst (-1), 38, [], [], []),
  (38, .if_icmp .ne 13, 41, [51], [], []),
  (41, .aload_n 1, 42, [], [], []),
  (42, .aload_n 1, 43, [], [], []),
  (43, .getfield 43, 46, [8, 2, 0, 0, 0], [], []),
  (46, .iconst 0, 47, [], [], []),
  (47, .invokevirtual 46, 50, [63, 3, 1, 0, 9], [], []),
  (50, .ireturn, 51, [1], [], []),
  (51, .iload_n 2, 52, [], [], []),
  (52, .bipush 12, 54, [], [], []),
  (54, .if_icmp .ne 13, 57, [67], [], []),
  (57, .aload_n 1, 58, [], [], []),
  (58, .aload_n 1, 59, [], [], []),
  (59, .getfield 43, 62, [8, 2, 0, 0, 0], [], []),
  (62, .iconst 4, 63, [], [], []),
  (63, .invokevirtual 46, 66, [63, 3, 1, 0, 9], [], []),
  (66, .ireturn, 67, [1], [], []),
  (67, .aload_n 1, 68, [], [], []),
  (68, .invokevirtual 50, 71, [70, 1, 0, 0, 9], [], []),
  (71, .aload_n 0, 72, [], [], []),
  (72, .aload_n 1, 73, [], [], []),
  (73, .invokevirtual 53, 76, [44, 2, 1, 0, 6], [], []),
  (76, .ifCond .ne 5, 79, [81], [], []),
  (79, .iconst 0, 80, [], [], []),
  (80, .ireturn, 81, [1], [], []),
  (81, .aload_n 1, 82, [], [], []),
  (82, .ldc 57, 84, [1, 100, 3], [], []),
  (84, .invokevirtual 59, 87, [71, 2, 1, 0, 9], [], []),
  (87, .istore_n 3, 88, [], [], []),
  (88, .iload_n 3, 89, [], [], []),
  (89, .ifCond .eq 14, 92, [103], [], []),
  (92, .aload_n 0, 93, [], [], []),
  (93, .aload_n 1, 94, [], [], []),
  (94, .iconst 0, 95, [], [], []),
  (95, .invokevirtual 63, 98, [39, 3, 1, 0, 6], [], []),
  (98, .ifCond .ne 5, 101, [103], [], []),
  (101, .iconst 0, 102, [], [], []),
  (102, .ireturn, 103, [1], [], []),
  (103, .aload_n 0, 104, [], [], []),
  (104, .iload_n 3, 105, [], [], []),
  (105, .ifCond .eq 8, 108, [113], [], []),
  (108, .bipush 9, 110, [], [], []),
  (110, .goto 5, 113, [115], [], [3]),
  (113, .bipush 8, 115, [], [3], []),
  (115, .iconst 0, 116, [], [], []),
  (116, .invokevirtual 67, 119, [38, 3, 0, 0, 6], [], []),
  (119, .aload_n 1, 120, [], [], []),
  (120, .invokevirtual 71, 123, [67, 1, 1, 0, 9], [], []),
  (123, .ifCond .eq 5, 126, [128], [], []),
  (126, .iconst 1, 127, [], [], []),
  (127, .ireturn, 128, [1], [], []),
  (128, .aload_n 1, 129, [], [], []),
  (129, .bipush 59, 131, [], [], []),
  (131, .invokevirtual 75, 134, [68, 2, 1, 0, 9], [], []),
  (134, .ifCond .ne 13, 137, [147], [], []),
  (137, .aload_n 1, 138, [], [], []),
  (138, .aload_n 1, 139, [], [], []),
  (139, .getfield 43, 142, [8, 2, 0, 0, 0], [], []),
  (142, .iconst 0, 143, [], [], []),
  (143, .invokevirtual 46, 146, [63, 3, 1, 0, 9], [], []),
  (146, .ireturn, 147, [1], [], []),
  (147, .iinc 2 1, 150, [], [], []),
  (150, .goto (-129), 153, [21], [], [3]),
  (153, .iconst 0, 154, [], [], []),
  (154, .ireturn, 155, [1], [], [])]
/-- Ru_emit -/
def jc38 : jCode := [
  (0, .aload_n 0, 1, [], [], []),
  (1, .getfield 18, 4, [5, 2, 0, 0, 0], [], []),
  (4, .aload_n 0, 5, [], [], []),
  (5, .getfield 9, 8, [5, 0, 2, 31, 0], [], []),
  (8, .arraylength, 9, [31, 400], [], []),
  (9, .if_icmp .ge 33, 12, [42], [], [0, 1, 2]),
  (12, .aload_n 0, 13, [], [], []),
  (13, .getfield 9, 16, [5, 0, 2, 31, 0], [], []),
  (16, .aload_n 0, 17, [], [], []),
  (17, .getfield 18, 20, [5, 2, 0, 0, 0], [], []),
  (20, .iload_n 1, 21, [], [], []),
  (21, .iastore, 22, [31, 400, 0], [], []),
  (22, .aload_n 0, 23, [], [], []),
  (23, .getfield 15, 26, [5, 1, 2, 32, 0], [], []),
  (26, .aload_n 0, 27, [], [], []),
  (27, .getfield 18, 30, [5, 2, 0, 0, 0], [], []),
  (30, .iload_n 2, 31, [], [], []),
  (31, .iastore, 32, [32, 400, 0], [], []),
  (32, .aload_n 0, 33, [], [], []),
  (33, .dup, 34, [], [], []),
  (34, .getfield 18, 37, [5, 2, 0, 0, 0], [], []),
  (37, .iconst 1, 38, [], [], []),
  (38, .iadd, 39, [], [], []),
  (39, .putfield 18, 42, [5, 2, 0, 0, 0], [0, 1, 2], []),
  (42, .return_, 43, [], [], [])]
/-- Ru_readTest -/
def jc39 : jCode := [
  (0, .aload_n 0, 1, [], [], []),
  (1, .aload_n 1, 2, [], [], []),
  (2, .iload_n 2, 3, [], [], []),
  (3, .invokevirtual 79, 6, [40, 3, 1, 0, 6], [], []),
  (6, .istore_n 3, 7, [], [], []),
  (7, .iconst 0, 8, [], [], []),
  (8, .istore 4, 10, [], [], []),
  (10, .iload 4, 12, [], [], []),
  (12, .bipush 60, 14, [], [], []),
  (14, .if_icmp .gt 35, 17, [49], [], [0, 1, 2, 4]),
  (17, .iload_n 3, 18, [], [], []),
  (18, .ifCond .eq 31, 21, [49], [], [0, 1, 2, 4]),
  (21, .aload_n 1, 22, [], [], []),
  (22, .ldc 82, 24, [1, 100, 6], [], []),
  (24, .invokevirtual 59, 27, [71, 2, 1, 0, 9], [], []),
  (27, .ifCond .eq 22, 30, [49], [], [0, 1, 2, 4]),
  (30, .aload_n 0, 31, [], [], []),
  (31, .aload_n 1, 32, [], [], []),
  (32, .iload_n 2, 33, [], [], []),
  (33, .invokevirtual 79, 36, [40, 3, 1, 0, 6], [], []),
  (36, .istore_n 3, 37, [], [], []),
  (37, .aload_n 0, 38, [], [], []),
  (38, .iconst 5, 39, [], [], []),
  (39, .iconst 0, 40, [], [], []),
  (40, .invokevirtual 67, 43, [38, 3, 0, 0, 6], [], []),
  (43, .iinc 4 1, 46, [], [], []),
  (46, .goto (-36), 49, [10], [], []),
  (49, .iload_n 3, 50, [], [], []),
  (50, .ireturn, 51, [1], [], [])]
/-- Ru_readPart -/
def jc40 : jCode := [
  (0, .aload_n 0, 1, [], [], []),
  (1, .aload_n 1, 2, [], [], []),
  (2, .iload_n 2, 3, [], [], []),
  (3, .invokevirtual 84, 6, [41, 3, 1, 0, 6], [], []),
  (6, .istore_n 3, 7, [], [], []),
  (7, .iconst 0, 8, [], [], []),
  (8, .istore 4, 10, [], [], []),
  (10, .iload 4, 12, [], [], []),
  (12, .bipush 60, 14, [], [], []),
  (14, .if_icmp .gt 35, 17, [49], [], [0, 1, 2, 4]),
  (17, .iload_n 3, 18, [], [], []),
  (18, .ifCond .eq 31, 21, [49], [], [0, 1, 2, 4]),
  (21, .aload_n 1, 22, [], [], []),
  (22, .ldc 87, 24, [1, 100, 5], [], []),
  (24, .invokevirtual 59, 27, [71, 2, 1, 0, 9], [], []),
  (27, .ifCond .eq 22, 30, [49], [], [0, 1, 2, 4]),
  (30, .aload_n 0, 31, [], [], []),
  (31, .aload_n 1, 32, [], [], []),
  (32, .iload_n 2, 33, [], [], []),
  (33, .invokevirtual 84, 36, [41, 3, 1, 0, 6], [], []),
  (36, .istore_n 3, 37, [], [], []),
  (37, .aload_n 0, 38, [], [], []),
  (38, .iconst 4, 39, [], [], []),
  (39, .iconst 0, 40, [], [], []),
  (40, .invokevirtual 67, 43, [38, 3, 0, 0, 6], [], []),
  (43, .iinc 4 1, 46, [], [], []),
  (46, .goto (-36), 49, [10], [], []),
  (49, .iload_n 3, 50, [], [], []),
  (50, .ireturn, 51, [1], [], [])]
/-- Ru_readFact -/
def jc41 : jCode := [
  (0, .aload_n 1, 1, [], [], []),
  (1, .invokevirtual 34, 4, [66, 1, 0, 0, 9], [], []),
  (4, .aload_n 1, 5, [], [], []),
  (5, .ldc 89, 7, [1, 100, 4], [], []),
  (7, .invokevirtual 39, 10, [69, 2, 1, 0, 9], [], []),
  (10, .iconst (-1), 11, [], [], []),
  (11, .if_icmp .eq 7, 14, [18], [], []),
  (14, .iconst 1, 15, [], [], []),
  (15, .goto 4, 18, [19], [], []),
  (18, .iconst 0, 19, [], [], []),
  (19, .istore_n 3, 20, [], [], []),
  (20, .iload_n 3, 21, [], [], []),
  (21, .ifCond .ne 18, 24, [39], [], []),
  (24, .aload_n 1, 25, [], [], []),
  (25, .invokevirtual 91, 28, [64, 1, 1, 0, 9], [], []),
  (28, .bipush 91, 30, [], [], []),
  (30, .if_icmp .eq 9, 33, [39], [], []),
  (33, .aload_n 0, 34, [], [], []),
  (34, .aload_n 1, 35, [], [], []),
  (35, .invokevirtual 95, 38, [42, 2, 1, 0, 6], [], []),
  (38, .ireturn, 39, [1], [], []),
  (39, .iload_n 2, 40, [], [], []),
  (40, .bipush 10, 42, [], [], []),
  (42, .if_icmp .lt 13, 45, [55], [], []),
  (45, .aload_n 1, 46, [], [], []),
  (46, .aload_n 1, 47, [], [], []),
  (47, .getfield 43, 50, [8, 2, 0, 0, 0], [], []),
  (50, .iconst 2, 51, [], [], []),
  (51, .invokevirtual 46, 54, [63, 3, 1, 0, 9], [], []),
  (54, .ireturn, 55, [1], [], []),
  (55, .iload_n 3, 56, [], [], []),
  (56, .ifCond .eq 26, 59, [82], [], []),
  (59, .aload_n 1, 60, [], [], []),
  (60, .invokevirtual 50, 63, [70, 1, 0, 0, 9], [], []),
  (63, .aload_n 0, 64, [], [], []),
  (64, .aload_n 1, 65, [], [], []),
  (65, .iload_n 2, 66, [], [], []),
  (66, .iconst 1, 67, [], [], []),
  (67, .iadd, 68, [], [], []),
  (68, .invokevirtual 84, 71, [41, 3, 1, 0, 6], [], []),
  (71, .istore 4, 73, [], [], []),
  (73, .aload_n 0, 74, [], [], []),
  (74, .iconst 3, 75, [], [], []),
  (75, .iconst 0, 76, [], [], []),
  (76, .invokevirtual 67, 79, [38, 3, 0, 0, 6], [], []),
  (79, .iload 4, 81, [], [], []),
  (81, .ireturn, 82, [1], [], []),
  (82, .aload_n 1, 83, [], [], []),
  (83, .bipush 91, 85, [], [], []),
  (85, .invokevirtual 75, 88, [68, 2, 1, 0, 9], [], []),
  (88, .pop, 89, [], [], []),
  (89, .aload_n 0, 90, [], [], []),
  (90, .aload_n 1, 91, [], [], []),
  (91, .iload_n 2, 92, [], [], []),
  (92, .iconst 1, 93, [], [], []),
  (93, .iadd, 94, [], [], []),
  (94, .invokevirtual 63, 97, [39, 3, 1, 0, 6], [], []),
  (97, .ifCond .ne 5, 100, [102], [], []),
  (100, .iconst 0, 101, [], [], []),
  (101, .ireturn, 102, [1], [], []),
  (102, .aload_n 1, 103, [], [], []),
  (103, .invokevirtual 34, 106, [66, 1, 0, 0, 9], [], []),
  (106, .aload_n 1, 107, [], [], []),
  (107, .bipush 93, 109, [], [], []),
  (109, .invokevirtual 75, 112, [68, 2, 1, 0, 9], [], []),
  (112, .ifCond .ne 15, 115, [127], [], [0, 1, 2, 3]),
  (115, .aload_n 1, 116, [], [], []),
  (116, .aload_n 1, 117, [], [], []),
  (117, .getfield 43, 120, [8, 2, 0, 0, 0], [], []),
  (120, .iconst 0, 121, [], [], []),
  (121, .invokevirtual 46, 124, [63, 3, 1, 0, 9], [], []),
  (124, .ifCond .eq 7, 127, [131], [0, 1, 2, 3], []),
  (127, .iconst 1, 128, [], [], []),
  (128, .goto 4, 131, [132], [], [0, 1, 2, 3]),
  (131, .iconst 0, 132, [], [0, 1, 2, 3], []),
  (132, .ireturn, 133, [1], [], [])]
/-- Ru_readComparison -/
def jc42 : jCode := [
  (0, .aload_n 0, 1, [], [], []),
  (1, .aload_n 1, 2, [], [], []),
  (2, .invokevirtual 53, 5, [44, 2, 1, 0, 6], [], []),
  (5, .ifCond .ne 5, 8, [10], [], []),
  (8, .iconst 0, 9, [], [], []),
  (9, .ireturn, 10, [1], [], []),
  (10, .aload_n 1, 11, [], [], []),
  (11, .invokevirtual 34, 14, [66, 1, 0, 0, 9], [], []),
  (14, .aload_n 1, 15, [], [], []),
  (15, .getfield 43, 18, [8, 2, 0, 0, 0], [], []),
  (18, .istore_n 2, 19, [], [], []),
  (19, .aload_n 1, 20, [], [], []),
  (20, .invokestatic 98, 23, [43, 1, 1, 0, 0], [], []),
  (23, .istore_n 3, 24, [], [], []),
  (24, .iload_n 3, 25, [], [], []),
  (25, .iconst (-1), 26, [], [], []),
  (26, .if_icmp .ne 10, 29, [36], [], []),
  (29, .aload_n 1, 30, [], [], []),
  (30, .iload_n 2, 31, [], [], []),
  (31, .iconst 0, 32, [], [], []),
  (32, .invokevirtual 46, 35, [63, 3, 1, 0, 9], [], []),
  (35, .ireturn, 36, [1], [], []),
  (36, .aload_n 0, 37, [], [], []),
  (37, .aload_n 1, 38, [], [], []),
  (38, .iload_n 2, 39, [], [], []),
  (39, .invokevirtual 102, 42, [47, 3, 1, 0, 6], [], []),
  (42, .ifCond .eq 11, 45, [53], [], [0, 1, 2, 3]),
  (45, .aload_n 0, 46, [], [], []),
  (46, .aload_n 1, 47, [], [], []),
  (47, .invokevirtual 53, 50, [44, 2, 1, 0, 6], [], []),
  (50, .ifCond .ne 5, 53, [55], [0, 1, 2, 3], []),
  (53, .iconst 0, 54, [], [], []),
  (54, .ireturn, 55, [1], [], []),
  (55, .aload_n 0, 56, [], [], []),
  (56, .iload_n 3, 57, [], [], []),
  (57, .iconst 0, 58, [], [], []),
  (58, .invokevirtual 67, 61, [38, 3, 0, 0, 6], [], []),
  (61, .iconst 1, 62, [], [], []),
  (62, .ireturn, 63, [1], [], [])]
/-- Ru_readSign -/
def jc43 : jCode := [
  (0, .aload_n 0, 1, [], [], []),
  (1, .bipush 61, 3, [], [], []),
  (3, .invokevirtual 75, 6, [68, 2, 1, 0, 9], [], []),
  (6, .ifCond .eq 6, 9, [12], [], []),
  (9, .bipush 61, 11, [], [], []),
  (11, .ireturn, 12, [0], [], []),
  (12, .aload_n 0, 13, [], [], []),
  (13, .bipush 60, 15, [], [], []),
  (15, .invokevirtual 75, 18, [68, 2, 1, 0, 9], [], []),
  (18, .ifCond .eq 19, 21, [37], [], []),
  (21, .aload_n 0, 22, [], [], []),
  (22, .bipush 61, 24, [], [], []),
  (24, .invokevirtual 75, 27, [68, 2, 1, 0, 9], [], []),
  (27, .ifCond .eq 7, 30, [34], [], []),
  (30, .iconst 1, 31, [], [], []),
  (31, .goto 5, 34, [36], [], [0]),
  (34, .bipush 60, 36, [], [0], []),
  (36, .ireturn, 37, [0], [], []),
  (37, .aload_n 0, 38, [], [], []),
  (38, .bipush 62, 40, [], [], []),
  (40, .invokevirtual 75, 43, [68, 2, 1, 0, 9], [], []),
  (43, .ifCond .eq 19, 46, [62], [], []),
  (46, .aload_n 0, 47, [], [], []),
  (47, .bipush 61, 49, [], [], []),
  (49, .invokevirtual 75, 52, [68, 2, 1, 0, 9], [], []),
  (52, .ifCond .eq 7, 55, [59], [], []),
  (55, .iconst 2, 56, [], [], []),
  (56, .goto 5, 59, [61], [], [0]),
  (59, .bipush 62, 61, [], [0], []),
  (61, .ireturn, 62, [0], [], []),
  (62, .iconst (-1), 63, [], [], []),
  (63, .ireturn, 64, [0], [], [])]
/-- Ru_readSum -/
def jc44 : jCode := [
  (0, .iconst 0, 1, [], [], []),
  (1, .istore_n 2, 2, [], [], []),
  (2, .aload_n 0, 3, [], [], []),
  (3, .aload_n 1, 4, [], [], []),
  (4, .invokevirtual 105, 7, [46, 2, 1, 0, 6], [], []),
  (7, .istore_n 3, 8, [], [], []),
  (8, .iconst 0, 9, [], [], []),
  (9, .istore 4, 11, [], [], []),
  (11, .iload 4, 13, [], [], []),
  (13, .bipush 60, 15, [], [], []),
  (15, .if_icmp .gt 102, 18, [117], [], [1, 4]),
  (18, .iload_n 3, 19, [], [], []),
  (19, .ifCond .eq 98, 22, [117], [], [1, 4]),
  (22, .aload_n 1, 23, [], [], []),
  (23, .invokevirtual 34, 26, [66, 1, 0, 0, 9], [], []),
  (26, .aload_n 1, 27, [], [], []),
  (27, .invokevirtual 91, 30, [64, 1, 1, 0, 9], [], []),
  (30, .istore 5, 32, [], [], []),
  (32, .iload 5, 34, [], [], []),
  (34, .bipush 42, 36, [], [], []),
  (36, .if_icmp .eq 17, 39, [53], [], [3]),
  (39, .iload 5, 41, [], [], []),
  (41, .bipush 47, 43, [], [], []),
  (43, .if_icmp .eq 10, 46, [53], [], [3]),
  (46, .iload 5, 48, [], [], []),
  (48, .bipush 37, 50, [], [], []),
  (50, .if_icmp .ne 26, 53, [76], [3], []),
  (53, .aload_n 1, 54, [], [], []),
  (54, .iload 5, 56, [], [], []),
  (56, .invokevirtual 75, 59, [68, 2, 1, 0, 9], [], []),
  (59, .pop, 60, [], [], []),
  (60, .aload_n 0, 61, [], [], []),
  (61, .aload_n 1, 62, [], [], []),
  (62, .invokevirtual 105, 65, [46, 2, 1, 0, 6], [], []),
  (65, .istore_n 3, 66, [], [], []),
  (66, .aload_n 0, 67, [], [], []),
  (67, .iload 5, 69, [], [], []),
  (69, .iconst 0, 70, [], [], []),
  (70, .invokevirtual 67, 73, [38, 3, 0, 0, 6], [], []),
  (73, .goto 38, 76, [111], [], [5]),
  (76, .iload 5, 78, [], [], []),
  (78, .bipush 43, 80, [], [], []),
  (80, .if_icmp .eq 10, 83, [90], [], [3]),
  (83, .iload 5, 85, [], [], []),
  (85, .bipush 45, 87, [], [], []),
  (87, .if_icmp .ne 30, 90, [117], [3], [1, 4, 5]),
  (90, .aload_n 0, 91, [], [], []),
  (91, .iload_n 2, 92, [], [], []),
  (92, .invokevirtual 108, 95, [45, 2, 0, 0, 6], [], []),
  (95, .iload 5, 97, [], [], []),
  (97, .istore_n 2, 98, [], [], []),
  (98, .aload_n 1, 99, [], [], []),
  (99, .iload 5, 101, [], [], []),
  (101, .invokevirtual 75, 104, [68, 2, 1, 0, 9], [], []),
  (104, .pop, 105, [], [], []),
  (105, .aload_n 0, 106, [], [], []),
  (106, .aload_n 1, 107, [], [], []),
  (107, .invokevirtual 105, 110, [46, 2, 1, 0, 6], [], []),
  (110, .istore_n 3, 111, [], [5], []),
  (111, .iinc 4 1, 114, [], [], []),
  (114, .goto (-103), 117, [11], [], [5]),
  (117, .aload_n 0, 118, [], [], []),
  (118, .iload_n 2, 119, [], [], []),
  (119, .invokevirtual 108, 122, [45, 2, 0, 0, 6], [], []),
  (122, .iload_n 3, 123, [], [], []),
  (123, .ireturn, 124, [1], [], [])]
/-- Ru_emitSign -/
def jc45 : jCode := [
  (0, .iload_n 1, 1, [], [], []),
  (1, .ifCond .eq 9, 4, [10], [], [0, 1]),
  (4, .aload_n 0, 5, [], [], []),
  (5, .iload_n 1, 6, [], [], []),
  (6, .iconst 0, 7, [], [], []),
  (7, .invokevirtual 67, 10, [38, 3, 0, 0, 6], [0, 1], []),
  (10, .return_, 11, [], [], [])]
/-- Ru_readValue -/
def jc46 : jCode := [
  (0, .aload_n 1, 1, [], [], []),
  (1, .invokevirtual 34, 4, [66, 1, 0, 0, 9], [], []),
  (4, .aload_n 1, 5, [], [], []),
  (5, .getfield 43, 8, [8, 2, 0, 0, 0], [], []),
  (8, .istore_n 2, 9, [], [], []),
  (9, .aload_n 1, 10, [], [], []),
  (10, .invokevirtual 112, 13, [65, 1, 1, 0, 9], [], []),
  (13, .ifCond .eq 38, 16, [51], [], []),
  (16, .aload_n 0, 17, [], [], []),
  (17, .bipush 6, 19, [], [], []),
  (19, .aload_n 1, 20, [], [], []),
  (20, .iconst 0, 21, [], [], []),
  (21, .ldc 115, 23, [0, 99999, 0], [], []),
  (23, .invokevirtual 116, 26, [72, 3, 1, 0, 9], [], []),
  (26, .invokevirtual 67, 29, [38, 3, 0, 0, 6], [], []),
  (29, .aload_n 1, 30, [], [], []),
  (30, .getfield 120, 33, [8, 3, 0, 0, 0], [], []),
  (33, .ifCond .ne 16, 36, [49], [], [0, 1, 2]),
  (36, .aload_n 0, 37, [], [], []),
  (37, .aload_n 1, 38, [], [], []),
  (38, .iload_n 2, 39, [], [], []),
  (39, .invokevirtual 102, 42, [47, 3, 1, 0, 6], [], []),
  (42, .ifCond .eq 7, 45, [49], [], [0, 1, 2]),
  (45, .iconst 1, 46, [], [], []),
  (46, .goto 4, 49, [50], [], [0, 1, 2]),
  (49, .iconst 0, 50, [], [0, 1, 2], []),
  (50, .ireturn, 51, [1], [], []),
  (51, .aload_n 1, 52, [], [], []),
  (52, .ldc 123, 54, [1, 100, 2], [], []),
  (54, .invokevirtual 39, 57, [69, 2, 1, 0, 9], [], []),
  (57, .istore_n 3, 58, [], [], []),
  (58, .iload_n 3, 59, [], [], []),
  (59, .iconst (-1), 60, [], [], []),
  (60, .if_icmp .ne 10, 63, [70], [], []),
  (63, .aload_n 1, 64, [], [], []),
  (64, .iload_n 2, 65, [], [], []),
  (65, .iconst 0, 66, [], [], []),
  (66, .invokevirtual 46, 69, [63, 3, 1, 0, 9], [], []),
  (69, .ireturn, 70, [1], [], []),
  (70, .aload_n 1, 71, [], [], []),
  (71, .invokevirtual 50, 74, [70, 1, 0, 0, 9], [], []),
  (74, .aload_n 0, 75, [], [], []),
  (75, .aload_n 0, 76, [], [], []),
  (76, .getfield 22, 79, [5, 3, 0, 0, 0], [], []),
  (79, .ifCond .ne 21, 82, [100], [], []),
  (82, .iload_n 3, 83, [], [], []),
  (83, .bipush 8, 85, [], [], []),
  (85, .if_icmp .eq 15, 88, [100], [], []),
  (88, .iload_n 3, 89, [], [], []),
  (89, .bipush 9, 91, [], [], []),
  (91, .if_icmp .eq 9, 94, [100], [], []),
  (94, .iload_n 3, 95, [], [], []),
  (95, .bipush 11, 97, [], [], []),
  (97, .if_icmp .ne 7, 100, [104], [], []),
  (100, .iconst 1, 101, [], [], []),
  (101, .goto 4, 104, [105], [], []),
  (104, .iconst 0, 105, [], [], []),
  (105, .putfield 22, 108, [5, 3, 4, 0, 0], [], []),
  (108, .aload_n 0, 109, [], [], []),
  (109, .bipush 7, 111, [], [], []),
  (111, .iload_n 3, 112, [], [], []),
  (112, .invokevirtual 67, 115, [38, 3, 0, 0, 6], [], []),
  (115, .aload_n 0, 116, [], [], []),
  (116, .aload_n 1, 117, [], [], []),
  (117, .iload_n 2, 118, [], [], []),
  (118, .invokevirtual 102, 121, [47, 3, 1, 0, 6], [], []),
  (121, .ireturn, 122, [1], [], [])]
/-- Ru_hasUnit -/
def jc47 : jCode := [
  (0, .aload_n 0, 1, [], [], []),
  (1, .dup, 2, [], [], []),
  (2, .getfield 26, 5, [5, 4, 0, 0, 0], [], []),
  (5, .iconst 1, 6, [], [], []),
  (6, .iadd, 7, [], [], []),
  (7, .putfield 26, 10, [5, 4, 0, 0, 0], [], []),
  (10, .aload_n 0, 11, [], [], []),
  (11, .getfield 26, 14, [5, 4, 0, 0, 0], [], []),
  (14, .bipush 60, 16, [], [], []),
  (16, .if_icmp .le 12, 19, [28], [], [0, 1, 2]),
  (19, .aload_n 1, 20, [], [], []),
  (20, .iload_n 2, 21, [], [], []),
  (21, .iconst 3, 22, [], [], []),
  (22, .invokevirtual 46, 25, [63, 3, 1, 0, 9], [], []),
  (25, .ifCond .eq 7, 28, [32], [0, 1, 2], []),
  (28, .iconst 1, 29, [], [], []),
  (29, .goto 4, 32, [33], [], [0, 1, 2]),
  (32, .iconst 0, 33, [], [0, 1, 2], []),
  (33, .ireturn, 34, [1], [], [])]
/-- Sc_copy -/
def jc48 : jCode := [
  (0, .aload_n 0, 1, [], [], []),
  (1, .getfield 12, 4, [6, 0, 2, 4, 0], [], []),
  (4, .aload_n 1, 5, [], [], []),
  (5, .getfield 12, 8, [6, 0, 2, 4, 0], [], []),
  (8, .invokevirtual 36, 11, [31, 2, 0, 0, 5], [], []),
  (11, .aload_n 0, 12, [], [], []),
  (12, .getfield 21, 15, [6, 1, 2, 9, 0], [], []),
  (15, .aload_n 1, 16, [], [], []),
  (16, .getfield 21, 19, [6, 1, 2, 9, 0], [], []),
  (19, .invokevirtual 40, 22, [73, 2, 0, 0, 10], [], []),
  (22, .aload_n 0, 23, [], [], []),
  (23, .getfield 28, 26, [6, 2, 2, 3, 0], [], []),
  (26, .aload_n 1, 27, [], [], []),
  (27, .getfield 28, 30, [6, 2, 2, 3, 0], [], []),
  (30, .invokevirtual 43, 33, [27, 2, 0, 0, 4], [], []),
  (33, .aload_n 0, 34, [], [], []),
  (34, .aload_n 1, 35, [], [], []),
  (35, .getfield 32, 38, [6, 3, 0, 0, 0], [], []),
  (38, .putfield 32, 41, [6, 3, 0, 0, 0], [], []),
  (41, .aload_n 0, 42, [], [], []),
  (42, .aload_n 1, 43, [], [], []),
  (43, .getfield 46, 46, [6, 4, 0, 0, 0], [], []),
  (46, .putfield 46, 49, [6, 4, 0, 0, 0], [], []),
  (49, .return_, 50, [], [], [])]
/-- Sc_bitsAt -/
def jc49 : jCode := [
  (0, .aload_n 0, 1, [], [], []),
  (1, .getfield 21, 4, [6, 1, 2, 9, 0], [], []),
  (4, .iload_n 1, 5, [], [], []),
  (5, .aload_n 0, 6, [], [], []),
  (6, .getfield 12, 9, [6, 0, 2, 4, 0], [], []),
  (9, .getfield 49, 12, [4, 5, 0, 0, 0], [], []),
  (12, .invokevirtual 52, 15, [75, 3, 1, 0, 10], [], []),
  (15, .ireturn, 16, [0], [], [])]
/-- Sc_freeBits -/
def jc50 : jCode := [
  (0, .iconst 0, 1, [], [], []),
  (1, .istore_n 1, 2, [], [], []),
  (2, .iconst 0, 3, [], [], []),
  (3, .istore_n 2, 4, [], [], []),
  (4, .iload_n 2, 5, [], [], []),
  (5, .aload_n 0, 6, [], [], []),
  (6, .getfield 12, 9, [6, 0, 2, 4, 0], [], []),
  (9, .getfield 49, 12, [4, 5, 0, 0, 0], [], []),
  (12, .if_icmp .ge 30, 15, [42], [], []),
  (15, .aload_n 0, 16, [], [], []),
  (16, .getfield 21, 19, [6, 1, 2, 9, 0], [], []),
  (19, .getfield 56, 22, [9, 1, 2, 38, 0], [], []),
  (22, .iload_n 2, 23, [], [], []),
  (23, .iaload, 24, [38, 6], [], []),
  (24, .invokestatic 60, 27, [116, 1, 1, 0, 0], [], []),
  (27, .ifCond .eq 9, 30, [36], [], []),
  (30, .iload_n 1, 31, [], [], []),
  (31, .iconst 1, 32, [], [], []),
  (32, .iload_n 2, 33, [], [], []),
  (33, .ishl, 34, [], [], []),
  (34, .ior, 35, [], [], []),
  (35, .istore_n 1, 36, [], [], []),
  (36, .iinc 2 1, 39, [], [], []),
  (39, .goto (-35), 42, [4], [], []),
  (42, .iload_n 1, 43, [], [], []),
  (43, .ireturn, 44, [0], [], [])]
/-- Sm_pass -/
def jc51 : jCode := [
  (0, .aload_n 2, 1, [], [], []),
  (1, .getfield 25, 4, [9, 0, 0, 0, 0], [], []),
  (4, .iload 4, 6, [], [], []),
  (6, .iadd, 7, [], [], []),
  (7, .istore 5, 9, [], [], []),
  (9, .iconst 0, 10, [], [], []),
  (10, .istore 6, 12, [], [], []),
  (12, .iload 6, 14, [], [], []),
  (14, .iload 4, 16, [], [], []),
  (16, .if_icmp .ge 35, 19, [51], [], [0, 1, 3, 4, 6]),
  (19, .aload_n 0, 20, [], [], []),
  (20, .aload_n 1, 21, [], [], []),
  (21, .aload_n 2, 22, [], [], []),
  (22, .aload_n 3, 23, [], [], []),
  (23, .aload_n 1, 24, [], [], []),
  (24, .aload_n 2, 25, [], [], []),
  (25, .getfield 25, 28, [9, 0, 0, 0, 0], [], []),
  (28, .invokevirtual 31, 31, [33, 2, 1, 0, 5], [], []),
  (31, .invokevirtual 37, 34, [53, 5, 1, 0, 8], [], []),
  (34, .pop, 35, [], [], []),
  (35, .aload_n 0, 36, [], [], []),
  (36, .invokevirtual 41, 39, [52, 1, 1, 0, 8], [], []),
  (39, .ifCond .eq 6, 42, [45], [], []),
  (42, .goto 9, 45, [51], [], [0, 1, 3, 4, 6]),
  (45, .iinc 6 1, 48, [], [], []),
  (48, .goto (-36), 51, [12], [], []),
  (51, .aload_n 2, 52, [], [], []),
  (52, .iload 5, 54, [], [], []),
  (54, .putfield 25, 57, [9, 0, 0, 0, 0], [], []),
  (57, .return_, 58, [], [], [])]
/-- Sm_isStill -/
def jc52 : jCode := [
  (0, .aload_n 0, 1, [], [], []),
  (1, .getfield 45, 4, [7, 11, 0, 0, 0], [], []),
  (4, .ifCond .ne 24, 7, [28], [], [0]),
  (7, .aload_n 0, 8, [], [], []),
  (8, .getfield 49, 11, [7, 6, 3, 5, 0], [], []),
  (11, .ifnull 13, 14, [24, 5], [], [0]),
  (14, .aload_n 0, 15, [], [], []),
  (15, .getfield 49, 18, [7, 6, 3, 5, 0], [], []),
  (18, .getfield 53, 21, [5, 3, 0, 0, 0], [], []),
  (21, .ifCond .ne 7, 24, [28], [0], [0]),
  (24, .iconst 1, 25, [], [], []),
  (25, .goto 4, 28, [29], [], [0]),
  (28, .iconst 0, 29, [], [0], []),
  (29, .ireturn, 30, [1], [], [])]
/-- Sm_step -/
def jc53 : jCode := [
  (0, .aload_n 0, 1, [], [], []),
  (1, .aload_n 1, 2, [], [], []),
  (2, .putfield 58, 5, [7, 4, 3, 4, 0], [], []),
  (5, .aload_n 0, 6, [], [], []),
  (6, .aload_n 2, 7, [], [], []),
  (7, .putfield 62, 10, [7, 5, 3, 9, 0], [], []),
  (10, .aload_n 0, 11, [], [], []),
  (11, .aload_n 3, 12, [], [], []),
  (12, .putfield 49, 15, [7, 6, 3, 5, 0], [], []),
  (15, .aload_n 0, 16, [], [], []),
  (16, .iload 4, 18, [], [], []),
  (18, .putfield 66, 21, [7, 7, 0, 0, 0], [], []),
  (21, .aload_n 0, 22, [], [], []),
  (22, .aload_n 0, 23, [], [], []),
  (23, .getfield 58, 26, [7, 4, 3, 4, 0], [], []),
  (26, .aload_n 0, 27, [], [], []),
  (27, .getfield 62, 30, [7, 5, 3, 9, 0], [], []),
  (30, .getfield 25, 33, [9, 0, 0, 0, 0], [], []),
  (33, .iconst 1, 34, [], [], []),
  (34, .iadd, 35, [], [], []),
  (35, .invokevirtual 31, 38, [33, 2, 1, 0, 5], [], []),
  (38, .putfield 69, 41, [7, 8, 0, 0, 0], [], []),
  (41, .aload_n 0, 42, [], [], []),
  (42, .iconst 0, 43, [], [], []),
  (43, .putfield 45, 46, [7, 11, 4, 0, 0], [], []),
  (46, .aload_n 0, 47, [], [], []),
  (47, .getfield 49, 50, [7, 6, 3, 5, 0], [], []),
  (50, .ifnull 7, 53, [57, 5], [], [1, 2, 3, 4]),
  (53, .aload_n 0, 54, [], [], []),
  (54, .invokevirtual 72, 57, [54, 1, 0, 0, 8], [1, 2, 3, 4], []),
  (57, .iconst 0, 58, [], [], []),
  (58, .istore 5, 60, [], [1, 2, 3, 4], []),
  (60, .iload 5, 62, [], [], []),
  (62, .aload_n 0, 63, [], [], []),
  (63, .getfield 58, 66, [7, 4, 3, 4, 0], [], []),
  (66, .getfield 75, 69, [4, 5, 0, 0, 0], [], []),
  (69, .if_icmp .ge 51, 72, [120], [], []),
  (72, .aload_n 0, 73, [], [], []),
  (73, .getfield 15, 76, [7, 1, 2, 34, 0], [], []),
  (76, .iload 5, 78, [], [], []),
  (78, .aload_n 0, 79, [], [], []),
  (79, .getfield 62, 82, [7, 5, 3, 9, 0], [], []),
  (82, .getfield 78, 85, [9, 1, 2, 38, 0], [], []),
  (85, .iload 5, 87, [], [], []),
  (87, .iaload, 88, [38, 6], [], []),
  (88, .invokestatic 81, 91, [116, 1, 1, 0, 0], [], []),
  (91, .ifCond .eq 12, 94, [103], [], []),
  (94, .aload_n 0, 95, [], [], []),
  (95, .iload 5, 97, [], [], []),
  (97, .invokevirtual 85, 100, [55, 2, 1, 0, 8], [], []),
  (100, .goto 13, 103, [113], [], [1, 2, 3, 4]),
  (103, .aload_n 0, 104, [], [], []),
  (104, .getfield 62, 107, [7, 5, 3, 9, 0], [], []),
  (107, .getfield 78, 110, [9, 1, 2, 38, 0], [], []),
  (110, .iload 5, 112, [], [], []),
  (112, .iaload, 113, [38, 6], [1, 2, 3, 4], []),
  (113, .iastore, 114, [34, 6, 0], [], []),
  (114, .iinc 5 1, 117, [], [], []),
  (117, .goto (-57), 120, [60], [], [1, 2, 3, 4]),
  (120, .iconst 0, 121, [], [], []),
  (121, .istore 5, 123, [], [1, 2, 3, 4], []),
  (123, .iload 5, 125, [], [], []),
  (125, .aload_n 0, 126, [], [], []),
  (126, .getfield 58, 129, [7, 4, 3, 4, 0], [], []),
  (129, .getfield 75, 132, [4, 5, 0, 0, 0], [], []),
  (132, .if_icmp .ge 74, 135, [206], [], []),
  (135, .aload_n 0, 136, [], [], []),
  (136, .iload 5, 138, [], [], []),
  (138, .invokevirtual 88, 141, [56, 2, 1, 0, 8], [], []),
  (141, .ifCond .eq 7, 144, [148], [], []),
  (144, .iconst (-1), 145, [], [], []),
  (145, .goto 10, 148, [155], [], [1, 2, 3, 4]),
  (148, .aload_n 0, 149, [], [], []),
  (149, .getfield 15, 152, [7, 1, 2, 34, 0], [], []),
  (152, .iload 5, 154, [], [], []),
  (154, .iaload, 155, [34, 6], [1, 2, 3, 4], []),
  (155, .istore 6, 157, [], [], []),
  (157, .aload_n 0, 158, [], [], []),
  (158, .aload_n 0, 159, [], [], []),
  (159, .getfield 45, 162, [7, 11, 0, 0, 0], [], []),
  (162, .ifCond .ne 18, 165, [180], [], [1, 2, 3, 4]),
  (165, .iload 6, 167, [], [], []),
  (167, .aload_n 0, 168, [], [], []),
  (168, .getfield 62, 171, [7, 5, 3, 9, 0], [], []),
  (171, .getfield 78, 174, [9, 1, 2, 38, 0], [], []),
  (174, .iload 5, 176, [], [], []),
  (176, .iaload, 177, [38, 6], [], []),
  (177, .if_icmp .eq 7, 180, [184], [1, 2, 3, 4], []),
  (180, .iconst 1, 181, [], [], []),
  (181, .goto 4, 184, [185], [], [1, 2, 3, 4]),
  (184, .iconst 0, 185, [], [1, 2, 3, 4], []),
  (185, .putfield 45, 188, [7, 11, 4, 0, 0], [], []),
  (188, .aload_n 0, 189, [], [], []),
  (189, .getfield 62, 192, [7, 5, 3, 9, 0], [], []),
  (192, .getfield 78, 195, [9, 1, 2, 38, 0], [], []),
  (195, .iload 5, 197, [], [], []),
  (197, .iload 6, 199, [], [], []),
  (199, .iastore, 200, [38, 6, 0], [], []),
  (200, .iinc 5 1, 203, [], [], []),
  (203, .goto (-80), 206, [123], [], [1, 2, 3, 4, 6]),
  (206, .aload_n 0, 207, [], [], []),
  (207, .invokevirtual 91, 210, [57, 1, 1, 0, 8], [], []),
  (210, .istore 5, 212, [], [], []),
  (212, .aload_n 0, 213, [], [], []),
  (213, .aload_n 0, 214, [], [], []),
  (214, .getfield 45, 217, [7, 11, 0, 0, 0], [], []),
  (217, .ifCond .ne 8, 220, [225], [], [1, 2, 3, 4]),
  (220, .iload 5, 222, [], [], []),
  (222, .ifCond .eq 7, 225, [229], [1, 2, 3, 4], []),
  (225, .iconst 1, 226, [], [], []),
  (226, .goto 4, 229, [230], [], [1, 2, 3, 4]),
  (229, .iconst 0, 230, [], [1, 2, 3, 4], []),
  (230, .putfield 45, 233, [7, 11, 4, 0, 0], [], []),
  (233, .aload_n 0, 234, [], [], []),
  (234, .getfield 62, 237, [7, 5, 3, 9, 0], [], []),
  (237, .dup, 238, [], [], []),
  (238, .getfield 25, 241, [9, 0, 0, 0, 0], [], []),
  (241, .iconst 1, 242, [], [], []),
  (242, .iadd, 243, [], [], []),
  (243, .putfield 25, 246, [9, 0, 0, 0, 0], [], []),
  (246, .iload 5, 248, [], [], []),
  (248, .ireturn, 249, [0], [], [])]
/-- Sm_countPools -/
def jc54 : jCode := [
  (0, .iconst 0, 1, [], [], []),
  (1, .istore_n 1, 2, [], [], []),
  (2, .iload_n 1, 3, [], [], []),
  (3, .bipush 12, 5, [], [], []),
  (5, .if_icmp .ge 23, 8, [28], [], []),
  (8, .aload_n 0, 9, [], [], []),
  (9, .getfield 19, 12, [7, 2, 2, 35, 0], [], []),
  (12, .iload_n 1, 13, [], [], []),
  (13, .iconst 0, 14, [], [], []),
  (14, .iastore, 15, [35, 12, 0], [], []),
  (15, .aload_n 0, 16, [], [], []),
  (16, .getfield 22, 19, [7, 3, 2, 36, 0], [], []),
  (19, .iload_n 1, 20, [], [], []),
  (20, .iconst 0, 21, [], [], []),
  (21, .iastore, 22, [36, 12, 0], [], []),
  (22, .iinc 1 1, 25, [], [], []),
  (25, .goto (-23), 28, [2], [], []),
  (28, .iconst 0, 29, [], [], []),
  (29, .istore_n 1, 30, [], [], []),
  (30, .iload_n 1, 31, [], [], []),
  (31, .aload_n 0, 32, [], [], []),
  (32, .getfield 58, 35, [7, 4, 3, 4, 0], [], []),
  (35, .getfield 75, 38, [4, 5, 0, 0, 0], [], []),
  (38, .if_icmp .ge 42, 41, [80], [], []),
  (41, .aload_n 0, 42, [], [], []),
  (42, .getfield 62, 45, [7, 5, 3, 9, 0], [], []),
  (45, .getfield 78, 48, [9, 1, 2, 38, 0], [], []),
  (48, .iload_n 1, 49, [], [], []),
  (49, .iaload, 50, [38, 6], [], []),
  (50, .invokestatic 81, 53, [116, 1, 1, 0, 0], [], []),
  (53, .ifCond .eq 21, 56, [74], [], []),
  (56, .aload_n 0, 57, [], [], []),
  (57, .getfield 19, 60, [7, 2, 2, 35, 0], [], []),
  (60, .aload_n 0, 61, [], [], []),
  (61, .getfield 62, 64, [7, 5, 3, 9, 0], [], []),
  (64, .getfield 78, 67, [9, 1, 2, 38, 0], [], []),
  (67, .iload_n 1, 68, [], [], []),
  (68, .iaload, 69, [38, 6], [], []),
  (69, .dup2, 70, [], [], []),
  (70, .iaload, 71, [35, 12], [], []),
  (71, .iconst 1, 72, [], [], []),
  (72, .iadd, 73, [], [], []),
  (73, .iastore, 74, [35, 12, 0], [], []),
  (74, .iinc 1 1, 77, [], [], []),
  (77, .goto (-47), 80, [30], [], []),
  (80, .iconst 0, 81, [], [], []),
  (81, .istore_n 1, 82, [], [], []),
  (82, .iload_n 1, 83, [], [], []),
  (83, .aload_n 0, 84, [], [], []),
  (84, .getfield 58, 87, [7, 4, 3, 4, 0], [], []),
  (87, .getfield 95, 90, [4, 6, 0, 0, 0], [], []),
  (90, .if_icmp .ge 27, 93, [117], [], []),
  (93, .aload_n 0, 94, [], [], []),
  (94, .getfield 22, 97, [7, 3, 2, 36, 0], [], []),
  (97, .aload_n 0, 98, [], [], []),
  (98, .getfield 62, 101, [7, 5, 3, 9, 0], [], []),
  (101, .getfield 98, 104, [9, 3, 2, 40, 0], [], []),
  (104, .iload_n 1, 105, [], [], []),
  (105, .iaload, 106, [40, 4], [], []),
  (106, .dup2, 107, [], [], []),
  (107, .iaload, 108, [36, 12], [], []),
  (108, .iconst 1, 109, [], [], []),
  (109, .iadd, 110, [], [], []),
  (110, .iastore, 111, [36, 12, 0], [], []),
  (111, .iinc 1 1, 114, [], [], []),
  (114, .goto (-32), 117, [82], [], []),
  (117, .return_, 118, [], [], [])]
/-- Sm_goalOf -/
def jc55 : jCode := [
  (0, .aload_n 0, 1, [], [], []),
  (1, .getfield 62, 4, [7, 5, 3, 9, 0], [], []),
  (4, .getfield 78, 7, [9, 1, 2, 38, 0], [], []),
  (7, .iload_n 1, 8, [], [], []),
  (8, .iaload, 9, [38, 6], [], []),
  (9, .istore_n 2, 10, [], [], []),
  (10, .aload_n 0, 11, [], [], []),
  (11, .getfield 58, 14, [7, 4, 3, 4, 0], [], []),
  (14, .getfield 101, 17, [4, 1, 0, 0, 0], [], []),
  (17, .iconst 1, 18, [], [], []),
  (18, .isub, 19, [], [], []),
  (19, .istore_n 3, 20, [], [], []),
  (20, .aload_n 0, 21, [], [], []),
  (21, .getfield 49, 24, [7, 6, 3, 5, 0], [], []),
  (24, .ifnonnull 11, 27, [35, 5], [], []),
  (27, .iload_n 2, 28, [], [], []),
  (28, .iconst 1, 29, [], [], []),
  (29, .iadd, 30, [], [], []),
  (30, .iload_n 3, 31, [], [], []),
  (31, .invokestatic 104, 34, [247, 2, 1, 0, 0], [], []),
  (34, .ireturn, 35, [0], [], []),
  (35, .aload_n 0, 36, [], [], []),
  (36, .iload_n 1, 37, [], [], []),
  (37, .putfield 110, 40, [7, 9, 0, 0, 0], [], []),
  (40, .iload_n 2, 41, [], [], []),
  (41, .istore 4, 43, [], [], []),
  (43, .lconst 0, 44, [], [], []),
  (44, .lstore 5, 46, [], [], []),
  (46, .iload_n 2, 47, [], [], []),
  (47, .iconst 1, 48, [], [], []),
  (48, .isub, 49, [], [], []),
  (49, .iconst 0, 50, [], [], []),
  (50, .invokestatic 113, 53, [246, 2, 1, 0, 0], [], []),
  (53, .istore 7, 55, [], [1], []),
  (55, .iload 7, 57, [], [], []),
  (57, .iload_n 2, 58, [], [], []),
  (58, .iconst 1, 59, [], [], []),
  (59, .iadd, 60, [], [], []),
  (60, .iload_n 3, 61, [], [], []),
  (61, .invokestatic 104, 64, [247, 2, 1, 0, 0], [], []),
  (64, .if_icmp .gt 37, 67, [101], [], []),
  (67, .aload_n 0, 68, [], [], []),
  (68, .iload 7, 70, [], [], []),
  (70, .putfield 116, 73, [7, 10, 0, 0, 0], [], []),
  (73, .aload_n 0, 74, [], [], []),
  (74, .invokevirtual 119, 77, [58, 1, 2, 0, 8], [], []),
  (77, .lstore 8, 79, [], [], []),
  (79, .lload 8, 81, [], [], []),
  (81, .lload 5, 83, [], [], []),
  (83, .lcmp, 84, [], [], []),
  (84, .ifCond .le 11, 87, [95], [], [1, 8]),
  (87, .lload 8, 89, [], [], []),
  (89, .lstore 5, 91, [], [], []),
  (91, .iload 7, 93, [], [], []),
  (93, .istore 4, 95, [], [1, 8], []),
  (95, .iinc 7 1, 98, [], [], []),
  (98, .goto (-43), 101, [55], [], [1, 8]),
  (101, .iload 4, 103, [], [], []),
  (103, .ireturn, 104, [0], [], [])]
/-- Sm_goesToSea -/
def jc56 : jCode := [
  (0, .aload_n 0, 1, [], [], []),
  (1, .getfield 58, 4, [7, 4, 3, 4, 0], [], []),
  (4, .getfield 101, 7, [4, 1, 0, 0, 0], [], []),
  (7, .iconst 1, 8, [], [], []),
  (8, .isub, 9, [], [], []),
  (9, .istore_n 2, 10, [], [], []),
  (10, .aload_n 0, 11, [], [], []),
  (11, .getfield 62, 14, [7, 5, 3, 9, 0], [], []),
  (14, .getfield 78, 17, [9, 1, 2, 38, 0], [], []),
  (17, .iload_n 1, 18, [], [], []),
  (18, .iaload, 19, [38, 6], [], []),
  (19, .iload_n 2, 20, [], [], []),
  (20, .if_icmp .ne 36, 23, [56], [], [0, 1, 2]),
  (23, .aload_n 0, 24, [], [], []),
  (24, .getfield 15, 27, [7, 1, 2, 34, 0], [], []),
  (27, .iload_n 1, 28, [], [], []),
  (28, .iaload, 29, [34, 6], [], []),
  (29, .iload_n 2, 30, [], [], []),
  (30, .if_icmp .ne 26, 33, [56], [], [0, 1, 2]),
  (33, .aload_n 0, 34, [], [], []),
  (34, .getfield 58, 37, [7, 4, 3, 4, 0], [], []),
  (37, .getfield 123, 40, [4, 10, 2, 24, 0], [], []),
  (40, .iload_n 1, 41, [], [], []),
  (41, .iaload, 42, [24, 6], [], []),
  (42, .aload_n 0, 43, [], [], []),
  (43, .getfield 58, 46, [7, 4, 3, 4, 0], [], []),
  (46, .getfield 126, 49, [4, 2, 0, 0, 0], [], []),
  (49, .if_icmp .lt 7, 52, [56], [], [0, 1, 2]),
  (52, .iconst 1, 53, [], [], []),
  (53, .goto 4, 56, [57], [], [0, 1, 2]),
  (56, .iconst 0, 57, [], [0, 1, 2], []),
  (57, .ireturn, 58, [1], [], [])]
/-- Sm_fillTraps -/
def jc57 : jCode := [
  (0, .iconst 0, 1, [], [], []),
  (1, .istore_n 1, 2, [], [], []),
  (2, .iconst 0, 3, [], [], []),
  (3, .istore_n 2, 4, [], [], []),
  (4, .iload_n 2, 5, [], [], []),
  (5, .aload_n 0, 6, [], [], []),
  (6, .getfield 58, 9, [7, 4, 3, 4, 0], [], []),
  (9, .getfield 95, 12, [4, 6, 0, 0, 0], [], []),
  (12, .if_icmp .ge 133, 15, [145], [], []),
  (15, .iconst 0, 16, [], [], []),
  (16, .istore_n 3, 17, [], [], []),
  (17, .iload_n 3, 18, [], [], []),
  (18, .aload_n 0, 19, [], [], []),
  (19, .getfield 58, 22, [7, 4, 3, 4, 0], [], []),
  (22, .getfield 75, 25, [4, 5, 0, 0, 0], [], []),
  (25, .if_icmp .ge 114, 28, [139], [], [3]),
  (28, .aload_n 0, 29, [], [], []),
  (29, .getfield 62, 32, [7, 5, 3, 9, 0], [], []),
  (32, .getfield 129, 35, [9, 6, 2, 43, 0], [], []),
  (35, .iload_n 2, 36, [], [], []),
  (36, .iaload, 37, [43, 4], [], []),
  (37, .iconst (-1), 38, [], [], []),
  (38, .if_icmp .ne 101, 41, [139], [], [3]),
  (41, .aload_n 0, 42, [], [], []),
  (42, .getfield 62, 45, [7, 5, 3, 9, 0], [], []),
  (45, .getfield 78, 48, [9, 1, 2, 38, 0], [], []),
  (48, .iload_n 3, 49, [], [], []),
  (49, .iaload, 50, [38, 6], [], []),
  (50, .aload_n 0, 51, [], [], []),
  (51, .getfield 62, 54, [7, 5, 3, 9, 0], [], []),
  (54, .getfield 98, 57, [9, 3, 2, 40, 0], [], []),
  (57, .iload_n 2, 58, [], [], []),
  (58, .iaload, 59, [40, 4], [], []),
  (59, .if_icmp .ne 74, 62, [133], [], []),
  (62, .aload_n 0, 63, [], [], []),
  (63, .getfield 58, 66, [7, 4, 3, 4, 0], [], []),
  (66, .getfield 132, 69, [4, 11, 2, 25, 0], [], []),
  (69, .iload_n 3, 70, [], [], []),
  (70, .iaload, 71, [25, 6], [], []),
  (71, .aload_n 0, 72, [], [], []),
  (72, .getfield 62, 75, [7, 5, 3, 9, 0], [], []),
  (75, .getfield 135, 78, [9, 5, 2, 42, 0], [], []),
  (78, .iload_n 2, 79, [], [], []),
  (79, .iaload, 80, [42, 4], [], []),
  (80, .if_icmp .ne 53, 83, [133], [], []),
  (83, .aload_n 0, 84, [], [], []),
  (84, .getfield 58, 87, [7, 4, 3, 4, 0], [], []),
  (87, .getfield 123, 90, [4, 10, 2, 24, 0], [], []),
  (90, .iload_n 3, 91, [], [], []),
  (91, .iaload, 92, [24, 6], [], []),
  (92, .aload_n 0, 93, [], [], []),
  (93, .getfield 62, 96, [7, 5, 3, 9, 0], [], []),
  (96, .getfield 138, 99, [9, 4, 2, 41, 0], [], []),
  (99, .iload_n 2, 100, [], [], []),
  (100, .iaload, 101, [41, 4], [], []),
  (101, .if_icmp .gt 32, 104, [133], [], []),
  (104, .aload_n 0, 105, [], [], []),
  (105, .getfield 62, 108, [7, 5, 3, 9, 0], [], []),
  (108, .getfield 78, 111, [9, 1, 2, 38, 0], [], []),
  (111, .iload_n 3, 112, [], [], []),
  (112, .bipush 20, 114, [], [], []),
  (114, .iload_n 2, 115, [], [], []),
  (115, .iadd, 116, [], [], []),
  (116, .iastore, 117, [38, 6, 0], [], []),
  (117, .aload_n 0, 118, [], [], []),
  (118, .getfield 62, 121, [7, 5, 3, 9, 0], [], []),
  (121, .getfield 129, 124, [9, 6, 2, 43, 0], [], []),
  (124, .iload_n 2, 125, [], [], []),
  (125, .iload_n 3, 126, [], [], []),
  (126, .iastore, 127, [43, 4, 0], [], []),
  (127, .iload_n 1, 128, [], [], []),
  (128, .iconst 1, 129, [], [], []),
  (129, .iload_n 3, 130, [], [], []),
  (130, .ishl, 131, [], [], []),
  (131, .ior, 132, [], [], []),
  (132, .istore_n 1, 133, [], [], []),
  (133, .iinc 3 1, 136, [], [], []),
  (136, .goto (-119), 139, [17], [], []),
  (139, .iinc 2 1, 142, [], [], []),
  (142, .goto (-138), 145, [4], [], [3]),
  (145, .iload_n 1, 146, [], [], []),
  (146, .ireturn, 147, [0], [], [])]
/-- Sm_worthOfPool -/
def jc58 : jCode := [
  (0, .iconst 0, 1, [], [], []),
  (1, .istore_n 1, 2, [], [], []),
  (2, .iconst 0, 3, [], [], []),
  (3, .istore_n 2, 4, [], [], []),
  (4, .iload_n 2, 5, [], [], []),
  (5, .aload_n 0, 6, [], [], []),
  (6, .getfield 49, 9, [7, 6, 3, 5, 0], [], []),
  (9, .getfield 141, 12, [5, 2, 0, 0, 0], [], []),
  (12, .if_icmp .ge 207, 15, [219], [], []),
  (15, .aload_n 0, 16, [], [], []),
  (16, .getfield 49, 19, [7, 6, 3, 5, 0], [], []),
  (19, .getfield 144, 22, [5, 0, 2, 31, 0], [], []),
  (22, .iload_n 2, 23, [], [], []),
  (23, .iaload, 24, [31, 400], [], []),
  (24, .istore_n 3, 25, [], [], []),
  (25, .iload_n 3, 26, [], [], []),
  (26, .bipush 6, 28, [], [], []),
  (28, .if_icmp .eq 9, 31, [37], [], []),
  (31, .iload_n 3, 32, [], [], []),
  (32, .bipush 7, 34, [], [], []),
  (34, .if_icmp .ne 54, 37, [88], [], []),
  (37, .iload_n 1, 38, [], [], []),
  (38, .bipush 64, 40, [], [], []),
  (40, .if_icmp .ge 173, 43, [213], [], [3]),
  (43, .aload_n 0, 44, [], [], []),
  (44, .getfield 11, 47, [7, 0, 2, 33, 0], [], []),
  (47, .iload_n 1, 48, [], [], []),
  (48, .iload_n 3, 49, [], [], []),
  (49, .bipush 6, 51, [], [], []),
  (51, .if_icmp .ne 16, 54, [67], [], []),
  (54, .aload_n 0, 55, [], [], []),
  (55, .getfield 49, 58, [7, 6, 3, 5, 0], [], []),
  (58, .getfield 147, 61, [5, 1, 2, 32, 0], [], []),
  (61, .iload_n 2, 62, [], [], []),
  (62, .iaload, 63, [32, 400], [], []),
  (63, .i2l, 64, [], [], []),
  (64, .goto 17, 67, [81], [], [3]),
  (67, .aload_n 0, 68, [], [], []),
  (68, .aload_n 0, 69, [], [], []),
  (69, .getfield 49, 72, [7, 6, 3, 5, 0], [], []),
  (72, .getfield 147, 75, [5, 1, 2, 32, 0], [], []),
  (75, .iload_n 2, 76, [], [], []),
  (76, .iaload, 77, [32, 400], [], []),
  (77, .invokevirtual 150, 80, [60, 2, 1, 0, 8], [], []),
  (80, .i2l, 81, [], [3], []),
  (81, .lastore, 82, [33, 64, 1], [], []),
  (82, .iinc 1 1, 85, [], [], []),
  (85, .goto 128, 88, [213], [], [3]),
  (88, .iload_n 3, 89, [], [], []),
  (89, .bipush 8, 91, [], [], []),
  (91, .if_icmp .ne 21, 94, [112], [], []),
  (94, .iload_n 1, 95, [], [], []),
  (95, .iconst 1, 96, [], [], []),
  (96, .if_icmp .lt 14, 99, [110], [], []),
  (99, .aload_n 0, 100, [], [], []),
  (100, .getfield 11, 103, [7, 0, 2, 33, 0], [], []),
  (103, .iload_n 1, 104, [], [], []),
  (104, .iconst 1, 105, [], [], []),
  (105, .isub, 106, [], [], []),
  (106, .laload, 107, [33, 64], [], []),
  (107, .goto 4, 110, [111], [], [0, 1, 2, 3]),
  (110, .lconst 0, 111, [], [0, 1, 2, 3], []),
  (111, .lreturn, 112, [], [], []),
  (112, .iload_n 3, 113, [], [], []),
  (113, .iconst 3, 114, [], [], []),
  (114, .if_icmp .ne 29, 117, [143], [], []),
  (117, .iload_n 1, 118, [], [], []),
  (118, .iconst 1, 119, [], [], []),
  (119, .if_icmp .lt 94, 122, [213], [], [3]),
  (122, .aload_n 0, 123, [], [], []),
  (123, .getfield 11, 126, [7, 0, 2, 33, 0], [], []),
  (126, .iload_n 1, 127, [], [], []),
  (127, .iconst 1, 128, [], [], []),
  (128, .isub, 129, [], [], []),
  (129, .lconst 1, 130, [], [], []),
  (130, .aload_n 0, 131, [], [], []),
  (131, .getfield 11, 134, [7, 0, 2, 33, 0], [], []),
  (134, .iload_n 1, 135, [], [], []),
  (135, .iconst 1, 136, [], [], []),
  (136, .isub, 137, [], [], []),
  (137, .laload, 138, [33, 64], [], []),
  (138, .lsub, 139, [], [], []),
  (139, .lastore, 140, [33, 64, 1], [], []),
  (140, .goto 73, 143, [213], [], [3]),
  (143, .iload_n 1, 144, [], [], []),
  (144, .iconst 2, 145, [], [], []),
  (145, .if_icmp .lt 68, 148, [213], [], [3]),
  (148, .iload_n 3, 149, [], [], []),
  (149, .bipush 9, 151, [], [], []),
  (151, .if_icmp .ne 31, 154, [182], [], []),
  (154, .aload_n 0, 155, [], [], []),
  (155, .getfield 11, 158, [7, 0, 2, 33, 0], [], []),
  (158, .iload_n 1, 159, [], [], []),
  (159, .iconst 1, 160, [], [], []),
  (160, .isub, 161, [], [], []),
  (161, .laload, 162, [33, 64], [], []),
  (162, .lconst 0, 163, [], [], []),
  (163, .lcmp, 164, [], [], []),
  (164, .ifCond .eq 12, 167, [176], [], []),
  (167, .aload_n 0, 168, [], [], []),
  (168, .getfield 11, 171, [7, 0, 2, 33, 0], [], []),
  (171, .iload_n 1, 172, [], [], []),
  (172, .iconst 2, 173, [], [], []),
  (173, .isub, 174, [], [], []),
  (174, .laload, 175, [33, 64], [], []),
  (175, .lreturn, 176, [], [], []),
  (176, .iinc 1 (-2), 179, [], [], []),
  (179, .goto 34, 182, [213], [], [3]),
  (182, .aload_n 0, 183, [], [], []),
  (183, .getfield 11, 186, [7, 0, 2, 33, 0], [], []),
  (186, .iload_n 1, 187, [], [], []),
  (187, .iconst 2, 188, [], [], []),
  (188, .isub, 189, [], [], []),
  (189, .iload_n 3, 190, [], [], []),
  (190, .aload_n 0, 191, [], [], []),
  (191, .getfield 11, 194, [7, 0, 2, 33, 0], [], []),
  (194, .iload_n 1, 195, [], [], []),
  (195, .iconst 2, 196, [], [], []),
  (196, .isub, 197, [], [], []),
  (197, .laload, 198, [33, 64], [], []),
  (198, .aload_n 0, 199, [], [], []),
  (199, .getfield 11, 202, [7, 0, 2, 33, 0], [], []),
  (202, .iload_n 1, 203, [], [], []),
  (203, .iconst 1, 204, [], [], []),
  (204, .isub, 205, [], [], []),
  (205, .laload, 206, [33, 64], [], []),
  (206, .invokestatic 153, 209, [59, 3, 2, 0, 0], [], []),
  (209, .lastore, 210, [33, 64, 1], [], []),
  (210, .iinc 1 (-1), 213, [], [3], []),
  (213, .iinc 2 1, 216, [], [], []),
  (216, .goto (-212), 219, [4], [], [3]),
  (219, .lconst 0, 220, [], [], []),
  (220, .lreturn, 221, [], [], [])]
/-- Sm_join -/
def jc59 : jCode := [
  (0, .iload_n 0, 1, [], [], []),
  (1, .lookupswitch 215 #[(1, 159), (2, 183), (4, 207), (5, 211), (37, 133), (42, 115), (43, 107), (45, 111), (47, 119), (60, 147), (61, 171), (62, 195)], 108, [216, 1, 160, 2, 184, 4, 208, 5, 212, 37, 134, 42, 116, 43, 108, 45, 112, 47, 120, 60, 148, 61, 172, 62, 196], [], []),
  (108, .lload_n 1, 109, [], [], []),
  (109, .lload_n 3, 110, [], [], []),
  (110, .ladd, 111, [], [], []),
  (111, .lreturn, 112, [], [], []),
  (112, .lload_n 1, 113, [], [], []),
  (113, .lload_n 3, 114, [], [], []),
  (114, .lsub, 115, [], [], []),
  (115, .lreturn, 116, [], [], []),
  (116, .lload_n 1, 117, [], [], []),
  (117, .lload_n 3, 118, [], [], []),
  (118, .lmul, 119, [], [], []),
  (119, .lreturn, 120, [], [], []),
  (120, .lload_n 3, 121, [], [], []),
  (121, .lconst 0, 122, [], [], []),
  (122, .lcmp, 123, [], [], []),
  (123, .ifCond .ne 7, 126, [130], [], []),
  (126, .lconst 0, 127, [], [], []),
  (127, .goto 6, 130, [133], [], [0, 1, 3]),
  (130, .lload_n 1, 131, [], [], []),
  (131, .lload_n 3, 132, [], [], []),
  (132, .ldiv, 133, [], [0, 1, 3], []),
  (133, .lreturn, 134, [], [], []),
  (134, .lload_n 3, 135, [], [], []),
  (135, .lconst 0, 136, [], [], []),
  (136, .lcmp, 137, [], [], []),
  (137, .ifCond .ne 7, 140, [144], [], []),
  (140, .lconst 0, 141, [], [], []),
  (141, .goto 6, 144, [147], [], [0, 1, 3]),
  (144, .lload_n 1, 145, [], [], []),
  (145, .lload_n 3, 146, [], [], []),
  (146, .lrem, 147, [], [0, 1, 3], []),
  (147, .lreturn, 148, [], [], []),
  (148, .lload_n 1, 149, [], [], []),
  (149, .lload_n 3, 150, [], [], []),
  (150, .lcmp, 151, [], [], []),
  (151, .ifCond .ge 7, 154, [158], [], []),
  (154, .lconst 1, 155, [], [], []),
  (155, .goto 4, 158, [159], [], [0, 1, 3]),
  (158, .lconst 0, 159, [], [0, 1, 3], []),
  (159, .lreturn, 160, [], [], []),
  (160, .lload_n 1, 161, [], [], []),
  (161, .lload_n 3, 162, [], [], []),
  (162, .lcmp, 163, [], [], []),
  (163, .ifCond .gt 7, 166, [170], [], []),
  (166, .lconst 1, 167, [], [], []),
  (167, .goto 4, 170, [171], [], [0, 1, 3]),
  (170, .lconst 0, 171, [], [0, 1, 3], []),
  (171, .lreturn, 172, [], [], []),
  (172, .lload_n 1, 173, [], [], []),
  (173, .lload_n 3, 174, [], [], []),
  (174, .lcmp, 175, [], [], []),
  (175, .ifCond .ne 7, 178, [182], [], []),
  (178, .lconst 1, 179, [], [], []),
  (179, .goto 4, 182, [183], [], [0, 1, 3]),
  (182, .lconst 0, 183, [], [0, 1, 3], []),
  (183, .lreturn, 184, [], [], []),
  (184, .lload_n 1, 185, [], [], []),
  (185, .lload_n 3, 186, [], [], []),
  (186, .lcmp, 187, [], [], []),
  (187, .ifCond .lt 7, 190, [194], [], []),
  (190, .lconst 1, 191, [], [], []),
  (191, .goto 4, 194, [195], [], [0, 1, 3]),
  (194, .lconst 0, 195, [], [0, 1, 3], []),
  (195, .lreturn, 196, [], [], []),
  (196, .lload_n 1, 197, [], [], []),
  (197, .lload_n 3, 198, [], [], []),
  (198, .lcmp, 199, [], [], []),
  (199, .ifCond .le 7, 202, [206], [], []),
  (202, .lconst 1, 203, [], [], []),
  (203, .goto 4, 206, [207], [], [0, 1, 3]),
  (206, .lconst 0, 207, [], [0, 1, 3], []),
  (207, .lreturn, 208, [], [], []),
  (208, .lload_n 1, 209, [], [], []),
  (209, .lload_n 3, 210, [], [], []),
  (210, .land, 211, [], [], []),
  (211, .lreturn, 212, [], [], []),
  (212, .lload_n 1, 213, [], [], []),
  (213, .lload_n 3, 214, [], [], []),
  (214, .lor, 215, [], [], []),
  (215, .lreturn, 216, [], [], []),
  (216, .lconst 0, 217, [], [], []),
  (217, .lreturn, 218, [], [], [])]
/-- Sm_wordValue -/
def jc60 : jCode := [
  (0, .iload_n 1, 1, [], [], []),
  (1, .tableswitch 255 0 10 #[59, 64, 69, 82, 95, 108, 187, 197, 232, 237, 242], 60, [256, 0, 60, 1, 65, 2, 70, 3, 83, 4, 96, 5, 109, 6, 188, 7, 198, 8, 233, 9, 238, 10, 243], [], []),
  (60, .aload_n 0, 61, [], [], []),
  (61, .getfield 110, 64, [7, 9, 0, 0, 0], [], []),
  (64, .ireturn, 65, [0], [], []),
  (65, .aload_n 0, 66, [], [], []),
  (66, .getfield 116, 69, [7, 10, 0, 0, 0], [], []),
  (69, .ireturn, 70, [0], [], []),
  (70, .aload_n 0, 71, [], [], []),
  (71, .getfield 62, 74, [7, 5, 3, 9, 0], [], []),
  (74, .getfield 78, 77, [9, 1, 2, 38, 0], [], []),
  (77, .aload_n 0, 78, [], [], []),
  (78, .getfield 110, 81, [7, 9, 0, 0, 0], [], []),
  (81, .iaload, 82, [38, 6], [], []),
  (82, .ireturn, 83, [0], [], []),
  (83, .aload_n 0, 84, [], [], []),
  (84, .getfield 58, 87, [7, 4, 3, 4, 0], [], []),
  (87, .getfield 123, 90, [4, 10, 2, 24, 0], [], []),
  (90, .aload_n 0, 91, [], [], []),
  (91, .getfield 110, 94, [7, 9, 0, 0, 0], [], []),
  (94, .iaload, 95, [24, 6], [], []),
  (95, .ireturn, 96, [0], [], []),
  (96, .aload_n 0, 97, [], [], []),
  (97, .getfield 58, 100, [7, 4, 3, 4, 0], [], []),
  (100, .getfield 132, 103, [4, 11, 2, 25, 0], [], []),
  (103, .aload_n 0, 104, [], [], []),
  (104, .getfield 110, 107, [7, 9, 0, 0, 0], [], []),
  (107, .iaload, 108, [25, 6], [], []),
  (108, .ireturn, 109, [0], [], []),
  (109, .iconst 0, 110, [], [], []),
  (110, .istore_n 2, 111, [], [], []),
  (111, .iconst 0, 112, [], [], []),
  (112, .istore_n 3, 113, [], [1], []),
  (113, .iload_n 3, 114, [], [], []),
  (114, .aload_n 0, 115, [], [], []),
  (115, .getfield 58, 118, [7, 4, 3, 4, 0], [], []),
  (118, .getfield 95, 121, [4, 6, 0, 0, 0], [], []),
  (121, .if_icmp .ge 65, 124, [186], [], []),
  (124, .aload_n 0, 125, [], [], []),
  (125, .getfield 62, 128, [7, 5, 3, 9, 0], [], []),
  (128, .getfield 98, 131, [9, 3, 2, 40, 0], [], []),
  (131, .iload_n 3, 132, [], [], []),
  (132, .iaload, 133, [40, 4], [], []),
  (133, .aload_n 0, 134, [], [], []),
  (134, .getfield 116, 137, [7, 10, 0, 0, 0], [], []),
  (137, .if_icmp .ne 43, 140, [180], [], [1]),
  (140, .aload_n 0, 141, [], [], []),
  (141, .getfield 62, 144, [7, 5, 3, 9, 0], [], []),
  (144, .getfield 129, 147, [9, 6, 2, 43, 0], [], []),
  (147, .iload_n 3, 148, [], [], []),
  (148, .iaload, 149, [43, 4], [], []),
  (149, .iconst (-1), 150, [], [], []),
  (150, .if_icmp .ne 30, 153, [180], [], [1]),
  (153, .aload_n 0, 154, [], [], []),
  (154, .getfield 62, 157, [7, 5, 3, 9, 0], [], []),
  (157, .getfield 135, 160, [9, 5, 2, 42, 0], [], []),
  (160, .iload_n 3, 161, [], [], []),
  (161, .iaload, 162, [42, 4], [], []),
  (162, .aload_n 0, 163, [], [], []),
  (163, .getfield 58, 166, [7, 4, 3, 4, 0], [], []),
  (166, .getfield 132, 169, [4, 11, 2, 25, 0], [], []),
  (169, .aload_n 0, 170, [], [], []),
  (170, .getfield 110, 173, [7, 9, 0, 0, 0], [], []),
  (173, .iaload, 174, [25, 6], [], []),
  (174, .if_icmp .ne 6, 177, [180], [], [1]),
  (177, .iinc 2 1, 180, [], [1], []),
  (180, .iinc 3 1, 183, [], [], []),
  (183, .goto (-70), 186, [113], [], [1]),
  (186, .iload_n 2, 187, [], [], []),
  (187, .ireturn, 188, [0], [], []),
  (188, .aload_n 0, 189, [], [], []),
  (189, .getfield 22, 192, [7, 3, 2, 36, 0], [], []),
  (192, .aload_n 0, 193, [], [], []),
  (193, .getfield 116, 196, [7, 10, 0, 0, 0], [], []),
  (196, .iaload, 197, [36, 12], [], []),
  (197, .ireturn, 198, [0], [], []),
  (198, .aload_n 0, 199, [], [], []),
  (199, .getfield 19, 202, [7, 2, 2, 35, 0], [], []),
  (202, .aload_n 0, 203, [], [], []),
  (203, .getfield 116, 206, [7, 10, 0, 0, 0], [], []),
  (206, .iaload, 207, [35, 12], [], []),
  (207, .aload_n 0, 208, [], [], []),
  (208, .getfield 62, 211, [7, 5, 3, 9, 0], [], []),
  (211, .getfield 78, 214, [9, 1, 2, 38, 0], [], []),
  (214, .aload_n 0, 215, [], [], []),
  (215, .getfield 110, 218, [7, 9, 0, 0, 0], [], []),
  (218, .iaload, 219, [38, 6], [], []),
  (219, .aload_n 0, 220, [], [], []),
  (220, .getfield 116, 223, [7, 10, 0, 0, 0], [], []),
  (223, .if_icmp .ne 7, 226, [230], [], []),
  (226, .iconst 1, 227, [], [], []),
  (227, .goto 4, 230, [231], [], [0, 1]),
  (230, .iconst 0, 231, [], [0, 1], []),
  (231, .isub, 232, [], [], []),
  (232, .ireturn, 233, [0], [], []),
  (233, .aload_n 0, 234, [], [], []),
  (234, .getfield 66, 237, [7, 7, 0, 0, 0], [], []),
  (237, .ireturn, 238, [0], [], []),
  (238, .aload_n 0, 239, [], [], []),
  (239, .getfield 69, 242, [7, 8, 0, 0, 0], [], []),
  (242, .ireturn, 243, [0], [], []),
  (243, .aload_n 0, 244, [], [], []),
  (244, .getfield 62, 247, [7, 5, 3, 9, 0], [], []),
  (247, .getfield 157, 250, [9, 2, 2, 39, 0], [], []),
  (250, .aload_n 0, 251, [], [], []),
  (251, .getfield 110, 254, [7, 9, 0, 0, 0], [], []),
  (254, .iaload, 255, [39, 6], [], []),
  (255, .ireturn, 256, [0], [], []),
  (256, .aload_n 0, 257, [], [], []),
  (257, .getfield 62, 260, [7, 5, 3, 9, 0], [], []),
  (260, .getfield 25, 263, [9, 0, 0, 0, 0], [], []),
  (263, .ireturn, 264, [0], [], [])]
/-- Ta_put -/
def jc61 : jCode := [
  (0, .bipush 24, 2, [], [], []),
  (2, .istore_n 2, 3, [], [], []),
  (3, .iload_n 2, 4, [], [], []),
  (4, .ifCond .lt 44, 7, [48], [], []),
  (7, .aload_n 0, 8, [], [], []),
  (8, .getfield 15, 11, [8, 1, 0, 0, 0], [], []),
  (11, .aload_n 0, 12, [], [], []),
  (12, .getfield 9, 15, [8, 0, 2, 37, 0], [], []),
  (15, .arraylength, 16, [37, 400], [], []),
  (16, .if_icmp .ge 26, 19, [42], [], []),
  (19, .aload_n 0, 20, [], [], []),
  (20, .getfield 9, 23, [8, 0, 2, 37, 0], [], []),
  (23, .aload_n 0, 24, [], [], []),
  (24, .getfield 15, 27, [8, 1, 0, 0, 0], [], []),
  (27, .iload_n 1, 28, [], [], []),
  (28, .iload_n 2, 29, [], [], []),
  (29, .ishr, 30, [], [], []),
  (30, .i2b, 31, [], [], []),
  (31, .bastore, 32, [37, 400, 2], [], []),
  (32, .aload_n 0, 33, [], [], []),
  (33, .dup, 34, [], [], []),
  (34, .getfield 15, 37, [8, 1, 0, 0, 0], [], []),
  (37, .iconst 1, 38, [], [], []),
  (38, .iadd, 39, [], [], []),
  (39, .putfield 15, 42, [8, 1, 0, 0, 0], [], []),
  (42, .iinc 2 (-8), 45, [], [], []),
  (45, .goto (-42), 48, [3], [], []),
  (48, .return_, 49, [], [], [])]
/-- Ta_rewind -/
def jc62 : jCode := [
  (0, .aload_n 0, 1, [], [], []),
  (1, .iconst 0, 2, [], [], []),
  (2, .putfield 19, 5, [8, 2, 0, 0, 0], [], []),
  (5, .aload_n 0, 6, [], [], []),
  (6, .iconst 0, 7, [], [], []),
  (7, .putfield 22, 10, [8, 3, 0, 0, 0], [], []),
  (10, .return_, 11, [], [], [])]
/-- Ta_blame -/
def jc63 : jCode := [
  (0, .aload_n 0, 1, [], [], []),
  (1, .getfield 22, 4, [8, 3, 0, 0, 0], [], []),
  (4, .ifCond .ne 15, 7, [19], [], [0, 1, 2]),
  (7, .aload_n 0, 8, [], [], []),
  (8, .iconst 1, 9, [], [], []),
  (9, .bipush 8, 11, [], [], []),
  (11, .iload_n 1, 12, [], [], []),
  (12, .imul, 13, [], [], []),
  (13, .iadd, 14, [], [], []),
  (14, .iload_n 2, 15, [], [], []),
  (15, .iadd, 16, [], [], []),
  (16, .putfield 22, 19, [8, 3, 0, 0, 0], [0, 1, 2], []),
  (19, .iconst 0, 20, [], [], []),
  (20, .ireturn, 21, [1], [], [])]
/-- Ta_peek -/
def jc64 : jCode := [
  (0, .aload_n 0, 1, [], [], []),
  (1, .getfield 19, 4, [8, 2, 0, 0, 0], [], []),
  (4, .aload_n 0, 5, [], [], []),
  (5, .getfield 15, 8, [8, 1, 0, 0, 0], [], []),
  (8, .if_icmp .ge 19, 11, [27], [], []),
  (11, .aload_n 0, 12, [], [], []),
  (12, .getfield 9, 15, [8, 0, 2, 37, 0], [], []),
  (15, .aload_n 0, 16, [], [], []),
  (16, .getfield 19, 19, [8, 2, 0, 0, 0], [], []),
  (19, .baload, 20, [37, 400], [], []),
  (20, .sipush 255, 23, [], [], []),
  (23, .iand, 24, [], [], []),
  (24, .goto 4, 27, [28], [], [0]),
  (27, .iconst (-1), 28, [], [0], []),
  (28, .ireturn, 29, [0], [], [])]
/-- Ta_onDigit -/
def jc65 : jCode := [
  (0, .aload_n 0, 1, [], [], []),
  (1, .getfield 19, 4, [8, 2, 0, 0, 0], [], []),
  (4, .aload_n 0, 5, [], [], []),
  (5, .getfield 15, 8, [8, 1, 0, 0, 0], [], []),
  (8, .if_icmp .ge 35, 11, [43], [], [0]),
  (11, .aload_n 0, 12, [], [], []),
  (12, .getfield 9, 15, [8, 0, 2, 37, 0], [], []),
  (15, .aload_n 0, 16, [], [], []),
  (16, .getfield 19, 19, [8, 2, 0, 0, 0], [], []),
  (19, .baload, 20, [37, 400], [], []),
  (20, .bipush 48, 22, [], [], []),
  (22, .if_icmp .lt 21, 25, [43], [], [0]),
  (25, .aload_n 0, 26, [], [], []),
  (26, .getfield 9, 29, [8, 0, 2, 37, 0], [], []),
  (29, .aload_n 0, 30, [], [], []),
  (30, .getfield 19, 33, [8, 2, 0, 0, 0], [], []),
  (33, .baload, 34, [37, 400], [], []),
  (34, .bipush 57, 36, [], [], []),
  (36, .if_icmp .gt 7, 39, [43], [], [0]),
  (39, .iconst 1, 40, [], [], []),
  (40, .goto 4, 43, [44], [], [0]),
  (43, .iconst 0, 44, [], [0], []),
  (44, .ireturn, 45, [1], [], [])]
/-- Ta_skip -/
def jc66 : jCode := [
  (0, .aload_n 0, 1, [], [], []),
  (1, .getfield 19, 4, [8, 2, 0, 0, 0], [], []),
  (4, .aload_n 0, 5, [], [], []),
  (5, .getfield 15, 8, [8, 1, 0, 0, 0], [], []),
  (8, .if_icmp .ge 30, 11, [38], [], [0]),
  (11, .aload_n 0, 12, [], [], []),
  (12, .getfield 9, 15, [8, 0, 2, 37, 0], [], []),
  (15, .aload_n 0, 16, [], [], []),
  (16, .getfield 19, 19, [8, 2, 0, 0, 0], [], []),
  (19, .baload, 20, [37, 400], [], []),
  (20, .bipush 32, 22, [], [], []),
  (22, .if_icmp .ne 16, 25, [38], [], [0]),
  (25, .aload_n 0, 26, [], [], []),
  (26, .dup, 27, [], [], []),
  (27, .getfield 19, 30, [8, 2, 0, 0, 0], [], []),
  (30, .iconst 1, 31, [], [], []),
  (31, .iadd, 32, [], [], []),
  (32, .putfield 19, 35, [8, 2, 0, 0, 0], [], []),
  (35, .goto (-35), 38, [0], [], []),
  (38, .return_, 39, [], [], [])]
/-- Ta_over -/
def jc67 : jCode := [
  (0, .aload_n 0, 1, [], [], []),
  (1, .invokevirtual 25, 4, [66, 1, 0, 0, 9], [], []),
  (4, .aload_n 0, 5, [], [], []),
  (5, .invokevirtual 28, 8, [64, 1, 1, 0, 9], [], []),
  (8, .iconst (-1), 9, [], [], []),
  (9, .if_icmp .ne 7, 12, [16], [], []),
  (12, .iconst 1, 13, [], [], []),
  (13, .goto 4, 16, [17], [], [0]),
  (16, .iconst 0, 17, [], [0], []),
  (17, .ireturn, 18, [1], [], [])]
/-- Ta_took -/
def jc68 : jCode := [
  (0, .aload_n 0, 1, [], [], []),
  (1, .invokevirtual 28, 4, [64, 1, 1, 0, 9], [], []),
  (4, .iload_n 1, 5, [], [], []),
  (5, .if_icmp .eq 5, 8, [10], [], []),
  (8, .iconst 0, 9, [], [], []),
  (9, .ireturn, 10, [1], [], []),
  (10, .aload_n 0, 11, [], [], []),
  (11, .dup, 12, [], [], []),
  (12, .getfield 19, 15, [8, 2, 0, 0, 0], [], []),
  (15, .iconst 1, 16, [], [], []),
  (16, .iadd, 17, [], [], []),
  (17, .putfield 19, 20, [8, 2, 0, 0, 0], [], []),
  (20, .iconst 1, 21, [], [], []),
  (21, .ireturn, 22, [1], [], [])]
/-- Ta_find -/
def jc69 : jCode := [
  (0, .iconst 0, 1, [], [], []),
  (1, .istore_n 2, 2, [], [], []),
  (2, .aload_n 0, 3, [], [], []),
  (3, .getfield 19, 6, [8, 2, 0, 0, 0], [], []),
  (6, .istore_n 3, 7, [], [], []),
  (7, .iconst 1, 8, [], [], []),
  (8, .istore 4, 10, [], [], []),
  (10, .iconst 0, 11, [], [], []),
  (11, .istore 5, 13, [], [], []),
  (13, .iload 5, 15, [], [], []),
  (15, .aload_n 1, 16, [], [], []),
  (16, .invokevirtual 32, 19, [248, 1, 1, 0, 101], [], []),
  (19, .if_icmp .gt 110, 22, [129], [], []),
  (22, .iload_n 3, 23, [], [], []),
  (23, .aload_n 0, 24, [], [], []),
  (24, .getfield 15, 27, [8, 1, 0, 0, 0], [], []),
  (27, .if_icmp .ge 12, 30, [39], [], []),
  (30, .aload_n 0, 31, [], [], []),
  (31, .getfield 9, 34, [8, 0, 2, 37, 0], [], []),
  (34, .iload_n 3, 35, [], [], []),
  (35, .baload, 36, [37, 400], [], []),
  (36, .goto 4, 39, [40], [], []),
  (39, .iconst (-1), 40, [], [], []),
  (40, .istore 6, 42, [], [], []),
  (42, .iload 5, 44, [], [], []),
  (44, .aload_n 1, 45, [], [], []),
  (45, .invokevirtual 32, 48, [248, 1, 1, 0, 101], [], []),
  (48, .if_icmp .ge 43, 51, [91], [], [3]),
  (51, .aload_n 1, 52, [], [], []),
  (52, .iload 5, 54, [], [], []),
  (54, .invokevirtual 37, 57, [249, 2, 1, 0, 101], [], []),
  (57, .bipush 32, 59, [], [], []),
  (59, .if_icmp .eq 32, 62, [91], [], [3]),
  (62, .iload 4, 64, [], [], []),
  (64, .ifCond .eq 18, 67, [82], [], [4, 6]),
  (67, .iload 6, 69, [], [], []),
  (69, .aload_n 1, 70, [], [], []),
  (70, .iload 5, 72, [], [], []),
  (72, .invokevirtual 37, 75, [249, 2, 1, 0, 101], [], []),
  (75, .if_icmp .ne 7, 78, [82], [], [4, 6]),
  (78, .iconst 1, 79, [], [], []),
  (79, .goto 4, 82, [83], [], [4, 6]),
  (82, .iconst 0, 83, [], [4, 6], []),
  (83, .istore 4, 85, [], [], []),
  (85, .iinc 3 1, 88, [], [], []),
  (88, .goto 35, 91, [123], [], [6]),
  (91, .iload 4, 93, [], [], []),
  (93, .ifCond .eq 19, 96, [112], [], [3, 4, 6]),
  (96, .iload 6, 98, [], [], []),
  (98, .bipush 97, 100, [], [], []),
  (100, .if_icmp .lt 10, 103, [110], [], [0, 1, 3, 4, 5, 6]),
  (103, .iload 6, 105, [], [], []),
  (105, .bipush 122, 107, [], [], []),
  (107, .if_icmp .le 5, 110, [112], [0, 1, 3, 4, 5, 6], [3, 4, 6]),
  (110, .iload_n 2, 111, [], [], []),
  (111, .ireturn, 112, [0], [], []),
  (112, .iinc 2 1, 115, [], [], []),
  (115, .aload_n 0, 116, [], [], []),
  (116, .getfield 19, 119, [8, 2, 0, 0, 0], [], []),
  (119, .istore_n 3, 120, [], [], []),
  (120, .iconst 1, 121, [], [], []),
  (121, .istore 4, 123, [], [6], []),
  (123, .iinc 5 1, 126, [], [], []),
  (126, .goto (-113), 129, [13], [], [6]),
  (129, .iconst (-1), 130, [], [], []),
  (130, .ireturn, 131, [0], [], [])]
/-- Ta_passWord -/
def jc70 : jCode := [
  (0, .aload_n 0, 1, [], [], []),
  (1, .getfield 19, 4, [8, 2, 0, 0, 0], [], []),
  (4, .aload_n 0, 5, [], [], []),
  (5, .getfield 15, 8, [8, 1, 0, 0, 0], [], []),
  (8, .if_icmp .ge 44, 11, [52], [], [0]),
  (11, .aload_n 0, 12, [], [], []),
  (12, .getfield 9, 15, [8, 0, 2, 37, 0], [], []),
  (15, .aload_n 0, 16, [], [], []),
  (16, .getfield 19, 19, [8, 2, 0, 0, 0], [], []),
  (19, .baload, 20, [37, 400], [], []),
  (20, .bipush 97, 22, [], [], []),
  (22, .if_icmp .lt 30, 25, [52], [], [0]),
  (25, .aload_n 0, 26, [], [], []),
  (26, .getfield 9, 29, [8, 0, 2, 37, 0], [], []),
  (29, .aload_n 0, 30, [], [], []),
  (30, .getfield 19, 33, [8, 2, 0, 0, 0], [], []),
  (33, .baload, 34, [37, 400], [], []),
  (34, .bipush 122, 36, [], [], []),
  (36, .if_icmp .gt 16, 39, [52], [], [0]),
  (39, .aload_n 0, 40, [], [], []),
  (40, .dup, 41, [], [], []),
  (41, .getfield 19, 44, [8, 2, 0, 0, 0], [], []),
  (44, .iconst 1, 45, [], [], []),
  (45, .iadd, 46, [], [], []),
  (46, .putfield 19, 49, [8, 2, 0, 0, 0], [], []),
  (49, .goto (-49), 52, [0], [], []),
  (52, .return_, 53, [], [], [])]
/-- Ta_tookWord -/
def jc71 : jCode := [
  (0, .aload_n 0, 1, [], [], []),
  (1, .invokevirtual 25, 4, [66, 1, 0, 0, 9], [], []),
  (4, .aload_n 0, 5, [], [], []),
  (5, .aload_n 1, 6, [], [], []),
  (6, .invokevirtual 41, 9, [69, 2, 1, 0, 9], [], []),
  (9, .iconst (-1), 10, [], [], []),
  (10, .if_icmp .ne 5, 13, [15], [], []),
  (13, .iconst 0, 14, [], [], []),
  (14, .ireturn, 15, [1], [], []),
  (15, .aload_n 0, 16, [], [], []),
  (16, .invokevirtual 45, 19, [70, 1, 0, 0, 9], [], []),
  (19, .iconst 1, 20, [], [], []),
  (20, .ireturn, 21, [1], [], [])]
/-- Ta_number -/
def jc72 : jCode := [
  (0, .aload_n 0, 1, [], [], []),
  (1, .getfield 22, 4, [8, 3, 0, 0, 0], [], []),
  (4, .ifCond .eq 5, 7, [9], [], []),
  (7, .iconst (-1), 8, [], [], []),
  (8, .ireturn, 9, [0], [], []),
  (9, .aload_n 0, 10, [], [], []),
  (10, .invokevirtual 25, 13, [66, 1, 0, 0, 9], [], []),
  (13, .aload_n 0, 14, [], [], []),
  (14, .getfield 19, 17, [8, 2, 0, 0, 0], [], []),
  (17, .istore_n 3, 18, [], [], []),
  (18, .iconst 0, 19, [], [], []),
  (19, .istore 4, 21, [], [], []),
  (21, .aload_n 0, 22, [], [], []),
  (22, .getfield 19, 25, [8, 2, 0, 0, 0], [], []),
  (25, .aload_n 0, 26, [], [], []),
  (26, .getfield 15, 29, [8, 1, 0, 0, 0], [], []),
  (29, .if_icmp .ge 74, 32, [103], [], []),
  (32, .aload_n 0, 33, [], [], []),
  (33, .getfield 9, 36, [8, 0, 2, 37, 0], [], []),
  (36, .aload_n 0, 37, [], [], []),
  (37, .getfield 19, 40, [8, 2, 0, 0, 0], [], []),
  (40, .baload, 41, [37, 400], [], []),
  (41, .bipush 48, 43, [], [], []),
  (43, .if_icmp .lt 60, 46, [103], [], []),
  (46, .aload_n 0, 47, [], [], []),
  (47, .getfield 9, 50, [8, 0, 2, 37, 0], [], []),
  (50, .aload_n 0, 51, [], [], []),
  (51, .getfield 19, 54, [8, 2, 0, 0, 0], [], []),
  (54, .baload, 55, [37, 400], [], []),
  (55, .bipush 57, 57, [], [], []),
  (57, .if_icmp .gt 46, 60, [103], [], []),
  (60, .aload_n 0, 61, [], [], []),
  (61, .getfield 19, 64, [8, 2, 0, 0, 0], [], []),
  (64, .iload_n 3, 65, [], [], []),
  (65, .isub, 66, [], [], []),
  (66, .iconst 5, 67, [], [], []),
  (67, .if_icmp .ge 23, 70, [90], [], []),
  (70, .bipush 10, 72, [], [], []),
  (72, .iload 4, 74, [], [], []),
  (74, .imul, 75, [], [], []),
  (75, .aload_n 0, 76, [], [], []),
  (76, .getfield 9, 79, [8, 0, 2, 37, 0], [], []),
  (79, .aload_n 0, 80, [], [], []),
  (80, .getfield 19, 83, [8, 2, 0, 0, 0], [], []),
  (83, .baload, 84, [37, 400], [], []),
  (84, .iadd, 85, [], [], []),
  (85, .bipush 48, 87, [], [], []),
  (87, .isub, 88, [], [], []),
  (88, .istore 4, 90, [], [], []),
  (90, .aload_n 0, 91, [], [], []),
  (91, .dup, 92, [], [], []),
  (92, .getfield 19, 95, [8, 2, 0, 0, 0], [], []),
  (95, .iconst 1, 96, [], [], []),
  (96, .iadd, 97, [], [], []),
  (97, .putfield 19, 100, [8, 2, 0, 0, 0], [], []),
  (100, .goto (-79), 103, [21], [], []),
  (103, .aload_n 0, 104, [], [], []),
  (104, .getfield 19, 107, [8, 2, 0, 0, 0], [], []),
  (107, .iload_n 3, 108, [], [], []),
  (108, .isub, 109, [], [], []),
  (109, .istore 5, 111, [], [], []),
  (111, .iload 5, 113, [], [], []),
  (113, .ifCond .le 24, 116, [137], [], [1, 2, 4]),
  (116, .iload 5, 118, [], [], []),
  (118, .iconst 5, 119, [], [], []),
  (119, .if_icmp .gt 18, 122, [137], [], [1, 2, 4]),
  (122, .iload 4, 124, [], [], []),
  (124, .iload_n 1, 125, [], [], []),
  (125, .if_icmp .lt 12, 128, [137], [], [1, 2, 4]),
  (128, .iload 4, 130, [], [], []),
  (130, .iload_n 2, 131, [], [], []),
  (131, .if_icmp .gt 6, 134, [137], [], [1, 2, 4]),
  (134, .iload 4, 136, [], [], []),
  (136, .ireturn, 137, [0], [], []),
  (137, .aload_n 0, 138, [], [], []),
  (138, .iload_n 3, 139, [], [], []),
  (139, .iload 5, 141, [], [], []),
  (141, .ifCond .ne 7, 144, [148], [], []),
  (144, .iconst 0, 145, [], [], []),
  (145, .goto 4, 148, [149], [], [0, 1, 2, 3, 4, 5]),
  (148, .iconst 1, 149, [], [0, 1, 2, 3, 4, 5], []),
  (149, .invokevirtual 48, 152, [63, 3, 1, 0, 9], [], []),
  (152, .pop, 153, [], [], []),
  (153, .iconst (-1), 154, [], [], []),
  (154, .ireturn, 155, [0], [], [])]
/-- Wa_copy -/
def jc73 : jCode := [
  (0, .aload_n 0, 1, [], [], []),
  (1, .aload_n 1, 2, [], [], []),
  (2, .getfield 30, 5, [9, 0, 0, 0, 0], [], []),
  (5, .putfield 30, 8, [9, 0, 0, 0, 0], [], []),
  (8, .aload_n 1, 9, [], [], []),
  (9, .getfield 9, 12, [9, 1, 2, 38, 0], [], []),
  (12, .iconst 0, 13, [], [], []),
  (13, .aload_n 0, 14, [], [], []),
  (14, .getfield 9, 17, [9, 1, 2, 38, 0], [], []),
  (17, .iconst 0, 18, [], [], []),
  (18, .bipush 6, 20, [], [], []),
  (20, .invokestatic 34, 23, [38, 6, 38, 6], [], []),
  (23, .aload_n 1, 24, [], [], []),
  (24, .getfield 15, 27, [9, 2, 2, 39, 0], [], []),
  (27, .iconst 0, 28, [], [], []),
  (28, .aload_n 0, 29, [], [], []),
  (29, .getfield 15, 32, [9, 2, 2, 39, 0], [], []),
  (32, .iconst 0, 33, [], [], []),
  (33, .bipush 6, 35, [], [], []),
  (35, .invokestatic 34, 38, [39, 6, 39, 6], [], []),
  (38, .aload_n 1, 39, [], [], []),
  (39, .getfield 18, 42, [9, 3, 2, 40, 0], [], []),
  (42, .iconst 0, 43, [], [], []),
  (43, .aload_n 0, 44, [], [], []),
  (44, .getfield 18, 47, [9, 3, 2, 40, 0], [], []),
  (47, .iconst 0, 48, [], [], []),
  (48, .iconst 4, 49, [], [], []),
  (49, .invokestatic 34, 52, [40, 4, 40, 4], [], []),
  (52, .aload_n 1, 53, [], [], []),
  (53, .getfield 21, 56, [9, 4, 2, 41, 0], [], []),
  (56, .iconst 0, 57, [], [], []),
  (57, .aload_n 0, 58, [], [], []),
  (58, .getfield 21, 61, [9, 4, 2, 41, 0], [], []),
  (61, .iconst 0, 62, [], [], []),
  (62, .iconst 4, 63, [], [], []),
  (63, .invokestatic 34, 66, [41, 4, 41, 4], [], []),
  (66, .aload_n 1, 67, [], [], []),
  (67, .getfield 24, 70, [9, 5, 2, 42, 0], [], []),
  (70, .iconst 0, 71, [], [], []),
  (71, .aload_n 0, 72, [], [], []),
  (72, .getfield 24, 75, [9, 5, 2, 42, 0], [], []),
  (75, .iconst 0, 76, [], [], []),
  (76, .iconst 4, 77, [], [], []),
  (77, .invokestatic 34, 80, [42, 4, 42, 4], [], []),
  (80, .aload_n 1, 81, [], [], []),
  (81, .getfield 27, 84, [9, 6, 2, 43, 0], [], []),
  (84, .iconst 0, 85, [], [], []),
  (85, .aload_n 0, 86, [], [], []),
  (86, .getfield 27, 89, [9, 6, 2, 43, 0], [], []),
  (89, .iconst 0, 90, [], [], []),
  (90, .iconst 4, 91, [], [], []),
  (91, .invokestatic 34, 94, [43, 4, 43, 4], [], []),
  (94, .return_, 95, [], [], [])]
/-- Wa_begin -/
def jc74 : jCode := [
  (0, .aload_n 0, 1, [], [], []),
  (1, .iconst 0, 2, [], [], []),
  (2, .putfield 30, 5, [9, 0, 0, 0, 0], [], []),
  (5, .iconst 0, 6, [], [], []),
  (6, .istore_n 2, 7, [], [], []),
  (7, .iload_n 2, 8, [], [], []),
  (8, .bipush 6, 10, [], [], []),
  (10, .if_icmp .ge 33, 13, [43], [], []),
  (13, .aload_n 0, 14, [], [], []),
  (14, .getfield 9, 17, [9, 1, 2, 38, 0], [], []),
  (17, .iload_n 2, 18, [], [], []),
  (18, .aload_n 1, 19, [], [], []),
  (19, .getfield 40, 22, [4, 9, 2, 23, 0], [], []),
  (22, .iload_n 2, 23, [], [], []),
  (23, .iaload, 24, [23, 6], [], []),
  (24, .iastore, 25, [38, 6, 0], [], []),
  (25, .aload_n 0, 26, [], [], []),
  (26, .getfield 15, 29, [9, 2, 2, 39, 0], [], []),
  (29, .iload_n 2, 30, [], [], []),
  (30, .aload_n 1, 31, [], [], []),
  (31, .getfield 45, 34, [4, 12, 2, 26, 0], [], []),
  (34, .iload_n 2, 35, [], [], []),
  (35, .iaload, 36, [26, 6], [], []),
  (36, .iastore, 37, [39, 6, 0], [], []),
  (37, .iinc 2 1, 40, [], [], []),
  (40, .goto (-33), 43, [7], [], []),
  (43, .iconst 0, 44, [], [], []),
  (44, .istore_n 2, 45, [], [], []),
  (45, .iload_n 2, 46, [], [], []),
  (46, .iconst 4, 47, [], [], []),
  (47, .if_icmp .ge 52, 50, [99], [], []),
  (50, .aload_n 0, 51, [], [], []),
  (51, .getfield 18, 54, [9, 3, 2, 40, 0], [], []),
  (54, .iload_n 2, 55, [], [], []),
  (55, .aload_n 1, 56, [], [], []),
  (56, .getfield 46, 59, [4, 13, 2, 27, 0], [], []),
  (59, .iload_n 2, 60, [], [], []),
  (60, .iaload, 61, [27, 4], [], []),
  (61, .iastore, 62, [40, 4, 0], [], []),
  (62, .aload_n 0, 63, [], [], []),
  (63, .getfield 21, 66, [9, 4, 2, 41, 0], [], []),
  (66, .iload_n 2, 67, [], [], []),
  (67, .aload_n 1, 68, [], [], []),
  (68, .getfield 47, 71, [4, 14, 2, 28, 0], [], []),
  (71, .iload_n 2, 72, [], [], []),
  (72, .iaload, 73, [28, 4], [], []),
  (73, .iastore, 74, [41, 4, 0], [], []),
  (74, .aload_n 0, 75, [], [], []),
  (75, .getfield 24, 78, [9, 5, 2, 42, 0], [], []),
  (78, .iload_n 2, 79, [], [], []),
  (79, .aload_n 1, 80, [], [], []),
  (80, .getfield 48, 83, [4, 15, 2, 29, 0], [], []),
  (83, .iload_n 2, 84, [], [], []),
  (84, .iaload, 85, [29, 4], [], []),
  (85, .iastore, 86, [42, 4, 0], [], []),
  (86, .aload_n 0, 87, [], [], []),
  (87, .getfield 27, 90, [9, 6, 2, 43, 0], [], []),
  (90, .iload_n 2, 91, [], [], []),
  (91, .iconst (-1), 92, [], [], []),
  (92, .iastore, 93, [43, 4, 0], [], []),
  (93, .iinc 2 1, 96, [], [], []),
  (96, .goto (-51), 99, [45], [], []),
  (99, .return_, 100, [], [], [])]
/-- Wa_bitsAt -/
def jc75 : jCode := [
  (0, .iconst 0, 1, [], [], []),
  (1, .istore_n 3, 2, [], [], []),
  (2, .iconst 0, 3, [], [], []),
  (3, .istore 4, 5, [], [], []),
  (5, .iload 4, 7, [], [], []),
  (7, .iload_n 2, 8, [], [], []),
  (8, .if_icmp .ge 34, 11, [42], [], [0, 1, 2, 4]),
  (11, .iload 4, 13, [], [], []),
  (13, .bipush 6, 15, [], [], []),
  (15, .if_icmp .ge 27, 18, [42], [], [0, 1, 2, 4]),
  (18, .aload_n 0, 19, [], [], []),
  (19, .getfield 9, 22, [9, 1, 2, 38, 0], [], []),
  (22, .iload 4, 24, [], [], []),
  (24, .iaload, 25, [38, 6], [], []),
  (25, .iload_n 1, 26, [], [], []),
  (26, .if_icmp .ne 10, 29, [36], [], []),
  (29, .iload_n 3, 30, [], [], []),
  (30, .iconst 1, 31, [], [], []),
  (31, .iload 4, 33, [], [], []),
  (33, .ishl, 34, [], [], []),
  (34, .ior, 35, [], [], []),
  (35, .istore_n 3, 36, [], [], []),
  (36, .iinc 4 1, 39, [], [], []),
  (39, .goto (-34), 42, [5], [], []),
  (42, .iload_n 3, 43, [], [], []),
  (43, .ireturn, 44, [0], [], [])]
/-- Wa_fullTraps -/
def jc76 : jCode := [
  (0, .iconst 0, 1, [], [], []),
  (1, .istore_n 2, 2, [], [], []),
  (2, .iconst 0, 3, [], [], []),
  (3, .istore_n 3, 4, [], [], []),
  (4, .iload_n 3, 5, [], [], []),
  (5, .iload_n 1, 6, [], [], []),
  (6, .if_icmp .ge 27, 9, [33], [], [0, 1, 3]),
  (9, .iload_n 3, 10, [], [], []),
  (10, .iconst 4, 11, [], [], []),
  (11, .if_icmp .ge 22, 14, [33], [], [0, 1, 3]),
  (14, .aload_n 0, 15, [], [], []),
  (15, .getfield 27, 18, [9, 6, 2, 43, 0], [], []),
  (18, .iload_n 3, 19, [], [], []),
  (19, .iaload, 20, [43, 4], [], []),
  (20, .iconst (-1), 21, [], [], []),
  (21, .if_icmp .eq 6, 24, [27], [], []),
  (24, .iinc 2 1, 27, [], [], []),
  (27, .iinc 3 1, 30, [], [], []),
  (30, .goto (-26), 33, [4], [], []),
  (33, .iload_n 2, 34, [], [], []),
  (34, .ireturn, 35, [0], [], [])]
/-- Wa_places -/
def jc77 : jCode := [
  (0, .lconst 0, 1, [], [], []),
  (1, .lstore_n 2, 2, [], [], []),
  (2, .iconst 0, 3, [], [], []),
  (3, .istore 4, 5, [], [], []),
  (5, .iload 4, 7, [], [], []),
  (7, .iload_n 1, 8, [], [], []),
  (8, .if_icmp .ge 33, 11, [41], [], [0, 1, 4]),
  (11, .iload 4, 13, [], [], []),
  (13, .bipush 6, 15, [], [], []),
  (15, .if_icmp .ge 26, 18, [41], [], [0, 1, 4]),
  (18, .lload_n 2, 19, [], [], []),
  (19, .ldc2_w 49, 22, [64], [], []),
  (22, .lmul, 23, [], [], []),
  (23, .aload_n 0, 24, [], [], []),
  (24, .getfield 9, 27, [9, 1, 2, 38, 0], [], []),
  (27, .iload 4, 29, [], [], []),
  (29, .iaload, 30, [38, 6], [], []),
  (30, .i2l, 31, [], [], []),
  (31, .ladd, 32, [], [], []),
  (32, .lconst 1, 33, [], [], []),
  (33, .ladd, 34, [], [], []),
  (34, .lstore_n 2, 35, [], [], []),
  (35, .iinc 4 1, 38, [], [], []),
  (38, .goto (-33), 41, [5], [], []),
  (41, .lload_n 2, 42, [], [], []),
  (42, .lreturn, 43, [], [], [])]
/-- E_feed -/
def jc78 : jCode := [
  (0, .aload_n 0, 1, [], [], []),
  (1, .getfield 10, 4, [10, 0, 2, 8, 0], [], []),
  (4, .getfield 69, 7, [8, 1, 0, 0, 0], [], []),
  (7, .bipush 20, 9, [], [], []),
  (9, .iadd, 10, [], [], []),
  (10, .sipush 400, 13, [], [], []),
  (13, .if_icmp .le 5, 16, [18], [], []),
  (16, .iconst (-1), 17, [], [], []),
  (17, .ireturn, 18, [0], [], []),
  (18, .aload_n 0, 19, [], [], []),
  (19, .getfield 10, 22, [10, 0, 2, 8, 0], [], []),
  (22, .iload_n 1, 23, [], [], []),
  (23, .invokevirtual 73, 26, [61, 2, 0, 0, 9], [], []),
  (26, .aload_n 0, 27, [], [], []),
  (27, .getfield 10, 30, [10, 0, 2, 8, 0], [], []),
  (30, .iload_n 2, 31, [], [], []),
  (31, .invokevirtual 73, 34, [61, 2, 0, 0, 9], [], []),
  (34, .aload_n 0, 35, [], [], []),
  (35, .getfield 10, 38, [10, 0, 2, 8, 0], [], []),
  (38, .iload_n 3, 39, [], [], []),
  (39, .invokevirtual 73, 42, [61, 2, 0, 0, 9], [], []),
  (42, .aload_n 0, 43, [], [], []),
  (43, .getfield 10, 46, [10, 0, 2, 8, 0], [], []),
  (46, .iload 4, 48, [], [], []),
  (48, .invokevirtual 73, 51, [61, 2, 0, 0, 9], [], []),
  (51, .aload_n 0, 52, [], [], []),
  (52, .getfield 10, 55, [10, 0, 2, 8, 0], [], []),
  (55, .iload 5, 57, [], [], []),
  (57, .invokevirtual 73, 60, [61, 2, 0, 0, 9], [], []),
  (60, .aload_n 0, 61, [], [], []),
  (61, .getfield 10, 64, [10, 0, 2, 8, 0], [], []),
  (64, .getfield 69, 67, [8, 1, 0, 0, 0], [], []),
  (67, .ireturn, 68, [0], [], [])]
/-- E_end -/
def jc79 : jCode := [
  (0, .iload_n 1, 1, [], [], []),
  (1, .ifCond .lt 14, 4, [15], [], [0, 1]),
  (4, .iload_n 1, 5, [], [], []),
  (5, .aload_n 0, 6, [], [], []),
  (6, .getfield 10, 9, [10, 0, 2, 8, 0], [], []),
  (9, .getfield 69, 12, [8, 1, 0, 0, 0], [], []),
  (12, .if_icmp .le 5, 15, [17], [0, 1], []),
  (15, .iconst (-1), 16, [], [], []),
  (16, .ireturn, 17, [0], [], []),
  (17, .aload_n 0, 18, [], [], []),
  (18, .getfield 10, 21, [10, 0, 2, 8, 0], [], []),
  (21, .iload_n 1, 22, [], [], []),
  (22, .putfield 69, 25, [8, 1, 0, 0, 0], [], []),
  (25, .iload_n 1, 26, [], [], []),
  (26, .ireturn, 27, [0], [], [])]
/-- E_river -/
def jc80 : jCode := [
  (0, .aload_n 0, 1, [], [], []),
  (1, .getfield 36, 4, [10, 5, 5, 4, 5], [], []),
  (4, .aload_n 0, 5, [], [], []),
  (5, .getfield 10, 8, [10, 0, 2, 8, 0], [], []),
  (8, .invokevirtual 77, 11, [34, 2, 1, 0, 5], [], []),
  (11, .istore_n 1, 12, [], [], []),
  (12, .aload_n 0, 13, [], [], []),
  (13, .getfield 10, 16, [10, 0, 2, 8, 0], [], []),
  (16, .iconst 0, 17, [], [], []),
  (17, .putfield 69, 20, [8, 1, 0, 0, 0], [], []),
  (20, .iload_n 1, 21, [], [], []),
  (21, .ifCond .ne 14, 24, [35], [], []),
  (24, .bipush (-2), 26, [], [], []),
  (26, .aload_n 0, 27, [], [], []),
  (27, .getfield 10, 30, [10, 0, 2, 8, 0], [], []),
  (30, .getfield 81, 33, [8, 3, 0, 0, 0], [], []),
  (33, .isub, 34, [], [], []),
  (34, .ireturn, 35, [0], [], []),
  (35, .aload_n 0, 36, [], [], []),
  (36, .getfield 25, 39, [10, 3, 2, 6, 0], [], []),
  (39, .getfield 84, 42, [6, 0, 2, 4, 0], [], []),
  (42, .aload_n 0, 43, [], [], []),
  (43, .getfield 36, 46, [10, 5, 5, 4, 5], [], []),
  (46, .invokevirtual 87, 49, [31, 2, 0, 0, 5], [], []),
  (49, .aload_n 0, 50, [], [], []),
  (50, .getfield 25, 53, [10, 3, 2, 6, 0], [], []),
  (53, .getfield 91, 56, [6, 1, 2, 9, 0], [], []),
  (56, .aload_n 0, 57, [], [], []),
  (57, .getfield 25, 60, [10, 3, 2, 6, 0], [], []),
  (60, .getfield 84, 63, [6, 0, 2, 4, 0], [], []),
  (63, .invokevirtual 95, 66, [74, 2, 0, 0, 10], [], []),
  (66, .aload_n 0, 67, [], [], []),
  (67, .getfield 25, 70, [10, 3, 2, 6, 0], [], []),
  (70, .getfield 100, 73, [6, 2, 2, 3, 0], [], []),
  (73, .iconst 0, 74, [], [], []),
  (74, .putfield 104, 77, [3, 0, 0, 0, 0], [], []),
  (77, .aload_n 0, 78, [], [], []),
  (78, .getfield 43, 81, [10, 6, 2, 0, 0], [], []),
  (81, .iconst 0, 82, [], [], []),
  (82, .putfield 107, 85, [0, 2, 0, 0, 0], [], []),
  (85, .aload_n 0, 86, [], [], []),
  (86, .getfield 25, 89, [10, 3, 2, 6, 0], [], []),
  (89, .getfield 84, 92, [6, 0, 2, 4, 0], [], []),
  (92, .getfield 108, 95, [4, 5, 0, 0, 0], [], []),
  (95, .ireturn, 96, [0], [], [])]
/-- E_rule -/
def jc81 : jCode := [
  (0, .aload_n 0, 1, [], [], []),
  (1, .getfield 111, 4, [10, 2, 0, 0, 0], [], []),
  (4, .bipush 6, 6, [], [], []),
  (6, .if_icmp .lt 5, 9, [11], [], []),
  (9, .iconst (-1), 10, [], [], []),
  (10, .ireturn, 11, [0], [], []),
  (11, .aload_n 0, 12, [], [], []),
  (12, .getfield 18, 15, [10, 1, 2, 44, 0], [], []),
  (15, .aload_n 0, 16, [], [], []),
  (16, .getfield 111, 19, [10, 2, 0, 0, 0], [], []),
  (19, .aaload, 20, [44, 6, 5, 0], [], []),
  (20, .aload_n 0, 21, [], [], []),
  (21, .getfield 10, 24, [10, 0, 2, 8, 0], [], []),
  (24, .invokevirtual 114, 27, [37, 2, 1, 0, 6], [], []),
  (27, .istore_n 1, 28, [], [], []),
  (28, .aload_n 0, 29, [], [], []),
  (29, .getfield 10, 32, [10, 0, 2, 8, 0], [], []),
  (32, .iconst 0, 33, [], [], []),
  (33, .putfield 69, 36, [8, 1, 0, 0, 0], [], []),
  (36, .iload_n 1, 37, [], [], []),
  (37, .ifCond .ne 14, 40, [51], [], []),
  (40, .bipush (-2), 42, [], [], []),
  (42, .aload_n 0, 43, [], [], []),
  (43, .getfield 10, 46, [10, 0, 2, 8, 0], [], []),
  (46, .getfield 81, 49, [8, 3, 0, 0, 0], [], []),
  (49, .isub, 50, [], [], []),
  (50, .ireturn, 51, [0], [], []),
  (51, .aload_n 0, 52, [], [], []),
  (52, .dup, 53, [], [], []),
  (53, .getfield 111, 56, [10, 2, 0, 0, 0], [], []),
  (56, .iconst 1, 57, [], [], []),
  (57, .iadd, 58, [], [], []),
  (58, .putfield 111, 61, [10, 2, 0, 0, 0], [], []),
  (61, .aload_n 0, 62, [], [], []),
  (62, .getfield 111, 65, [10, 2, 0, 0, 0], [], []),
  (65, .iconst 1, 66, [], [], []),
  (66, .isub, 67, [], [], []),
  (67, .ireturn, 68, [0], [], [])]
/-- E_force -/
def jc82 : jCode := [
  (0, .iload_n 1, 1, [], [], []),
  (1, .iconst (-1), 2, [], [], []),
  (2, .if_icmp .lt 11, 5, [13], [], [0, 1]),
  (5, .iload_n 1, 6, [], [], []),
  (6, .aload_n 0, 7, [], [], []),
  (7, .getfield 111, 10, [10, 2, 0, 0, 0], [], []),
  (10, .if_icmp .lt 6, 13, [16], [0, 1], []),
  (13, .bipush (-2), 15, [], [], []),
  (15, .ireturn, 16, [0], [], []),
  (16, .aload_n 0, 17, [], [], []),
  (17, .getfield 25, 20, [10, 3, 2, 6, 0], [], []),
  (20, .getfield 115, 23, [6, 3, 0, 0, 0], [], []),
  (23, .istore_n 2, 24, [], [], []),
  (24, .aload_n 0, 25, [], [], []),
  (25, .getfield 25, 28, [10, 3, 2, 6, 0], [], []),
  (28, .iload_n 1, 29, [], [], []),
  (29, .putfield 115, 32, [6, 3, 0, 0, 0], [], []),
  (32, .iload_n 2, 33, [], [], []),
  (33, .ireturn, 34, [0], [], [])]
/-- E_memory -/
def jc83 : jCode := [
  (0, .aload_n 0, 1, [], [], []),
  (1, .iload_n 1, 2, [], [], []),
  (2, .invokevirtual 118, 5, [117, 2, 1, 0, 11], [], []),
  (5, .ifCond .ne 6, 8, [11], [], []),
  (8, .bipush (-2), 10, [], [], []),
  (10, .ireturn, 11, [0], [], []),
  (11, .iload_n 2, 12, [], [], []),
  (12, .tableswitch 84 0 3 #[32, 45, 58, 71], 44, [96, 0, 44, 1, 57, 2, 70, 3, 83], [], []),
  (44, .aload_n 0, 45, [], [], []),
  (45, .getfield 25, 48, [10, 3, 2, 6, 0], [], []),
  (48, .getfield 84, 51, [6, 0, 2, 4, 0], [], []),
  (51, .getfield 122, 54, [4, 10, 2, 24, 0], [], []),
  (54, .iload_n 1, 55, [], [], []),
  (55, .iaload, 56, [24, 6], [], []),
  (56, .ireturn, 57, [0], [], []),
  (57, .aload_n 0, 58, [], [], []),
  (58, .getfield 25, 61, [10, 3, 2, 6, 0], [], []),
  (61, .getfield 84, 64, [6, 0, 2, 4, 0], [], []),
  (64, .getfield 125, 67, [4, 11, 2, 25, 0], [], []),
  (67, .iload_n 1, 68, [], [], []),
  (68, .iaload, 69, [25, 6], [], []),
  (69, .ireturn, 70, [0], [], []),
  (70, .aload_n 0, 71, [], [], []),
  (71, .getfield 25, 74, [10, 3, 2, 6, 0], [], []),
  (74, .getfield 84, 77, [6, 0, 2, 4, 0], [], []),
  (77, .getfield 128, 80, [4, 12, 2, 26, 0], [], []),
  (80, .iload_n 1, 81, [], [], []),
  (81, .iaload, 82, [26, 6], [], []),
  (82, .ireturn, 83, [0], [], []),
  (83, .aload_n 0, 84, [], [], []),
  (84, .getfield 25, 87, [10, 3, 2, 6, 0], [], []),
  (87, .getfield 91, 90, [6, 1, 2, 9, 0], [], []),
  (90, .getfield 131, 93, [9, 1, 2, 38, 0], [], []),
  (93, .iload_n 1, 94, [], [], []),
  (94, .iaload, 95, [38, 6], [], []),
  (95, .ireturn, 96, [0], [], []),
  (96, .bipush (-2), 98, [], [], []),
  (98, .ireturn, 99, [0], [], [])]
/-- E_trap -/
def jc84 : jCode := [
  (0, .aload_n 0, 1, [], [], []),
  (1, .iload_n 1, 2, [], [], []),
  (2, .invokevirtual 134, 5, [118, 2, 1, 0, 11], [], []),
  (5, .ifCond .ne 6, 8, [11], [], []),
  (8, .bipush (-2), 10, [], [], []),
  (10, .ireturn, 11, [0], [], []),
  (11, .iload_n 2, 12, [], [], []),
  (12, .tableswitch 101 0 4 #[36, 49, 62, 75, 88], 48, [113, 0, 48, 1, 61, 2, 74, 3, 87, 4, 100], [], []),
  (48, .aload_n 0, 49, [], [], []),
  (49, .getfield 25, 52, [10, 3, 2, 6, 0], [], []),
  (52, .getfield 91, 55, [6, 1, 2, 9, 0], [], []),
  (55, .getfield 137, 58, [9, 3, 2, 40, 0], [], []),
  (58, .iload_n 1, 59, [], [], []),
  (59, .iaload, 60, [40, 4], [], []),
  (60, .ireturn, 61, [0], [], []),
  (61, .aload_n 0, 62, [], [], []),
  (62, .getfield 25, 65, [10, 3, 2, 6, 0], [], []),
  (65, .getfield 84, 68, [6, 0, 2, 4, 0], [], []),
  (68, .getfield 140, 71, [4, 14, 2, 28, 0], [], []),
  (71, .iload_n 1, 72, [], [], []),
  (72, .iaload, 73, [28, 4], [], []),
  (73, .ireturn, 74, [0], [], []),
  (74, .aload_n 0, 75, [], [], []),
  (75, .getfield 25, 78, [10, 3, 2, 6, 0], [], []),
  (78, .getfield 91, 81, [6, 1, 2, 9, 0], [], []),
  (81, .getfield 143, 84, [9, 5, 2, 42, 0], [], []),
  (84, .iload_n 1, 85, [], [], []),
  (85, .iaload, 86, [42, 4], [], []),
  (86, .ireturn, 87, [0], [], []),
  (87, .aload_n 0, 88, [], [], []),
  (88, .getfield 25, 91, [10, 3, 2, 6, 0], [], []),
  (91, .getfield 84, 94, [6, 0, 2, 4, 0], [], []),
  (94, .getfield 146, 97, [4, 16, 2, 30, 0], [], []),
  (97, .iload_n 1, 98, [], [], []),
  (98, .iaload, 99, [30, 4], [], []),
  (99, .ireturn, 100, [0], [], []),
  (100, .aload_n 0, 101, [], [], []),
  (101, .getfield 25, 104, [10, 3, 2, 6, 0], [], []),
  (104, .getfield 91, 107, [6, 1, 2, 9, 0], [], []),
  (107, .getfield 149, 110, [9, 6, 2, 43, 0], [], []),
  (110, .iload_n 1, 111, [], [], []),
  (111, .iaload, 112, [43, 4], [], []),
  (112, .ireturn, 113, [0], [], []),
  (113, .bipush (-2), 115, [], [], []),
  (115, .ireturn, 116, [0], [], [])]
/-- E_person -/
def jc85 : jCode := [
  (0, .aload_n 0, 1, [], [], []),
  (1, .iload_n 1, 2, [], [], []),
  (2, .invokevirtual 152, 5, [119, 2, 1, 0, 11], [], []),
  (5, .ifCond .eq 17, 8, [22], [], []),
  (8, .aload_n 0, 9, [], [], []),
  (9, .getfield 25, 12, [10, 3, 2, 6, 0], [], []),
  (12, .bipush 30, 14, [], [], []),
  (14, .iload_n 1, 15, [], [], []),
  (15, .iadd, 16, [], [], []),
  (16, .invokevirtual 155, 19, [49, 2, 1, 0, 7], [], []),
  (19, .goto 4, 22, [23], [], [0, 1]),
  (22, .iconst (-1), 23, [], [0, 1], []),
  (23, .ireturn, 24, [0], [], [])]
/-- E_moon -/
def jc86 : jCode := [
  (0, .iload_n 1, 1, [], [], []),
  (1, .iconst 0, 2, [], [], []),
  (2, .aload_n 0, 3, [], [], []),
  (3, .getfield 25, 6, [10, 3, 2, 6, 0], [], []),
  (6, .getfield 84, 9, [6, 0, 2, 4, 0], [], []),
  (9, .invokevirtual 159, 12, [32, 1, 1, 0, 5], [], []),
  (12, .iconst 1, 13, [], [], []),
  (13, .isub, 14, [], [], []),
  (14, .invokestatic 163, 17, [115, 3, 1, 0, 0], [], []),
  (17, .ifCond .eq 17, 20, [34], [], []),
  (20, .aload_n 0, 21, [], [], []),
  (21, .getfield 25, 24, [10, 3, 2, 6, 0], [], []),
  (24, .getfield 84, 27, [6, 0, 2, 4, 0], [], []),
  (27, .iload_n 1, 28, [], [], []),
  (28, .invokevirtual 167, 31, [33, 2, 1, 0, 5], [], []),
  (31, .goto 4, 34, [35], [], [0, 1]),
  (34, .iconst (-1), 35, [], [0, 1], []),
  (35, .ireturn, 36, [0], [], [])]
/-- E_night -/
def jc87 : jCode := [
  (0, .aload_n 0, 1, [], [], []),
  (1, .getfield 25, 4, [10, 3, 2, 6, 0], [], []),
  (4, .getfield 84, 7, [6, 0, 2, 4, 0], [], []),
  (7, .getfield 170, 10, [4, 0, 0, 0, 0], [], []),
  (10, .ifCond .eq 19, 13, [29], [], [0]),
  (13, .aload_n 0, 14, [], [], []),
  (14, .getfield 25, 17, [10, 3, 2, 6, 0], [], []),
  (17, .getfield 91, 20, [6, 1, 2, 9, 0], [], []),
  (20, .getfield 174, 23, [9, 0, 0, 0, 0], [], []),
  (23, .sipush 999, 26, [], [], []),
  (26, .if_icmp .lt 5, 29, [31], [0], []),
  (29, .iconst (-1), 30, [], [], []),
  (30, .ireturn, 31, [0], [], []),
  (31, .aload_n 0, 32, [], [], []),
  (32, .getfield 43, 35, [10, 6, 2, 0, 0], [], []),
  (35, .aload_n 0, 36, [], [], []),
  (36, .getfield 25, 39, [10, 3, 2, 6, 0], [], []),
  (39, .getfield 91, 42, [6, 1, 2, 9, 0], [], []),
  (42, .invokevirtual 177, 45, [0, 2, 0, 0, 1], [], []),
  (45, .aload_n 0, 46, [], [], []),
  (46, .getfield 50, 49, [10, 7, 2, 7, 0], [], []),
  (49, .aload_n 0, 50, [], [], []),
  (50, .getfield 25, 53, [10, 3, 2, 6, 0], [], []),
  (53, .getfield 84, 56, [6, 0, 2, 4, 0], [], []),
  (56, .aload_n 0, 57, [], [], []),
  (57, .getfield 25, 60, [10, 3, 2, 6, 0], [], []),
  (60, .getfield 91, 63, [6, 1, 2, 9, 0], [], []),
  (63, .aload_n 0, 64, [], [], []),
  (64, .invokevirtual 181, 67, [124, 1, 3, 5, 11], [], []),
  (67, .aload_n 0, 68, [], [], []),
  (68, .getfield 25, 71, [10, 3, 2, 6, 0], [], []),
  (71, .getfield 84, 74, [6, 0, 2, 4, 0], [], []),
  (74, .aload_n 0, 75, [], [], []),
  (75, .getfield 25, 78, [10, 3, 2, 6, 0], [], []),
  (78, .getfield 91, 81, [6, 1, 2, 9, 0], [], []),
  (81, .getfield 174, 84, [9, 0, 0, 0, 0], [], []),
  (84, .invokevirtual 167, 87, [33, 2, 1, 0, 5], [], []),
  (87, .invokevirtual 185, 90, [53, 5, 1, 0, 8], [], []),
  (90, .ireturn, 91, [0], [], [])]
/-- E_lift -/
def jc88 : jCode := [
  (0, .aload_n 0, 1, [], [], []),
  (1, .iload_n 1, 2, [], [], []),
  (2, .invokevirtual 134, 5, [118, 2, 1, 0, 11], [], []),
  (5, .ifCond .ne 5, 8, [10], [], []),
  (8, .iconst (-1), 9, [], [], []),
  (9, .ireturn, 10, [0], [], []),
  (10, .aload_n 0, 11, [], [], []),
  (11, .getfield 25, 14, [10, 3, 2, 6, 0], [], []),
  (14, .getfield 91, 17, [6, 1, 2, 9, 0], [], []),
  (17, .getfield 149, 20, [9, 6, 2, 43, 0], [], []),
  (20, .iload_n 1, 21, [], [], []),
  (21, .iaload, 22, [43, 4], [], []),
  (22, .istore_n 2, 23, [], [], []),
  (23, .aload_n 0, 24, [], [], []),
  (24, .getfield 25, 27, [10, 3, 2, 6, 0], [], []),
  (27, .getfield 84, 30, [6, 0, 2, 4, 0], [], []),
  (30, .getfield 146, 33, [4, 16, 2, 30, 0], [], []),
  (33, .iload_n 1, 34, [], [], []),
  (34, .iaload, 35, [30, 4], [], []),
  (35, .istore_n 3, 36, [], [], []),
  (36, .aload_n 0, 37, [], [], []),
  (37, .iload_n 2, 38, [], [], []),
  (38, .invokevirtual 118, 41, [117, 2, 1, 0, 11], [], []),
  (41, .ifCond .eq 38, 44, [79], [], [0, 1, 2, 3]),
  (44, .aload_n 0, 45, [], [], []),
  (45, .iload_n 3, 46, [], [], []),
  (46, .invokevirtual 152, 49, [119, 2, 1, 0, 11], [], []),
  (49, .ifCond .eq 30, 52, [79], [], [0, 1, 2, 3]),
  (52, .aload_n 0, 53, [], [], []),
  (53, .getfield 25, 56, [10, 3, 2, 6, 0], [], []),
  (56, .getfield 84, 59, [6, 0, 2, 4, 0], [], []),
  (59, .getfield 122, 62, [4, 10, 2, 24, 0], [], []),
  (62, .iload_n 2, 63, [], [], []),
  (63, .iaload, 64, [24, 6], [], []),
  (64, .aload_n 0, 65, [], [], []),
  (65, .getfield 25, 68, [10, 3, 2, 6, 0], [], []),
  (68, .getfield 84, 71, [6, 0, 2, 4, 0], [], []),
  (71, .getfield 189, 74, [4, 8, 2, 22, 0], [], []),
  (74, .iload_n 3, 75, [], [], []),
  (75, .iaload, 76, [22, 4], [], []),
  (76, .if_icmp .le 5, 79, [81], [0, 1, 2, 3], []),
  (79, .iconst (-1), 80, [], [], []),
  (80, .ireturn, 81, [0], [], []),
  (81, .aload_n 0, 82, [], [], []),
  (82, .getfield 43, 85, [10, 6, 2, 0, 0], [], []),
  (85, .aload_n 0, 86, [], [], []),
  (86, .getfield 25, 89, [10, 3, 2, 6, 0], [], []),
  (89, .getfield 91, 92, [6, 1, 2, 9, 0], [], []),
  (92, .invokevirtual 177, 95, [0, 2, 0, 0, 1], [], []),
  (95, .aload_n 0, 96, [], [], []),
  (96, .getfield 25, 99, [10, 3, 2, 6, 0], [], []),
  (99, .getfield 91, 102, [6, 1, 2, 9, 0], [], []),
  (102, .getfield 131, 105, [9, 1, 2, 38, 0], [], []),
  (105, .iload_n 2, 106, [], [], []),
  (106, .bipush 30, 108, [], [], []),
  (108, .iload_n 3, 109, [], [], []),
  (109, .iadd, 110, [], [], []),
  (110, .iastore, 111, [38, 6, 0], [], []),
  (111, .aload_n 0, 112, [], [], []),
  (112, .getfield 25, 115, [10, 3, 2, 6, 0], [], []),
  (115, .getfield 91, 118, [6, 1, 2, 9, 0], [], []),
  (118, .getfield 149, 121, [9, 6, 2, 43, 0], [], []),
  (121, .iload_n 1, 122, [], [], []),
  (122, .iconst (-1), 123, [], [], []),
  (123, .iastore, 124, [43, 4, 0], [], []),
  (124, .iload_n 2, 125, [], [], []),
  (125, .ireturn, 126, [0], [], [])]
/-- E_sink -/
def jc89 : jCode := [
  (0, .aload_n 0, 1, [], [], []),
  (1, .iload_n 1, 2, [], [], []),
  (2, .invokevirtual 192, 5, [121, 2, 1, 0, 11], [], []),
  (5, .ifCond .eq 21, 8, [26], [], [0, 1, 2, 3]),
  (8, .aload_n 0, 9, [], [], []),
  (9, .iload_n 2, 10, [], [], []),
  (10, .invokevirtual 195, 13, [120, 2, 1, 0, 11], [], []),
  (13, .ifCond .eq 13, 16, [26], [], [0, 1, 2, 3]),
  (16, .iload_n 3, 17, [], [], []),
  (17, .iconst 0, 18, [], [], []),
  (18, .bipush 7, 20, [], [], []),
  (20, .invokestatic 163, 23, [115, 3, 1, 0, 0], [], []),
  (23, .ifCond .ne 5, 26, [28], [0, 1, 2, 3], []),
  (26, .iconst (-1), 27, [], [], []),
  (27, .ireturn, 28, [0], [], []),
  (28, .aload_n 0, 29, [], [], []),
  (29, .getfield 25, 32, [10, 3, 2, 6, 0], [], []),
  (32, .getfield 91, 35, [6, 1, 2, 9, 0], [], []),
  (35, .getfield 137, 38, [9, 3, 2, 40, 0], [], []),
  (38, .iload_n 1, 39, [], [], []),
  (39, .iaload, 40, [40, 4], [], []),
  (40, .istore 4, 42, [], [], []),
  (42, .aload_n 0, 43, [], [], []),
  (43, .getfield 25, 46, [10, 3, 2, 6, 0], [], []),
  (46, .getfield 91, 49, [6, 1, 2, 9, 0], [], []),
  (49, .getfield 143, 52, [9, 5, 2, 42, 0], [], []),
  (52, .iload_n 1, 53, [], [], []),
  (53, .iaload, 54, [42, 4], [], []),
  (54, .istore 5, 56, [], [], []),
  (56, .iload 4, 58, [], [], []),
  (58, .iload_n 2, 59, [], [], []),
  (59, .if_icmp .ne 11, 62, [70], [], []),
  (62, .iload 5, 64, [], [], []),
  (64, .iload_n 3, 65, [], [], []),
  (65, .if_icmp .ne 5, 68, [70], [], []),
  (68, .iconst (-1), 69, [], [], []),
  (69, .ireturn, 70, [0], [], []),
  (70, .aload_n 0, 71, [], [], []),
  (71, .getfield 43, 74, [10, 6, 2, 0, 0], [], []),
  (74, .aload_n 0, 75, [], [], []),
  (75, .getfield 25, 78, [10, 3, 2, 6, 0], [], []),
  (78, .getfield 91, 81, [6, 1, 2, 9, 0], [], []),
  (81, .invokevirtual 177, 84, [0, 2, 0, 0, 1], [], []),
  (84, .aload_n 0, 85, [], [], []),
  (85, .getfield 25, 88, [10, 3, 2, 6, 0], [], []),
  (88, .getfield 91, 91, [6, 1, 2, 9, 0], [], []),
  (91, .getfield 137, 94, [9, 3, 2, 40, 0], [], []),
  (94, .iload_n 1, 95, [], [], []),
  (95, .iload_n 2, 96, [], [], []),
  (96, .iastore, 97, [40, 4, 0], [], []),
  (97, .aload_n 0, 98, [], [], []),
  (98, .getfield 25, 101, [10, 3, 2, 6, 0], [], []),
  (101, .getfield 91, 104, [6, 1, 2, 9, 0], [], []),
  (104, .getfield 143, 107, [9, 5, 2, 42, 0], [], []),
  (107, .iload_n 1, 108, [], [], []),
  (108, .iload_n 3, 109, [], [], []),
  (109, .iastore, 110, [42, 4, 0], [], []),
  (110, .bipush 8, 112, [], [], []),
  (112, .iload 4, 114, [], [], []),
  (114, .imul, 115, [], [], []),
  (115, .iload 5, 117, [], [], []),
  (117, .iadd, 118, [], [], []),
  (118, .ireturn, 119, [0], [], [])]
/-- E_free -/
def jc90 : jCode := [
  (0, .aload_n 0, 1, [], [], []),
  (1, .iload_n 1, 2, [], [], []),
  (2, .invokevirtual 198, 5, [123, 2, 1, 0, 11], [], []),
  (5, .ifCond .eq 11, 8, [16], [], [0, 1, 2]),
  (8, .aload_n 0, 9, [], [], []),
  (9, .iload_n 2, 10, [], [], []),
  (10, .invokevirtual 195, 13, [120, 2, 1, 0, 11], [], []),
  (13, .ifCond .ne 5, 16, [18], [0, 1, 2], []),
  (16, .iconst (-1), 17, [], [], []),
  (17, .ireturn, 18, [0], [], []),
  (18, .aload_n 0, 19, [], [], []),
  (19, .getfield 43, 22, [10, 6, 2, 0, 0], [], []),
  (22, .aload_n 0, 23, [], [], []),
  (23, .getfield 25, 26, [10, 3, 2, 6, 0], [], []),
  (26, .getfield 91, 29, [6, 1, 2, 9, 0], [], []),
  (29, .invokevirtual 177, 32, [0, 2, 0, 0, 1], [], []),
  (32, .aload_n 0, 33, [], [], []),
  (33, .getfield 25, 36, [10, 3, 2, 6, 0], [], []),
  (36, .getfield 91, 39, [6, 1, 2, 9, 0], [], []),
  (39, .getfield 131, 42, [9, 1, 2, 38, 0], [], []),
  (42, .iload_n 1, 43, [], [], []),
  (43, .iaload, 44, [38, 6], [], []),
  (44, .bipush 30, 46, [], [], []),
  (46, .isub, 47, [], [], []),
  (47, .istore_n 3, 48, [], [], []),
  (48, .aload_n 0, 49, [], [], []),
  (49, .getfield 25, 52, [10, 3, 2, 6, 0], [], []),
  (52, .getfield 91, 55, [6, 1, 2, 9, 0], [], []),
  (55, .getfield 131, 58, [9, 1, 2, 38, 0], [], []),
  (58, .iload_n 1, 59, [], [], []),
  (59, .iload_n 2, 60, [], [], []),
  (60, .iastore, 61, [38, 6, 0], [], []),
  (61, .iload_n 3, 62, [], [], []),
  (62, .ireturn, 63, [0], [], [])]
/-- E_give -/
def jc91 : jCode := [
  (0, .aload_n 0, 1, [], [], []),
  (1, .iload_n 1, 2, [], [], []),
  (2, .invokevirtual 198, 5, [123, 2, 1, 0, 11], [], []),
  (5, .ifCond .eq 30, 8, [35], [], [0, 1, 2]),
  (8, .aload_n 0, 9, [], [], []),
  (9, .iload_n 2, 10, [], [], []),
  (10, .invokevirtual 152, 13, [119, 2, 1, 0, 11], [], []),
  (13, .ifCond .eq 22, 16, [35], [], [0, 1, 2]),
  (16, .aload_n 0, 17, [], [], []),
  (17, .getfield 25, 20, [10, 3, 2, 6, 0], [], []),
  (20, .getfield 91, 23, [6, 1, 2, 9, 0], [], []),
  (23, .getfield 131, 26, [9, 1, 2, 38, 0], [], []),
  (26, .iload_n 1, 27, [], [], []),
  (27, .iaload, 28, [38, 6], [], []),
  (28, .bipush 30, 30, [], [], []),
  (30, .iload_n 2, 31, [], [], []),
  (31, .iadd, 32, [], [], []),
  (32, .if_icmp .ne 5, 35, [37], [0, 1, 2], []),
  (35, .iconst (-1), 36, [], [], []),
  (36, .ireturn, 37, [0], [], []),
  (37, .aload_n 0, 38, [], [], []),
  (38, .getfield 43, 41, [10, 6, 2, 0, 0], [], []),
  (41, .aload_n 0, 42, [], [], []),
  (42, .getfield 25, 45, [10, 3, 2, 6, 0], [], []),
  (45, .getfield 91, 48, [6, 1, 2, 9, 0], [], []),
  (48, .invokevirtual 177, 51, [0, 2, 0, 0, 1], [], []),
  (51, .aload_n 0, 52, [], [], []),
  (52, .getfield 25, 55, [10, 3, 2, 6, 0], [], []),
  (55, .getfield 91, 58, [6, 1, 2, 9, 0], [], []),
  (58, .getfield 131, 61, [9, 1, 2, 38, 0], [], []),
  (61, .iload_n 1, 62, [], [], []),
  (62, .iaload, 63, [38, 6], [], []),
  (63, .bipush 30, 65, [], [], []),
  (65, .isub, 66, [], [], []),
  (66, .istore_n 3, 67, [], [], []),
  (67, .aload_n 0, 68, [], [], []),
  (68, .getfield 25, 71, [10, 3, 2, 6, 0], [], []),
  (71, .getfield 91, 74, [6, 1, 2, 9, 0], [], []),
  (74, .getfield 131, 77, [9, 1, 2, 38, 0], [], []),
  (77, .iload_n 1, 78, [], [], []),
  (78, .bipush 30, 80, [], [], []),
  (80, .iload_n 2, 81, [], [], []),
  (81, .iadd, 82, [], [], []),
  (82, .iastore, 83, [38, 6, 0], [], []),
  (83, .iload_n 3, 84, [], [], []),
  (84, .ireturn, 85, [0], [], [])]
/-- E_undo -/
def jc92 : jCode := [
  (0, .aload_n 0, 1, [], [], []),
  (1, .getfield 43, 4, [10, 6, 2, 0, 0], [], []),
  (4, .aload_n 0, 5, [], [], []),
  (5, .getfield 25, 8, [10, 3, 2, 6, 0], [], []),
  (8, .getfield 91, 11, [6, 1, 2, 9, 0], [], []),
  (11, .invokevirtual 201, 14, [1, 2, 1, 0, 1], [], []),
  (14, .ireturn, 15, [0], [], [])]
/-- E_ahead -/
def jc93 : jCode := [
  (0, .aload_n 0, 1, [], [], []),
  (1, .iload_n 1, 2, [], [], []),
  (2, .invokevirtual 118, 5, [117, 2, 1, 0, 11], [], []),
  (5, .ifCond .eq 13, 8, [18], [], [0, 1, 2]),
  (8, .iload_n 2, 9, [], [], []),
  (9, .iconst 0, 10, [], [], []),
  (10, .bipush 100, 12, [], [], []),
  (12, .invokestatic 163, 15, [115, 3, 1, 0, 0], [], []),
  (15, .ifCond .ne 6, 18, [21], [0, 1, 2], []),
  (18, .bipush (-2), 20, [], [], []),
  (20, .ireturn, 21, [0], [], []),
  (21, .aload_n 0, 22, [], [], []),
  (22, .getfield 57, 25, [10, 8, 2, 1, 0], [], []),
  (25, .aload_n 0, 26, [], [], []),
  (26, .getfield 25, 29, [10, 3, 2, 6, 0], [], []),
  (29, .aload_n 0, 30, [], [], []),
  (30, .invokevirtual 181, 33, [124, 1, 3, 5, 11], [], []),
  (33, .iload_n 2, 34, [], [], []),
  (34, .invokevirtual 205, 37, [2, 4, 3, 9, 2], [], []),
  (37, .getfield 131, 40, [9, 1, 2, 38, 0], [], []),
  (40, .iload_n 1, 41, [], [], []),
  (41, .iaload, 42, [38, 6], [], []),
  (42, .ireturn, 43, [0], [], [])]
/-- E_caught -/
def jc94 : jCode := [
  (0, .aload_n 0, 1, [], [], []),
  (1, .iload_n 1, 2, [], [], []),
  (2, .invokevirtual 209, 5, [122, 2, 1, 0, 11], [], []),
  (5, .ifCond .eq 12, 8, [17], [], [0, 1, 2]),
  (8, .iload_n 2, 9, [], [], []),
  (9, .iconst 0, 10, [], [], []),
  (10, .iconst 1, 11, [], [], []),
  (11, .invokestatic 163, 14, [115, 3, 1, 0, 0], [], []),
  (14, .ifCond .ne 5, 17, [19], [0, 1, 2], []),
  (17, .iconst (-1), 18, [], [], []),
  (18, .ireturn, 19, [0], [], []),
  (19, .aload_n 0, 20, [], [], []),
  (20, .getfield 57, 23, [10, 8, 2, 1, 0], [], []),
  (23, .aload_n 0, 24, [], [], []),
  (24, .getfield 25, 27, [10, 3, 2, 6, 0], [], []),
  (27, .aload_n 0, 28, [], [], []),
  (28, .invokevirtual 181, 31, [124, 1, 3, 5, 11], [], []),
  (31, .iload_n 1, 32, [], [], []),
  (32, .iload_n 2, 33, [], [], []),
  (33, .invokevirtual 212, 36, [3, 5, 1, 0, 2], [], []),
  (36, .ireturn, 37, [0], [], [])]
/-- E_atSea -/
def jc95 : jCode := [
  (0, .aload_n 0, 1, [], [], []),
  (1, .getfield 25, 4, [10, 3, 2, 6, 0], [], []),
  (4, .getfield 84, 7, [6, 0, 2, 4, 0], [], []),
  (7, .getfield 170, 10, [4, 0, 0, 0, 0], [], []),
  (10, .ifCond .eq 13, 13, [23], [], [0, 1]),
  (13, .iload_n 1, 14, [], [], []),
  (14, .iconst 0, 15, [], [], []),
  (15, .bipush 100, 17, [], [], []),
  (17, .invokestatic 163, 20, [115, 3, 1, 0, 0], [], []),
  (20, .ifCond .ne 5, 23, [25], [0, 1], []),
  (23, .iconst (-1), 24, [], [], []),
  (24, .ireturn, 25, [0], [], []),
  (25, .aload_n 0, 26, [], [], []),
  (26, .getfield 57, 29, [10, 8, 2, 1, 0], [], []),
  (29, .aload_n 0, 30, [], [], []),
  (30, .getfield 25, 33, [10, 3, 2, 6, 0], [], []),
  (33, .aload_n 0, 34, [], [], []),
  (34, .invokevirtual 181, 37, [124, 1, 3, 5, 11], [], []),
  (37, .iload_n 1, 38, [], [], []),
  (38, .invokevirtual 205, 41, [2, 4, 3, 9, 2], [], []),
  (41, .iconst (-1), 42, [], [], []),
  (42, .aload_n 0, 43, [], [], []),
  (43, .getfield 25, 46, [10, 3, 2, 6, 0], [], []),
  (46, .getfield 84, 49, [6, 0, 2, 4, 0], [], []),
  (49, .getfield 108, 52, [4, 5, 0, 0, 0], [], []),
  (52, .invokevirtual 216, 55, [75, 3, 1, 0, 10], [], []),
  (55, .ireturn, 56, [0], [], [])]
/-- E_full -/
def jc96 : jCode := [
  (0, .aload_n 0, 1, [], [], []),
  (1, .getfield 25, 4, [10, 3, 2, 6, 0], [], []),
  (4, .getfield 84, 7, [6, 0, 2, 4, 0], [], []),
  (7, .getfield 170, 10, [4, 0, 0, 0, 0], [], []),
  (10, .ifCond .eq 21, 13, [31], [], []),
  (13, .aload_n 0, 14, [], [], []),
  (14, .getfield 57, 17, [10, 8, 2, 1, 0], [], []),
  (17, .aload_n 0, 18, [], [], []),
  (18, .getfield 25, 21, [10, 3, 2, 6, 0], [], []),
  (21, .aload_n 0, 22, [], [], []),
  (22, .invokevirtual 181, 25, [124, 1, 3, 5, 11], [], []),
  (25, .invokevirtual 219, 28, [4, 3, 1, 0, 2], [], []),
  (28, .goto 4, 31, [32], [], [0]),
  (31, .iconst (-1), 32, [], [0], []),
  (32, .ireturn, 33, [0], [], [])]
/-- E_bestSink -/
def jc97 : jCode := [
  (0, .aload_n 0, 1, [], [], []),
  (1, .iload_n 1, 2, [], [], []),
  (2, .invokevirtual 192, 5, [121, 2, 1, 0, 11], [], []),
  (5, .ifCond .eq 22, 8, [27], [], [0, 1, 2, 3]),
  (8, .iload_n 2, 9, [], [], []),
  (9, .iconst 1, 10, [], [], []),
  (10, .bipush 40, 12, [], [], []),
  (12, .invokestatic 163, 15, [115, 3, 1, 0, 0], [], []),
  (15, .ifCond .eq 12, 18, [27], [], [0, 1, 2, 3]),
  (18, .iload_n 3, 19, [], [], []),
  (19, .iconst 0, 20, [], [], []),
  (20, .iconst 2, 21, [], [], []),
  (21, .invokestatic 163, 24, [115, 3, 1, 0, 0], [], []),
  (24, .ifCond .ne 6, 27, [30], [0, 1, 2, 3], []),
  (27, .bipush (-2), 29, [], [], []),
  (29, .ireturn, 30, [0], [], []),
  (30, .aload_n 0, 31, [], [], []),
  (31, .getfield 57, 34, [10, 8, 2, 1, 0], [], []),
  (34, .aload_n 0, 35, [], [], []),
  (35, .getfield 25, 38, [10, 3, 2, 6, 0], [], []),
  (38, .aload_n 0, 39, [], [], []),
  (39, .invokevirtual 181, 42, [124, 1, 3, 5, 11], [], []),
  (42, .iload_n 1, 43, [], [], []),
  (43, .iload_n 2, 44, [], [], []),
  (44, .iload_n 3, 45, [], [], []),
  (45, .invokevirtual 223, 48, [5, 6, 1, 0, 2], [], []),
  (48, .ireturn, 49, [0], [], [])]
/-- E_lay -/
def jc98 : jCode := [
  (0, .aload_n 0, 1, [], [], []),
  (1, .iload_n 1, 2, [], [], []),
  (2, .invokevirtual 209, 5, [122, 2, 1, 0, 11], [], []),
  (5, .ifCond .eq 31, 8, [36], [], [0, 1, 2, 3, 4]),
  (8, .iload_n 2, 9, [], [], []),
  (9, .iconst 1, 10, [], [], []),
  (10, .bipush 40, 12, [], [], []),
  (12, .invokestatic 163, 15, [115, 3, 1, 0, 0], [], []),
  (15, .ifCond .eq 21, 18, [36], [], [0, 1, 2, 3, 4]),
  (18, .aload_n 0, 19, [], [], []),
  (19, .iload_n 3, 20, [], [], []),
  (20, .invokevirtual 195, 23, [120, 2, 1, 0, 11], [], []),
  (23, .ifCond .eq 13, 26, [36], [], [0, 1, 2, 3, 4]),
  (26, .iload 4, 28, [], [], []),
  (28, .iconst 0, 29, [], [], []),
  (29, .iconst 1, 30, [], [], []),
  (30, .invokestatic 163, 33, [115, 3, 1, 0, 0], [], []),
  (33, .ifCond .ne 5, 36, [38], [0, 1, 2, 3, 4], []),
  (36, .iconst (-1), 37, [], [], []),
  (37, .ireturn, 38, [0], [], []),
  (38, .aload_n 0, 39, [], [], []),
  (39, .getfield 57, 42, [10, 8, 2, 1, 0], [], []),
  (42, .aload_n 0, 43, [], [], []),
  (43, .getfield 25, 46, [10, 3, 2, 6, 0], [], []),
  (46, .aload_n 0, 47, [], [], []),
  (47, .invokevirtual 181, 50, [124, 1, 3, 5, 11], [], []),
  (50, .iload_n 1, 51, [], [], []),
  (51, .iload_n 2, 52, [], [], []),
  (52, .iload_n 3, 53, [], [], []),
  (53, .invokevirtual 227, 56, [7, 6, 1, 0, 2], [], []),
  (56, .istore 5, 58, [], [], []),
  (58, .iload 4, 60, [], [], []),
  (60, .ifCond .ne 11, 63, [71], [], []),
  (63, .iload 5, 65, [], [], []),
  (65, .invokestatic 230, 68, [245, 1, 1, 0, 0], [], []),
  (68, .goto 5, 71, [73], [], [0, 1, 2, 3, 4, 5]),
  (71, .iload 5, 73, [], [0, 1, 2, 3, 4, 5], []),
  (73, .ireturn, 74, [0], [], [])]
/-- E_throats -/
def jc99 : jCode := [
  (0, .aload_n 0, 1, [], [], []),
  (1, .iload_n 1, 2, [], [], []),
  (2, .invokevirtual 192, 5, [121, 2, 1, 0, 11], [], []),
  (5, .ifCond .eq 13, 8, [18], [], [0, 1, 2]),
  (8, .iload_n 2, 9, [], [], []),
  (9, .iconst 1, 10, [], [], []),
  (10, .bipush 40, 12, [], [], []),
  (12, .invokestatic 163, 15, [115, 3, 1, 0, 0], [], []),
  (15, .ifCond .ne 5, 18, [20], [0, 1, 2], []),
  (18, .iconst (-1), 19, [], [], []),
  (19, .ireturn, 20, [0], [], []),
  (20, .aload_n 0, 21, [], [], []),
  (21, .getfield 57, 24, [10, 8, 2, 1, 0], [], []),
  (24, .aload_n 0, 25, [], [], []),
  (25, .getfield 25, 28, [10, 3, 2, 6, 0], [], []),
  (28, .aload_n 0, 29, [], [], []),
  (29, .invokevirtual 181, 32, [124, 1, 3, 5, 11], [], []),
  (32, .iload_n 1, 33, [], [], []),
  (33, .iload_n 2, 34, [], [], []),
  (34, .invokevirtual 235, 37, [8, 5, 1, 0, 2], [], []),
  (37, .ireturn, 38, [0], [], [])]
/-- E_astray -/
def jc100 : jCode := [
  (0, .aload_n 0, 1, [], [], []),
  (1, .getfield 25, 4, [10, 3, 2, 6, 0], [], []),
  (4, .getfield 84, 7, [6, 0, 2, 4, 0], [], []),
  (7, .getfield 170, 10, [4, 0, 0, 0, 0], [], []),
  (10, .ifCond .eq 13, 13, [23], [], []),
  (13, .aload_n 0, 14, [], [], []),
  (14, .getfield 25, 17, [10, 3, 2, 6, 0], [], []),
  (17, .invokestatic 238, 20, [21, 1, 1, 0, 0], [], []),
  (20, .goto 4, 23, [24], [], [0]),
  (23, .iconst (-1), 24, [], [0], []),
  (24, .ireturn, 25, [0], [], [])]
/-- E_rings -/
def jc101 : jCode := [
  (0, .aload_n 0, 1, [], [], []),
  (1, .getfield 25, 4, [10, 3, 2, 6, 0], [], []),
  (4, .getfield 84, 7, [6, 0, 2, 4, 0], [], []),
  (7, .getfield 170, 10, [4, 0, 0, 0, 0], [], []),
  (10, .ifCond .eq 12, 13, [22], [], [0, 1]),
  (13, .iload_n 1, 14, [], [], []),
  (14, .iconst 0, 15, [], [], []),
  (15, .iconst 1, 16, [], [], []),
  (16, .invokestatic 163, 19, [115, 3, 1, 0, 0], [], []),
  (19, .ifCond .ne 5, 22, [24], [0, 1], []),
  (22, .iconst (-1), 23, [], [], []),
  (23, .ireturn, 24, [0], [], []),
  (24, .aload_n 0, 25, [], [], []),
  (25, .getfield 25, 28, [10, 3, 2, 6, 0], [], []),
  (28, .iload_n 1, 29, [], [], []),
  (29, .invokestatic 244, 32, [22, 2, 1, 0, 0], [], []),
  (32, .ireturn, 33, [0], [], [])]
/-- E_right -/
def jc102 : jCode := [
  (0, .aload_n 0, 1, [], [], []),
  (1, .getfield 25, 4, [10, 3, 2, 6, 0], [], []),
  (4, .getfield 84, 7, [6, 0, 2, 4, 0], [], []),
  (7, .getfield 170, 10, [4, 0, 0, 0, 0], [], []),
  (10, .ifCond .eq 12, 13, [22], [], [0, 1]),
  (13, .iload_n 1, 14, [], [], []),
  (14, .iconst 0, 15, [], [], []),
  (15, .iconst 2, 16, [], [], []),
  (16, .invokestatic 163, 19, [115, 3, 1, 0, 0], [], []),
  (19, .ifCond .ne 5, 22, [24], [0, 1], []),
  (22, .iconst (-1), 23, [], [], []),
  (23, .ireturn, 24, [0], [], []),
  (24, .aload_n 0, 25, [], [], []),
  (25, .getfield 25, 28, [10, 3, 2, 6, 0], [], []),
  (28, .invokestatic 238, 31, [21, 1, 1, 0, 0], [], []),
  (31, .istore_n 2, 32, [], [], []),
  (32, .iload_n 1, 33, [], [], []),
  (33, .ifCond .ne 8, 36, [41], [], []),
  (36, .iload_n 2, 37, [], [], []),
  (37, .invokestatic 230, 40, [245, 1, 1, 0, 0], [], []),
  (40, .ireturn, 41, [0], [], []),
  (41, .iconst 0, 42, [], [], []),
  (42, .istore_n 3, 43, [], [], []),
  (43, .iload_n 3, 44, [], [], []),
  (44, .aload_n 0, 45, [], [], []),
  (45, .getfield 25, 48, [10, 3, 2, 6, 0], [], []),
  (48, .getfield 84, 51, [6, 0, 2, 4, 0], [], []),
  (51, .getfield 108, 54, [4, 5, 0, 0, 0], [], []),
  (54, .if_icmp .ge 39, 57, [93], [], []),
  (57, .iload_n 2, 58, [], [], []),
  (58, .iload_n 3, 59, [], [], []),
  (59, .ishr, 60, [], [], []),
  (60, .iconst 1, 61, [], [], []),
  (61, .iand, 62, [], [], []),
  (62, .ifCond .eq 25, 65, [87], [], []),
  (65, .iload_n 1, 66, [], [], []),
  (66, .iconst 1, 67, [], [], []),
  (67, .if_icmp .ne 7, 70, [74], [], []),
  (70, .iload_n 3, 71, [], [], []),
  (71, .goto 15, 74, [86], [], [0, 1, 2, 3]),
  (74, .aload_n 0, 75, [], [], []),
  (75, .getfield 25, 78, [10, 3, 2, 6, 0], [], []),
  (78, .getfield 84, 81, [6, 0, 2, 4, 0], [], []),
  (81, .getfield 128, 84, [4, 12, 2, 26, 0], [], []),
  (84, .iload_n 3, 85, [], [], []),
  (85, .iaload, 86, [26, 6], [0, 1, 2, 3], []),
  (86, .ireturn, 87, [0], [], []),
  (87, .iinc 3 1, 90, [], [], []),
  (90, .goto (-47), 93, [43], [], []),
  (93, .bipush (-2), 95, [], [], []),
  (95, .ireturn, 96, [0], [], [])]
/-- E_of -/
def jc103 : jCode := [
  (0, .aload_n 0, 1, [], [], []),
  (1, .iload_n 1, 2, [], [], []),
  (2, .invokevirtual 118, 5, [117, 2, 1, 0, 11], [], []),
  (5, .ifCond .eq 22, 8, [27], [], []),
  (8, .aload_n 0, 9, [], [], []),
  (9, .getfield 64, 12, [10, 9, 2, 2, 0], [], []),
  (12, .aload_n 0, 13, [], [], []),
  (13, .getfield 25, 16, [10, 3, 2, 6, 0], [], []),
  (16, .aload_n 0, 17, [], [], []),
  (17, .invokevirtual 181, 20, [124, 1, 3, 5, 11], [], []),
  (20, .iload_n 1, 21, [], [], []),
  (21, .invokevirtual 248, 24, [15, 4, 1, 0, 3], [], []),
  (24, .goto 4, 27, [28], [], [0, 1]),
  (27, .iconst (-1), 28, [], [0, 1], []),
  (28, .ireturn, 29, [0], [], [])]
/-- E_rests -/
def jc104 : jCode := [
  (0, .iload_n 1, 1, [], [], []),
  (1, .iload_n 2, 2, [], [], []),
  (2, .if_icmp .eq 19, 5, [21], [], [0, 1, 2, 3, 4]),
  (5, .aload_n 0, 6, [], [], []),
  (6, .iload_n 1, 7, [], [], []),
  (7, .invokevirtual 192, 10, [121, 2, 1, 0, 11], [], []),
  (10, .ifCond .eq 11, 13, [21], [], [0, 1, 2, 3, 4]),
  (13, .aload_n 0, 14, [], [], []),
  (14, .iload_n 2, 15, [], [], []),
  (15, .invokevirtual 192, 18, [121, 2, 1, 0, 11], [], []),
  (18, .ifCond .ne 5, 21, [23], [0, 1, 2, 3, 4], []),
  (21, .iconst (-1), 22, [], [], []),
  (22, .ireturn, 23, [0], [], []),
  (23, .iload_n 3, 24, [], [], []),
  (24, .iconst 1, 25, [], [], []),
  (25, .bipush 20, 27, [], [], []),
  (27, .invokestatic 163, 30, [115, 3, 1, 0, 0], [], []),
  (30, .ifCond .eq 13, 33, [43], [], [0, 1, 2, 3, 4]),
  (33, .iload 4, 35, [], [], []),
  (35, .iconst 0, 36, [], [], []),
  (36, .iconst 2, 37, [], [], []),
  (37, .invokestatic 163, 40, [115, 3, 1, 0, 0], [], []),
  (40, .ifCond .ne 5, 43, [45], [0, 1, 2, 3, 4], []),
  (43, .iconst (-1), 44, [], [], []),
  (44, .ireturn, 45, [0], [], []),
  (45, .aload_n 0, 46, [], [], []),
  (46, .getfield 57, 49, [10, 8, 2, 1, 0], [], []),
  (49, .aload_n 0, 50, [], [], []),
  (50, .getfield 25, 53, [10, 3, 2, 6, 0], [], []),
  (53, .aload_n 0, 54, [], [], []),
  (54, .invokevirtual 181, 57, [124, 1, 3, 5, 11], [], []),
  (57, .iload_n 1, 58, [], [], []),
  (58, .iload_n 2, 59, [], [], []),
  (59, .iload_n 3, 60, [], [], []),
  (60, .iload 4, 62, [], [], []),
  (62, .invokevirtual 252, 65, [9, 7, 1, 0, 2], [], []),
  (65, .ireturn, 66, [0], [], [])]
/-- E_cycle -/
def jc105 : jCode := [
  (0, .aload_n 0, 1, [], [], []),
  (1, .getfield 25, 4, [10, 3, 2, 6, 0], [], []),
  (4, .getfield 84, 7, [6, 0, 2, 4, 0], [], []),
  (7, .getfield 170, 10, [4, 0, 0, 0, 0], [], []),
  (10, .ifCond .eq 12, 13, [22], [], [0, 1]),
  (13, .iload_n 1, 14, [], [], []),
  (14, .iconst 0, 15, [], [], []),
  (15, .iconst 1, 16, [], [], []),
  (16, .invokestatic 163, 19, [115, 3, 1, 0, 0], [], []),
  (19, .ifCond .ne 5, 22, [24], [0, 1], []),
  (22, .iconst (-1), 23, [], [], []),
  (23, .ireturn, 24, [0], [], []),
  (24, .aload_n 0, 25, [], [], []),
  (25, .getfield 57, 28, [10, 8, 2, 1, 0], [], []),
  (28, .aload_n 0, 29, [], [], []),
  (29, .getfield 25, 32, [10, 3, 2, 6, 0], [], []),
  (32, .aload_n 0, 33, [], [], []),
  (33, .invokevirtual 181, 36, [124, 1, 3, 5, 11], [], []),
  (36, .iload_n 1, 37, [], [], []),
  (37, .invokevirtual 256, 40, [12, 4, 1, 0, 2], [], []),
  (40, .ireturn, 41, [0], [], [])]
/-- E_pence -/
def jc106 : jCode := [
  (0, .aload_n 0, 1, [], [], []),
  (1, .iload_n 2, 2, [], [], []),
  (2, .invokevirtual 152, 5, [119, 2, 1, 0, 11], [], []),
  (5, .ifCond .eq 14, 8, [19], [], [0, 1, 2]),
  (8, .iload_n 1, 9, [], [], []),
  (9, .iconst 0, 10, [], [], []),
  (10, .sipush 9999, 13, [], [], []),
  (13, .invokestatic 163, 16, [115, 3, 1, 0, 0], [], []),
  (16, .ifCond .ne 5, 19, [21], [0, 1, 2], []),
  (19, .iconst (-1), 20, [], [], []),
  (20, .ireturn, 21, [0], [], []),
  (21, .aload_n 0, 22, [], [], []),
  (22, .getfield 25, 25, [10, 3, 2, 6, 0], [], []),
  (25, .iload_n 1, 26, [], [], []),
  (26, .iload_n 2, 27, [], [], []),
  (27, .invokestatic 259, 30, [24, 3, 1, 0, 0], [], []),
  (30, .ireturn, 31, [0], [], [])]
/-- E_note -/
def jc107 : jCode := [
  (0, .iload_n 1, 1, [], [], []),
  (1, .iconst (-1), 2, [], [], []),
  (2, .if_icmp .ne 16, 5, [18], [], []),
  (5, .aload_n 0, 6, [], [], []),
  (6, .getfield 25, 9, [10, 3, 2, 6, 0], [], []),
  (9, .getfield 100, 12, [6, 2, 2, 3, 0], [], []),
  (12, .iconst 0, 13, [], [], []),
  (13, .putfield 104, 16, [3, 0, 0, 0, 0], [], []),
  (16, .iconst 0, 17, [], [], []),
  (17, .ireturn, 18, [0], [], []),
  (18, .iload_n 1, 19, [], [], []),
  (19, .iconst 0, 20, [], [], []),
  (20, .bipush 60, 22, [], [], []),
  (22, .invokestatic 163, 25, [115, 3, 1, 0, 0], [], []),
  (25, .ifCond .eq 24, 28, [49], [], [0, 1, 2, 3]),
  (28, .aload_n 0, 29, [], [], []),
  (29, .iload_n 2, 30, [], [], []),
  (30, .invokevirtual 118, 33, [117, 2, 1, 0, 11], [], []),
  (33, .ifCond .eq 16, 36, [49], [], [0, 1, 2, 3]),
  (36, .iload_n 3, 37, [], [], []),
  (37, .iconst (-1), 38, [], [], []),
  (38, .if_icmp .eq 14, 41, [52], [], []),
  (41, .aload_n 0, 42, [], [], []),
  (42, .iload_n 3, 43, [], [], []),
  (43, .invokevirtual 195, 46, [120, 2, 1, 0, 11], [], []),
  (46, .ifCond .ne 6, 49, [52], [0, 1, 2, 3], []),
  (49, .bipush (-2), 51, [], [], []),
  (51, .ireturn, 52, [0], [], []),
  (52, .aload_n 0, 53, [], [], []),
  (53, .getfield 25, 56, [10, 3, 2, 6, 0], [], []),
  (56, .getfield 100, 59, [6, 2, 2, 3, 0], [], []),
  (59, .iload_n 1, 60, [], [], []),
  (60, .iload_n 2, 61, [], [], []),
  (61, .iload_n 3, 62, [], [], []),
  (62, .invokevirtual 263, 65, [26, 4, 1, 0, 4], [], []),
  (65, .ifCond .eq 16, 68, [81], [], []),
  (68, .aload_n 0, 69, [], [], []),
  (69, .getfield 25, 72, [10, 3, 2, 6, 0], [], []),
  (72, .getfield 100, 75, [6, 2, 2, 3, 0], [], []),
  (75, .getfield 104, 78, [3, 0, 0, 0, 0], [], []),
  (78, .goto 5, 81, [83], [], [0, 1, 2, 3]),
  (81, .bipush (-2), 83, [], [0, 1, 2, 3], []),
  (83, .ireturn, 84, [0], [], [])]
/-- E_ruled -/
def jc108 : jCode := [
  (0, .aload_n 0, 1, [], [], []),
  (1, .getfield 25, 4, [10, 3, 2, 6, 0], [], []),
  (4, .getfield 84, 7, [6, 0, 2, 4, 0], [], []),
  (7, .getfield 170, 10, [4, 0, 0, 0, 0], [], []),
  (10, .ifCond .eq 12, 13, [22], [], [0, 1]),
  (13, .iload_n 1, 14, [], [], []),
  (14, .iconst 0, 15, [], [], []),
  (15, .iconst 1, 16, [], [], []),
  (16, .invokestatic 163, 19, [115, 3, 1, 0, 0], [], []),
  (19, .ifCond .ne 6, 22, [25], [0, 1], []),
  (22, .bipush (-3), 24, [], [], []),
  (24, .ireturn, 25, [0], [], []),
  (25, .aload_n 0, 26, [], [], []),
  (26, .getfield 64, 29, [10, 9, 2, 2, 0], [], []),
  (29, .aload_n 0, 30, [], [], []),
  (30, .getfield 25, 33, [10, 3, 2, 6, 0], [], []),
  (33, .aload_n 0, 34, [], [], []),
  (34, .getfield 18, 37, [10, 1, 2, 44, 0], [], []),
  (37, .aload_n 0, 38, [], [], []),
  (38, .getfield 111, 41, [10, 2, 0, 0, 0], [], []),
  (41, .iconst 0, 42, [], [], []),
  (42, .invokevirtual 266, 45, [16, 5, 1, 0, 3], [], []),
  (45, .istore_n 2, 46, [], [], []),
  (46, .iload_n 1, 47, [], [], []),
  (47, .ifCond .ne 5, 50, [52], [], []),
  (50, .iload_n 2, 51, [], [], []),
  (51, .ireturn, 52, [0], [], []),
  (52, .iload_n 2, 53, [], [], []),
  (53, .ifCond .ne 8, 56, [61], [], []),
  (56, .bipush (-2), 58, [], [], []),
  (58, .goto 10, 61, [68], [], [0, 1, 2]),
  (61, .aload_n 0, 62, [], [], []),
  (62, .getfield 64, 65, [10, 9, 2, 2, 0], [], []),
  (65, .invokevirtual 270, 68, [17, 1, 1, 0, 3], [0, 1, 2], []),
  (68, .ireturn, 69, [0], [], [])]
/-- E_look -/
def jc109 : jCode := [
  (0, .aload_n 0, 1, [], [], []),
  (1, .getfield 25, 4, [10, 3, 2, 6, 0], [], []),
  (4, .getfield 84, 7, [6, 0, 2, 4, 0], [], []),
  (7, .getfield 170, 10, [4, 0, 0, 0, 0], [], []),
  (10, .ifCond .eq 22, 13, [32], [], [0, 1, 2]),
  (13, .iload_n 1, 14, [], [], []),
  (14, .iconst 0, 15, [], [], []),
  (15, .bipush 60, 17, [], [], []),
  (17, .invokestatic 163, 20, [115, 3, 1, 0, 0], [], []),
  (20, .ifCond .eq 12, 23, [32], [], [0, 1, 2]),
  (23, .iload_n 2, 24, [], [], []),
  (24, .iconst 0, 25, [], [], []),
  (25, .iconst 1, 26, [], [], []),
  (26, .invokestatic 163, 29, [115, 3, 1, 0, 0], [], []),
  (29, .ifCond .ne 5, 32, [34], [0, 1, 2], []),
  (32, .iconst (-1), 33, [], [], []),
  (33, .ireturn, 34, [0], [], []),
  (34, .aload_n 0, 35, [], [], []),
  (35, .getfield 64, 38, [10, 9, 2, 2, 0], [], []),
  (38, .aload_n 0, 39, [], [], []),
  (39, .getfield 25, 42, [10, 3, 2, 6, 0], [], []),
  (42, .aload_n 0, 43, [], [], []),
  (43, .getfield 18, 46, [10, 1, 2, 44, 0], [], []),
  (46, .aload_n 0, 47, [], [], []),
  (47, .getfield 111, 50, [10, 2, 0, 0, 0], [], []),
  (50, .iload_n 1, 51, [], [], []),
  (51, .invokevirtual 266, 54, [16, 5, 1, 0, 3], [], []),
  (54, .istore_n 3, 55, [], [], []),
  (55, .iload_n 3, 56, [], [], []),
  (56, .ifCond .eq 16, 59, [72], [], [0, 1, 2, 3]),
  (59, .aload_n 0, 60, [], [], []),
  (60, .getfield 25, 63, [10, 3, 2, 6, 0], [], []),
  (63, .getfield 84, 66, [6, 0, 2, 4, 0], [], []),
  (66, .getfield 108, 69, [4, 5, 0, 0, 0], [], []),
  (69, .ifCond .ne 6, 72, [75], [0, 1, 2, 3], []),
  (72, .bipush (-2), 74, [], [], []),
  (74, .ireturn, 75, [0], [], []),
  (75, .aload_n 0, 76, [], [], []),
  (76, .getfield 64, 79, [10, 9, 2, 2, 0], [], []),
  (79, .iload_n 3, 80, [], [], []),
  (80, .aload_n 0, 81, [], [], []),
  (81, .getfield 25, 84, [10, 3, 2, 6, 0], [], []),
  (84, .getfield 84, 87, [6, 0, 2, 4, 0], [], []),
  (87, .getfield 108, 90, [4, 5, 0, 0, 0], [], []),
  (90, .iload_n 2, 91, [], [], []),
  (91, .invokevirtual 273, 94, [19, 4, 1, 0, 3], [], []),
  (94, .ireturn, 95, [0], [], [])]
/-- E_seed -/
def jc110 : jCode := [
  (0, .iload_n 1, 1, [], [], []),
  (1, .ifCond .ge 5, 4, [6], [], []),
  (4, .iconst (-1), 5, [], [], []),
  (5, .ireturn, 6, [0], [], []),
  (6, .aload_n 0, 7, [], [], []),
  (7, .getfield 25, 10, [10, 3, 2, 6, 0], [], []),
  (10, .getfield 277, 13, [6, 4, 0, 0, 0], [], []),
  (13, .istore_n 2, 14, [], [], []),
  (14, .aload_n 0, 15, [], [], []),
  (15, .getfield 25, 18, [10, 3, 2, 6, 0], [], []),
  (18, .iload_n 1, 19, [], [], []),
  (19, .putfield 277, 22, [6, 4, 0, 0, 0], [], []),
  (22, .iload_n 2, 23, [], [], []),
  (23, .ireturn, 24, [0], [], [])]
/-- E_moons -/
def jc111 : jCode := [
  (0, .aload_n 0, 1, [], [], []),
  (1, .getfield 25, 4, [10, 3, 2, 6, 0], [], []),
  (4, .getfield 84, 7, [6, 0, 2, 4, 0], [], []),
  (7, .getfield 170, 10, [4, 0, 0, 0, 0], [], []),
  (10, .ifCond .eq 23, 13, [33], [], [0, 1, 2, 3, 4]),
  (13, .iload_n 1, 14, [], [], []),
  (14, .iconst 1, 15, [], [], []),
  (15, .bipush 10, 17, [], [], []),
  (17, .invokestatic 163, 20, [115, 3, 1, 0, 0], [], []),
  (20, .ifCond .eq 13, 23, [33], [], [0, 1, 2, 3, 4]),
  (23, .iload_n 2, 24, [], [], []),
  (24, .iconst 1, 25, [], [], []),
  (25, .bipush 60, 27, [], [], []),
  (27, .invokestatic 163, 30, [115, 3, 1, 0, 0], [], []),
  (30, .ifCond .ne 5, 33, [35], [0, 1, 2, 3, 4], []),
  (33, .iconst (-1), 34, [], [], []),
  (34, .ireturn, 35, [0], [], []),
  (35, .iload_n 3, 36, [], [], []),
  (36, .iconst 0, 37, [], [], []),
  (37, .bipush 100, 39, [], [], []),
  (39, .invokestatic 163, 42, [115, 3, 1, 0, 0], [], []),
  (42, .ifCond .eq 13, 45, [55], [], [0, 1, 2, 3, 4]),
  (45, .iload 4, 47, [], [], []),
  (47, .iconst 0, 48, [], [], []),
  (48, .iconst 1, 49, [], [], []),
  (49, .invokestatic 163, 52, [115, 3, 1, 0, 0], [], []),
  (52, .ifCond .ne 5, 55, [57], [0, 1, 2, 3, 4], []),
  (55, .iconst (-1), 56, [], [], []),
  (56, .ireturn, 57, [0], [], []),
  (57, .aload_n 0, 58, [], [], []),
  (58, .getfield 57, 61, [10, 8, 2, 1, 0], [], []),
  (61, .aload_n 0, 62, [], [], []),
  (62, .getfield 25, 65, [10, 3, 2, 6, 0], [], []),
  (65, .aload_n 0, 66, [], [], []),
  (66, .invokevirtual 181, 69, [124, 1, 3, 5, 11], [], []),
  (69, .iload_n 1, 70, [], [], []),
  (70, .iload_n 2, 71, [], [], []),
  (71, .iload_n 3, 72, [], [], []),
  (72, .iload 4, 74, [], [], []),
  (74, .invokevirtual 280, 77, [13, 7, 1, 0, 2], [], []),
  (77, .ireturn, 78, [0], [], [])]
/-- E_count -/
def jc112 : jCode := [
  (0, .iload_n 1, 1, [], [], []),
  (1, .tableswitch 217 0 14 #[75, 86, 97, 108, 119, 130, 141, 146, 154, 165, 173, 182, 193, 201, 209], 76, [218, 0, 76, 1, 87, 2, 98, 3, 109, 4, 120, 5, 131, 6, 142, 7, 147, 8, 155, 9, 166, 10, 174, 11, 183, 12, 194, 13, 202, 14, 210], [], []),
  (76, .aload_n 0, 77, [], [], []),
  (77, .getfield 25, 80, [10, 3, 2, 6, 0], [], []),
  (80, .getfield 84, 83, [6, 0, 2, 4, 0], [], []),
  (83, .getfield 283, 86, [4, 1, 0, 0, 0], [], []),
  (86, .ireturn, 87, [0], [], []),
  (87, .aload_n 0, 88, [], [], []),
  (88, .getfield 25, 91, [10, 3, 2, 6, 0], [], []),
  (91, .getfield 84, 94, [6, 0, 2, 4, 0], [], []),
  (94, .getfield 286, 97, [4, 2, 0, 0, 0], [], []),
  (97, .ireturn, 98, [0], [], []),
  (98, .aload_n 0, 99, [], [], []),
  (99, .getfield 25, 102, [10, 3, 2, 6, 0], [], []),
  (102, .getfield 84, 105, [6, 0, 2, 4, 0], [], []),
  (105, .invokevirtual 159, 108, [32, 1, 1, 0, 5], [], []),
  (108, .ireturn, 109, [0], [], []),
  (109, .aload_n 0, 110, [], [], []),
  (110, .getfield 25, 113, [10, 3, 2, 6, 0], [], []),
  (113, .getfield 84, 116, [6, 0, 2, 4, 0], [], []),
  (116, .getfield 289, 119, [4, 4, 0, 0, 0], [], []),
  (119, .ireturn, 120, [0], [], []),
  (120, .aload_n 0, 121, [], [], []),
  (121, .getfield 25, 124, [10, 3, 2, 6, 0], [], []),
  (124, .getfield 84, 127, [6, 0, 2, 4, 0], [], []),
  (127, .getfield 108, 130, [4, 5, 0, 0, 0], [], []),
  (130, .ireturn, 131, [0], [], []),
  (131, .aload_n 0, 132, [], [], []),
  (132, .getfield 25, 135, [10, 3, 2, 6, 0], [], []),
  (135, .getfield 84, 138, [6, 0, 2, 4, 0], [], []),
  (138, .getfield 292, 141, [4, 6, 0, 0, 0], [], []),
  (141, .ireturn, 142, [0], [], []),
  (142, .aload_n 0, 143, [], [], []),
  (143, .getfield 111, 146, [10, 2, 0, 0, 0], [], []),
  (146, .ireturn, 147, [0], [], []),
  (147, .aload_n 0, 148, [], [], []),
  (148, .getfield 25, 151, [10, 3, 2, 6, 0], [], []),
  (151, .getfield 115, 154, [6, 3, 0, 0, 0], [], []),
  (154, .ireturn, 155, [0], [], []),
  (155, .aload_n 0, 156, [], [], []),
  (156, .getfield 25, 159, [10, 3, 2, 6, 0], [], []),
  (159, .getfield 91, 162, [6, 1, 2, 9, 0], [], []),
  (162, .getfield 174, 165, [9, 0, 0, 0, 0], [], []),
  (165, .ireturn, 166, [0], [], []),
  (166, .aload_n 0, 167, [], [], []),
  (167, .getfield 25, 170, [10, 3, 2, 6, 0], [], []),
  (170, .invokevirtual 295, 173, [50, 1, 1, 0, 7], [], []),
  (173, .ireturn, 174, [0], [], []),
  (174, .aload_n 0, 175, [], [], []),
  (175, .getfield 25, 178, [10, 3, 2, 6, 0], [], []),
  (178, .iconst (-1), 179, [], [], []),
  (179, .invokevirtual 155, 182, [49, 2, 1, 0, 7], [], []),
  (182, .ireturn, 183, [0], [], []),
  (183, .aload_n 0, 184, [], [], []),
  (184, .getfield 25, 187, [10, 3, 2, 6, 0], [], []),
  (187, .getfield 100, 190, [6, 2, 2, 3, 0], [], []),
  (190, .getfield 104, 193, [3, 0, 0, 0, 0], [], []),
  (193, .ireturn, 194, [0], [], []),
  (194, .aload_n 0, 195, [], [], []),
  (195, .getfield 43, 198, [10, 6, 2, 0, 0], [], []),
  (198, .getfield 107, 201, [0, 2, 0, 0, 0], [], []),
  (201, .ireturn, 202, [0], [], []),
  (202, .aload_n 0, 203, [], [], []),
  (203, .getfield 25, 206, [10, 3, 2, 6, 0], [], []),
  (206, .getfield 277, 209, [6, 4, 0, 0, 0], [], []),
  (209, .ireturn, 210, [0], [], []),
  (210, .aload_n 0, 211, [], [], []),
  (211, .getfield 10, 214, [10, 0, 2, 8, 0], [], []),
  (214, .getfield 69, 217, [8, 1, 0, 0, 0], [], []),
  (217, .ireturn, 218, [0], [], []),
  (218, .iconst (-1), 219, [], [], []),
  (219, .ireturn, 220, [0], [], [])]
/-- E_image -/
def jc113 : jCode := [
  (0, .iload_n 1, 1, [], [], []),
  (1, .iconst 0, 2, [], [], []),
  (2, .iconst 3, 3, [], [], []),
  (3, .invokestatic 163, 6, [115, 3, 1, 0, 0], [], []),
  (6, .ifCond .ne 5, 9, [11], [], []),
  (9, .iconst (-1), 10, [], [], []),
  (10, .ireturn, 11, [0], [], []),
  (11, .aload_n 0, 12, [], [], []),
  (12, .getfield 29, 15, [10, 4, 2, 45, 0], [], []),
  (15, .iload_n 1, 16, [], [], []),
  (16, .aaload, 17, [45, 4, 6, 1], [], []),
  (17, .aload_n 0, 18, [], [], []),
  (18, .getfield 25, 21, [10, 3, 2, 6, 0], [], []),
  (21, .invokevirtual 298, 24, [48, 2, 0, 0, 7], [], []),
  (24, .aload_n 0, 25, [], [], []),
  (25, .getfield 29, 28, [10, 4, 2, 45, 0], [], []),
  (28, .iload_n 1, 29, [], [], []),
  (29, .aaload, 30, [45, 4, 6, 1], [], []),
  (30, .iconst 1, 31, [], [], []),
  (31, .putfield 301, 34, [6, 5, 4, 0, 0], [], []),
  (34, .aload_n 0, 35, [], [], []),
  (35, .getfield 25, 38, [10, 3, 2, 6, 0], [], []),
  (38, .getfield 91, 41, [6, 1, 2, 9, 0], [], []),
  (41, .getfield 174, 44, [9, 0, 0, 0, 0], [], []),
  (44, .ireturn, 45, [0], [], [])]
/-- E_back -/
def jc114 : jCode := [
  (0, .iload_n 1, 1, [], [], []),
  (1, .iconst 0, 2, [], [], []),
  (2, .iconst 3, 3, [], [], []),
  (3, .invokestatic 163, 6, [115, 3, 1, 0, 0], [], []),
  (6, .ifCond .eq 15, 9, [21], [], [0, 1]),
  (9, .aload_n 0, 10, [], [], []),
  (10, .getfield 29, 13, [10, 4, 2, 45, 0], [], []),
  (13, .iload_n 1, 14, [], [], []),
  (14, .aaload, 15, [45, 4, 6, 1], [], []),
  (15, .getfield 301, 18, [6, 5, 0, 0, 0], [], []),
  (18, .ifCond .ne 5, 21, [23], [0, 1], []),
  (21, .iconst (-1), 22, [], [], []),
  (22, .ireturn, 23, [0], [], []),
  (23, .aload_n 0, 24, [], [], []),
  (24, .getfield 25, 27, [10, 3, 2, 6, 0], [], []),
  (27, .aload_n 0, 28, [], [], []),
  (28, .getfield 29, 31, [10, 4, 2, 45, 0], [], []),
  (31, .iload_n 1, 32, [], [], []),
  (32, .aaload, 33, [45, 4, 6, 1], [], []),
  (33, .invokevirtual 298, 36, [48, 2, 0, 0, 7], [], []),
  (36, .aload_n 0, 37, [], [], []),
  (37, .getfield 43, 40, [10, 6, 2, 0, 0], [], []),
  (40, .iconst 0, 41, [], [], []),
  (41, .putfield 107, 44, [0, 2, 0, 0, 0], [], []),
  (44, .aload_n 0, 45, [], [], []),
  (45, .getfield 25, 48, [10, 3, 2, 6, 0], [], []),
  (48, .getfield 91, 51, [6, 1, 2, 9, 0], [], []),
  (51, .getfield 174, 54, [9, 0, 0, 0, 0], [], []),
  (54, .ireturn, 55, [0], [], [])]
/-- E_within -/
def jc115 : jCode := [
  (0, .iload_n 0, 1, [], [], []),
  (1, .iload_n 1, 2, [], [], []),
  (2, .if_icmp .lt 12, 5, [14], [], [0, 1, 2]),
  (5, .iload_n 0, 6, [], [], []),
  (6, .iload_n 2, 7, [], [], []),
  (7, .if_icmp .gt 7, 10, [14], [], [0, 1, 2]),
  (10, .iconst 1, 11, [], [], []),
  (11, .goto 4, 14, [15], [], [0, 1, 2]),
  (14, .iconst 0, 15, [], [0, 1, 2], []),
  (15, .ireturn, 16, [1], [], [])]
/-- E_isFreePlace -/
def jc116 : jCode := [
  (0, .iload_n 0, 1, [], [], []),
  (1, .iconst 0, 2, [], [], []),
  (2, .bipush 11, 4, [], [], []),
  (4, .invokestatic 163, 7, [115, 3, 1, 0, 0], [], []),
  (7, .ireturn, 8, [1], [], [])]
/-- E_isMemory -/
def jc117 : jCode := [
  (0, .iload_n 1, 1, [], [], []),
  (1, .iconst 0, 2, [], [], []),
  (2, .aload_n 0, 3, [], [], []),
  (3, .getfield 25, 6, [10, 3, 2, 6, 0], [], []),
  (6, .getfield 84, 9, [6, 0, 2, 4, 0], [], []),
  (9, .getfield 108, 12, [4, 5, 0, 0, 0], [], []),
  (12, .iconst 1, 13, [], [], []),
  (13, .isub, 14, [], [], []),
  (14, .invokestatic 163, 17, [115, 3, 1, 0, 0], [], []),
  (17, .ireturn, 18, [1], [], [])]
/-- E_isTrap -/
def jc118 : jCode := [
  (0, .iload_n 1, 1, [], [], []),
  (1, .iconst 0, 2, [], [], []),
  (2, .aload_n 0, 3, [], [], []),
  (3, .getfield 25, 6, [10, 3, 2, 6, 0], [], []),
  (6, .getfield 84, 9, [6, 0, 2, 4, 0], [], []),
  (9, .getfield 292, 12, [4, 6, 0, 0, 0], [], []),
  (12, .iconst 1, 13, [], [], []),
  (13, .isub, 14, [], [], []),
  (14, .invokestatic 163, 17, [115, 3, 1, 0, 0], [], []),
  (17, .ireturn, 18, [1], [], [])]
/-- E_isPerson -/
def jc119 : jCode := [
  (0, .iload_n 1, 1, [], [], []),
  (1, .iconst 0, 2, [], [], []),
  (2, .aload_n 0, 3, [], [], []),
  (3, .getfield 25, 6, [10, 3, 2, 6, 0], [], []),
  (6, .getfield 84, 9, [6, 0, 2, 4, 0], [], []),
  (9, .getfield 289, 12, [4, 4, 0, 0, 0], [], []),
  (12, .iconst 1, 13, [], [], []),
  (13, .isub, 14, [], [], []),
  (14, .invokestatic 163, 17, [115, 3, 1, 0, 0], [], []),
  (17, .ireturn, 18, [1], [], [])]
/-- E_isPool -/
def jc120 : jCode := [
  (0, .iload_n 1, 1, [], [], []),
  (1, .iconst 0, 2, [], [], []),
  (2, .aload_n 0, 3, [], [], []),
  (3, .getfield 25, 6, [10, 3, 2, 6, 0], [], []),
  (6, .getfield 84, 9, [6, 0, 2, 4, 0], [], []),
  (9, .getfield 283, 12, [4, 1, 0, 0, 0], [], []),
  (12, .iconst 1, 13, [], [], []),
  (13, .isub, 14, [], [], []),
  (14, .invokestatic 163, 17, [115, 3, 1, 0, 0], [], []),
  (17, .ireturn, 18, [1], [], [])]
/-- E_isEmptyTrap -/
def jc121 : jCode := [
  (0, .aload_n 0, 1, [], [], []),
  (1, .iload_n 1, 2, [], [], []),
  (2, .invokevirtual 134, 5, [118, 2, 1, 0, 11], [], []),
  (5, .ifCond .eq 23, 8, [28], [], [0, 1]),
  (8, .aload_n 0, 9, [], [], []),
  (9, .getfield 25, 12, [10, 3, 2, 6, 0], [], []),
  (12, .getfield 91, 15, [6, 1, 2, 9, 0], [], []),
  (15, .getfield 149, 18, [9, 6, 2, 43, 0], [], []),
  (18, .iload_n 1, 19, [], [], []),
  (19, .iaload, 20, [43, 4], [], []),
  (20, .iconst (-1), 21, [], [], []),
  (21, .if_icmp .ne 7, 24, [28], [], [0, 1]),
  (24, .iconst 1, 25, [], [], []),
  (25, .goto 4, 28, [29], [], [0, 1]),
  (28, .iconst 0, 29, [], [0, 1], []),
  (29, .ireturn, 30, [1], [], [])]
/-- E_isFree -/
def jc122 : jCode := [
  (0, .aload_n 0, 1, [], [], []),
  (1, .iload_n 1, 2, [], [], []),
  (2, .invokevirtual 118, 5, [117, 2, 1, 0, 11], [], []),
  (5, .ifCond .eq 25, 8, [30], [], [0, 1]),
  (8, .aload_n 0, 9, [], [], []),
  (9, .getfield 25, 12, [10, 3, 2, 6, 0], [], []),
  (12, .getfield 91, 15, [6, 1, 2, 9, 0], [], []),
  (15, .getfield 131, 18, [9, 1, 2, 38, 0], [], []),
  (18, .iload_n 1, 19, [], [], []),
  (19, .iaload, 20, [38, 6], [], []),
  (20, .invokestatic 304, 23, [116, 1, 1, 0, 0], [], []),
  (23, .ifCond .eq 7, 26, [30], [], [0, 1]),
  (26, .iconst 1, 27, [], [], []),
  (27, .goto 4, 30, [31], [], [0, 1]),
  (30, .iconst 0, 31, [], [0, 1], []),
  (31, .ireturn, 32, [1], [], [])]
/-- E_isHad -/
def jc123 : jCode := [
  (0, .aload_n 0, 1, [], [], []),
  (1, .iload_n 1, 2, [], [], []),
  (2, .invokevirtual 118, 5, [117, 2, 1, 0, 11], [], []),
  (5, .ifCond .eq 24, 8, [29], [], [0, 1]),
  (8, .aload_n 0, 9, [], [], []),
  (9, .getfield 25, 12, [10, 3, 2, 6, 0], [], []),
  (12, .getfield 91, 15, [6, 1, 2, 9, 0], [], []),
  (15, .getfield 131, 18, [9, 1, 2, 38, 0], [], []),
  (18, .iload_n 1, 19, [], [], []),
  (19, .iaload, 20, [38, 6], [], []),
  (20, .bipush 30, 22, [], [], []),
  (22, .if_icmp .lt 7, 25, [29], [], [0, 1]),
  (25, .iconst 1, 26, [], [], []),
  (26, .goto 4, 29, [30], [], [0, 1]),
  (29, .iconst 0, 30, [], [0, 1], []),
  (30, .ireturn, 31, [1], [], [])]
/-- E_ruling -/
def jc124 : jCode := [
  (0, .aload_n 0, 1, [], [], []),
  (1, .getfield 25, 4, [10, 3, 2, 6, 0], [], []),
  (4, .getfield 115, 7, [6, 3, 0, 0, 0], [], []),
  (7, .iconst 0, 8, [], [], []),
  (8, .aload_n 0, 9, [], [], []),
  (9, .getfield 111, 12, [10, 2, 0, 0, 0], [], []),
  (12, .iconst 1, 13, [], [], []),
  (13, .isub, 14, [], [], []),
  (14, .invokestatic 163, 17, [115, 3, 1, 0, 0], [], []),
  (17, .ifCond .eq 18, 20, [35], [], []),
  (20, .aload_n 0, 21, [], [], []),
  (21, .getfield 18, 24, [10, 1, 2, 44, 0], [], []),
  (24, .aload_n 0, 25, [], [], []),
  (25, .getfield 25, 28, [10, 3, 2, 6, 0], [], []),
  (28, .getfield 115, 31, [6, 3, 0, 0, 0], [], []),
  (31, .aaload, 32, [44, 6, 5, 0], [], []),
  (32, .goto 4, 35, [36], [], [0]),
  (35, .aconst_null, 36, [5], [0], []),
  (36, .areturn, 37, [5], [], [])]
/-- M_in -/
def jc125 : jCode := [
  (0, .lload_n 0, 1, [], [], []),
  (1, .lload_n 2, 2, [], [], []),
  (2, .lcmp, 3, [], [], []),
  (3, .ifCond .lt 14, 6, [17], [], [0, 2, 4]),
  (6, .lload_n 0, 7, [], [], []),
  (7, .lload 4, 9, [], [], []),
  (9, .lcmp, 10, [], [], []),
  (10, .ifCond .gt 7, 13, [17], [], [0, 2, 4]),
  (13, .iconst 1, 14, [], [], []),
  (14, .goto 4, 17, [18], [], [0, 2, 4]),
  (17, .iconst 0, 18, [], [0, 2, 4], []),
  (18, .ireturn, 19, [1], [], [])]
/-- M_isOf -/
def jc126 : jCode := [
  (0, .iload_n 0, 1, [], [], []),
  (1, .iload_n 1, 2, [], [], []),
  (2, .ishr, 3, [], [], []),
  (3, .iconst 1, 4, [], [], []),
  (4, .iand, 5, [], [], []),
  (5, .iconst 1, 6, [], [], []),
  (6, .if_icmp .ne 7, 9, [13], [], []),
  (9, .iconst 1, 10, [], [], []),
  (10, .goto 4, 13, [14], [], [0, 1]),
  (13, .iconst 0, 14, [], [0, 1], []),
  (14, .ireturn, 15, [1], [], [])]
/-- M_bits -/
def jc127 : jCode := [
  (0, .iconst 0, 1, [], [], []),
  (1, .istore_n 1, 2, [], [], []),
  (2, .iload_n 0, 3, [], [], []),
  (3, .istore_n 2, 4, [], [0], []),
  (4, .iload_n 2, 5, [], [], []),
  (5, .ifCond .eq 15, 8, [20], [], []),
  (8, .iinc 1 1, 11, [], [], []),
  (11, .iload_n 2, 12, [], [], []),
  (12, .iload_n 2, 13, [], [], []),
  (13, .iconst 1, 14, [], [], []),
  (14, .isub, 15, [], [], []),
  (15, .iand, 16, [], [], []),
  (16, .istore_n 2, 17, [], [], []),
  (17, .goto (-13), 20, [4], [], [0]),
  (20, .iload_n 1, 21, [], [], []),
  (21, .ireturn, 22, [0], [], [])]
/-- M_four -/
def jc128 : jCode := [
  (0, .bipush 24, 2, [], [], []),
  (2, .istore_n 2, 3, [], [], []),
  (3, .iload_n 2, 4, [], [], []),
  (4, .ifCond .lt 32, 7, [36], [], []),
  (7, .aload_n 0, 8, [], [], []),
  (8, .getfield 7, 11, [11, 0, 2, 46, 0], [], []),
  (11, .aload_n 0, 12, [], [], []),
  (12, .getfield 83, 15, [11, 1, 0, 0, 0], [], []),
  (15, .iload_n 1, 16, [], [], []),
  (16, .iload_n 2, 17, [], [], []),
  (17, .ishr, 18, [], [], []),
  (18, .i2b, 19, [], [], []),
  (19, .bastore, 20, [46, 400, 2], [], []),
  (20, .aload_n 0, 21, [], [], []),
  (21, .dup, 22, [], [], []),
  (22, .getfield 83, 25, [11, 1, 0, 0, 0], [], []),
  (25, .iconst 1, 26, [], [], []),
  (26, .iadd, 27, [], [], []),
  (27, .putfield 83, 30, [11, 1, 0, 0, 0], [], []),
  (30, .iinc 2 (-8), 33, [], [], []),
  (33, .goto (-30), 36, [3], [], []),
  (36, .return_, 37, [], [], [])]
/-- M_feed -/
def jc129 : jCode := [
  (0, .aload_n 0, 1, [], [], []),
  (1, .getfield 83, 4, [11, 1, 0, 0, 0], [], []),
  (4, .bipush 20, 6, [], [], []),
  (6, .iadd, 7, [], [], []),
  (7, .sipush 400, 10, [], [], []),
  (10, .if_icmp .le 5, 13, [15], [], []),
  (13, .iconst (-1), 14, [], [], []),
  (14, .ireturn, 15, [0], [], []),
  (15, .aload_n 0, 16, [], [], []),
  (16, .iload_n 1, 17, [], [], []),
  (17, .invokevirtual 86, 20, [128, 2, 0, 0, 12], [], []),
  (20, .aload_n 0, 21, [], [], []),
  (21, .iload_n 2, 22, [], [], []),
  (22, .invokevirtual 86, 25, [128, 2, 0, 0, 12], [], []),
  (25, .aload_n 0, 26, [], [], []),
  (26, .iload_n 3, 27, [], [], []),
  (27, .invokevirtual 86, 30, [128, 2, 0, 0, 12], [], []),
  (30, .aload_n 0, 31, [], [], []),
  (31, .iload 4, 33, [], [], []),
  (33, .invokevirtual 86, 36, [128, 2, 0, 0, 12], [], []),
  (36, .aload_n 0, 37, [], [], []),
  (37, .iload 5, 39, [], [], []),
  (39, .invokevirtual 86, 42, [128, 2, 0, 0, 12], [], []),
  (42, .aload_n 0, 43, [], [], []),
  (43, .getfield 83, 46, [11, 1, 0, 0, 0], [], []),
  (46, .ireturn, 47, [0], [], [])]
/-- M_end -/
def jc130 : jCode := [
  (0, .iload_n 1, 1, [], [], []),
  (1, .ifCond .lt 11, 4, [12], [], [0, 1]),
  (4, .iload_n 1, 5, [], [], []),
  (5, .aload_n 0, 6, [], [], []),
  (6, .getfield 83, 9, [11, 1, 0, 0, 0], [], []),
  (9, .if_icmp .le 5, 12, [14], [0, 1], []),
  (12, .iconst (-1), 13, [], [], []),
  (13, .ireturn, 14, [0], [], []),
  (14, .aload_n 0, 15, [], [], []),
  (15, .iload_n 1, 16, [], [], []),
  (16, .putfield 83, 19, [11, 1, 0, 0, 0], [], []),
  (19, .iload_n 1, 20, [], [], []),
  (20, .ireturn, 21, [0], [], [])]
/-- M_fails -/
def jc131 : jCode := [
  (0, .aload_n 0, 1, [], [], []),
  (1, .getfield 90, 4, [11, 9, 0, 0, 0], [], []),
  (4, .ifCond .ne 15, 7, [19], [], [0, 1, 2]),
  (7, .aload_n 0, 8, [], [], []),
  (8, .iconst 1, 9, [], [], []),
  (9, .bipush 8, 11, [], [], []),
  (11, .iload_n 2, 12, [], [], []),
  (12, .imul, 13, [], [], []),
  (13, .iadd, 14, [], [], []),
  (14, .iload_n 1, 15, [], [], []),
  (15, .iadd, 16, [], [], []),
  (16, .putfield 90, 19, [11, 9, 0, 0, 0], [0, 1, 2], []),
  (19, .iconst 0, 20, [], [], []),
  (20, .ireturn, 21, [1], [], [])]
/-- M_see -/
def jc132 : jCode := [
  (0, .aload_n 0, 1, [], [], []),
  (1, .getfield 93, 4, [11, 8, 0, 0, 0], [], []),
  (4, .aload_n 0, 5, [], [], []),
  (5, .getfield 83, 8, [11, 1, 0, 0, 0], [], []),
  (8, .if_icmp .ge 30, 11, [38], [], []),
  (11, .aload_n 0, 12, [], [], []),
  (12, .getfield 7, 15, [11, 0, 2, 46, 0], [], []),
  (15, .aload_n 0, 16, [], [], []),
  (16, .getfield 93, 19, [11, 8, 0, 0, 0], [], []),
  (19, .baload, 20, [46, 400], [], []),
  (20, .bipush 32, 22, [], [], []),
  (22, .if_icmp .ne 16, 25, [38], [], []),
  (25, .aload_n 0, 26, [], [], []),
  (26, .dup, 27, [], [], []),
  (27, .getfield 93, 30, [11, 8, 0, 0, 0], [], []),
  (30, .iconst 1, 31, [], [], []),
  (31, .iadd, 32, [], [], []),
  (32, .putfield 93, 35, [11, 8, 0, 0, 0], [], []),
  (35, .goto (-35), 38, [0], [], []),
  (38, .aload_n 0, 39, [], [], []),
  (39, .getfield 93, 42, [11, 8, 0, 0, 0], [], []),
  (42, .aload_n 0, 43, [], [], []),
  (43, .getfield 83, 46, [11, 1, 0, 0, 0], [], []),
  (46, .if_icmp .ge 19, 49, [65], [], []),
  (49, .aload_n 0, 50, [], [], []),
  (50, .getfield 7, 53, [11, 0, 2, 46, 0], [], []),
  (53, .aload_n 0, 54, [], [], []),
  (54, .getfield 93, 57, [11, 8, 0, 0, 0], [], []),
  (57, .baload, 58, [46, 400], [], []),
  (58, .sipush 255, 61, [], [], []),
  (61, .iand, 62, [], [], []),
  (62, .goto 4, 65, [66], [], [0]),
  (65, .iconst (-1), 66, [], [0], []),
  (66, .ireturn, 67, [0], [], [])]
/-- M_isDigit -/
def jc133 : jCode := [
  (0, .iload_n 1, 1, [], [], []),
  (1, .aload_n 0, 2, [], [], []),
  (2, .getfield 83, 5, [11, 1, 0, 0, 0], [], []),
  (5, .if_icmp .ge 29, 8, [34], [], [0, 1]),
  (8, .aload_n 0, 9, [], [], []),
  (9, .getfield 7, 12, [11, 0, 2, 46, 0], [], []),
  (12, .iload_n 1, 13, [], [], []),
  (13, .baload, 14, [46, 400], [], []),
  (14, .bipush 48, 16, [], [], []),
  (16, .if_icmp .lt 18, 19, [34], [], [0, 1]),
  (19, .aload_n 0, 20, [], [], []),
  (20, .getfield 7, 23, [11, 0, 2, 46, 0], [], []),
  (23, .iload_n 1, 24, [], [], []),
  (24, .baload, 25, [46, 400], [], []),
  (25, .bipush 57, 27, [], [], []),
  (27, .if_icmp .gt 7, 30, [34], [], [0, 1]),
  (30, .iconst 1, 31, [], [], []),
  (31, .goto 4, 34, [35], [], [0, 1]),
  (34, .iconst 0, 35, [], [0, 1], []),
  (35, .ireturn, 36, [1], [], [])]
/-- M_isLetter -/
def jc134 : jCode := [
  (0, .iload_n 1, 1, [], [], []),
  (1, .aload_n 0, 2, [], [], []),
  (2, .getfield 83, 5, [11, 1, 0, 0, 0], [], []),
  (5, .if_icmp .ge 29, 8, [34], [], [0, 1]),
  (8, .aload_n 0, 9, [], [], []),
  (9, .getfield 7, 12, [11, 0, 2, 46, 0], [], []),
  (12, .iload_n 1, 13, [], [], []),
  (13, .baload, 14, [46, 400], [], []),
  (14, .bipush 97, 16, [], [], []),
  (16, .if_icmp .lt 18, 19, [34], [], [0, 1]),
  (19, .aload_n 0, 20, [], [], []),
  (20, .getfield 7, 23, [11, 0, 2, 46, 0], [], []),
  (23, .iload_n 1, 24, [], [], []),
  (24, .baload, 25, [46, 400], [], []),
  (25, .bipush 122, 27, [], [], []),
  (27, .if_icmp .gt 7, 30, [34], [], [0, 1]),
  (30, .iconst 1, 31, [], [], []),
  (31, .goto 4, 34, [35], [], [0, 1]),
  (34, .iconst 0, 35, [], [0, 1], []),
  (35, .ireturn, 36, [1], [], [])]
/-- M_isWord -/
def jc135 : jCode := [
  (0, .aload_n 0, 1, [], [], []),
  (1, .invokevirtual 96, 4, [132, 1, 1, 0, 12], [], []),
  (4, .pop, 5, [], [], []),
  (5, .lconst 0, 6, [], [], []),
  (6, .lstore_n 3, 7, [], [], []),
  (7, .iconst 0, 8, [], [], []),
  (8, .istore 5, 10, [], [], []),
  (10, .aload_n 0, 11, [], [], []),
  (11, .aload_n 0, 12, [], [], []),
  (12, .getfield 93, 15, [11, 8, 0, 0, 0], [], []),
  (15, .iload 5, 17, [], [], []),
  (17, .iadd, 18, [], [], []),
  (18, .invokevirtual 100, 21, [134, 2, 1, 0, 12], [], []),
  (21, .ifCond .eq 35, 24, [56], [], []),
  (24, .iload 5, 26, [], [], []),
  (26, .bipush 8, 28, [], [], []),
  (28, .if_icmp .ge 22, 31, [50], [], []),
  (31, .lload_n 3, 32, [], [], []),
  (32, .bipush 8, 34, [], [], []),
  (34, .lshl, 35, [], [], []),
  (35, .aload_n 0, 36, [], [], []),
  (36, .getfield 7, 39, [11, 0, 2, 46, 0], [], []),
  (39, .aload_n 0, 40, [], [], []),
  (40, .getfield 93, 43, [11, 8, 0, 0, 0], [], []),
  (43, .iload 5, 45, [], [], []),
  (45, .iadd, 46, [], [], []),
  (46, .baload, 47, [46, 400], [], []),
  (47, .i2l, 48, [], [], []),
  (48, .lor, 49, [], [], []),
  (49, .lstore_n 3, 50, [], [], []),
  (50, .iinc 5 1, 53, [], [], []),
  (53, .goto (-43), 56, [10], [], []),
  (56, .iload 5, 58, [], [], []),
  (58, .ifCond .le 20, 61, [78], [], [0, 1, 3, 5]),
  (61, .iload 5, 63, [], [], []),
  (63, .bipush 8, 65, [], [], []),
  (65, .if_icmp .ge 13, 68, [78], [], [0, 1, 3, 5]),
  (68, .lload_n 3, 69, [], [], []),
  (69, .lload_n 1, 70, [], [], []),
  (70, .lcmp, 71, [], [], []),
  (71, .ifCond .ne 7, 74, [78], [], [0, 1, 3, 5]),
  (74, .iconst 1, 75, [], [], []),
  (75, .goto 4, 78, [79], [], [0, 1, 3, 5]),
  (78, .iconst 0, 79, [], [0, 1, 3, 5], []),
  (79, .ireturn, 80, [1], [], [])]
/-- M_passWord -/
def jc136 : jCode := [
  (0, .aload_n 0, 1, [], [], []),
  (1, .aload_n 0, 2, [], [], []),
  (2, .getfield 93, 5, [11, 8, 0, 0, 0], [], []),
  (5, .invokevirtual 100, 8, [134, 2, 1, 0, 12], [], []),
  (8, .ifCond .eq 16, 11, [24], [], []),
  (11, .aload_n 0, 12, [], [], []),
  (12, .dup, 13, [], [], []),
  (13, .getfield 93, 16, [11, 8, 0, 0, 0], [], []),
  (16, .iconst 1, 17, [], [], []),
  (17, .iadd, 18, [], [], []),
  (18, .putfield 93, 21, [11, 8, 0, 0, 0], [], []),
  (21, .goto (-21), 24, [0], [], []),
  (24, .return_, 25, [], [], [])]
/-- M_takesWord -/
def jc137 : jCode := [
  (0, .aload_n 0, 1, [], [], []),
  (1, .lload_n 1, 2, [], [], []),
  (2, .invokevirtual 104, 5, [135, 2, 1, 0, 12], [], []),
  (5, .ifCond .ne 5, 8, [10], [], []),
  (8, .iconst 0, 9, [], [], []),
  (9, .ireturn, 10, [1], [], []),
  (10, .aload_n 0, 11, [], [], []),
  (11, .invokevirtual 108, 14, [136, 1, 0, 0, 12], [], []),
  (14, .iconst 1, 15, [], [], []),
  (15, .ireturn, 16, [1], [], [])]
/-- M_numberHere -/
def jc138 : jCode := [
  (0, .aload_n 0, 1, [], [], []),
  (1, .invokevirtual 96, 4, [132, 1, 1, 0, 12], [], []),
  (4, .pop, 5, [], [], []),
  (5, .aload_n 0, 6, [], [], []),
  (6, .aload_n 0, 7, [], [], []),
  (7, .getfield 93, 10, [11, 8, 0, 0, 0], [], []),
  (10, .invokevirtual 111, 13, [133, 2, 1, 0, 12], [], []),
  (13, .ifCond .ne 13, 16, [26], [], []),
  (16, .aload_n 0, 17, [], [], []),
  (17, .iconst 0, 18, [], [], []),
  (18, .aload_n 0, 19, [], [], []),
  (19, .getfield 93, 22, [11, 8, 0, 0, 0], [], []),
  (22, .invokevirtual 114, 25, [131, 3, 1, 0, 12], [], []),
  (25, .ireturn, 26, [1], [], []),
  (26, .aload_n 0, 27, [], [], []),
  (27, .getfield 93, 30, [11, 8, 0, 0, 0], [], []),
  (30, .istore_n 3, 31, [], [], []),
  (31, .iconst 0, 32, [], [], []),
  (32, .istore 4, 34, [], [], []),
  (34, .aload_n 0, 35, [], [], []),
  (35, .aload_n 0, 36, [], [], []),
  (36, .getfield 93, 39, [11, 8, 0, 0, 0], [], []),
  (39, .invokevirtual 111, 42, [133, 2, 1, 0, 12], [], []),
  (42, .ifCond .eq 46, 45, [88], [], []),
  (45, .aload_n 0, 46, [], [], []),
  (46, .getfield 93, 49, [11, 8, 0, 0, 0], [], []),
  (49, .iload_n 3, 50, [], [], []),
  (50, .isub, 51, [], [], []),
  (51, .iconst 5, 52, [], [], []),
  (52, .if_icmp .ge 23, 55, [75], [], []),
  (55, .bipush 10, 57, [], [], []),
  (57, .iload 4, 59, [], [], []),
  (59, .imul, 60, [], [], []),
  (60, .aload_n 0, 61, [], [], []),
  (61, .getfield 7, 64, [11, 0, 2, 46, 0], [], []),
  (64, .aload_n 0, 65, [], [], []),
  (65, .getfield 93, 68, [11, 8, 0, 0, 0], [], []),
  (68, .baload, 69, [46, 400], [], []),
  (69, .iadd, 70, [], [], []),
  (70, .bipush 48, 72, [], [], []),
  (72, .isub, 73, [], [], []),
  (73, .istore 4, 75, [], [], []),
  (75, .aload_n 0, 76, [], [], []),
  (76, .dup, 77, [], [], []),
  (77, .getfield 93, 80, [11, 8, 0, 0, 0], [], []),
  (80, .iconst 1, 81, [], [], []),
  (81, .iadd, 82, [], [], []),
  (82, .putfield 93, 85, [11, 8, 0, 0, 0], [], []),
  (85, .goto (-51), 88, [34], [], []),
  (88, .aload_n 0, 89, [], [], []),
  (89, .iload 4, 91, [], [], []),
  (91, .putfield 118, 94, [11, 10, 0, 0, 0], [], []),
  (94, .aload_n 0, 95, [], [], []),
  (95, .getfield 93, 98, [11, 8, 0, 0, 0], [], []),
  (98, .iload_n 3, 99, [], [], []),
  (99, .isub, 100, [], [], []),
  (100, .iconst 5, 101, [], [], []),
  (101, .if_icmp .gt 16, 104, [117], [], [1, 2, 4]),
  (104, .iload 4, 106, [], [], []),
  (106, .i2l, 107, [], [], []),
  (107, .iload_n 1, 108, [], [], []),
  (108, .i2l, 109, [], [], []),
  (109, .iload_n 2, 110, [], [], []),
  (110, .i2l, 111, [], [], []),
  (111, .invokestatic 121, 114, [125, 3, 1, 0, 0], [], []),
  (114, .ifCond .ne 12, 117, [126], [1, 2, 4], [0, 1, 2, 3, 4]),
  (117, .aload_n 0, 118, [], [], []),
  (118, .iconst 1, 119, [], [], []),
  (119, .iload_n 3, 120, [], [], []),
  (120, .invokevirtual 114, 123, [131, 3, 1, 0, 12], [], []),
  (123, .ifCond .eq 7, 126, [130], [0, 1, 2, 3, 4], []),
  (126, .iconst 1, 127, [], [], []),
  (127, .goto 4, 130, [131], [], [0, 1, 2, 3, 4]),
  (130, .iconst 0, 131, [], [0, 1, 2, 3, 4], []),
  (131, .ireturn, 132, [1], [], [])]
/-- M_wordHere -/
def jc139 : jCode := [
  (0, .aload_n 0, 1, [], [], []),
  (1, .ldc2_w 125, 4, [120282395144825], [], []),
  (4, .invokevirtual 104, 7, [135, 2, 1, 0, 12], [], []),
  (7, .ifCond .eq 5, 10, [12], [], []),
  (10, .iconst 0, 11, [], [], []),
  (11, .ireturn, 12, [0], [], []),
  (12, .aload_n 0, 13, [], [], []),
  (13, .ldc2_w 127, 16, [1886351212], [], []),
  (16, .invokevirtual 104, 19, [135, 2, 1, 0, 12], [], []),
  (19, .ifCond .eq 5, 22, [24], [], []),
  (22, .iconst 1, 23, [], [], []),
  (23, .ireturn, 24, [0], [], []),
  (24, .aload_n 0, 25, [], [], []),
  (25, .ldc2_w 129, 28, [1718775661], [], []),
  (28, .invokevirtual 104, 31, [135, 2, 1, 0, 12], [], []),
  (31, .ifCond .eq 5, 34, [36], [], []),
  (34, .iconst 2, 35, [], [], []),
  (35, .ireturn, 36, [0], [], []),
  (36, .aload_n 0, 37, [], [], []),
  (37, .ldc2_w 131, 40, [1936292453], [], []),
  (40, .invokevirtual 104, 43, [135, 2, 1, 0, 12], [], []),
  (43, .ifCond .eq 5, 46, [48], [], []),
  (46, .iconst 3, 47, [], [], []),
  (47, .ireturn, 48, [0], [], []),
  (48, .aload_n 0, 49, [], [], []),
  (49, .ldc2_w 133, 52, [495756602476], [], []),
  (52, .invokevirtual 104, 55, [135, 2, 1, 0, 12], [], []),
  (55, .ifCond .eq 5, 58, [60], [], []),
  (58, .iconst 4, 59, [], [], []),
  (59, .ireturn, 60, [0], [], []),
  (60, .aload_n 0, 61, [], [], []),
  (61, .ldc2_w 135, 64, [1650551156], [], []),
  (64, .invokevirtual 104, 67, [135, 2, 1, 0, 12], [], []),
  (67, .ifCond .eq 5, 70, [72], [], []),
  (70, .iconst 5, 71, [], [], []),
  (71, .ireturn, 72, [0], [], []),
  (72, .aload_n 0, 73, [], [], []),
  (73, .ldc2_w 137, 76, [500135194739], [], []),
  (76, .invokevirtual 104, 79, [135, 2, 1, 0, 12], [], []),
  (79, .ifCond .eq 6, 82, [85], [], []),
  (82, .bipush 6, 84, [], [], []),
  (84, .ireturn, 85, [0], [], []),
  (85, .aload_n 0, 86, [], [], []),
  (86, .ldc2_w 139, 89, [2003399784], [], []),
  (89, .invokevirtual 104, 92, [135, 2, 1, 0, 12], [], []),
  (92, .ifCond .eq 6, 95, [98], [], []),
  (95, .bipush 7, 97, [], [], []),
  (97, .ireturn, 98, [0], [], []),
  (98, .aload_n 0, 99, [], [], []),
  (99, .ldc2_w 141, 102, [465624852596], [], []),
  (102, .invokevirtual 104, 105, [135, 2, 1, 0, 12], [], []),
  (105, .ifCond .eq 6, 108, [111], [], []),
  (108, .bipush 8, 110, [], [], []),
  (110, .ireturn, 111, [0], [], []),
  (111, .aload_n 0, 112, [], [], []),
  (112, .ldc2_w 143, 115, [1852143732], [], []),
  (115, .invokevirtual 104, 118, [135, 2, 1, 0, 12], [], []),
  (118, .ifCond .eq 6, 121, [124], [], []),
  (121, .bipush 9, 123, [], [], []),
  (123, .ireturn, 124, [0], [], []),
  (124, .aload_n 0, 125, [], [], []),
  (125, .ldc2_w 145, 128, [512853242725], [], []),
  (128, .invokevirtual 104, 131, [135, 2, 1, 0, 12], [], []),
  (131, .ifCond .eq 8, 134, [139], [], []),
  (134, .bipush 10, 136, [], [], []),
  (136, .goto 19, 139, [155], [], [0]),
  (139, .aload_n 0, 140, [], [], []),
  (140, .ldc2_w 147, 143, [474214787188], [], []),
  (143, .invokevirtual 104, 146, [135, 2, 1, 0, 12], [], []),
  (146, .ifCond .eq 8, 149, [154], [], []),
  (149, .bipush 11, 151, [], [], []),
  (151, .goto 4, 154, [155], [], [0]),
  (154, .iconst (-1), 155, [], [0], []),
  (155, .ireturn, 156, [0], [], [])]
/-- M_puts -/
def jc140 : jCode := [
  (0, .aload_n 0, 1, [], [], []),
  (1, .getfield 13, 4, [11, 3, 2, 47, 0], [], []),
  (4, .sipush 400, 7, [], [], []),
  (7, .aload_n 0, 8, [], [], []),
  (8, .getfield 149, 11, [11, 11, 0, 0, 0], [], []),
  (11, .imul, 12, [], [], []),
  (12, .aload_n 0, 13, [], [], []),
  (13, .getfield 17, 16, [11, 4, 2, 48, 0], [], []),
  (16, .aload_n 0, 17, [], [], []),
  (17, .getfield 149, 20, [11, 11, 0, 0, 0], [], []),
  (20, .iaload, 21, [48, 7], [], []),
  (21, .iadd, 22, [], [], []),
  (22, .iload_n 1, 23, [], [], []),
  (23, .bipush 16, 25, [], [], []),
  (25, .iload_n 2, 26, [], [], []),
  (26, .imul, 27, [], [], []),
  (27, .iadd, 28, [], [], []),
  (28, .iastore, 29, [47, 2400, 0], [], []),
  (29, .aload_n 0, 30, [], [], []),
  (30, .getfield 17, 33, [11, 4, 2, 48, 0], [], []),
  (33, .aload_n 0, 34, [], [], []),
  (34, .getfield 149, 37, [11, 11, 0, 0, 0], [], []),
  (37, .dup2, 38, [], [], []),
  (38, .iaload, 39, [48, 7], [], []),
  (39, .iconst 1, 40, [], [], []),
  (40, .iadd, 41, [], [], []),
  (41, .iastore, 42, [48, 7, 0], [], []),
  (42, .return_, 43, [], [], [])]
/-- M_makes -/
def jc141 : jCode := [
  (0, .aload_n 0, 1, [], [], []),
  (1, .getfield 152, 4, [11, 12, 0, 0, 0], [], []),
  (4, .bipush 60, 6, [], [], []),
  (6, .if_icmp .ne 10, 9, [16], [], []),
  (9, .aload_n 0, 10, [], [], []),
  (10, .iconst 3, 11, [], [], []),
  (11, .iload_n 1, 12, [], [], []),
  (12, .invokevirtual 114, 15, [131, 3, 1, 0, 12], [], []),
  (15, .ireturn, 16, [1], [], []),
  (16, .aload_n 0, 17, [], [], []),
  (17, .dup, 18, [], [], []),
  (18, .getfield 152, 21, [11, 12, 0, 0, 0], [], []),
  (21, .iconst 1, 22, [], [], []),
  (22, .iadd, 23, [], [], []),
  (23, .putfield 152, 26, [11, 12, 0, 0, 0], [], []),
  (26, .iconst 1, 27, [], [], []),
  (27, .ireturn, 28, [1], [], [])]
/-- M_opens -/
def jc142 : jCode := [
  (0, .aload_n 0, 1, [], [], []),
  (1, .getfield 155, 4, [11, 13, 0, 0, 0], [], []),
  (4, .bipush 10, 6, [], [], []),
  (6, .if_icmp .ne 13, 9, [19], [], []),
  (9, .aload_n 0, 10, [], [], []),
  (10, .iconst 2, 11, [], [], []),
  (11, .aload_n 0, 12, [], [], []),
  (12, .getfield 93, 15, [11, 8, 0, 0, 0], [], []),
  (15, .invokevirtual 114, 18, [131, 3, 1, 0, 12], [], []),
  (18, .ireturn, 19, [1], [], []),
  (19, .aload_n 0, 20, [], [], []),
  (20, .dup, 21, [], [], []),
  (21, .getfield 155, 24, [11, 13, 0, 0, 0], [], []),
  (24, .iconst 1, 25, [], [], []),
  (25, .iadd, 26, [], [], []),
  (26, .putfield 155, 29, [11, 13, 0, 0, 0], [], []),
  (29, .aload_n 0, 30, [], [], []),
  (30, .getfield 29, 33, [11, 15, 2, 52, 0], [], []),
  (33, .aload_n 0, 34, [], [], []),
  (34, .getfield 158, 37, [11, 16, 0, 0, 0], [], []),
  (37, .iload_n 1, 38, [], [], []),
  (38, .iastore, 39, [52, 400, 0], [], []),
  (39, .aload_n 0, 40, [], [], []),
  (40, .dup, 41, [], [], []),
  (41, .getfield 158, 44, [11, 16, 0, 0, 0], [], []),
  (44, .iconst 1, 45, [], [], []),
  (45, .iadd, 46, [], [], []),
  (46, .putfield 158, 49, [11, 16, 0, 0, 0], [], []),
  (49, .iconst 1, 50, [], [], []),
  (50, .ireturn, 51, [1], [], [])]
/-- M_strength -/
def jc143 : jCode := [
  (0, .iload_n 0, 1, [], [], []),
  (1, .bipush 13, 3, [], [], []),
  (3, .if_icmp .ne 7, 6, [10], [], []),
  (6, .iconst 1, 7, [], [], []),
  (7, .goto 24, 10, [31], [], [0]),
  (10, .iload_n 0, 11, [], [], []),
  (11, .bipush 12, 13, [], [], []),
  (13, .if_icmp .ne 7, 16, [20], [], []),
  (16, .iconst 2, 17, [], [], []),
  (17, .goto 14, 20, [31], [], [0]),
  (20, .iload_n 0, 21, [], [], []),
  (21, .bipush 11, 23, [], [], []),
  (23, .if_icmp .ne 7, 26, [30], [], []),
  (26, .iconst 3, 27, [], [], []),
  (27, .goto 4, 30, [31], [], [0]),
  (30, .iconst 0, 31, [], [0], []),
  (31, .ireturn, 32, [0], [], [])]
/-- M_layDown -/
def jc144 : jCode := [
  (0, .aload_n 0, 1, [], [], []),
  (1, .getfield 158, 4, [11, 16, 0, 0, 0], [], []),
  (4, .ifCond .le 72, 7, [76], [], [0, 1]),
  (7, .aload_n 0, 8, [], [], []),
  (8, .getfield 29, 11, [11, 15, 2, 52, 0], [], []),
  (11, .aload_n 0, 12, [], [], []),
  (12, .getfield 158, 15, [11, 16, 0, 0, 0], [], []),
  (15, .iconst 1, 16, [], [], []),
  (16, .isub, 17, [], [], []),
  (17, .iaload, 18, [52, 400], [], []),
  (18, .invokestatic 161, 21, [143, 1, 1, 0, 0], [], []),
  (21, .iload_n 1, 22, [], [], []),
  (22, .if_icmp .lt 54, 25, [76], [], [0, 1]),
  (25, .aload_n 0, 26, [], [], []),
  (26, .dup, 27, [], [], []),
  (27, .getfield 158, 30, [11, 16, 0, 0, 0], [], []),
  (30, .iconst 1, 31, [], [], []),
  (31, .isub, 32, [], [], []),
  (32, .putfield 158, 35, [11, 16, 0, 0, 0], [], []),
  (35, .aload_n 0, 36, [], [], []),
  (36, .aload_n 0, 37, [], [], []),
  (37, .getfield 29, 40, [11, 15, 2, 52, 0], [], []),
  (40, .aload_n 0, 41, [], [], []),
  (41, .getfield 158, 44, [11, 16, 0, 0, 0], [], []),
  (44, .iaload, 45, [52, 400], [], []),
  (45, .iconst 0, 46, [], [], []),
  (46, .invokevirtual 165, 49, [140, 3, 0, 0, 12], [], []),
  (49, .aload_n 0, 50, [], [], []),
  (50, .getfield 29, 53, [11, 15, 2, 52, 0], [], []),
  (53, .aload_n 0, 54, [], [], []),
  (54, .getfield 158, 57, [11, 16, 0, 0, 0], [], []),
  (57, .iaload, 58, [52, 400], [], []),
  (58, .bipush 11, 60, [], [], []),
  (60, .if_icmp .ne (-60), 63, [0], [], []),
  (63, .aload_n 0, 64, [], [], []),
  (64, .dup, 65, [], [], []),
  (65, .getfield 155, 68, [11, 13, 0, 0, 0], [], []),
  (68, .iconst 1, 69, [], [], []),
  (69, .isub, 70, [], [], []),
  (70, .putfield 155, 73, [11, 13, 0, 0, 0], [], []),
  (73, .goto (-73), 76, [0], [], []),
  (76, .return_, 77, [], [], [])]
/-- M_value -/
def jc145 : jCode := [
  (0, .aload_n 0, 1, [], [], []),
  (1, .invokevirtual 96, 4, [132, 1, 1, 0, 12], [], []),
  (4, .pop, 5, [], [], []),
  (5, .aload_n 0, 6, [], [], []),
  (6, .getfield 93, 9, [11, 8, 0, 0, 0], [], []),
  (9, .istore_n 1, 10, [], [], []),
  (10, .aload_n 0, 11, [], [], []),
  (11, .aload_n 0, 12, [], [], []),
  (12, .getfield 93, 15, [11, 8, 0, 0, 0], [], []),
  (15, .invokevirtual 111, 18, [133, 2, 1, 0, 12], [], []),
  (18, .ifCond .eq 34, 21, [52], [], []),
  (21, .aload_n 0, 22, [], [], []),
  (22, .iconst 0, 23, [], [], []),
  (23, .ldc 169, 25, [0, 99999, 0], [], []),
  (25, .invokevirtual 170, 28, [138, 3, 1, 0, 12], [], []),
  (28, .ifCond .eq 11, 31, [39], [], [0, 1]),
  (31, .aload_n 0, 32, [], [], []),
  (32, .iload_n 1, 33, [], [], []),
  (33, .invokevirtual 173, 36, [141, 2, 1, 0, 12], [], []),
  (36, .ifCond .ne 5, 39, [41], [0, 1], []),
  (39, .iconst 0, 40, [], [], []),
  (40, .ireturn, 41, [1], [], []),
  (41, .aload_n 0, 42, [], [], []),
  (42, .iconst 0, 43, [], [], []),
  (43, .aload_n 0, 44, [], [], []),
  (44, .getfield 118, 47, [11, 10, 0, 0, 0], [], []),
  (47, .invokevirtual 165, 50, [140, 3, 0, 0, 12], [], []),
  (50, .iconst 1, 51, [], [], []),
  (51, .ireturn, 52, [1], [], []),
  (52, .aload_n 0, 53, [], [], []),
  (53, .invokevirtual 176, 56, [139, 1, 1, 0, 12], [], []),
  (56, .istore_n 2, 57, [], [], []),
  (57, .iload_n 2, 58, [], [], []),
  (58, .ifCond .ge 10, 61, [68], [], []),
  (61, .aload_n 0, 62, [], [], []),
  (62, .iconst 0, 63, [], [], []),
  (63, .iload_n 1, 64, [], [], []),
  (64, .invokevirtual 114, 67, [131, 3, 1, 0, 12], [], []),
  (67, .ireturn, 68, [1], [], []),
  (68, .aload_n 0, 69, [], [], []),
  (69, .iload_n 1, 70, [], [], []),
  (70, .invokevirtual 173, 73, [141, 2, 1, 0, 12], [], []),
  (73, .ifCond .ne 5, 76, [78], [], []),
  (76, .iconst 0, 77, [], [], []),
  (77, .ireturn, 78, [1], [], []),
  (78, .aload_n 0, 79, [], [], []),
  (79, .invokevirtual 108, 82, [136, 1, 0, 0, 12], [], []),
  (82, .aload_n 0, 83, [], [], []),
  (83, .iconst 1, 84, [], [], []),
  (84, .iload_n 2, 85, [], [], []),
  (85, .invokevirtual 165, 88, [140, 3, 0, 0, 12], [], []),
  (88, .iconst 1, 89, [], [], []),
  (89, .ireturn, 90, [1], [], [])]
/-- M_term -/
def jc146 : jCode := [
  (0, .aload_n 0, 1, [], [], []),
  (1, .invokevirtual 179, 4, [145, 1, 1, 0, 12], [], []),
  (4, .ifCond .ne 5, 7, [9], [], []),
  (7, .iconst 0, 8, [], [], []),
  (8, .ireturn, 9, [1], [], []),
  (9, .aload_n 0, 10, [], [], []),
  (10, .invokevirtual 96, 13, [132, 1, 1, 0, 12], [], []),
  (13, .bipush 42, 15, [], [], []),
  (15, .if_icmp .eq 21, 18, [36], [], []),
  (18, .aload_n 0, 19, [], [], []),
  (19, .invokevirtual 96, 22, [132, 1, 1, 0, 12], [], []),
  (22, .bipush 47, 24, [], [], []),
  (24, .if_icmp .eq 12, 27, [36], [], []),
  (27, .aload_n 0, 28, [], [], []),
  (28, .invokevirtual 96, 31, [132, 1, 1, 0, 12], [], []),
  (31, .bipush 37, 33, [], [], []),
  (33, .if_icmp .ne 70, 36, [103], [], []),
  (36, .aload_n 0, 37, [], [], []),
  (37, .getfield 7, 40, [11, 0, 2, 46, 0], [], []),
  (40, .aload_n 0, 41, [], [], []),
  (41, .getfield 93, 44, [11, 8, 0, 0, 0], [], []),
  (44, .baload, 45, [46, 400], [], []),
  (45, .bipush 42, 47, [], [], []),
  (47, .if_icmp .ne 7, 50, [54], [], []),
  (50, .iconst 4, 51, [], [], []),
  (51, .goto 23, 54, [74], [], []),
  (54, .aload_n 0, 55, [], [], []),
  (55, .getfield 7, 58, [11, 0, 2, 46, 0], [], []),
  (58, .aload_n 0, 59, [], [], []),
  (59, .getfield 93, 62, [11, 8, 0, 0, 0], [], []),
  (62, .baload, 63, [46, 400], [], []),
  (63, .bipush 47, 65, [], [], []),
  (65, .if_icmp .ne 7, 68, [72], [], []),
  (68, .iconst 5, 69, [], [], []),
  (69, .goto 5, 72, [74], [], []),
  (72, .bipush 14, 74, [], [], []),
  (74, .istore_n 1, 75, [], [], []),
  (75, .aload_n 0, 76, [], [], []),
  (76, .dup, 77, [], [], []),
  (77, .getfield 93, 80, [11, 8, 0, 0, 0], [], []),
  (80, .iconst 1, 81, [], [], []),
  (81, .iadd, 82, [], [], []),
  (82, .putfield 93, 85, [11, 8, 0, 0, 0], [], []),
  (85, .aload_n 0, 86, [], [], []),
  (86, .invokevirtual 179, 89, [145, 1, 1, 0, 12], [], []),
  (89, .ifCond .ne 5, 92, [94], [], []),
  (92, .iconst 0, 93, [], [], []),
  (93, .ireturn, 94, [1], [], []),
  (94, .aload_n 0, 95, [], [], []),
  (95, .iload_n 1, 96, [], [], []),
  (96, .iconst 0, 97, [], [], []),
  (97, .invokevirtual 165, 100, [140, 3, 0, 0, 12], [], []),
  (100, .goto (-91), 103, [9], [], [1]),
  (103, .iconst 1, 104, [], [], []),
  (104, .ireturn, 105, [1], [], [])]
/-- M_sum -/
def jc147 : jCode := [
  (0, .aload_n 0, 1, [], [], []),
  (1, .invokevirtual 183, 4, [146, 1, 1, 0, 12], [], []),
  (4, .ifCond .ne 5, 7, [9], [], []),
  (7, .iconst 0, 8, [], [], []),
  (8, .ireturn, 9, [1], [], []),
  (9, .aload_n 0, 10, [], [], []),
  (10, .invokevirtual 96, 13, [132, 1, 1, 0, 12], [], []),
  (13, .bipush 43, 15, [], [], []),
  (15, .if_icmp .eq 12, 18, [27], [], []),
  (18, .aload_n 0, 19, [], [], []),
  (19, .invokevirtual 96, 22, [132, 1, 1, 0, 12], [], []),
  (22, .bipush 45, 24, [], [], []),
  (24, .if_icmp .ne 51, 27, [75], [], []),
  (27, .aload_n 0, 28, [], [], []),
  (28, .getfield 7, 31, [11, 0, 2, 46, 0], [], []),
  (31, .aload_n 0, 32, [], [], []),
  (32, .getfield 93, 35, [11, 8, 0, 0, 0], [], []),
  (35, .baload, 36, [46, 400], [], []),
  (36, .bipush 43, 38, [], [], []),
  (38, .if_icmp .ne 7, 41, [45], [], []),
  (41, .iconst 2, 42, [], [], []),
  (42, .goto 4, 45, [46], [], []),
  (45, .iconst 3, 46, [], [], []),
  (46, .istore_n 1, 47, [], [], []),
  (47, .aload_n 0, 48, [], [], []),
  (48, .dup, 49, [], [], []),
  (49, .getfield 93, 52, [11, 8, 0, 0, 0], [], []),
  (52, .iconst 1, 53, [], [], []),
  (53, .iadd, 54, [], [], []),
  (54, .putfield 93, 57, [11, 8, 0, 0, 0], [], []),
  (57, .aload_n 0, 58, [], [], []),
  (58, .invokevirtual 183, 61, [146, 1, 1, 0, 12], [], []),
  (61, .ifCond .ne 5, 64, [66], [], []),
  (64, .iconst 0, 65, [], [], []),
  (65, .ireturn, 66, [1], [], []),
  (66, .aload_n 0, 67, [], [], []),
  (67, .iload_n 1, 68, [], [], []),
  (68, .iconst 0, 69, [], [], []),
  (69, .invokevirtual 165, 72, [140, 3, 0, 0, 12], [], []),
  (72, .goto (-63), 75, [9], [], [1]),
  (75, .iconst 1, 76, [], [], []),
  (76, .ireturn, 77, [1], [], [])]
/-- M_compare -/
def jc148 : jCode := [
  (0, .aload_n 0, 1, [], [], []),
  (1, .invokevirtual 186, 4, [147, 1, 1, 0, 12], [], []),
  (4, .ifCond .ne 5, 7, [9], [], []),
  (7, .iconst 0, 8, [], [], []),
  (8, .ireturn, 9, [1], [], []),
  (9, .aload_n 0, 10, [], [], []),
  (10, .invokevirtual 96, 13, [132, 1, 1, 0, 12], [], []),
  (13, .istore_n 1, 14, [], [], []),
  (14, .aload_n 0, 15, [], [], []),
  (15, .getfield 93, 18, [11, 8, 0, 0, 0], [], []),
  (18, .istore_n 2, 19, [], [], []),
  (19, .iload_n 1, 20, [], [], []),
  (20, .bipush 60, 22, [], [], []),
  (22, .if_icmp .eq 22, 25, [44], [], []),
  (25, .iload_n 1, 26, [], [], []),
  (26, .bipush 61, 28, [], [], []),
  (28, .if_icmp .eq 16, 31, [44], [], []),
  (31, .iload_n 1, 32, [], [], []),
  (32, .bipush 62, 34, [], [], []),
  (34, .if_icmp .eq 10, 37, [44], [], []),
  (37, .aload_n 0, 38, [], [], []),
  (38, .iconst 0, 39, [], [], []),
  (39, .iload_n 2, 40, [], [], []),
  (40, .invokevirtual 114, 43, [131, 3, 1, 0, 12], [], []),
  (43, .ireturn, 44, [1], [], []),
  (44, .aload_n 0, 45, [], [], []),
  (45, .dup, 46, [], [], []),
  (46, .getfield 93, 49, [11, 8, 0, 0, 0], [], []),
  (49, .iconst 1, 50, [], [], []),
  (50, .iadd, 51, [], [], []),
  (51, .putfield 93, 54, [11, 8, 0, 0, 0], [], []),
  (54, .iload_n 1, 55, [], [], []),
  (55, .bipush 61, 57, [], [], []),
  (57, .if_icmp .eq 32, 60, [89], [], []),
  (60, .aload_n 0, 61, [], [], []),
  (61, .getfield 93, 64, [11, 8, 0, 0, 0], [], []),
  (64, .aload_n 0, 65, [], [], []),
  (65, .getfield 83, 68, [11, 1, 0, 0, 0], [], []),
  (68, .if_icmp .ge 21, 71, [89], [], []),
  (71, .aload_n 0, 72, [], [], []),
  (72, .getfield 7, 75, [11, 0, 2, 46, 0], [], []),
  (75, .aload_n 0, 76, [], [], []),
  (76, .getfield 93, 79, [11, 8, 0, 0, 0], [], []),
  (79, .baload, 80, [46, 400], [], []),
  (80, .bipush 61, 82, [], [], []),
  (82, .if_icmp .ne 7, 85, [89], [], []),
  (85, .iconst 1, 86, [], [], []),
  (86, .goto 4, 89, [90], [], []),
  (89, .iconst 0, 90, [], [], []),
  (90, .istore_n 3, 91, [], [], []),
  (91, .iload_n 3, 92, [], [], []),
  (92, .ifCond .eq 13, 95, [105], [], []),
  (95, .aload_n 0, 96, [], [], []),
  (96, .dup, 97, [], [], []),
  (97, .getfield 93, 100, [11, 8, 0, 0, 0], [], []),
  (100, .iconst 1, 101, [], [], []),
  (101, .iadd, 102, [], [], []),
  (102, .putfield 93, 105, [11, 8, 0, 0, 0], [], []),
  (105, .aload_n 0, 106, [], [], []),
  (106, .iload_n 2, 107, [], [], []),
  (107, .invokevirtual 173, 110, [141, 2, 1, 0, 12], [], []),
  (110, .ifCond .ne 5, 113, [115], [], []),
  (113, .iconst 0, 114, [], [], []),
  (114, .ireturn, 115, [1], [], []),
  (115, .iload_n 1, 116, [], [], []),
  (116, .bipush 60, 118, [], [], []),
  (118, .if_icmp .ne 15, 121, [133], [], []),
  (121, .iload_n 3, 122, [], [], []),
  (122, .ifCond .eq 7, 125, [129], [], []),
  (125, .iconst 1, 126, [], [], []),
  (126, .goto 26, 129, [152], [], [1, 2, 3]),
  (129, .iconst 0, 130, [], [], []),
  (130, .goto 22, 133, [152], [], [1, 2, 3]),
  (133, .iload_n 1, 134, [], [], []),
  (134, .bipush 61, 136, [], [], []),
  (136, .if_icmp .ne 7, 139, [143], [], []),
  (139, .iconst 2, 140, [], [], []),
  (140, .goto 12, 143, [152], [], [1, 2, 3]),
  (143, .iload_n 3, 144, [], [], []),
  (144, .ifCond .eq 7, 147, [151], [], []),
  (147, .iconst 3, 148, [], [], []),
  (148, .goto 4, 151, [152], [], [1, 2, 3]),
  (151, .iconst 4, 152, [], [1, 2, 3], []),
  (152, .istore 4, 154, [], [], []),
  (154, .aload_n 0, 155, [], [], []),
  (155, .invokevirtual 186, 158, [147, 1, 1, 0, 12], [], []),
  (158, .ifCond .ne 5, 161, [163], [], []),
  (161, .iconst 0, 162, [], [], []),
  (162, .ireturn, 163, [1], [], []),
  (163, .aload_n 0, 164, [], [], []),
  (164, .bipush 6, 166, [], [], []),
  (166, .iload 4, 168, [], [], []),
  (168, .iadd, 169, [], [], []),
  (169, .iconst 0, 170, [], [], []),
  (170, .invokevirtual 165, 173, [140, 3, 0, 0, 12], [], []),
  (173, .iconst 1, 174, [], [], []),
  (174, .ireturn, 175, [1], [], [])]
/-- M_fact -/
def jc149 : jCode := [
  (0, .iconst 1, 1, [], [], []),
  (1, .istore_n 1, 2, [], [], []),
  (2, .iload_n 1, 3, [], [], []),
  (3, .ifCond .eq 72, 6, [75], [], []),
  (6, .iconst 0, 7, [], [], []),
  (7, .istore_n 1, 8, [], [], []),
  (8, .aload_n 0, 9, [], [], []),
  (9, .invokevirtual 96, 12, [132, 1, 1, 0, 12], [], []),
  (12, .istore_n 2, 13, [], [], []),
  (13, .aload_n 0, 14, [], [], []),
  (14, .ldc2_w 189, 17, [7237492], [], []),
  (17, .invokevirtual 104, 20, [135, 2, 1, 0, 12], [], []),
  (20, .ifCond .eq 23, 23, [43], [], []),
  (23, .aload_n 0, 24, [], [], []),
  (24, .bipush 11, 26, [], [], []),
  (26, .invokevirtual 191, 29, [142, 2, 1, 0, 12], [], []),
  (29, .ifCond .ne 5, 32, [34], [], []),
  (32, .iconst 0, 33, [], [], []),
  (33, .ireturn, 34, [1], [], []),
  (34, .aload_n 0, 35, [], [], []),
  (35, .invokevirtual 108, 38, [136, 1, 0, 0, 12], [], []),
  (38, .iconst 1, 39, [], [], []),
  (39, .istore_n 1, 40, [], [], []),
  (40, .goto 32, 43, [72], [], [2]),
  (43, .iload_n 2, 44, [], [], []),
  (44, .bipush 91, 46, [], [], []),
  (46, .if_icmp .ne 26, 49, [72], [], [2]),
  (49, .aload_n 0, 50, [], [], []),
  (50, .bipush 91, 52, [], [], []),
  (52, .invokevirtual 191, 55, [142, 2, 1, 0, 12], [], []),
  (55, .ifCond .ne 5, 58, [60], [], []),
  (58, .iconst 0, 59, [], [], []),
  (59, .ireturn, 60, [1], [], []),
  (60, .aload_n 0, 61, [], [], []),
  (61, .dup, 62, [], [], []),
  (62, .getfield 93, 65, [11, 8, 0, 0, 0], [], []),
  (65, .iconst 1, 66, [], [], []),
  (66, .iadd, 67, [], [], []),
  (67, .putfield 93, 70, [11, 8, 0, 0, 0], [], []),
  (70, .iconst 1, 71, [], [], []),
  (71, .istore_n 1, 72, [], [2], []),
  (72, .goto (-70), 75, [2], [], [2]),
  (75, .aload_n 0, 76, [], [], []),
  (76, .invokevirtual 194, 79, [148, 1, 1, 0, 12], [], []),
  (79, .ireturn, 80, [1], [], [])]
/-- M_isInside -/
def jc150 : jCode := [
  (0, .iconst 0, 1, [], [], []),
  (1, .istore_n 1, 2, [], [], []),
  (2, .iload_n 1, 3, [], [], []),
  (3, .aload_n 0, 4, [], [], []),
  (4, .getfield 158, 7, [11, 16, 0, 0, 0], [], []),
  (7, .if_icmp .ge 22, 10, [29], [], []),
  (10, .aload_n 0, 11, [], [], []),
  (11, .getfield 29, 14, [11, 15, 2, 52, 0], [], []),
  (14, .iload_n 1, 15, [], [], []),
  (15, .iaload, 16, [52, 400], [], []),
  (16, .bipush 91, 18, [], [], []),
  (18, .if_icmp .ne 5, 21, [23], [], []),
  (21, .iconst 1, 22, [], [], []),
  (22, .ireturn, 23, [1], [], []),
  (23, .iinc 1 1, 26, [], [], []),
  (26, .goto (-24), 29, [2], [], []),
  (29, .iconst 0, 30, [], [], []),
  (30, .ireturn, 31, [1], [], [])]
/-- M_closes -/
def jc151 : jCode := [
  (0, .aload_n 0, 1, [], [], []),
  (1, .iconst 3, 2, [], [], []),
  (2, .invokevirtual 197, 5, [144, 2, 0, 0, 12], [], []),
  (5, .aload_n 0, 6, [], [], []),
  (6, .invokevirtual 96, 9, [132, 1, 1, 0, 12], [], []),
  (9, .bipush 93, 11, [], [], []),
  (11, .if_icmp .ne 53, 14, [64], [], [0]),
  (14, .aload_n 0, 15, [], [], []),
  (15, .invokevirtual 200, 18, [150, 1, 1, 0, 12], [], []),
  (18, .ifCond .eq 46, 21, [64], [], [0]),
  (21, .aload_n 0, 22, [], [], []),
  (22, .iconst 1, 23, [], [], []),
  (23, .invokevirtual 197, 26, [144, 2, 0, 0, 12], [], []),
  (26, .aload_n 0, 27, [], [], []),
  (27, .dup, 28, [], [], []),
  (28, .getfield 158, 31, [11, 16, 0, 0, 0], [], []),
  (31, .iconst 1, 32, [], [], []),
  (32, .isub, 33, [], [], []),
  (33, .putfield 158, 36, [11, 16, 0, 0, 0], [], []),
  (36, .aload_n 0, 37, [], [], []),
  (37, .dup, 38, [], [], []),
  (38, .getfield 155, 41, [11, 13, 0, 0, 0], [], []),
  (41, .iconst 1, 42, [], [], []),
  (42, .isub, 43, [], [], []),
  (43, .putfield 155, 46, [11, 13, 0, 0, 0], [], []),
  (46, .aload_n 0, 47, [], [], []),
  (47, .dup, 48, [], [], []),
  (48, .getfield 93, 51, [11, 8, 0, 0, 0], [], []),
  (51, .iconst 1, 52, [], [], []),
  (52, .iadd, 53, [], [], []),
  (53, .putfield 93, 56, [11, 8, 0, 0, 0], [], []),
  (56, .aload_n 0, 57, [], [], []),
  (57, .iconst 3, 58, [], [], []),
  (58, .invokevirtual 197, 61, [144, 2, 0, 0, 12], [], []),
  (61, .goto (-56), 64, [5], [], []),
  (64, .return_, 65, [], [], [])]
/-- M_tested -/
def jc152 : jCode := [
  (0, .aload_n 0, 1, [], [], []),
  (1, .iconst 0, 2, [], [], []),
  (2, .putfield 158, 5, [11, 16, 0, 0, 0], [], []),
  (5, .aload_n 0, 6, [], [], []),
  (6, .iconst 0, 7, [], [], []),
  (7, .putfield 155, 10, [11, 13, 0, 0, 0], [], []),
  (10, .iconst 1, 11, [], [], []),
  (11, .istore_n 1, 12, [], [], []),
  (12, .iload_n 1, 13, [], [], []),
  (13, .ifCond .eq 99, 16, [112], [], []),
  (16, .aload_n 0, 17, [], [], []),
  (17, .invokevirtual 203, 20, [149, 1, 1, 0, 12], [], []),
  (20, .ifCond .ne 5, 23, [25], [], []),
  (23, .iconst 0, 24, [], [], []),
  (24, .ireturn, 25, [1], [], []),
  (25, .aload_n 0, 26, [], [], []),
  (26, .invokevirtual 206, 29, [151, 1, 0, 0, 12], [], []),
  (29, .aload_n 0, 30, [], [], []),
  (30, .ldc2_w 209, 33, [6385252], [], []),
  (33, .invokevirtual 104, 36, [135, 2, 1, 0, 12], [], []),
  (36, .ifCond .ne 13, 39, [49], [], [1]),
  (39, .aload_n 0, 40, [], [], []),
  (40, .ldc2_w 211, 43, [28530], [], []),
  (43, .invokevirtual 104, 46, [135, 2, 1, 0, 12], [], []),
  (46, .ifCond .eq 7, 49, [53], [1], []),
  (49, .iconst 1, 50, [], [], []),
  (50, .goto 4, 53, [54], [], [1]),
  (53, .iconst 0, 54, [], [1], []),
  (54, .istore_n 1, 55, [], [], []),
  (55, .iload_n 1, 56, [], [], []),
  (56, .ifCond .eq (-44), 59, [12], [], []),
  (59, .aload_n 0, 60, [], [], []),
  (60, .ldc2_w 209, 63, [6385252], [], []),
  (63, .invokevirtual 104, 66, [135, 2, 1, 0, 12], [], []),
  (66, .ifCond .eq 8, 69, [74], [], []),
  (69, .bipush 12, 71, [], [], []),
  (71, .goto 5, 74, [76], [], []),
  (74, .bipush 13, 76, [], [], []),
  (76, .istore_n 2, 77, [], [], []),
  (77, .aload_n 0, 78, [], [], []),
  (78, .invokevirtual 108, 81, [136, 1, 0, 0, 12], [], []),
  (81, .aload_n 0, 82, [], [], []),
  (82, .iload_n 2, 83, [], [], []),
  (83, .invokestatic 161, 86, [143, 1, 1, 0, 0], [], []),
  (86, .invokevirtual 197, 89, [144, 2, 0, 0, 12], [], []),
  (89, .aload_n 0, 90, [], [], []),
  (90, .getfield 29, 93, [11, 15, 2, 52, 0], [], []),
  (93, .aload_n 0, 94, [], [], []),
  (94, .getfield 158, 97, [11, 16, 0, 0, 0], [], []),
  (97, .iload_n 2, 98, [], [], []),
  (98, .iastore, 99, [52, 400, 0], [], []),
  (99, .aload_n 0, 100, [], [], []),
  (100, .dup, 101, [], [], []),
  (101, .getfield 158, 104, [11, 16, 0, 0, 0], [], []),
  (104, .iconst 1, 105, [], [], []),
  (105, .iadd, 106, [], [], []),
  (106, .putfield 158, 109, [11, 16, 0, 0, 0], [], []),
  (109, .goto (-97), 112, [12], [], [2]),
  (112, .aload_n 0, 113, [], [], []),
  (113, .invokevirtual 200, 116, [150, 1, 1, 0, 12], [], []),
  (116, .ifCond .eq 18, 119, [134], [], []),
  (119, .aload_n 0, 120, [], [], []),
  (120, .invokevirtual 96, 123, [132, 1, 1, 0, 12], [], []),
  (123, .pop, 124, [], [], []),
  (124, .aload_n 0, 125, [], [], []),
  (125, .iconst 0, 126, [], [], []),
  (126, .aload_n 0, 127, [], [], []),
  (127, .getfield 93, 130, [11, 8, 0, 0, 0], [], []),
  (130, .invokevirtual 114, 133, [131, 3, 1, 0, 12], [], []),
  (133, .ireturn, 134, [1], [], []),
  (134, .aload_n 0, 135, [], [], []),
  (135, .iconst 1, 136, [], [], []),
  (136, .invokevirtual 197, 139, [144, 2, 0, 0, 12], [], []),
  (139, .iconst 1, 140, [], [], []),
  (140, .ireturn, 141, [1], [], [])]
/-- M_isGoHere -/
def jc153 : jCode := [
  (0, .aload_n 0, 1, [], [], []),
  (1, .invokevirtual 108, 4, [136, 1, 0, 0, 12], [], []),
  (4, .bipush 48, 6, [], [], []),
  (6, .aload_n 0, 7, [], [], []),
  (7, .getfield 149, 10, [11, 11, 0, 0, 0], [], []),
  (10, .imul, 11, [], [], []),
  (11, .iconst 4, 12, [], [], []),
  (12, .aload_n 0, 13, [], [], []),
  (13, .getfield 23, 16, [11, 6, 2, 50, 0], [], []),
  (16, .aload_n 0, 17, [], [], []),
  (17, .getfield 149, 20, [11, 11, 0, 0, 0], [], []),
  (20, .iaload, 21, [50, 6], [], []),
  (21, .imul, 22, [], [], []),
  (22, .iadd, 23, [], [], []),
  (23, .istore_n 1, 24, [], [], []),
  (24, .aload_n 0, 25, [], [], []),
  (25, .getfield 20, 28, [11, 5, 2, 49, 0], [], []),
  (28, .iload_n 1, 29, [], [], []),
  (29, .aload_n 0, 30, [], [], []),
  (30, .getfield 17, 33, [11, 4, 2, 48, 0], [], []),
  (33, .aload_n 0, 34, [], [], []),
  (34, .getfield 149, 37, [11, 11, 0, 0, 0], [], []),
  (37, .iaload, 38, [48, 7], [], []),
  (38, .iastore, 39, [49, 288, 0], [], []),
  (39, .aload_n 0, 40, [], [], []),
  (40, .invokevirtual 186, 43, [147, 1, 1, 0, 12], [], []),
  (43, .ifCond .ne 5, 46, [48], [], []),
  (46, .iconst 0, 47, [], [], []),
  (47, .ireturn, 48, [1], [], []),
  (48, .aload_n 0, 49, [], [], []),
  (49, .getfield 20, 52, [11, 5, 2, 49, 0], [], []),
  (52, .iload_n 1, 53, [], [], []),
  (53, .iconst 1, 54, [], [], []),
  (54, .iadd, 55, [], [], []),
  (55, .aload_n 0, 56, [], [], []),
  (56, .getfield 17, 59, [11, 4, 2, 48, 0], [], []),
  (59, .aload_n 0, 60, [], [], []),
  (60, .getfield 149, 63, [11, 11, 0, 0, 0], [], []),
  (63, .iaload, 64, [48, 7], [], []),
  (64, .iastore, 65, [49, 288, 0], [], []),
  (65, .aload_n 0, 66, [], [], []),
  (66, .getfield 20, 69, [11, 5, 2, 49, 0], [], []),
  (69, .iload_n 1, 70, [], [], []),
  (70, .iconst 2, 71, [], [], []),
  (71, .iadd, 72, [], [], []),
  (72, .iconst (-1), 73, [], [], []),
  (73, .iastore, 74, [49, 288, 0], [], []),
  (74, .aload_n 0, 75, [], [], []),
  (75, .ldc2_w 213, 78, [26982], [], []),
  (78, .invokevirtual 215, 81, [137, 2, 1, 0, 12], [], []),
  (81, .ifCond .eq 29, 84, [110], [], []),
  (84, .aload_n 0, 85, [], [], []),
  (85, .getfield 20, 88, [11, 5, 2, 49, 0], [], []),
  (88, .iload_n 1, 89, [], [], []),
  (89, .iconst 2, 90, [], [], []),
  (90, .iadd, 91, [], [], []),
  (91, .aload_n 0, 92, [], [], []),
  (92, .getfield 17, 95, [11, 4, 2, 48, 0], [], []),
  (95, .aload_n 0, 96, [], [], []),
  (96, .getfield 149, 99, [11, 11, 0, 0, 0], [], []),
  (99, .iaload, 100, [48, 7], [], []),
  (100, .iastore, 101, [49, 288, 0], [], []),
  (101, .aload_n 0, 102, [], [], []),
  (102, .invokevirtual 218, 105, [152, 1, 1, 0, 12], [], []),
  (105, .ifCond .ne 5, 108, [110], [], []),
  (108, .iconst 0, 109, [], [], []),
  (109, .ireturn, 110, [1], [], []),
  (110, .aload_n 0, 111, [], [], []),
  (111, .getfield 20, 114, [11, 5, 2, 49, 0], [], []),
  (114, .iload_n 1, 115, [], [], []),
  (115, .iconst 3, 116, [], [], []),
  (116, .iadd, 117, [], [], []),
  (117, .aload_n 0, 118, [], [], []),
  (118, .getfield 17, 121, [11, 4, 2, 48, 0], [], []),
  (121, .aload_n 0, 122, [], [], []),
  (122, .getfield 149, 125, [11, 11, 0, 0, 0], [], []),
  (125, .iaload, 126, [48, 7], [], []),
  (126, .iastore, 127, [49, 288, 0], [], []),
  (127, .aload_n 0, 128, [], [], []),
  (128, .getfield 23, 131, [11, 6, 2, 50, 0], [], []),
  (131, .aload_n 0, 132, [], [], []),
  (132, .getfield 149, 135, [11, 11, 0, 0, 0], [], []),
  (135, .dup2, 136, [], [], []),
  (136, .iaload, 137, [50, 6], [], []),
  (137, .iconst 1, 138, [], [], []),
  (138, .iadd, 139, [], [], []),
  (139, .iastore, 140, [50, 6, 0], [], []),
  (140, .iconst 1, 141, [], [], []),
  (141, .ireturn, 142, [1], [], [])]
/-- M_cellHere -/
def jc154 : jCode := [
  (0, .aload_n 0, 1, [], [], []),
  (1, .iload_n 2, 2, [], [], []),
  (2, .iload_n 3, 3, [], [], []),
  (3, .invokevirtual 170, 6, [138, 3, 1, 0, 12], [], []),
  (6, .ifCond .ne 5, 9, [11], [], []),
  (9, .iconst 0, 10, [], [], []),
  (10, .ireturn, 11, [1], [], []),
  (11, .aload_n 0, 12, [], [], []),
  (12, .getfield 26, 15, [11, 7, 2, 51, 0], [], []),
  (15, .iload_n 1, 16, [], [], []),
  (16, .aload_n 0, 17, [], [], []),
  (17, .getfield 118, 20, [11, 10, 0, 0, 0], [], []),
  (20, .iastore, 21, [51, 81, 0], [], []),
  (21, .iconst 1, 22, [], [], []),
  (22, .ireturn, 23, [1], [], [])]
/-- M_isRiverHere -/
def jc155 : jCode := [
  (0, .aload_n 0, 1, [], [], []),
  (1, .getfield 26, 4, [11, 7, 2, 51, 0], [], []),
  (4, .iconst 0, 5, [], [], []),
  (5, .iaload, 6, [51, 81], [], []),
  (6, .ifCond .le 10, 9, [16], [], []),
  (9, .aload_n 0, 10, [], [], []),
  (10, .iconst 4, 11, [], [], []),
  (11, .iload_n 1, 12, [], [], []),
  (12, .invokevirtual 114, 15, [131, 3, 1, 0, 12], [], []),
  (15, .ireturn, 16, [1], [], []),
  (16, .aload_n 0, 17, [], [], []),
  (17, .invokevirtual 108, 20, [136, 1, 0, 0, 12], [], []),
  (20, .aload_n 0, 21, [], [], []),
  (21, .iconst 1, 22, [], [], []),
  (22, .iconst 2, 23, [], [], []),
  (23, .bipush 12, 25, [], [], []),
  (25, .invokevirtual 221, 28, [154, 4, 1, 0, 12], [], []),
  (28, .ifCond .eq 14, 31, [42], [], [0, 1]),
  (31, .aload_n 0, 32, [], [], []),
  (32, .iconst 2, 33, [], [], []),
  (33, .iconst 1, 34, [], [], []),
  (34, .bipush 9, 36, [], [], []),
  (36, .invokevirtual 221, 39, [154, 4, 1, 0, 12], [], []),
  (39, .ifCond .ne 5, 42, [44], [0, 1], []),
  (42, .iconst 0, 43, [], [], []),
  (43, .ireturn, 44, [1], [], []),
  (44, .aload_n 0, 45, [], [], []),
  (45, .getfield 26, 48, [11, 7, 2, 51, 0], [], []),
  (48, .iconst 0, 49, [], [], []),
  (49, .iconst 1, 50, [], [], []),
  (50, .iastore, 51, [51, 81, 0], [], []),
  (51, .iconst 1, 52, [], [], []),
  (52, .ireturn, 53, [1], [], [])]
/-- M_isMoonHere -/
def jc156 : jCode := [
  (0, .aload_n 0, 1, [], [], []),
  (1, .getfield 26, 4, [11, 7, 2, 51, 0], [], []),
  (4, .iconst 3, 5, [], [], []),
  (5, .iaload, 6, [51, 81], [], []),
  (6, .bipush 12, 8, [], [], []),
  (8, .if_icmp .ne 10, 11, [18], [], []),
  (11, .aload_n 0, 12, [], [], []),
  (12, .iconst 4, 13, [], [], []),
  (13, .iload_n 1, 14, [], [], []),
  (14, .invokevirtual 114, 17, [131, 3, 1, 0, 12], [], []),
  (17, .ireturn, 18, [1], [], []),
  (18, .aload_n 0, 19, [], [], []),
  (19, .invokevirtual 108, 22, [136, 1, 0, 0, 12], [], []),
  (22, .aload_n 0, 23, [], [], []),
  (23, .bipush 55, 25, [], [], []),
  (25, .aload_n 0, 26, [], [], []),
  (26, .getfield 26, 29, [11, 7, 2, 51, 0], [], []),
  (29, .iconst 3, 30, [], [], []),
  (30, .iaload, 31, [51, 81], [], []),
  (31, .iadd, 32, [], [], []),
  (32, .iconst 0, 33, [], [], []),
  (33, .bipush 9, 35, [], [], []),
  (35, .invokevirtual 221, 38, [154, 4, 1, 0, 12], [], []),
  (38, .ifCond .ne 5, 41, [43], [], []),
  (41, .iconst 0, 42, [], [], []),
  (42, .ireturn, 43, [1], [], []),
  (43, .aload_n 0, 44, [], [], []),
  (44, .getfield 26, 47, [11, 7, 2, 51, 0], [], []),
  (47, .iconst 3, 48, [], [], []),
  (48, .dup2, 49, [], [], []),
  (49, .iaload, 50, [51, 81], [], []),
  (50, .iconst 1, 51, [], [], []),
  (51, .iadd, 52, [], [], []),
  (52, .iastore, 53, [51, 81, 0], [], []),
  (53, .iconst 1, 54, [], [], []),
  (54, .ireturn, 55, [1], [], [])]
/-- M_isPersonHere -/
def jc157 : jCode := [
  (0, .aload_n 0, 1, [], [], []),
  (1, .getfield 26, 4, [11, 7, 2, 51, 0], [], []),
  (4, .iconst 4, 5, [], [], []),
  (5, .iaload, 6, [51, 81], [], []),
  (6, .iconst 4, 7, [], [], []),
  (7, .if_icmp .ne 10, 10, [17], [], []),
  (10, .aload_n 0, 11, [], [], []),
  (11, .iconst 4, 12, [], [], []),
  (12, .iload_n 1, 13, [], [], []),
  (13, .invokevirtual 114, 16, [131, 3, 1, 0, 12], [], []),
  (16, .ireturn, 17, [1], [], []),
  (17, .aload_n 0, 18, [], [], []),
  (18, .invokevirtual 108, 21, [136, 1, 0, 0, 12], [], []),
  (21, .aload_n 0, 22, [], [], []),
  (22, .bipush 51, 24, [], [], []),
  (24, .aload_n 0, 25, [], [], []),
  (25, .getfield 26, 28, [11, 7, 2, 51, 0], [], []),
  (28, .iconst 4, 29, [], [], []),
  (29, .iaload, 30, [51, 81], [], []),
  (30, .iadd, 31, [], [], []),
  (31, .iconst 1, 32, [], [], []),
  (32, .bipush 9, 34, [], [], []),
  (34, .invokevirtual 221, 37, [154, 4, 1, 0, 12], [], []),
  (37, .ifCond .ne 5, 40, [42], [], []),
  (40, .iconst 0, 41, [], [], []),
  (41, .ireturn, 42, [1], [], []),
  (42, .aload_n 0, 43, [], [], []),
  (43, .getfield 26, 46, [11, 7, 2, 51, 0], [], []),
  (46, .iconst 4, 47, [], [], []),
  (47, .dup2, 48, [], [], []),
  (48, .iaload, 49, [51, 81], [], []),
  (49, .iconst 1, 50, [], [], []),
  (50, .iadd, 51, [], [], []),
  (51, .iastore, 52, [51, 81, 0], [], []),
  (52, .iconst 1, 53, [], [], []),
  (53, .ireturn, 54, [1], [], [])]
/-- M_isMemoryHere -/
def jc158 : jCode := [
  (0, .aload_n 0, 1, [], [], []),
  (1, .getfield 26, 4, [11, 7, 2, 51, 0], [], []),
  (4, .iconst 5, 5, [], [], []),
  (5, .iaload, 6, [51, 81], [], []),
  (6, .bipush 6, 8, [], [], []),
  (8, .if_icmp .ne 10, 11, [18], [], []),
  (11, .aload_n 0, 12, [], [], []),
  (12, .iconst 4, 13, [], [], []),
  (13, .iload_n 1, 14, [], [], []),
  (14, .invokevirtual 114, 17, [131, 3, 1, 0, 12], [], []),
  (17, .ireturn, 18, [1], [], []),
  (18, .aload_n 0, 19, [], [], []),
  (19, .invokevirtual 108, 22, [136, 1, 0, 0, 12], [], []),
  (22, .aload_n 0, 23, [], [], []),
  (23, .getfield 26, 26, [11, 7, 2, 51, 0], [], []),
  (26, .iconst 5, 27, [], [], []),
  (27, .iaload, 28, [51, 81], [], []),
  (28, .istore_n 2, 29, [], [], []),
  (29, .aload_n 0, 30, [], [], []),
  (30, .bipush 67, 32, [], [], []),
  (32, .iload_n 2, 33, [], [], []),
  (33, .iadd, 34, [], [], []),
  (34, .iconst 0, 35, [], [], []),
  (35, .aload_n 0, 36, [], [], []),
  (36, .getfield 26, 39, [11, 7, 2, 51, 0], [], []),
  (39, .iconst 1, 40, [], [], []),
  (40, .iaload, 41, [51, 81], [], []),
  (41, .iconst 1, 42, [], [], []),
  (42, .isub, 43, [], [], []),
  (43, .invokevirtual 221, 46, [154, 4, 1, 0, 12], [], []),
  (46, .ifCond .eq 17, 49, [63], [], [0, 1, 2]),
  (49, .aload_n 0, 50, [], [], []),
  (50, .bipush 33, 52, [], [], []),
  (52, .iload_n 2, 53, [], [], []),
  (53, .iadd, 54, [], [], []),
  (54, .iconst 1, 55, [], [], []),
  (55, .bipush 9, 57, [], [], []),
  (57, .invokevirtual 221, 60, [154, 4, 1, 0, 12], [], []),
  (60, .ifCond .ne 5, 63, [65], [0, 1, 2], []),
  (63, .iconst 0, 64, [], [], []),
  (64, .ireturn, 65, [1], [], []),
  (65, .aload_n 0, 66, [], [], []),
  (66, .bipush 39, 68, [], [], []),
  (68, .iload_n 2, 69, [], [], []),
  (69, .iadd, 70, [], [], []),
  (70, .iconst 0, 71, [], [], []),
  (71, .bipush 7, 73, [], [], []),
  (73, .invokevirtual 221, 76, [154, 4, 1, 0, 12], [], []),
  (76, .ifCond .eq 23, 79, [99], [], [0, 1, 2]),
  (79, .aload_n 0, 80, [], [], []),
  (80, .bipush 45, 82, [], [], []),
  (82, .iload_n 2, 83, [], [], []),
  (83, .iadd, 84, [], [], []),
  (84, .iconst 0, 85, [], [], []),
  (85, .aload_n 0, 86, [], [], []),
  (86, .getfield 26, 89, [11, 7, 2, 51, 0], [], []),
  (89, .iconst 4, 90, [], [], []),
  (90, .iaload, 91, [51, 81], [], []),
  (91, .iconst 1, 92, [], [], []),
  (92, .isub, 93, [], [], []),
  (93, .invokevirtual 221, 96, [154, 4, 1, 0, 12], [], []),
  (96, .ifCond .ne 5, 99, [101], [0, 1, 2], []),
  (99, .iconst 0, 100, [], [], []),
  (100, .ireturn, 101, [1], [], []),
  (101, .aload_n 0, 102, [], [], []),
  (102, .getfield 26, 105, [11, 7, 2, 51, 0], [], []),
  (105, .iconst 5, 106, [], [], []),
  (106, .dup2, 107, [], [], []),
  (107, .iaload, 108, [51, 81], [], []),
  (108, .iconst 1, 109, [], [], []),
  (109, .iadd, 110, [], [], []),
  (110, .iastore, 111, [51, 81, 0], [], []),
  (111, .iconst 1, 112, [], [], []),
  (112, .ireturn, 113, [1], [], [])]
/-- M_isTrapHere -/
def jc159 : jCode := [
  (0, .aload_n 0, 1, [], [], []),
  (1, .getfield 26, 4, [11, 7, 2, 51, 0], [], []),
  (4, .bipush 6, 6, [], [], []),
  (6, .iaload, 7, [51, 81], [], []),
  (7, .iconst 4, 8, [], [], []),
  (8, .if_icmp .ne 10, 11, [18], [], []),
  (11, .aload_n 0, 12, [], [], []),
  (12, .iconst 4, 13, [], [], []),
  (13, .iload_n 1, 14, [], [], []),
  (14, .invokevirtual 114, 17, [131, 3, 1, 0, 12], [], []),
  (17, .ireturn, 18, [1], [], []),
  (18, .aload_n 0, 19, [], [], []),
  (19, .invokevirtual 108, 22, [136, 1, 0, 0, 12], [], []),
  (22, .aload_n 0, 23, [], [], []),
  (23, .getfield 26, 26, [11, 7, 2, 51, 0], [], []),
  (26, .bipush 6, 28, [], [], []),
  (28, .iaload, 29, [51, 81], [], []),
  (29, .istore_n 2, 30, [], [], []),
  (30, .aload_n 0, 31, [], [], []),
  (31, .bipush 73, 33, [], [], []),
  (33, .iconst 2, 34, [], [], []),
  (34, .iload_n 2, 35, [], [], []),
  (35, .imul, 36, [], [], []),
  (36, .iadd, 37, [], [], []),
  (37, .iconst 0, 38, [], [], []),
  (38, .aload_n 0, 39, [], [], []),
  (39, .getfield 26, 42, [11, 7, 2, 51, 0], [], []),
  (42, .iconst 1, 43, [], [], []),
  (43, .iaload, 44, [51, 81], [], []),
  (44, .iconst 1, 45, [], [], []),
  (45, .isub, 46, [], [], []),
  (46, .invokevirtual 221, 49, [154, 4, 1, 0, 12], [], []),
  (49, .ifCond .eq 17, 52, [66], [], [0, 1, 2]),
  (52, .aload_n 0, 53, [], [], []),
  (53, .bipush 25, 55, [], [], []),
  (55, .iload_n 2, 56, [], [], []),
  (56, .iadd, 57, [], [], []),
  (57, .iconst 1, 58, [], [], []),
  (58, .bipush 9, 60, [], [], []),
  (60, .invokevirtual 221, 63, [154, 4, 1, 0, 12], [], []),
  (63, .ifCond .ne 5, 66, [68], [0, 1, 2], []),
  (66, .iconst 0, 67, [], [], []),
  (67, .ireturn, 68, [1], [], []),
  (68, .aload_n 0, 69, [], [], []),
  (69, .bipush 73, 71, [], [], []),
  (71, .iconst 2, 72, [], [], []),
  (72, .iload_n 2, 73, [], [], []),
  (73, .imul, 74, [], [], []),
  (74, .iadd, 75, [], [], []),
  (75, .iconst 1, 76, [], [], []),
  (76, .iadd, 77, [], [], []),
  (77, .iconst 0, 78, [], [], []),
  (78, .bipush 7, 80, [], [], []),
  (80, .invokevirtual 221, 83, [154, 4, 1, 0, 12], [], []),
  (83, .ifCond .eq 23, 86, [106], [], [0, 1, 2]),
  (86, .aload_n 0, 87, [], [], []),
  (87, .bipush 29, 89, [], [], []),
  (89, .iload_n 2, 90, [], [], []),
  (90, .iadd, 91, [], [], []),
  (91, .iconst 0, 92, [], [], []),
  (92, .aload_n 0, 93, [], [], []),
  (93, .getfield 26, 96, [11, 7, 2, 51, 0], [], []),
  (96, .iconst 4, 97, [], [], []),
  (97, .iaload, 98, [51, 81], [], []),
  (98, .iconst 1, 99, [], [], []),
  (99, .isub, 100, [], [], []),
  (100, .invokevirtual 221, 103, [154, 4, 1, 0, 12], [], []),
  (103, .ifCond .ne 5, 106, [108], [0, 1, 2], []),
  (106, .iconst 0, 107, [], [], []),
  (107, .ireturn, 108, [1], [], []),
  (108, .aload_n 0, 109, [], [], []),
  (109, .getfield 26, 112, [11, 7, 2, 51, 0], [], []),
  (112, .bipush 6, 114, [], [], []),
  (114, .dup2, 115, [], [], []),
  (115, .iaload, 116, [51, 81], [], []),
  (116, .iconst 1, 117, [], [], []),
  (117, .iadd, 118, [], [], []),
  (118, .iastore, 119, [51, 81, 0], [], []),
  (119, .iconst 1, 120, [], [], []),
  (120, .ireturn, 121, [1], [], [])]
/-- M_riverLineHere -/
def jc160 : jCode := [
  (0, .aload_n 0, 1, [], [], []),
  (1, .ldc2_w 225, 4, [491395638642], [], []),
  (4, .invokevirtual 104, 7, [135, 2, 1, 0, 12], [], []),
  (7, .ifCond .eq 9, 10, [16], [], []),
  (10, .aload_n 0, 11, [], [], []),
  (11, .iload_n 1, 12, [], [], []),
  (12, .invokevirtual 227, 15, [155, 2, 1, 0, 12], [], []),
  (15, .ireturn, 16, [1], [], []),
  (16, .aload_n 0, 17, [], [], []),
  (17, .getfield 26, 20, [11, 7, 2, 51, 0], [], []),
  (20, .iconst 0, 21, [], [], []),
  (21, .iaload, 22, [51, 81], [], []),
  (22, .ifCond .ne 10, 25, [32], [], []),
  (25, .aload_n 0, 26, [], [], []),
  (26, .iconst 4, 27, [], [], []),
  (27, .iload_n 1, 28, [], [], []),
  (28, .invokevirtual 114, 31, [131, 3, 1, 0, 12], [], []),
  (31, .ireturn, 32, [1], [], []),
  (32, .aload_n 0, 33, [], [], []),
  (33, .ldc2_w 230, 36, [1836019566], [], []),
  (36, .invokevirtual 104, 39, [135, 2, 1, 0, 12], [], []),
  (39, .ifCond .eq 9, 42, [48], [], []),
  (42, .aload_n 0, 43, [], [], []),
  (43, .iload_n 1, 44, [], [], []),
  (44, .invokevirtual 232, 47, [156, 2, 1, 0, 12], [], []),
  (47, .ireturn, 48, [1], [], []),
  (48, .aload_n 0, 49, [], [], []),
  (49, .ldc2_w 235, 52, [123581014175598], [], []),
  (52, .invokevirtual 104, 55, [135, 2, 1, 0, 12], [], []),
  (55, .ifCond .eq 9, 58, [64], [], []),
  (58, .aload_n 0, 59, [], [], []),
  (59, .iload_n 1, 60, [], [], []),
  (60, .invokevirtual 237, 63, [157, 2, 1, 0, 12], [], []),
  (63, .ireturn, 64, [1], [], []),
  (64, .aload_n 0, 65, [], [], []),
  (65, .ldc2_w 125, 68, [120282395144825], [], []),
  (68, .invokevirtual 104, 71, [135, 2, 1, 0, 12], [], []),
  (71, .ifCond .eq 11, 74, [82], [], []),
  (74, .aload_n 0, 75, [], [], []),
  (75, .iload_n 1, 76, [], [], []),
  (76, .invokevirtual 240, 79, [158, 2, 1, 0, 12], [], []),
  (79, .goto 8, 82, [87], [], [0, 1]),
  (82, .aload_n 0, 83, [], [], []),
  (83, .iload_n 1, 84, [], [], []),
  (84, .invokevirtual 243, 87, [159, 2, 1, 0, 12], [0, 1], []),
  (87, .ireturn, 88, [1], [], [])]
/-- M_isRiverWord -/
def jc161 : jCode := [
  (0, .aload_n 0, 1, [], [], []),
  (1, .ldc2_w 225, 4, [491395638642], [], []),
  (4, .invokevirtual 104, 7, [135, 2, 1, 0, 12], [], []),
  (7, .ifCond .ne 43, 10, [50], [], [0]),
  (10, .aload_n 0, 11, [], [], []),
  (11, .ldc2_w 230, 14, [1836019566], [], []),
  (14, .invokevirtual 104, 17, [135, 2, 1, 0, 12], [], []),
  (17, .ifCond .ne 33, 20, [50], [], [0]),
  (20, .aload_n 0, 21, [], [], []),
  (21, .ldc2_w 235, 24, [123581014175598], [], []),
  (24, .invokevirtual 104, 27, [135, 2, 1, 0, 12], [], []),
  (27, .ifCond .ne 23, 30, [50], [], [0]),
  (30, .aload_n 0, 31, [], [], []),
  (31, .ldc2_w 125, 34, [120282395144825], [], []),
  (34, .invokevirtual 104, 37, [135, 2, 1, 0, 12], [], []),
  (37, .ifCond .ne 13, 40, [50], [], [0]),
  (40, .aload_n 0, 41, [], [], []),
  (41, .ldc2_w 246, 44, [1953653104], [], []),
  (44, .invokevirtual 104, 47, [135, 2, 1, 0, 12], [], []),
  (47, .ifCond .eq 7, 50, [54], [0], []),
  (50, .iconst 1, 51, [], [], []),
  (51, .goto 4, 54, [55], [], [0]),
  (54, .iconst 0, 55, [], [0], []),
  (55, .ireturn, 56, [1], [], [])]
/-- M_clauseHere -/
def jc162 : jCode := [
  (0, .aload_n 0, 1, [], [], []),
  (1, .invokevirtual 96, 4, [132, 1, 1, 0, 12], [], []),
  (4, .pop, 5, [], [], []),
  (5, .aload_n 0, 6, [], [], []),
  (6, .getfield 93, 9, [11, 8, 0, 0, 0], [], []),
  (9, .istore_n 1, 10, [], [], []),
  (10, .aload_n 0, 11, [], [], []),
  (11, .getfield 149, 14, [11, 11, 0, 0, 0], [], []),
  (14, .bipush 6, 16, [], [], []),
  (16, .if_icmp .ne 7, 19, [23], [], []),
  (19, .iconst 1, 20, [], [], []),
  (20, .goto 4, 23, [24], [], []),
  (23, .iconst 0, 24, [], [], []),
  (24, .istore_n 2, 25, [], [], []),
  (25, .iload_n 2, 26, [], [], []),
  (26, .ifCond .eq 13, 29, [39], [], []),
  (29, .aload_n 0, 30, [], [], []),
  (30, .invokevirtual 248, 33, [161, 1, 1, 0, 12], [], []),
  (33, .ifCond .ne 23, 36, [56], [], []),
  (36, .goto 13, 39, [49], [], [2]),
  (39, .aload_n 0, 40, [], [], []),
  (40, .ldc2_w 251, 43, [26479], [], []),
  (43, .invokevirtual 104, 46, [135, 2, 1, 0, 12], [], []),
  (46, .ifCond .ne 10, 49, [56], [2], []),
  (49, .aload_n 0, 50, [], [], []),
  (50, .iconst 0, 51, [], [], []),
  (51, .iload_n 1, 52, [], [], []),
  (52, .invokevirtual 114, 55, [131, 3, 1, 0, 12], [], []),
  (55, .ireturn, 56, [1], [], []),
  (56, .aload_n 0, 57, [], [], []),
  (57, .getfield 253, 60, [11, 14, 0, 0, 0], [], []),
  (60, .iload_n 2, 61, [], [], []),
  (61, .ifCond .eq 8, 64, [69], [], []),
  (64, .bipush 40, 66, [], [], []),
  (66, .goto 5, 69, [71], [], []),
  (69, .bipush 12, 71, [], [], []),
  (71, .if_icmp .ne 10, 74, [81], [], []),
  (74, .aload_n 0, 75, [], [], []),
  (75, .iconst 4, 76, [], [], []),
  (76, .iload_n 1, 77, [], [], []),
  (77, .invokevirtual 114, 80, [131, 3, 1, 0, 12], [], []),
  (80, .ireturn, 81, [1], [], []),
  (81, .aload_n 0, 82, [], [], []),
  (82, .dup, 83, [], [], []),
  (83, .getfield 253, 86, [11, 14, 0, 0, 0], [], []),
  (86, .iconst 1, 87, [], [], []),
  (87, .iadd, 88, [], [], []),
  (88, .putfield 253, 91, [11, 14, 0, 0, 0], [], []),
  (91, .iload_n 2, 92, [], [], []),
  (92, .ifCond .eq 11, 95, [103], [], []),
  (95, .aload_n 0, 96, [], [], []),
  (96, .iload_n 1, 97, [], [], []),
  (97, .invokevirtual 256, 100, [160, 2, 1, 0, 12], [], []),
  (100, .goto 7, 103, [107], [], [0, 1, 2]),
  (103, .aload_n 0, 104, [], [], []),
  (104, .invokevirtual 259, 107, [153, 1, 1, 0, 12], [0, 1, 2], []),
  (107, .ireturn, 108, [1], [], [])]
/-- M_readsAll -/
def jc163 : jCode := [
  (0, .aload_n 0, 1, [], [], []),
  (1, .getfield 17, 4, [11, 4, 2, 48, 0], [], []),
  (4, .aload_n 0, 5, [], [], []),
  (5, .getfield 149, 8, [11, 11, 0, 0, 0], [], []),
  (8, .iconst 0, 9, [], [], []),
  (9, .iastore, 10, [48, 7, 0], [], []),
  (10, .aload_n 0, 11, [], [], []),
  (11, .iconst 0, 12, [], [], []),
  (12, .putfield 253, 15, [11, 14, 0, 0, 0], [], []),
  (15, .aload_n 0, 16, [], [], []),
  (16, .iconst 0, 17, [], [], []),
  (17, .putfield 93, 20, [11, 8, 0, 0, 0], [], []),
  (20, .aload_n 0, 21, [], [], []),
  (21, .iconst 0, 22, [], [], []),
  (22, .putfield 90, 25, [11, 9, 0, 0, 0], [], []),
  (25, .aload_n 0, 26, [], [], []),
  (26, .iconst 0, 27, [], [], []),
  (27, .putfield 152, 30, [11, 12, 0, 0, 0], [], []),
  (30, .aload_n 0, 31, [], [], []),
  (31, .invokevirtual 262, 34, [162, 1, 1, 0, 12], [], []),
  (34, .istore_n 1, 35, [], [], []),
  (35, .iload_n 1, 36, [], [], []),
  (36, .ifCond .eq 30, 39, [66], [], []),
  (39, .aload_n 0, 40, [], [], []),
  (40, .invokevirtual 96, 43, [132, 1, 1, 0, 12], [], []),
  (43, .bipush 59, 45, [], [], []),
  (45, .if_icmp .ne 21, 48, [66], [], []),
  (48, .aload_n 0, 49, [], [], []),
  (49, .dup, 50, [], [], []),
  (50, .getfield 93, 53, [11, 8, 0, 0, 0], [], []),
  (53, .iconst 1, 54, [], [], []),
  (54, .iadd, 55, [], [], []),
  (55, .putfield 93, 58, [11, 8, 0, 0, 0], [], []),
  (58, .aload_n 0, 59, [], [], []),
  (59, .invokevirtual 262, 62, [162, 1, 1, 0, 12], [], []),
  (62, .istore_n 1, 63, [], [], []),
  (63, .goto (-28), 66, [35], [], []),
  (66, .iload_n 1, 67, [], [], []),
  (67, .ifCond .eq 21, 70, [88], [], [1]),
  (70, .aload_n 0, 71, [], [], []),
  (71, .invokevirtual 96, 74, [132, 1, 1, 0, 12], [], []),
  (74, .iconst (-1), 75, [], [], []),
  (75, .if_icmp .eq 13, 78, [88], [], [1]),
  (78, .aload_n 0, 79, [], [], []),
  (79, .iconst 0, 80, [], [], []),
  (80, .aload_n 0, 81, [], [], []),
  (81, .getfield 93, 84, [11, 8, 0, 0, 0], [], []),
  (84, .invokevirtual 114, 87, [131, 3, 1, 0, 12], [], []),
  (87, .pop, 88, [], [1], []),
  (88, .aload_n 0, 89, [], [], []),
  (89, .iconst 0, 90, [], [], []),
  (90, .putfield 83, 93, [11, 1, 0, 0, 0], [], []),
  (93, .aload_n 0, 94, [], [], []),
  (94, .getfield 90, 97, [11, 9, 0, 0, 0], [], []),
  (97, .ifCond .ne 7, 100, [104], [], []),
  (100, .iconst 1, 101, [], [], []),
  (101, .goto 4, 104, [105], [], [0, 1]),
  (104, .iconst 0, 105, [], [0, 1], []),
  (105, .ireturn, 106, [1], [], [])]
/-- M_rule -/
def jc164 : jCode := [
  (0, .aload_n 0, 1, [], [], []),
  (1, .getfield 265, 4, [11, 2, 0, 0, 0], [], []),
  (4, .bipush 6, 6, [], [], []),
  (6, .if_icmp .ne 5, 9, [11], [], []),
  (9, .iconst (-1), 10, [], [], []),
  (10, .ireturn, 11, [0], [], []),
  (11, .aload_n 0, 12, [], [], []),
  (12, .aload_n 0, 13, [], [], []),
  (13, .getfield 265, 16, [11, 2, 0, 0, 0], [], []),
  (16, .putfield 149, 19, [11, 11, 0, 0, 0], [], []),
  (19, .aload_n 0, 20, [], [], []),
  (20, .getfield 23, 23, [11, 6, 2, 50, 0], [], []),
  (23, .aload_n 0, 24, [], [], []),
  (24, .getfield 149, 27, [11, 11, 0, 0, 0], [], []),
  (27, .iconst 0, 28, [], [], []),
  (28, .iastore, 29, [50, 6, 0], [], []),
  (29, .aload_n 0, 30, [], [], []),
  (30, .invokevirtual 268, 33, [163, 1, 1, 0, 12], [], []),
  (33, .ifCond .ne 11, 36, [44], [], []),
  (36, .bipush (-2), 38, [], [], []),
  (38, .aload_n 0, 39, [], [], []),
  (39, .getfield 90, 42, [11, 9, 0, 0, 0], [], []),
  (42, .isub, 43, [], [], []),
  (43, .ireturn, 44, [0], [], []),
  (44, .aload_n 0, 45, [], [], []),
  (45, .dup, 46, [], [], []),
  (46, .getfield 265, 49, [11, 2, 0, 0, 0], [], []),
  (49, .iconst 1, 50, [], [], []),
  (50, .iadd, 51, [], [], []),
  (51, .putfield 265, 54, [11, 2, 0, 0, 0], [], []),
  (54, .aload_n 0, 55, [], [], []),
  (55, .getfield 265, 58, [11, 2, 0, 0, 0], [], []),
  (58, .iconst 1, 59, [], [], []),
  (59, .isub, 60, [], [], []),
  (60, .ireturn, 61, [0], [], [])]
/-- M_river -/
def jc165 : jCode := [
  (0, .aload_n 0, 1, [], [], []),
  (1, .bipush 6, 3, [], [], []),
  (3, .putfield 149, 6, [11, 11, 0, 0, 0], [], []),
  (6, .iconst 0, 7, [], [], []),
  (7, .istore_n 1, 8, [], [], []),
  (8, .iload_n 1, 9, [], [], []),
  (9, .bipush 81, 11, [], [], []),
  (11, .if_icmp .ge 16, 14, [27], [], []),
  (14, .aload_n 0, 15, [], [], []),
  (15, .getfield 26, 18, [11, 7, 2, 51, 0], [], []),
  (18, .iload_n 1, 19, [], [], []),
  (19, .iconst 0, 20, [], [], []),
  (20, .iastore, 21, [51, 81, 0], [], []),
  (21, .iinc 1 1, 24, [], [], []),
  (24, .goto (-16), 27, [8], [], []),
  (27, .aload_n 0, 28, [], [], []),
  (28, .invokevirtual 268, 31, [163, 1, 1, 0, 12], [], []),
  (31, .ifCond .ne 11, 34, [42], [], []),
  (34, .bipush (-2), 36, [], [], []),
  (36, .aload_n 0, 37, [], [], []),
  (37, .getfield 90, 40, [11, 9, 0, 0, 0], [], []),
  (40, .isub, 41, [], [], []),
  (41, .ireturn, 42, [0], [], []),
  (42, .iconst 0, 43, [], [], []),
  (43, .istore_n 1, 44, [], [], []),
  (44, .iload_n 1, 45, [], [], []),
  (45, .bipush 112, 47, [], [], []),
  (47, .if_icmp .ge 31, 50, [78], [], []),
  (50, .aload_n 0, 51, [], [], []),
  (51, .getfield 39, 54, [11, 20, 2, 55, 0], [], []),
  (54, .iload_n 1, 55, [], [], []),
  (55, .iload_n 1, 56, [], [], []),
  (56, .bipush 81, 58, [], [], []),
  (58, .if_icmp .ge 12, 61, [70], [], []),
  (61, .aload_n 0, 62, [], [], []),
  (62, .getfield 26, 65, [11, 7, 2, 51, 0], [], []),
  (65, .iload_n 1, 66, [], [], []),
  (66, .iaload, 67, [51, 81], [], []),
  (67, .goto 4, 70, [71], [], []),
  (70, .iconst 0, 71, [], [], []),
  (71, .iastore, 72, [55, 112, 0], [], []),
  (72, .iinc 1 1, 75, [], [], []),
  (75, .goto (-31), 78, [44], [], []),
  (78, .aload_n 0, 79, [], [], []),
  (79, .invokevirtual 271, 82, [185, 1, 0, 0, 12], [], []),
  (82, .aload_n 0, 83, [], [], []),
  (83, .iconst 0, 84, [], [], []),
  (84, .putfield 274, 87, [11, 26, 0, 0, 0], [], []),
  (87, .aload_n 0, 88, [], [], []),
  (88, .getfield 39, 91, [11, 20, 2, 55, 0], [], []),
  (91, .iconst 5, 92, [], [], []),
  (92, .iaload, 93, [55, 112], [], []),
  (93, .ireturn, 94, [0], [], [])]
/-- M_isRule -/
def jc166 : jCode := [
  (0, .iload_n 1, 1, [], [], []),
  (1, .ifCond .lt 15, 4, [16], [], [0, 1]),
  (4, .iload_n 1, 5, [], [], []),
  (5, .aload_n 0, 6, [], [], []),
  (6, .getfield 265, 9, [11, 2, 0, 0, 0], [], []),
  (9, .if_icmp .ge 7, 12, [16], [], [0, 1]),
  (12, .iconst 1, 13, [], [], []),
  (13, .goto 4, 16, [17], [], [0, 1]),
  (16, .iconst 0, 17, [], [0, 1], []),
  (17, .ireturn, 18, [1], [], [])]
/-- M_push -/
def jc167 : jCode := [
  (0, .aload_n 0, 1, [], [], []),
  (1, .getfield 32, 4, [11, 17, 2, 53, 0], [], []),
  (4, .aload_n 0, 5, [], [], []),
  (5, .getfield 277, 8, [11, 18, 0, 0, 0], [], []),
  (8, .lload_n 1, 9, [], [], []),
  (9, .lastore, 10, [53, 64, 1], [], []),
  (10, .aload_n 0, 11, [], [], []),
  (11, .dup, 12, [], [], []),
  (12, .getfield 277, 15, [11, 18, 0, 0, 0], [], []),
  (15, .iconst 1, 16, [], [], []),
  (16, .iadd, 17, [], [], []),
  (17, .putfield 277, 20, [11, 18, 0, 0, 0], [], []),
  (20, .return_, 21, [], [], [])]
/-- M_pop -/
def jc168 : jCode := [
  (0, .aload_n 0, 1, [], [], []),
  (1, .dup, 2, [], [], []),
  (2, .getfield 277, 5, [11, 18, 0, 0, 0], [], []),
  (5, .iconst 1, 6, [], [], []),
  (6, .isub, 7, [], [], []),
  (7, .putfield 277, 10, [11, 18, 0, 0, 0], [], []),
  (10, .aload_n 0, 11, [], [], []),
  (11, .getfield 32, 14, [11, 17, 2, 53, 0], [], []),
  (14, .aload_n 0, 15, [], [], []),
  (15, .getfield 277, 18, [11, 18, 0, 0, 0], [], []),
  (18, .laload, 19, [53, 64], [], []),
  (19, .lreturn, 20, [], [], [])]
/-- M_one -/
def jc169 : jCode := [
  (0, .iload_n 0, 1, [], [], []),
  (1, .tableswitch 171 2 14 #[67, 71, 75, 79, 107, 119, 131, 143, 155, 171, 167, 171, 93], 68, [172, 2, 68, 3, 72, 4, 76, 5, 80, 6, 108, 7, 120, 8, 132, 9, 144, 10, 156, 11, 172, 12, 168, 13, 172, 14, 94], [], []),
  (68, .lload_n 1, 69, [], [], []),
  (69, .lload_n 3, 70, [], [], []),
  (70, .ladd, 71, [], [], []),
  (71, .lreturn, 72, [], [], []),
  (72, .lload_n 1, 73, [], [], []),
  (73, .lload_n 3, 74, [], [], []),
  (74, .lsub, 75, [], [], []),
  (75, .lreturn, 76, [], [], []),
  (76, .lload_n 1, 77, [], [], []),
  (77, .lload_n 3, 78, [], [], []),
  (78, .lmul, 79, [], [], []),
  (79, .lreturn, 80, [], [], []),
  (80, .lload_n 3, 81, [], [], []),
  (81, .lconst 0, 82, [], [], []),
  (82, .lcmp, 83, [], [], []),
  (83, .ifCond .ne 7, 86, [90], [], []),
  (86, .lconst 0, 87, [], [], []),
  (87, .goto 6, 90, [93], [], [0, 1, 3]),
  (90, .lload_n 1, 91, [], [], []),
  (91, .lload_n 3, 92, [], [], []),
  (92, .ldiv, 93, [], [0, 1, 3], []),
  (93, .lreturn, 94, [], [], []),
  (94, .lload_n 3, 95, [], [], []),
  (95, .lconst 0, 96, [], [], []),
  (96, .lcmp, 97, [], [], []),
  (97, .ifCond .ne 7, 100, [104], [], []),
  (100, .lconst 0, 101, [], [], []),
  (101, .goto 6, 104, [107], [], [0, 1, 3]),
  (104, .lload_n 1, 105, [], [], []),
  (105, .lload_n 3, 106, [], [], []),
  (106, .lrem, 107, [], [0, 1, 3], []),
  (107, .lreturn, 108, [], [], []),
  (108, .lload_n 1, 109, [], [], []),
  (109, .lload_n 3, 110, [], [], []),
  (110, .lcmp, 111, [], [], []),
  (111, .ifCond .ge 7, 114, [118], [], []),
  (114, .lconst 1, 115, [], [], []),
  (115, .goto 4, 118, [119], [], [0, 1, 3]),
  (118, .lconst 0, 119, [], [0, 1, 3], []),
  (119, .lreturn, 120, [], [], []),
  (120, .lload_n 1, 121, [], [], []),
  (121, .lload_n 3, 122, [], [], []),
  (122, .lcmp, 123, [], [], []),
  (123, .ifCond .gt 7, 126, [130], [], []),
  (126, .lconst 1, 127, [], [], []),
  (127, .goto 4, 130, [131], [], [0, 1, 3]),
  (130, .lconst 0, 131, [], [0, 1, 3], []),
  (131, .lreturn, 132, [], [], []),
  (132, .lload_n 1, 133, [], [], []),
  (133, .lload_n 3, 134, [], [], []),
  (134, .lcmp, 135, [], [], []),
  (135, .ifCond .ne 7, 138, [142], [], []),
  (138, .lconst 1, 139, [], [], []),
  (139, .goto 4, 142, [143], [], [0, 1, 3]),
  (142, .lconst 0, 143, [], [0, 1, 3], []),
  (143, .lreturn, 144, [], [], []),
  (144, .lload_n 1, 145, [], [], []),
  (145, .lload_n 3, 146, [], [], []),
  (146, .lcmp, 147, [], [], []),
  (147, .ifCond .lt 7, 150, [154], [], []),
  (150, .lconst 1, 151, [], [], []),
  (151, .goto 4, 154, [155], [], [0, 1, 3]),
  (154, .lconst 0, 155, [], [0, 1, 3], []),
  (155, .lreturn, 156, [], [], []),
  (156, .lload_n 1, 157, [], [], []),
  (157, .lload_n 3, 158, [], [], []),
  (158, .lcmp, 159, [], [], []),
  (159, .ifCond .le 7, 162, [166], [], []),
  (162, .lconst 1, 163, [], [], []),
  (163, .goto 4, 166, [167], [], [0, 1, 3]),
  (166, .lconst 0, 167, [], [0, 1, 3], []),
  (167, .lreturn, 168, [], [], []),
  (168, .lload_n 1, 169, [], [], []),
  (169, .lload_n 3, 170, [], [], []),
  (170, .land, 171, [], [], []),
  (171, .lreturn, 172, [], [], []),
  (172, .lload_n 1, 173, [], [], []),
  (173, .lload_n 3, 174, [], [], []),
  (174, .lor, 175, [], [], []),
  (175, .lreturn, 176, [], [], [])]
/-- M_reckons -/
def jc170 : jCode := [
  (0, .aload_n 0, 1, [], [], []),
  (1, .iconst 0, 2, [], [], []),
  (2, .putfield 277, 5, [11, 18, 0, 0, 0], [], []),
  (5, .iload_n 2, 6, [], [], []),
  (6, .istore 4, 8, [], [2], []),
  (8, .iload 4, 10, [], [], []),
  (10, .iload_n 3, 11, [], [], []),
  (11, .if_icmp .ge 124, 14, [135], [], []),
  (14, .aload_n 0, 15, [], [], []),
  (15, .getfield 13, 18, [11, 3, 2, 47, 0], [], []),
  (18, .sipush 400, 21, [], [], []),
  (21, .iload_n 1, 22, [], [], []),
  (22, .imul, 23, [], [], []),
  (23, .iload 4, 25, [], [], []),
  (25, .iadd, 26, [], [], []),
  (26, .iaload, 27, [47, 2400], [], []),
  (27, .bipush 15, 29, [], [], []),
  (29, .iand, 30, [], [], []),
  (30, .istore 5, 32, [], [], []),
  (32, .aload_n 0, 33, [], [], []),
  (33, .getfield 13, 36, [11, 3, 2, 47, 0], [], []),
  (36, .sipush 400, 39, [], [], []),
  (39, .iload_n 1, 40, [], [], []),
  (40, .imul, 41, [], [], []),
  (41, .iload 4, 43, [], [], []),
  (43, .iadd, 44, [], [], []),
  (44, .iaload, 45, [47, 2400], [], []),
  (45, .iconst 4, 46, [], [], []),
  (46, .ishr, 47, [], [], []),
  (47, .istore 6, 49, [], [], []),
  (49, .iload 5, 51, [], [], []),
  (51, .ifCond .ne 13, 54, [64], [], []),
  (54, .aload_n 0, 55, [], [], []),
  (55, .iload 6, 57, [], [], []),
  (57, .i2l, 58, [], [], []),
  (58, .invokevirtual 280, 61, [167, 2, 0, 0, 12], [], []),
  (61, .goto 68, 64, [129], [], [2, 5, 6]),
  (64, .iload 5, 66, [], [], []),
  (66, .iconst 1, 67, [], [], []),
  (67, .if_icmp .ne 17, 70, [84], [], []),
  (70, .aload_n 0, 71, [], [], []),
  (71, .aload_n 0, 72, [], [], []),
  (72, .getfield 36, 75, [11, 19, 2, 54, 0], [], []),
  (75, .iload 6, 77, [], [], []),
  (77, .laload, 78, [54, 12], [], []),
  (78, .invokevirtual 280, 81, [167, 2, 0, 0, 12], [], []),
  (81, .goto 48, 84, [129], [], [2, 5, 6]),
  (84, .iload 5, 86, [], [], []),
  (86, .bipush 11, 88, [], [], []),
  (88, .if_icmp .ne 16, 91, [104], [], []),
  (91, .aload_n 0, 92, [], [], []),
  (92, .lconst 1, 93, [], [], []),
  (93, .aload_n 0, 94, [], [], []),
  (94, .invokevirtual 284, 97, [168, 1, 2, 0, 12], [], []),
  (97, .lsub, 98, [], [], []),
  (98, .invokevirtual 280, 101, [167, 2, 0, 0, 12], [], []),
  (101, .goto 28, 104, [129], [], [2, 5, 6]),
  (104, .aload_n 0, 105, [], [], []),
  (105, .invokevirtual 284, 108, [168, 1, 2, 0, 12], [], []),
  (108, .lstore 7, 110, [], [], []),
  (110, .aload_n 0, 111, [], [], []),
  (111, .invokevirtual 284, 114, [168, 1, 2, 0, 12], [], []),
  (114, .lstore 9, 116, [], [], []),
  (116, .aload_n 0, 117, [], [], []),
  (117, .iload 5, 119, [], [], []),
  (119, .lload 9, 121, [], [], []),
  (121, .lload 7, 123, [], [], []),
  (123, .invokestatic 288, 126, [169, 3, 2, 0, 0], [], []),
  (126, .invokevirtual 280, 129, [167, 2, 0, 0, 12], [2, 5, 6, 7, 9], []),
  (129, .iinc 4 1, 132, [], [], []),
  (132, .goto (-124), 135, [8], [], [2, 5, 6]),
  (135, .aload_n 0, 136, [], [], []),
  (136, .invokevirtual 284, 139, [168, 1, 2, 0, 12], [], []),
  (139, .lreturn, 140, [], [], [])]
/-- M_isRiver -/
def jc171 : jCode := [
  (0, .aload_n 0, 1, [], [], []),
  (1, .getfield 39, 4, [11, 20, 2, 55, 0], [], []),
  (4, .iconst 0, 5, [], [], []),
  (5, .iaload, 6, [55, 112], [], []),
  (6, .iconst 1, 7, [], [], []),
  (7, .if_icmp .ne 7, 10, [14], [], []),
  (10, .iconst 1, 11, [], [], []),
  (11, .goto 4, 14, [15], [], [0]),
  (14, .iconst 0, 15, [], [0], []),
  (15, .ireturn, 16, [1], [], [])]
/-- M_rounds -/
def jc172 : jCode := [
  (0, .aload_n 0, 1, [], [], []),
  (1, .invokevirtual 292, 4, [171, 1, 1, 0, 12], [], []),
  (4, .ifCond .ne 7, 7, [11], [], []),
  (7, .iconst 0, 8, [], [], []),
  (8, .goto 22, 11, [30], [], [0]),
  (11, .aload_n 0, 12, [], [], []),
  (12, .getfield 39, 15, [11, 20, 2, 55, 0], [], []),
  (15, .iconst 3, 16, [], [], []),
  (16, .iaload, 17, [55, 112], [], []),
  (17, .ifCond .ne 7, 20, [24], [], []),
  (20, .iconst 1, 21, [], [], []),
  (21, .goto 9, 24, [30], [], [0]),
  (24, .aload_n 0, 25, [], [], []),
  (25, .getfield 39, 28, [11, 20, 2, 55, 0], [], []),
  (28, .iconst 3, 29, [], [], []),
  (29, .iaload, 30, [55, 112], [0], []),
  (30, .ireturn, 31, [0], [], [])]
/-- M_isPool -/
def jc173 : jCode := [
  (0, .iload_n 1, 1, [], [], []),
  (1, .ifCond .lt 17, 4, [18], [], [0, 1]),
  (4, .iload_n 1, 5, [], [], []),
  (5, .aload_n 0, 6, [], [], []),
  (6, .getfield 39, 9, [11, 20, 2, 55, 0], [], []),
  (9, .iconst 1, 10, [], [], []),
  (10, .iaload, 11, [55, 112], [], []),
  (11, .if_icmp .ge 7, 14, [18], [], [0, 1]),
  (14, .iconst 1, 15, [], [], []),
  (15, .goto 4, 18, [19], [], [0, 1]),
  (18, .iconst 0, 19, [], [0, 1], []),
  (19, .ireturn, 20, [1], [], [])]
/-- M_isPerson -/
def jc174 : jCode := [
  (0, .iload_n 1, 1, [], [], []),
  (1, .ifCond .lt 17, 4, [18], [], [0, 1]),
  (4, .iload_n 1, 5, [], [], []),
  (5, .aload_n 0, 6, [], [], []),
  (6, .getfield 39, 9, [11, 20, 2, 55, 0], [], []),
  (9, .iconst 4, 10, [], [], []),
  (10, .iaload, 11, [55, 112], [], []),
  (11, .if_icmp .ge 7, 14, [18], [], [0, 1]),
  (14, .iconst 1, 15, [], [], []),
  (15, .goto 4, 18, [19], [], [0, 1]),
  (18, .iconst 0, 19, [], [0, 1], []),
  (19, .ireturn, 20, [1], [], [])]
/-- M_isMemory -/
def jc175 : jCode := [
  (0, .iload_n 1, 1, [], [], []),
  (1, .ifCond .lt 17, 4, [18], [], [0, 1]),
  (4, .iload_n 1, 5, [], [], []),
  (5, .aload_n 0, 6, [], [], []),
  (6, .getfield 39, 9, [11, 20, 2, 55, 0], [], []),
  (9, .iconst 5, 10, [], [], []),
  (10, .iaload, 11, [55, 112], [], []),
  (11, .if_icmp .ge 7, 14, [18], [], [0, 1]),
  (14, .iconst 1, 15, [], [], []),
  (15, .goto 4, 18, [19], [], [0, 1]),
  (18, .iconst 0, 19, [], [0, 1], []),
  (19, .ireturn, 20, [1], [], [])]
/-- M_isTrap -/
def jc176 : jCode := [
  (0, .iload_n 1, 1, [], [], []),
  (1, .ifCond .lt 18, 4, [19], [], [0, 1]),
  (4, .iload_n 1, 5, [], [], []),
  (5, .aload_n 0, 6, [], [], []),
  (6, .getfield 39, 9, [11, 20, 2, 55, 0], [], []),
  (9, .bipush 6, 11, [], [], []),
  (11, .iaload, 12, [55, 112], [], []),
  (12, .if_icmp .ge 7, 15, [19], [], [0, 1]),
  (15, .iconst 1, 16, [], [], []),
  (16, .goto 4, 19, [20], [], [0, 1]),
  (19, .iconst 0, 20, [], [0, 1], []),
  (20, .ireturn, 21, [1], [], [])]
/-- M_isFree -/
def jc177 : jCode := [
  (0, .aload_n 0, 1, [], [], []),
  (1, .iload_n 1, 2, [], [], []),
  (2, .invokevirtual 295, 5, [175, 2, 1, 0, 12], [], []),
  (5, .ifCond .eq 27, 8, [32], [], [0, 1]),
  (8, .aload_n 0, 9, [], [], []),
  (9, .getfield 39, 12, [11, 20, 2, 55, 0], [], []),
  (12, .bipush 11, 14, [], [], []),
  (14, .iload_n 1, 15, [], [], []),
  (15, .iadd, 16, [], [], []),
  (16, .iaload, 17, [55, 112], [], []),
  (17, .i2l, 18, [], [], []),
  (18, .lconst 0, 19, [], [], []),
  (19, .ldc2_w 298, 22, [19], [], []),
  (22, .invokestatic 121, 25, [125, 3, 1, 0, 0], [], []),
  (25, .ifCond .eq 7, 28, [32], [], [0, 1]),
  (28, .iconst 1, 29, [], [], []),
  (29, .goto 4, 32, [33], [], [0, 1]),
  (32, .iconst 0, 33, [], [0, 1], []),
  (33, .ireturn, 34, [1], [], [])]
/-- M_isHad -/
def jc178 : jCode := [
  (0, .aload_n 0, 1, [], [], []),
  (1, .iload_n 1, 2, [], [], []),
  (2, .invokevirtual 295, 5, [175, 2, 1, 0, 12], [], []),
  (5, .ifCond .eq 21, 8, [26], [], [0, 1]),
  (8, .aload_n 0, 9, [], [], []),
  (9, .getfield 39, 12, [11, 20, 2, 55, 0], [], []),
  (12, .bipush 11, 14, [], [], []),
  (14, .iload_n 1, 15, [], [], []),
  (15, .iadd, 16, [], [], []),
  (16, .iaload, 17, [55, 112], [], []),
  (17, .bipush 30, 19, [], [], []),
  (19, .if_icmp .lt 7, 22, [26], [], [0, 1]),
  (22, .iconst 1, 23, [], [], []),
  (23, .goto 4, 26, [27], [], [0, 1]),
  (26, .iconst 0, 27, [], [0, 1], []),
  (27, .ireturn, 28, [1], [], [])]
/-- M_poolOf -/
def jc179 : jCode := [
  (0, .aload_n 0, 1, [], [], []),
  (1, .getfield 39, 4, [11, 20, 2, 55, 0], [], []),
  (4, .bipush 17, 6, [], [], []),
  (6, .iconst 2, 7, [], [], []),
  (7, .iload_n 1, 8, [], [], []),
  (8, .imul, 9, [], [], []),
  (9, .iadd, 10, [], [], []),
  (10, .iaload, 11, [55, 112], [], []),
  (11, .ireturn, 12, [0], [], [])]
/-- M_baitOf -/
def jc180 : jCode := [
  (0, .aload_n 0, 1, [], [], []),
  (1, .getfield 39, 4, [11, 20, 2, 55, 0], [], []),
  (4, .bipush 17, 6, [], [], []),
  (6, .iconst 2, 7, [], [], []),
  (7, .iload_n 1, 8, [], [], []),
  (8, .imul, 9, [], [], []),
  (9, .iadd, 10, [], [], []),
  (10, .iconst 1, 11, [], [], []),
  (11, .iadd, 12, [], [], []),
  (12, .iaload, 13, [55, 112], [], []),
  (13, .ireturn, 14, [0], [], [])]
/-- M_memoryIn -/
def jc181 : jCode := [
  (0, .iconst 0, 1, [], [], []),
  (1, .istore_n 2, 2, [], [], []),
  (2, .iload_n 2, 3, [], [], []),
  (3, .aload_n 0, 4, [], [], []),
  (4, .getfield 39, 7, [11, 20, 2, 55, 0], [], []),
  (7, .iconst 5, 8, [], [], []),
  (8, .iaload, 9, [55, 112], [], []),
  (9, .if_icmp .ge 27, 12, [36], [], []),
  (12, .aload_n 0, 13, [], [], []),
  (13, .getfield 39, 16, [11, 20, 2, 55, 0], [], []),
  (16, .bipush 11, 18, [], [], []),
  (18, .iload_n 2, 19, [], [], []),
  (19, .iadd, 20, [], [], []),
  (20, .iaload, 21, [55, 112], [], []),
  (21, .bipush 20, 23, [], [], []),
  (23, .iload_n 1, 24, [], [], []),
  (24, .iadd, 25, [], [], []),
  (25, .if_icmp .ne 5, 28, [30], [], []),
  (28, .iload_n 2, 29, [], [], []),
  (29, .ireturn, 30, [0], [], []),
  (30, .iinc 2 1, 33, [], [], []),
  (33, .goto (-31), 36, [2], [], []),
  (36, .iconst (-1), 37, [], [], []),
  (37, .ireturn, 38, [0], [], [])]
/-- M_isEmptyTrap -/
def jc182 : jCode := [
  (0, .aload_n 0, 1, [], [], []),
  (1, .iload_n 1, 2, [], [], []),
  (2, .invokevirtual 300, 5, [176, 2, 1, 0, 12], [], []),
  (5, .ifCond .eq 15, 8, [20], [], [0, 1]),
  (8, .aload_n 0, 9, [], [], []),
  (9, .iload_n 1, 10, [], [], []),
  (10, .invokevirtual 303, 13, [181, 2, 1, 0, 12], [], []),
  (13, .ifCond .ge 7, 16, [20], [], [0, 1]),
  (16, .iconst 1, 17, [], [], []),
  (17, .goto 4, 20, [21], [], [0, 1]),
  (20, .iconst 0, 21, [], [0, 1], []),
  (21, .ireturn, 22, [1], [], [])]
/-- M_onesThat -/
def jc183 : jCode := [
  (0, .iconst 0, 1, [], [], []),
  (1, .istore_n 3, 2, [], [], []),
  (2, .iconst 0, 3, [], [], []),
  (3, .istore 4, 5, [], [], []),
  (5, .iload 4, 7, [], [], []),
  (7, .aload_n 0, 8, [], [], []),
  (8, .getfield 39, 11, [11, 20, 2, 55, 0], [], []),
  (11, .iconst 5, 12, [], [], []),
  (12, .iaload, 13, [55, 112], [], []),
  (13, .if_icmp .ge 41, 16, [54], [], []),
  (16, .iload_n 3, 17, [], [], []),
  (17, .aload_n 0, 18, [], [], []),
  (18, .getfield 39, 21, [11, 20, 2, 55, 0], [], []),
  (21, .bipush 11, 23, [], [], []),
  (23, .iload 4, 25, [], [], []),
  (25, .iadd, 26, [], [], []),
  (26, .iaload, 27, [55, 112], [], []),
  (27, .i2l, 28, [], [], []),
  (28, .iload_n 1, 29, [], [], []),
  (29, .i2l, 30, [], [], []),
  (30, .iload_n 2, 31, [], [], []),
  (31, .i2l, 32, [], [], []),
  (32, .invokestatic 121, 35, [125, 3, 1, 0, 0], [], []),
  (35, .ifCond .eq 10, 38, [45], [], []),
  (38, .iconst 1, 39, [], [], []),
  (39, .iload 4, 41, [], [], []),
  (41, .ishl, 42, [], [], []),
  (42, .goto 4, 45, [46], [], [3]),
  (45, .iconst 0, 46, [], [3], []),
  (46, .ior, 47, [], [], []),
  (47, .istore_n 3, 48, [], [], []),
  (48, .iinc 4 1, 51, [], [], []),
  (51, .goto (-46), 54, [5], [], []),
  (54, .iload_n 3, 55, [], [], []),
  (55, .ireturn, 56, [0], [], [])]
/-- M_lightOn -/
def jc184 : jCode := [
  (0, .aload_n 0, 1, [], [], []),
  (1, .getfield 39, 4, [11, 20, 2, 55, 0], [], []),
  (4, .bipush 55, 6, [], [], []),
  (6, .iload_n 1, 7, [], [], []),
  (7, .aload_n 0, 8, [], [], []),
  (8, .invokevirtual 306, 11, [172, 1, 1, 0, 12], [], []),
  (11, .irem, 12, [], [], []),
  (12, .iadd, 13, [], [], []),
  (13, .iaload, 14, [55, 112], [], []),
  (14, .ireturn, 15, [0], [], [])]
/-- M_begins -/
def jc185 : jCode := [
  (0, .aload_n 0, 1, [], [], []),
  (1, .getfield 39, 4, [11, 20, 2, 55, 0], [], []),
  (4, .bipush 10, 6, [], [], []),
  (6, .iconst 0, 7, [], [], []),
  (7, .iastore, 8, [55, 112, 0], [], []),
  (8, .iconst 0, 9, [], [], []),
  (9, .istore_n 1, 10, [], [], []),
  (10, .iload_n 1, 11, [], [], []),
  (11, .bipush 6, 13, [], [], []),
  (13, .if_icmp .ge 27, 16, [40], [], []),
  (16, .aload_n 0, 17, [], [], []),
  (17, .getfield 39, 20, [11, 20, 2, 55, 0], [], []),
  (20, .bipush 11, 22, [], [], []),
  (22, .iload_n 1, 23, [], [], []),
  (23, .iadd, 24, [], [], []),
  (24, .aload_n 0, 25, [], [], []),
  (25, .getfield 39, 28, [11, 20, 2, 55, 0], [], []),
  (28, .bipush 67, 30, [], [], []),
  (30, .iload_n 1, 31, [], [], []),
  (31, .iadd, 32, [], [], []),
  (32, .iaload, 33, [55, 112], [], []),
  (33, .iastore, 34, [55, 112, 0], [], []),
  (34, .iinc 1 1, 37, [], [], []),
  (37, .goto (-27), 40, [10], [], []),
  (40, .iconst 0, 41, [], [], []),
  (41, .istore_n 1, 42, [], [], []),
  (42, .iload_n 1, 43, [], [], []),
  (43, .bipush 8, 45, [], [], []),
  (45, .if_icmp .ge 27, 48, [72], [], []),
  (48, .aload_n 0, 49, [], [], []),
  (49, .getfield 39, 52, [11, 20, 2, 55, 0], [], []),
  (52, .bipush 17, 54, [], [], []),
  (54, .iload_n 1, 55, [], [], []),
  (55, .iadd, 56, [], [], []),
  (56, .aload_n 0, 57, [], [], []),
  (57, .getfield 39, 60, [11, 20, 2, 55, 0], [], []),
  (60, .bipush 73, 62, [], [], []),
  (62, .iload_n 1, 63, [], [], []),
  (63, .iadd, 64, [], [], []),
  (64, .iaload, 65, [55, 112], [], []),
  (65, .iastore, 66, [55, 112, 0], [], []),
  (66, .iinc 1 1, 69, [], [], []),
  (69, .goto (-27), 72, [42], [], []),
  (72, .return_, 73, [], [], [])]
/-- M_force -/
def jc186 : jCode := [
  (0, .iload_n 1, 1, [], [], []),
  (1, .iconst (-1), 2, [], [], []),
  (2, .if_icmp .eq 14, 5, [16], [], []),
  (5, .aload_n 0, 6, [], [], []),
  (6, .iload_n 1, 7, [], [], []),
  (7, .invokevirtual 309, 10, [166, 2, 1, 0, 12], [], []),
  (10, .ifCond .ne 6, 13, [16], [], []),
  (13, .bipush (-2), 15, [], [], []),
  (15, .ireturn, 16, [0], [], []),
  (16, .aload_n 0, 17, [], [], []),
  (17, .getfield 42, 20, [11, 21, 0, 0, 0], [], []),
  (20, .istore_n 2, 21, [], [], []),
  (21, .aload_n 0, 22, [], [], []),
  (22, .iload_n 1, 23, [], [], []),
  (23, .putfield 42, 26, [11, 21, 0, 0, 0], [], []),
  (26, .iload_n 2, 27, [], [], []),
  (27, .ireturn, 28, [0], [], [])]
/-- M_memory -/
def jc187 : jCode := [
  (0, .aload_n 0, 1, [], [], []),
  (1, .iload_n 1, 2, [], [], []),
  (2, .invokevirtual 295, 5, [175, 2, 1, 0, 12], [], []),
  (5, .ifCond .eq 15, 8, [20], [], [0, 1, 2]),
  (8, .iload_n 2, 9, [], [], []),
  (9, .i2l, 10, [], [], []),
  (10, .lconst 0, 11, [], [], []),
  (11, .ldc2_w 312, 14, [3], [], []),
  (14, .invokestatic 121, 17, [125, 3, 1, 0, 0], [], []),
  (17, .ifCond .ne 6, 20, [23], [0, 1, 2], []),
  (20, .bipush (-2), 22, [], [], []),
  (22, .ireturn, 23, [0], [], []),
  (23, .iload_n 2, 24, [], [], []),
  (24, .ifCond .ne 15, 27, [39], [], []),
  (27, .aload_n 0, 28, [], [], []),
  (28, .getfield 39, 31, [11, 20, 2, 55, 0], [], []),
  (31, .bipush 33, 33, [], [], []),
  (33, .iload_n 1, 34, [], [], []),
  (34, .iadd, 35, [], [], []),
  (35, .iaload, 36, [55, 112], [], []),
  (36, .goto 46, 39, [82], [], [0, 1, 2]),
  (39, .iload_n 2, 40, [], [], []),
  (40, .iconst 1, 41, [], [], []),
  (41, .if_icmp .ne 15, 44, [56], [], []),
  (44, .aload_n 0, 45, [], [], []),
  (45, .getfield 39, 48, [11, 20, 2, 55, 0], [], []),
  (48, .bipush 39, 50, [], [], []),
  (50, .iload_n 1, 51, [], [], []),
  (51, .iadd, 52, [], [], []),
  (52, .iaload, 53, [55, 112], [], []),
  (53, .goto 29, 56, [82], [], [0, 1, 2]),
  (56, .iload_n 2, 57, [], [], []),
  (57, .iconst 2, 58, [], [], []),
  (58, .if_icmp .ne 15, 61, [73], [], []),
  (61, .aload_n 0, 62, [], [], []),
  (62, .getfield 39, 65, [11, 20, 2, 55, 0], [], []),
  (65, .bipush 45, 67, [], [], []),
  (67, .iload_n 1, 68, [], [], []),
  (68, .iadd, 69, [], [], []),
  (69, .iaload, 70, [55, 112], [], []),
  (70, .goto 12, 73, [82], [], [0, 1, 2]),
  (73, .aload_n 0, 74, [], [], []),
  (74, .getfield 39, 77, [11, 20, 2, 55, 0], [], []),
  (77, .bipush 11, 79, [], [], []),
  (79, .iload_n 1, 80, [], [], []),
  (80, .iadd, 81, [], [], []),
  (81, .iaload, 82, [55, 112], [0, 1, 2], []),
  (82, .ireturn, 83, [0], [], [])]
/-- M_trap -/
def jc188 : jCode := [
  (0, .aload_n 0, 1, [], [], []),
  (1, .iload_n 1, 2, [], [], []),
  (2, .invokevirtual 300, 5, [176, 2, 1, 0, 12], [], []),
  (5, .ifCond .ne 6, 8, [11], [], []),
  (8, .bipush (-2), 10, [], [], []),
  (10, .ireturn, 11, [0], [], []),
  (11, .iload_n 2, 12, [], [], []),
  (12, .tableswitch 74 0 4 #[36, 42, 52, 58, 68], 48, [86, 0, 48, 1, 54, 2, 64, 3, 70, 4, 80], [], []),
  (48, .aload_n 0, 49, [], [], []),
  (49, .iload_n 1, 50, [], [], []),
  (50, .invokevirtual 314, 53, [179, 2, 1, 0, 12], [], []),
  (53, .ireturn, 54, [0], [], []),
  (54, .aload_n 0, 55, [], [], []),
  (55, .getfield 39, 58, [11, 20, 2, 55, 0], [], []),
  (58, .bipush 25, 60, [], [], []),
  (60, .iload_n 1, 61, [], [], []),
  (61, .iadd, 62, [], [], []),
  (62, .iaload, 63, [55, 112], [], []),
  (63, .ireturn, 64, [0], [], []),
  (64, .aload_n 0, 65, [], [], []),
  (65, .iload_n 1, 66, [], [], []),
  (66, .invokevirtual 317, 69, [180, 2, 1, 0, 12], [], []),
  (69, .ireturn, 70, [0], [], []),
  (70, .aload_n 0, 71, [], [], []),
  (71, .getfield 39, 74, [11, 20, 2, 55, 0], [], []),
  (74, .bipush 29, 76, [], [], []),
  (76, .iload_n 1, 77, [], [], []),
  (77, .iadd, 78, [], [], []),
  (78, .iaload, 79, [55, 112], [], []),
  (79, .ireturn, 80, [0], [], []),
  (80, .aload_n 0, 81, [], [], []),
  (81, .iload_n 1, 82, [], [], []),
  (82, .invokevirtual 303, 85, [181, 2, 1, 0, 12], [], []),
  (85, .ireturn, 86, [0], [], []),
  (86, .bipush (-2), 88, [], [], []),
  (88, .ireturn, 89, [0], [], [])]
/-- M_person -/
def jc189 : jCode := [
  (0, .aload_n 0, 1, [], [], []),
  (1, .iload_n 1, 2, [], [], []),
  (2, .invokevirtual 320, 5, [174, 2, 1, 0, 12], [], []),
  (5, .ifCond .eq 18, 8, [23], [], []),
  (8, .aload_n 0, 9, [], [], []),
  (9, .bipush 30, 11, [], [], []),
  (11, .iload_n 1, 12, [], [], []),
  (12, .iadd, 13, [], [], []),
  (13, .bipush 30, 15, [], [], []),
  (15, .iload_n 1, 16, [], [], []),
  (16, .iadd, 17, [], [], []),
  (17, .invokevirtual 323, 20, [183, 3, 1, 0, 12], [], []),
  (20, .goto 4, 23, [24], [], [0, 1]),
  (23, .iconst (-1), 24, [], [0, 1], []),
  (24, .ireturn, 25, [0], [], [])]
/-- M_moon -/
def jc190 : jCode := [
  (0, .iload_n 1, 1, [], [], []),
  (1, .ifCond .lt 23, 4, [24], [], [0, 1]),
  (4, .iload_n 1, 5, [], [], []),
  (5, .aload_n 0, 6, [], [], []),
  (6, .invokevirtual 306, 9, [172, 1, 1, 0, 12], [], []),
  (9, .if_icmp .ge 15, 12, [24], [], [0, 1]),
  (12, .aload_n 0, 13, [], [], []),
  (13, .getfield 39, 16, [11, 20, 2, 55, 0], [], []),
  (16, .bipush 55, 18, [], [], []),
  (18, .iload_n 1, 19, [], [], []),
  (19, .iadd, 20, [], [], []),
  (20, .iaload, 21, [55, 112], [], []),
  (21, .goto 4, 24, [25], [], [0, 1]),
  (24, .iconst (-1), 25, [], [0, 1], []),
  (25, .ireturn, 26, [0], [], [])]
/-- M_summedBy -/
def jc191 : jCode := [
  (0, .iconst 0, 1, [], [], []),
  (1, .istore_n 2, 2, [], [], []),
  (2, .iload_n 2, 3, [], [], []),
  (3, .aload_n 0, 4, [], [], []),
  (4, .getfield 23, 7, [11, 6, 2, 50, 0], [], []),
  (7, .iload_n 1, 8, [], [], []),
  (8, .iaload, 9, [50, 6], [], []),
  (9, .if_icmp .ge 75, 12, [84], [], []),
  (12, .bipush 48, 14, [], [], []),
  (14, .iload_n 1, 15, [], [], []),
  (15, .imul, 16, [], [], []),
  (16, .iconst 4, 17, [], [], []),
  (17, .iload_n 2, 18, [], [], []),
  (18, .imul, 19, [], [], []),
  (19, .iadd, 20, [], [], []),
  (20, .istore_n 3, 21, [], [], []),
  (21, .aload_n 0, 22, [], [], []),
  (22, .getfield 20, 25, [11, 5, 2, 49, 0], [], []),
  (25, .iload_n 3, 26, [], [], []),
  (26, .iconst 2, 27, [], [], []),
  (27, .iadd, 28, [], [], []),
  (28, .iaload, 29, [49, 288], [], []),
  (29, .ifCond .lt 29, 32, [58], [], [2]),
  (32, .aload_n 0, 33, [], [], []),
  (33, .iload_n 1, 34, [], [], []),
  (34, .aload_n 0, 35, [], [], []),
  (35, .getfield 20, 38, [11, 5, 2, 49, 0], [], []),
  (38, .iload_n 3, 39, [], [], []),
  (39, .iconst 2, 40, [], [], []),
  (40, .iadd, 41, [], [], []),
  (41, .iaload, 42, [49, 288], [], []),
  (42, .aload_n 0, 43, [], [], []),
  (43, .getfield 20, 46, [11, 5, 2, 49, 0], [], []),
  (46, .iload_n 3, 47, [], [], []),
  (47, .iconst 3, 48, [], [], []),
  (48, .iadd, 49, [], [], []),
  (49, .iaload, 50, [49, 288], [], []),
  (50, .invokevirtual 327, 53, [170, 4, 2, 0, 12], [], []),
  (53, .lconst 1, 54, [], [], []),
  (54, .lcmp, 55, [], [], []),
  (55, .ifCond .ne 23, 58, [78], [2], []),
  (58, .aload_n 0, 59, [], [], []),
  (59, .iload_n 1, 60, [], [], []),
  (60, .aload_n 0, 61, [], [], []),
  (61, .getfield 20, 64, [11, 5, 2, 49, 0], [], []),
  (64, .iload_n 3, 65, [], [], []),
  (65, .iaload, 66, [49, 288], [], []),
  (66, .aload_n 0, 67, [], [], []),
  (67, .getfield 20, 70, [11, 5, 2, 49, 0], [], []),
  (70, .iload_n 3, 71, [], [], []),
  (71, .iconst 1, 72, [], [], []),
  (72, .iadd, 73, [], [], []),
  (73, .iaload, 74, [49, 288], [], []),
  (74, .invokevirtual 327, 77, [170, 4, 2, 0, 12], [], []),
  (77, .lreturn, 78, [], [], []),
  (78, .iinc 2 1, 81, [], [], []),
  (81, .goto (-79), 84, [2], [], [3]),
  (84, .lconst 0, 85, [], [], []),
  (85, .lreturn, 86, [], [], [])]
/-- M_sumOf -/
def jc192 : jCode := [
  (0, .iconst 0, 1, [], [], []),
  (1, .istore_n 3, 2, [], [], []),
  (2, .iconst 0, 3, [], [], []),
  (3, .istore 4, 5, [], [], []),
  (5, .iconst 0, 6, [], [], []),
  (6, .istore 5, 8, [], [], []),
  (8, .iload 5, 10, [], [], []),
  (10, .aload_n 0, 11, [], [], []),
  (11, .getfield 39, 14, [11, 20, 2, 55, 0], [], []),
  (14, .bipush 6, 16, [], [], []),
  (16, .iaload, 17, [55, 112], [], []),
  (17, .if_icmp .ge 60, 20, [77], [], []),
  (20, .aload_n 0, 21, [], [], []),
  (21, .iload 5, 23, [], [], []),
  (23, .invokevirtual 314, 26, [179, 2, 1, 0, 12], [], []),
  (26, .iload_n 2, 27, [], [], []),
  (27, .if_icmp .eq 6, 30, [33], [], []),
  (30, .goto 41, 33, [71], [], []),
  (33, .iinc 4 1, 36, [], [], []),
  (36, .iload_n 3, 37, [], [], []),
  (37, .aload_n 0, 38, [], [], []),
  (38, .iload 5, 40, [], [], []),
  (40, .invokevirtual 303, 43, [181, 2, 1, 0, 12], [], []),
  (43, .ifCond .ge 25, 46, [68], [], [3]),
  (46, .aload_n 0, 47, [], [], []),
  (47, .iload 5, 49, [], [], []),
  (49, .invokevirtual 317, 52, [180, 2, 1, 0, 12], [], []),
  (52, .aload_n 0, 53, [], [], []),
  (53, .getfield 39, 56, [11, 20, 2, 55, 0], [], []),
  (56, .bipush 39, 58, [], [], []),
  (58, .iload_n 1, 59, [], [], []),
  (59, .iadd, 60, [], [], []),
  (60, .iaload, 61, [55, 112], [], []),
  (61, .if_icmp .ne 7, 64, [68], [], [3]),
  (64, .iconst 1, 65, [], [], []),
  (65, .goto 4, 68, [69], [], [3]),
  (68, .iconst 0, 69, [], [3], []),
  (69, .iadd, 70, [], [], []),
  (70, .istore_n 3, 71, [], [], []),
  (71, .iinc 5 1, 74, [], [], []),
  (74, .goto (-66), 77, [8], [], []),
  (77, .iconst 0, 78, [], [], []),
  (78, .istore 5, 80, [], [], []),
  (80, .iconst 0, 81, [], [], []),
  (81, .istore 6, 83, [], [], []),
  (83, .iload 6, 85, [], [], []),
  (85, .aload_n 0, 86, [], [], []),
  (86, .getfield 39, 89, [11, 20, 2, 55, 0], [], []),
  (89, .iconst 5, 90, [], [], []),
  (90, .iaload, 91, [55, 112], [], []),
  (91, .if_icmp .ge 39, 94, [130], [], []),
  (94, .iload 5, 96, [], [], []),
  (96, .iload 6, 98, [], [], []),
  (98, .iload_n 1, 99, [], [], []),
  (99, .if_icmp .eq 21, 102, [120], [], [5]),
  (102, .aload_n 0, 103, [], [], []),
  (103, .getfield 39, 106, [11, 20, 2, 55, 0], [], []),
  (106, .bipush 11, 108, [], [], []),
  (108, .iload 6, 110, [], [], []),
  (110, .iadd, 111, [], [], []),
  (111, .iaload, 112, [55, 112], [], []),
  (112, .iload_n 2, 113, [], [], []),
  (113, .if_icmp .ne 7, 116, [120], [], [5]),
  (116, .iconst 1, 117, [], [], []),
  (117, .goto 4, 120, [121], [], [5]),
  (120, .iconst 0, 121, [], [5], []),
  (121, .iadd, 122, [], [], []),
  (122, .istore 5, 124, [], [], []),
  (124, .iinc 6 1, 127, [], [], []),
  (127, .goto (-44), 130, [83], [], []),
  (130, .aload_n 0, 131, [], [], []),
  (131, .getfield 36, 134, [11, 19, 2, 54, 0], [], []),
  (134, .iconst 0, 135, [], [], []),
  (135, .iload_n 1, 136, [], [], []),
  (136, .i2l, 137, [], [], []),
  (137, .lastore, 138, [54, 12, 1], [], []),
  (138, .aload_n 0, 139, [], [], []),
  (139, .getfield 36, 142, [11, 19, 2, 54, 0], [], []),
  (142, .iconst 1, 143, [], [], []),
  (143, .iload_n 2, 144, [], [], []),
  (144, .i2l, 145, [], [], []),
  (145, .lastore, 146, [54, 12, 1], [], []),
  (146, .aload_n 0, 147, [], [], []),
  (147, .getfield 36, 150, [11, 19, 2, 54, 0], [], []),
  (150, .iconst 2, 151, [], [], []),
  (151, .aload_n 0, 152, [], [], []),
  (152, .getfield 39, 155, [11, 20, 2, 55, 0], [], []),
  (155, .bipush 11, 157, [], [], []),
  (157, .iload_n 1, 158, [], [], []),
  (158, .iadd, 159, [], [], []),
  (159, .iaload, 160, [55, 112], [], []),
  (160, .i2l, 161, [], [], []),
  (161, .lastore, 162, [54, 12, 1], [], []),
  (162, .aload_n 0, 163, [], [], []),
  (163, .getfield 36, 166, [11, 19, 2, 54, 0], [], []),
  (166, .iconst 3, 167, [], [], []),
  (167, .aload_n 0, 168, [], [], []),
  (168, .getfield 39, 171, [11, 20, 2, 55, 0], [], []),
  (171, .bipush 33, 173, [], [], []),
  (173, .iload_n 1, 174, [], [], []),
  (174, .iadd, 175, [], [], []),
  (175, .iaload, 176, [55, 112], [], []),
  (176, .i2l, 177, [], [], []),
  (177, .lastore, 178, [54, 12, 1], [], []),
  (178, .aload_n 0, 179, [], [], []),
  (179, .getfield 36, 182, [11, 19, 2, 54, 0], [], []),
  (182, .iconst 4, 183, [], [], []),
  (183, .aload_n 0, 184, [], [], []),
  (184, .getfield 39, 187, [11, 20, 2, 55, 0], [], []),
  (187, .bipush 39, 189, [], [], []),
  (189, .iload_n 1, 190, [], [], []),
  (190, .iadd, 191, [], [], []),
  (191, .iaload, 192, [55, 112], [], []),
  (192, .i2l, 193, [], [], []),
  (193, .lastore, 194, [54, 12, 1], [], []),
  (194, .aload_n 0, 195, [], [], []),
  (195, .getfield 36, 198, [11, 19, 2, 54, 0], [], []),
  (198, .iconst 5, 199, [], [], []),
  (199, .iload_n 3, 200, [], [], []),
  (200, .i2l, 201, [], [], []),
  (201, .lastore, 202, [54, 12, 1], [], []),
  (202, .aload_n 0, 203, [], [], []),
  (203, .getfield 36, 206, [11, 19, 2, 54, 0], [], []),
  (206, .bipush 6, 208, [], [], []),
  (208, .iload 4, 210, [], [], []),
  (210, .i2l, 211, [], [], []),
  (211, .lastore, 212, [54, 12, 1], [], []),
  (212, .aload_n 0, 213, [], [], []),
  (213, .getfield 36, 216, [11, 19, 2, 54, 0], [], []),
  (216, .bipush 7, 218, [], [], []),
  (218, .iload 5, 220, [], [], []),
  (220, .i2l, 221, [], [], []),
  (221, .lastore, 222, [54, 12, 1], [], []),
  (222, .aload_n 0, 223, [], [], []),
  (223, .getfield 36, 226, [11, 19, 2, 54, 0], [], []),
  (226, .bipush 8, 228, [], [], []),
  (228, .aload_n 0, 229, [], [], []),
  (229, .getfield 46, 232, [11, 23, 0, 0, 0], [], []),
  (232, .ifCond .lt 11, 235, [243], [], []),
  (235, .aload_n 0, 236, [], [], []),
  (236, .getfield 46, 239, [11, 23, 0, 0, 0], [], []),
  (239, .i2l, 240, [], [], []),
  (240, .goto 15, 243, [255], [], [2, 3, 4, 5, 6]),
  (243, .aload_n 0, 244, [], [], []),
  (244, .aload_n 0, 245, [], [], []),
  (245, .getfield 39, 248, [11, 20, 2, 55, 0], [], []),
  (248, .bipush 10, 250, [], [], []),
  (250, .iaload, 251, [55, 112], [], []),
  (251, .invokevirtual 331, 254, [184, 2, 1, 0, 12], [], []),
  (254, .i2l, 255, [], [2, 3, 4, 5, 6], []),
  (255, .lastore, 256, [54, 12, 1], [], []),
  (256, .aload_n 0, 257, [], [], []),
  (257, .getfield 36, 260, [11, 19, 2, 54, 0], [], []),
  (260, .bipush 9, 262, [], [], []),
  (262, .aload_n 0, 263, [], [], []),
  (263, .aload_n 0, 264, [], [], []),
  (264, .getfield 39, 267, [11, 20, 2, 55, 0], [], []),
  (267, .bipush 10, 269, [], [], []),
  (269, .iaload, 270, [55, 112], [], []),
  (270, .iconst 1, 271, [], [], []),
  (271, .iadd, 272, [], [], []),
  (272, .invokevirtual 331, 275, [184, 2, 1, 0, 12], [], []),
  (275, .i2l, 276, [], [], []),
  (276, .lastore, 277, [54, 12, 1], [], []),
  (277, .aload_n 0, 278, [], [], []),
  (278, .getfield 36, 281, [11, 19, 2, 54, 0], [], []),
  (281, .bipush 10, 283, [], [], []),
  (283, .aload_n 0, 284, [], [], []),
  (284, .getfield 39, 287, [11, 20, 2, 55, 0], [], []),
  (287, .bipush 45, 289, [], [], []),
  (289, .iload_n 1, 290, [], [], []),
  (290, .iadd, 291, [], [], []),
  (291, .iaload, 292, [55, 112], [], []),
  (292, .i2l, 293, [], [], []),
  (293, .lastore, 294, [54, 12, 1], [], []),
  (294, .aload_n 0, 295, [], [], []),
  (295, .getfield 36, 298, [11, 19, 2, 54, 0], [], []),
  (298, .bipush 11, 300, [], [], []),
  (300, .aload_n 0, 301, [], [], []),
  (301, .getfield 39, 304, [11, 20, 2, 55, 0], [], []),
  (304, .bipush 10, 306, [], [], []),
  (306, .iaload, 307, [55, 112], [], []),
  (307, .i2l, 308, [], [], []),
  (308, .lastore, 309, [54, 12, 1], [], []),
  (309, .aload_n 0, 310, [], [], []),
  (310, .aload_n 0, 311, [], [], []),
  (311, .getfield 42, 314, [11, 21, 0, 0, 0], [], []),
  (314, .invokevirtual 334, 317, [191, 2, 2, 0, 12], [], []),
  (317, .lreturn, 318, [], [], [])]
/-- M_choice -/
def jc193 : jCode := [
  (0, .aload_n 0, 1, [], [], []),
  (1, .getfield 39, 4, [11, 20, 2, 55, 0], [], []),
  (4, .bipush 11, 6, [], [], []),
  (6, .iload_n 1, 7, [], [], []),
  (7, .iadd, 8, [], [], []),
  (8, .iaload, 9, [55, 112], [], []),
  (9, .istore_n 2, 10, [], [], []),
  (10, .aload_n 0, 11, [], [], []),
  (11, .getfield 42, 14, [11, 21, 0, 0, 0], [], []),
  (14, .ifCond .ge 21, 17, [35], [], []),
  (17, .aload_n 0, 18, [], [], []),
  (18, .iload_n 2, 19, [], [], []),
  (19, .iconst 1, 20, [], [], []),
  (20, .iadd, 21, [], [], []),
  (21, .invokevirtual 338, 24, [173, 2, 1, 0, 12], [], []),
  (24, .ifCond .eq 9, 27, [33], [], []),
  (27, .iload_n 2, 28, [], [], []),
  (28, .iconst 1, 29, [], [], []),
  (29, .iadd, 30, [], [], []),
  (30, .goto 4, 33, [34], [], [0, 1, 2]),
  (33, .iload_n 2, 34, [], [0, 1, 2], []),
  (34, .ireturn, 35, [0], [], []),
  (35, .iload_n 2, 36, [], [], []),
  (36, .istore_n 3, 37, [], [], []),
  (37, .lconst 0, 38, [], [], []),
  (38, .lstore 4, 40, [], [], []),
  (40, .iload_n 2, 41, [], [], []),
  (41, .iconst 1, 42, [], [], []),
  (42, .isub, 43, [], [], []),
  (43, .istore 6, 45, [], [], []),
  (45, .iload 6, 47, [], [], []),
  (47, .iload_n 2, 48, [], [], []),
  (48, .iconst 1, 49, [], [], []),
  (49, .iadd, 50, [], [], []),
  (50, .if_icmp .gt 48, 53, [98], [], []),
  (53, .aload_n 0, 54, [], [], []),
  (54, .iload 6, 56, [], [], []),
  (56, .invokevirtual 338, 59, [173, 2, 1, 0, 12], [], []),
  (59, .ifCond .ne 6, 62, [65], [], []),
  (62, .goto 30, 65, [92], [], []),
  (65, .aload_n 0, 66, [], [], []),
  (66, .iload_n 1, 67, [], [], []),
  (67, .iload 6, 69, [], [], []),
  (69, .invokevirtual 341, 72, [192, 3, 2, 0, 12], [], []),
  (72, .lstore 7, 74, [], [], []),
  (74, .lload 7, 76, [], [], []),
  (76, .lload 4, 78, [], [], []),
  (78, .lcmp, 79, [], [], []),
  (79, .ifCond .gt 6, 82, [85], [], []),
  (82, .goto 10, 85, [92], [], [7]),
  (85, .iload 6, 87, [], [], []),
  (87, .istore_n 3, 88, [], [], []),
  (88, .lload 7, 90, [], [], []),
  (90, .lstore 4, 92, [], [7], []),
  (92, .iinc 6 1, 95, [], [], []),
  (95, .goto (-50), 98, [45], [], []),
  (98, .iload_n 3, 99, [], [], []),
  (99, .ireturn, 100, [0], [], [])]
/-- M_swim -/
def jc194 : jCode := [
  (0, .aload_n 0, 1, [], [], []),
  (1, .getfield 39, 4, [11, 20, 2, 55, 0], [], []),
  (4, .iconst 1, 5, [], [], []),
  (5, .iaload, 6, [55, 112], [], []),
  (6, .iconst 1, 7, [], [], []),
  (7, .isub, 8, [], [], []),
  (8, .istore_n 1, 9, [], [], []),
  (9, .iconst 0, 10, [], [], []),
  (10, .istore_n 2, 11, [], [], []),
  (11, .iload_n 2, 12, [], [], []),
  (12, .aload_n 0, 13, [], [], []),
  (13, .getfield 39, 16, [11, 20, 2, 55, 0], [], []),
  (16, .iconst 5, 17, [], [], []),
  (17, .iaload, 18, [55, 112], [], []),
  (18, .if_icmp .ge 28, 21, [46], [], []),
  (21, .aload_n 0, 22, [], [], []),
  (22, .iload_n 2, 23, [], [], []),
  (23, .invokevirtual 345, 26, [177, 2, 1, 0, 12], [], []),
  (26, .ifCond .eq 14, 29, [40], [], []),
  (29, .aload_n 0, 30, [], [], []),
  (30, .getfield 49, 33, [11, 24, 2, 56, 0], [], []),
  (33, .iload_n 2, 34, [], [], []),
  (34, .aload_n 0, 35, [], [], []),
  (35, .iload_n 2, 36, [], [], []),
  (36, .invokevirtual 348, 39, [193, 2, 1, 0, 12], [], []),
  (39, .iastore, 40, [56, 6, 0], [], []),
  (40, .iinc 2 1, 43, [], [], []),
  (43, .goto (-32), 46, [11], [], []),
  (46, .iconst 0, 47, [], [], []),
  (47, .istore_n 2, 48, [], [], []),
  (48, .iload_n 2, 49, [], [], []),
  (49, .aload_n 0, 50, [], [], []),
  (50, .getfield 39, 53, [11, 20, 2, 55, 0], [], []),
  (53, .iconst 5, 54, [], [], []),
  (54, .iaload, 55, [55, 112], [], []),
  (55, .if_icmp .ge 90, 58, [145], [], []),
  (58, .aload_n 0, 59, [], [], []),
  (59, .iload_n 2, 60, [], [], []),
  (60, .invokevirtual 345, 63, [177, 2, 1, 0, 12], [], []),
  (63, .ifCond .ne 6, 66, [69], [], []),
  (66, .goto 73, 69, [139], [], []),
  (69, .aload_n 0, 70, [], [], []),
  (70, .getfield 39, 73, [11, 20, 2, 55, 0], [], []),
  (73, .bipush 11, 75, [], [], []),
  (75, .iload_n 2, 76, [], [], []),
  (76, .iadd, 77, [], [], []),
  (77, .iaload, 78, [55, 112], [], []),
  (78, .iload_n 1, 79, [], [], []),
  (79, .if_icmp .ne 35, 82, [114], [], []),
  (82, .aload_n 0, 83, [], [], []),
  (83, .getfield 49, 86, [11, 24, 2, 56, 0], [], []),
  (86, .iload_n 2, 87, [], [], []),
  (87, .iaload, 88, [56, 6], [], []),
  (88, .iload_n 1, 89, [], [], []),
  (89, .if_icmp .ne 25, 92, [114], [], []),
  (92, .aload_n 0, 93, [], [], []),
  (93, .getfield 39, 96, [11, 20, 2, 55, 0], [], []),
  (96, .bipush 33, 98, [], [], []),
  (98, .iload_n 2, 99, [], [], []),
  (99, .iadd, 100, [], [], []),
  (100, .iaload, 101, [55, 112], [], []),
  (101, .aload_n 0, 102, [], [], []),
  (102, .getfield 39, 105, [11, 20, 2, 55, 0], [], []),
  (105, .iconst 2, 106, [], [], []),
  (106, .iaload, 107, [55, 112], [], []),
  (107, .if_icmp .lt 7, 110, [114], [], []),
  (110, .iconst 1, 111, [], [], []),
  (111, .goto 4, 114, [115], [], []),
  (114, .iconst 0, 115, [], [], []),
  (115, .istore_n 3, 116, [], [], []),
  (116, .aload_n 0, 117, [], [], []),
  (117, .getfield 39, 120, [11, 20, 2, 55, 0], [], []),
  (120, .bipush 11, 122, [], [], []),
  (122, .iload_n 2, 123, [], [], []),
  (123, .iadd, 124, [], [], []),
  (124, .iload_n 3, 125, [], [], []),
  (125, .ifCond .eq 7, 128, [132], [], []),
  (128, .iconst (-1), 129, [], [], []),
  (129, .goto 9, 132, [138], [], [3]),
  (132, .aload_n 0, 133, [], [], []),
  (133, .getfield 49, 136, [11, 24, 2, 56, 0], [], []),
  (136, .iload_n 2, 137, [], [], []),
  (137, .iaload, 138, [56, 6], [3], []),
  (138, .iastore, 139, [55, 112, 0], [3], []),
  (139, .iinc 2 1, 142, [], [], []),
  (142, .goto (-94), 145, [48], [], []),
  (145, .return_, 146, [], [], [])]
/-- M_fitsIn -/
def jc195 : jCode := [
  (0, .aload_n 0, 1, [], [], []),
  (1, .getfield 39, 4, [11, 20, 2, 55, 0], [], []),
  (4, .bipush 11, 6, [], [], []),
  (6, .iload_n 1, 7, [], [], []),
  (7, .iadd, 8, [], [], []),
  (8, .iaload, 9, [55, 112], [], []),
  (9, .aload_n 0, 10, [], [], []),
  (10, .iload_n 2, 11, [], [], []),
  (11, .invokevirtual 314, 14, [179, 2, 1, 0, 12], [], []),
  (14, .if_icmp .ne 45, 17, [59], [], [0, 1, 2]),
  (17, .aload_n 0, 18, [], [], []),
  (18, .getfield 39, 21, [11, 20, 2, 55, 0], [], []),
  (21, .bipush 39, 23, [], [], []),
  (23, .iload_n 1, 24, [], [], []),
  (24, .iadd, 25, [], [], []),
  (25, .iaload, 26, [55, 112], [], []),
  (26, .aload_n 0, 27, [], [], []),
  (27, .iload_n 2, 28, [], [], []),
  (28, .invokevirtual 317, 31, [180, 2, 1, 0, 12], [], []),
  (31, .if_icmp .ne 28, 34, [59], [], [0, 1, 2]),
  (34, .aload_n 0, 35, [], [], []),
  (35, .getfield 39, 38, [11, 20, 2, 55, 0], [], []),
  (38, .bipush 33, 40, [], [], []),
  (40, .iload_n 1, 41, [], [], []),
  (41, .iadd, 42, [], [], []),
  (42, .iaload, 43, [55, 112], [], []),
  (43, .aload_n 0, 44, [], [], []),
  (44, .getfield 39, 47, [11, 20, 2, 55, 0], [], []),
  (47, .bipush 25, 49, [], [], []),
  (49, .iload_n 2, 50, [], [], []),
  (50, .iadd, 51, [], [], []),
  (51, .iaload, 52, [55, 112], [], []),
  (52, .if_icmp .gt 7, 55, [59], [], [0, 1, 2]),
  (55, .iconst 1, 56, [], [], []),
  (56, .goto 4, 59, [60], [], [0, 1, 2]),
  (59, .iconst 0, 60, [], [0, 1, 2], []),
  (60, .ireturn, 61, [1], [], [])]
/-- M_catches -/
def jc196 : jCode := [
  (0, .iconst 0, 1, [], [], []),
  (1, .istore_n 2, 2, [], [], []),
  (2, .iload_n 2, 3, [], [], []),
  (3, .aload_n 0, 4, [], [], []),
  (4, .getfield 39, 7, [11, 20, 2, 55, 0], [], []),
  (7, .iconst 5, 8, [], [], []),
  (8, .iaload, 9, [55, 112], [], []),
  (9, .if_icmp .ge 38, 12, [47], [], []),
  (12, .aload_n 0, 13, [], [], []),
  (13, .iload_n 2, 14, [], [], []),
  (14, .iload_n 1, 15, [], [], []),
  (15, .invokevirtual 351, 18, [195, 3, 1, 0, 12], [], []),
  (18, .ifCond .ne 6, 21, [24], [], []),
  (21, .goto 20, 24, [41], [], []),
  (24, .aload_n 0, 25, [], [], []),
  (25, .getfield 39, 28, [11, 20, 2, 55, 0], [], []),
  (28, .bipush 11, 30, [], [], []),
  (30, .iload_n 2, 31, [], [], []),
  (31, .iadd, 32, [], [], []),
  (32, .bipush 20, 34, [], [], []),
  (34, .iload_n 1, 35, [], [], []),
  (35, .iadd, 36, [], [], []),
  (36, .iastore, 37, [55, 112, 0], [], []),
  (37, .iconst 1, 38, [], [], []),
  (38, .iload_n 2, 39, [], [], []),
  (39, .ishl, 40, [], [], []),
  (40, .ireturn, 41, [0], [], []),
  (41, .iinc 2 1, 44, [], [], []),
  (44, .goto (-42), 47, [2], [], []),
  (47, .iconst 0, 48, [], [], []),
  (48, .ireturn, 49, [0], [], [])]
/-- M_passes -/
def jc197 : jCode := [
  (0, .iconst 0, 1, [], [], []),
  (1, .istore_n 1, 2, [], [], []),
  (2, .aload_n 0, 3, [], [], []),
  (3, .invokevirtual 354, 6, [194, 1, 0, 0, 12], [], []),
  (6, .iconst 0, 7, [], [], []),
  (7, .istore_n 2, 8, [], [], []),
  (8, .iload_n 2, 9, [], [], []),
  (9, .aload_n 0, 10, [], [], []),
  (10, .getfield 39, 13, [11, 20, 2, 55, 0], [], []),
  (13, .bipush 6, 15, [], [], []),
  (15, .iaload, 16, [55, 112], [], []),
  (16, .if_icmp .ge 25, 19, [41], [], []),
  (19, .aload_n 0, 20, [], [], []),
  (20, .iload_n 2, 21, [], [], []),
  (21, .invokevirtual 303, 24, [181, 2, 1, 0, 12], [], []),
  (24, .ifCond .ge 11, 27, [35], [], []),
  (27, .iload_n 1, 28, [], [], []),
  (28, .aload_n 0, 29, [], [], []),
  (29, .iload_n 2, 30, [], [], []),
  (30, .invokevirtual 357, 33, [196, 2, 1, 0, 12], [], []),
  (33, .ior, 34, [], [], []),
  (34, .istore_n 1, 35, [], [], []),
  (35, .iinc 2 1, 38, [], [], []),
  (38, .goto (-30), 41, [8], [], []),
  (41, .aload_n 0, 42, [], [], []),
  (42, .iconst (-1), 43, [], [], []),
  (43, .putfield 46, 46, [11, 23, 0, 0, 0], [], []),
  (46, .aload_n 0, 47, [], [], []),
  (47, .getfield 39, 50, [11, 20, 2, 55, 0], [], []),
  (50, .bipush 10, 52, [], [], []),
  (52, .dup2, 53, [], [], []),
  (53, .iaload, 54, [55, 112], [], []),
  (54, .iconst 1, 55, [], [], []),
  (55, .iadd, 56, [], [], []),
  (56, .iastore, 57, [55, 112, 0], [], []),
  (57, .iload_n 1, 58, [], [], []),
  (58, .ireturn, 59, [0], [], [])]
/-- M_passesAll -/
def jc198 : jCode := [
  (0, .iconst 0, 1, [], [], []),
  (1, .istore_n 2, 2, [], [], []),
  (2, .iload_n 2, 3, [], [], []),
  (3, .iload_n 1, 4, [], [], []),
  (4, .if_icmp .ge 14, 7, [18], [], []),
  (7, .aload_n 0, 8, [], [], []),
  (8, .invokevirtual 360, 11, [197, 1, 1, 0, 12], [], []),
  (11, .pop, 12, [], [], []),
  (12, .iinc 2 1, 15, [], [], []),
  (15, .goto (-13), 18, [2], [], []),
  (18, .return_, 19, [], [], [])]
/-- M_keepsAct -/
def jc199 : jCode := [
  (0, .aload_n 0, 1, [], [], []),
  (1, .getfield 274, 4, [11, 26, 0, 0, 0], [], []),
  (4, .bipush 20, 6, [], [], []),
  (6, .if_icmp .ne 44, 9, [50], [], []),
  (9, .bipush 15, 11, [], [], []),
  (11, .istore_n 1, 12, [], [], []),
  (12, .iload_n 1, 13, [], [], []),
  (13, .sipush 300, 16, [], [], []),
  (16, .if_icmp .ge 24, 19, [40], [], []),
  (19, .aload_n 0, 20, [], [], []),
  (20, .getfield 52, 23, [11, 25, 2, 57, 0], [], []),
  (23, .iload_n 1, 24, [], [], []),
  (24, .bipush 15, 26, [], [], []),
  (26, .isub, 27, [], [], []),
  (27, .aload_n 0, 28, [], [], []),
  (28, .getfield 52, 31, [11, 25, 2, 57, 0], [], []),
  (31, .iload_n 1, 32, [], [], []),
  (32, .iaload, 33, [57, 300], [], []),
  (33, .iastore, 34, [57, 300, 0], [], []),
  (34, .iinc 1 1, 37, [], [], []),
  (37, .goto (-25), 40, [12], [], []),
  (40, .aload_n 0, 41, [], [], []),
  (41, .dup, 42, [], [], []),
  (42, .getfield 274, 45, [11, 26, 0, 0, 0], [], []),
  (45, .iconst 1, 46, [], [], []),
  (46, .isub, 47, [], [], []),
  (47, .putfield 274, 50, [11, 26, 0, 0, 0], [1], []),
  (50, .iconst 0, 51, [], [], []),
  (51, .istore_n 1, 52, [], [], []),
  (52, .iload_n 1, 53, [], [], []),
  (53, .bipush 15, 55, [], [], []),
  (55, .if_icmp .ge 32, 58, [87], [], []),
  (58, .aload_n 0, 59, [], [], []),
  (59, .getfield 52, 62, [11, 25, 2, 57, 0], [], []),
  (62, .bipush 15, 64, [], [], []),
  (64, .aload_n 0, 65, [], [], []),
  (65, .getfield 274, 68, [11, 26, 0, 0, 0], [], []),
  (68, .imul, 69, [], [], []),
  (69, .iload_n 1, 70, [], [], []),
  (70, .iadd, 71, [], [], []),
  (71, .aload_n 0, 72, [], [], []),
  (72, .getfield 39, 75, [11, 20, 2, 55, 0], [], []),
  (75, .bipush 10, 77, [], [], []),
  (77, .iload_n 1, 78, [], [], []),
  (78, .iadd, 79, [], [], []),
  (79, .iaload, 80, [55, 112], [], []),
  (80, .iastore, 81, [57, 300, 0], [], []),
  (81, .iinc 1 1, 84, [], [], []),
  (84, .goto (-32), 87, [52], [], []),
  (87, .aload_n 0, 88, [], [], []),
  (88, .dup, 89, [], [], []),
  (89, .getfield 274, 92, [11, 26, 0, 0, 0], [], []),
  (92, .iconst 1, 93, [], [], []),
  (93, .iadd, 94, [], [], []),
  (94, .putfield 274, 97, [11, 26, 0, 0, 0], [], []),
  (97, .return_, 98, [], [], [])]
/-- M_undo -/
def jc200 : jCode := [
  (0, .aload_n 0, 1, [], [], []),
  (1, .getfield 274, 4, [11, 26, 0, 0, 0], [], []),
  (4, .ifCond .ne 5, 7, [9], [], []),
  (7, .iconst (-1), 8, [], [], []),
  (8, .ireturn, 9, [0], [], []),
  (9, .aload_n 0, 10, [], [], []),
  (10, .dup, 11, [], [], []),
  (11, .getfield 274, 14, [11, 26, 0, 0, 0], [], []),
  (14, .iconst 1, 15, [], [], []),
  (15, .isub, 16, [], [], []),
  (16, .putfield 274, 19, [11, 26, 0, 0, 0], [], []),
  (19, .iconst 0, 20, [], [], []),
  (20, .istore_n 1, 21, [], [], []),
  (21, .iload_n 1, 22, [], [], []),
  (22, .bipush 15, 24, [], [], []),
  (24, .if_icmp .ge 32, 27, [56], [], []),
  (27, .aload_n 0, 28, [], [], []),
  (28, .getfield 39, 31, [11, 20, 2, 55, 0], [], []),
  (31, .bipush 10, 33, [], [], []),
  (33, .iload_n 1, 34, [], [], []),
  (34, .iadd, 35, [], [], []),
  (35, .aload_n 0, 36, [], [], []),
  (36, .getfield 52, 39, [11, 25, 2, 57, 0], [], []),
  (39, .bipush 15, 41, [], [], []),
  (41, .aload_n 0, 42, [], [], []),
  (42, .getfield 274, 45, [11, 26, 0, 0, 0], [], []),
  (45, .imul, 46, [], [], []),
  (46, .iload_n 1, 47, [], [], []),
  (47, .iadd, 48, [], [], []),
  (48, .iaload, 49, [57, 300], [], []),
  (49, .iastore, 50, [55, 112, 0], [], []),
  (50, .iinc 1 1, 53, [], [], []),
  (53, .goto (-32), 56, [21], [], []),
  (56, .aload_n 0, 57, [], [], []),
  (57, .getfield 274, 60, [11, 26, 0, 0, 0], [], []),
  (60, .ireturn, 61, [0], [], [])]
/-- M_night -/
def jc201 : jCode := [
  (0, .aload_n 0, 1, [], [], []),
  (1, .invokevirtual 292, 4, [171, 1, 1, 0, 12], [], []),
  (4, .ifCond .eq 16, 7, [20], [], [0]),
  (7, .aload_n 0, 8, [], [], []),
  (8, .getfield 39, 11, [11, 20, 2, 55, 0], [], []),
  (11, .bipush 10, 13, [], [], []),
  (13, .iaload, 14, [55, 112], [], []),
  (14, .sipush 999, 17, [], [], []),
  (17, .if_icmp .ne 5, 20, [22], [0], []),
  (20, .iconst (-1), 21, [], [], []),
  (21, .ireturn, 22, [0], [], []),
  (22, .aload_n 0, 23, [], [], []),
  (23, .invokevirtual 363, 26, [199, 1, 0, 0, 12], [], []),
  (26, .aload_n 0, 27, [], [], []),
  (27, .invokevirtual 360, 30, [197, 1, 1, 0, 12], [], []),
  (30, .ireturn, 31, [0], [], [])]
/-- M_lift -/
def jc202 : jCode := [
  (0, .aload_n 0, 1, [], [], []),
  (1, .iload_n 1, 2, [], [], []),
  (2, .invokevirtual 300, 5, [176, 2, 1, 0, 12], [], []),
  (5, .ifCond .eq 11, 8, [16], [], [0, 1]),
  (8, .aload_n 0, 9, [], [], []),
  (9, .iload_n 1, 10, [], [], []),
  (10, .invokevirtual 303, 13, [181, 2, 1, 0, 12], [], []),
  (13, .ifCond .ge 5, 16, [18], [0, 1], []),
  (16, .iconst (-1), 17, [], [], []),
  (17, .ireturn, 18, [0], [], []),
  (18, .aload_n 0, 19, [], [], []),
  (19, .iload_n 1, 20, [], [], []),
  (20, .invokevirtual 303, 23, [181, 2, 1, 0, 12], [], []),
  (23, .istore_n 2, 24, [], [], []),
  (24, .aload_n 0, 25, [], [], []),
  (25, .getfield 39, 28, [11, 20, 2, 55, 0], [], []),
  (28, .bipush 33, 30, [], [], []),
  (30, .iload_n 2, 31, [], [], []),
  (31, .iadd, 32, [], [], []),
  (32, .iaload, 33, [55, 112], [], []),
  (33, .aload_n 0, 34, [], [], []),
  (34, .getfield 39, 37, [11, 20, 2, 55, 0], [], []),
  (37, .bipush 51, 39, [], [], []),
  (39, .aload_n 0, 40, [], [], []),
  (40, .getfield 39, 43, [11, 20, 2, 55, 0], [], []),
  (43, .bipush 29, 45, [], [], []),
  (45, .iload_n 1, 46, [], [], []),
  (46, .iadd, 47, [], [], []),
  (47, .iaload, 48, [55, 112], [], []),
  (48, .iadd, 49, [], [], []),
  (49, .iaload, 50, [55, 112], [], []),
  (50, .if_icmp .le 5, 53, [55], [], []),
  (53, .iconst (-1), 54, [], [], []),
  (54, .ireturn, 55, [0], [], []),
  (55, .aload_n 0, 56, [], [], []),
  (56, .invokevirtual 363, 59, [199, 1, 0, 0, 12], [], []),
  (59, .aload_n 0, 60, [], [], []),
  (60, .getfield 39, 63, [11, 20, 2, 55, 0], [], []),
  (63, .bipush 11, 65, [], [], []),
  (65, .iload_n 2, 66, [], [], []),
  (66, .iadd, 67, [], [], []),
  (67, .bipush 30, 69, [], [], []),
  (69, .aload_n 0, 70, [], [], []),
  (70, .getfield 39, 73, [11, 20, 2, 55, 0], [], []),
  (73, .bipush 29, 75, [], [], []),
  (75, .iload_n 1, 76, [], [], []),
  (76, .iadd, 77, [], [], []),
  (77, .iaload, 78, [55, 112], [], []),
  (78, .iadd, 79, [], [], []),
  (79, .iastore, 80, [55, 112, 0], [], []),
  (80, .iload_n 2, 81, [], [], []),
  (81, .ireturn, 82, [0], [], [])]
/-- M_sink -/
def jc203 : jCode := [
  (0, .aload_n 0, 1, [], [], []),
  (1, .iload_n 1, 2, [], [], []),
  (2, .invokevirtual 366, 5, [182, 2, 1, 0, 12], [], []),
  (5, .ifCond .eq 41, 8, [46], [], [0, 1, 2, 3]),
  (8, .aload_n 0, 9, [], [], []),
  (9, .iload_n 2, 10, [], [], []),
  (10, .invokevirtual 338, 13, [173, 2, 1, 0, 12], [], []),
  (13, .ifCond .eq 33, 16, [46], [], [0, 1, 2, 3]),
  (16, .iload_n 3, 17, [], [], []),
  (17, .i2l, 18, [], [], []),
  (18, .lconst 0, 19, [], [], []),
  (19, .ldc2_w 369, 22, [7], [], []),
  (22, .invokestatic 121, 25, [125, 3, 1, 0, 0], [], []),
  (25, .ifCond .eq 21, 28, [46], [], [0, 1, 2, 3]),
  (28, .aload_n 0, 29, [], [], []),
  (29, .iload_n 1, 30, [], [], []),
  (30, .invokevirtual 314, 33, [179, 2, 1, 0, 12], [], []),
  (33, .iload_n 2, 34, [], [], []),
  (34, .if_icmp .ne 14, 37, [48], [], []),
  (37, .aload_n 0, 38, [], [], []),
  (38, .iload_n 1, 39, [], [], []),
  (39, .invokevirtual 317, 42, [180, 2, 1, 0, 12], [], []),
  (42, .iload_n 3, 43, [], [], []),
  (43, .if_icmp .ne 5, 46, [48], [0, 1, 2, 3], []),
  (46, .iconst (-1), 47, [], [], []),
  (47, .ireturn, 48, [0], [], []),
  (48, .aload_n 0, 49, [], [], []),
  (49, .invokevirtual 363, 52, [199, 1, 0, 0, 12], [], []),
  (52, .bipush 8, 54, [], [], []),
  (54, .aload_n 0, 55, [], [], []),
  (55, .iload_n 1, 56, [], [], []),
  (56, .invokevirtual 314, 59, [179, 2, 1, 0, 12], [], []),
  (59, .imul, 60, [], [], []),
  (60, .aload_n 0, 61, [], [], []),
  (61, .iload_n 1, 62, [], [], []),
  (62, .invokevirtual 317, 65, [180, 2, 1, 0, 12], [], []),
  (65, .iadd, 66, [], [], []),
  (66, .istore 4, 68, [], [], []),
  (68, .aload_n 0, 69, [], [], []),
  (69, .getfield 39, 72, [11, 20, 2, 55, 0], [], []),
  (72, .bipush 17, 74, [], [], []),
  (74, .iconst 2, 75, [], [], []),
  (75, .iload_n 1, 76, [], [], []),
  (76, .imul, 77, [], [], []),
  (77, .iadd, 78, [], [], []),
  (78, .iload_n 2, 79, [], [], []),
  (79, .iastore, 80, [55, 112, 0], [], []),
  (80, .aload_n 0, 81, [], [], []),
  (81, .getfield 39, 84, [11, 20, 2, 55, 0], [], []),
  (84, .bipush 17, 86, [], [], []),
  (86, .iconst 2, 87, [], [], []),
  (87, .iload_n 1, 88, [], [], []),
  (88, .imul, 89, [], [], []),
  (89, .iadd, 90, [], [], []),
  (90, .iconst 1, 91, [], [], []),
  (91, .iadd, 92, [], [], []),
  (92, .iload_n 3, 93, [], [], []),
  (93, .iastore, 94, [55, 112, 0], [], []),
  (94, .iload 4, 96, [], [], []),
  (96, .ireturn, 97, [0], [], [])]
/-- M_free -/
def jc204 : jCode := [
  (0, .aload_n 0, 1, [], [], []),
  (1, .iload_n 1, 2, [], [], []),
  (2, .invokevirtual 371, 5, [178, 2, 1, 0, 12], [], []),
  (5, .ifCond .eq 11, 8, [16], [], [0, 1, 2]),
  (8, .aload_n 0, 9, [], [], []),
  (9, .iload_n 2, 10, [], [], []),
  (10, .invokevirtual 338, 13, [173, 2, 1, 0, 12], [], []),
  (13, .ifCond .ne 5, 16, [18], [0, 1, 2], []),
  (16, .iconst (-1), 17, [], [], []),
  (17, .ireturn, 18, [0], [], []),
  (18, .aload_n 0, 19, [], [], []),
  (19, .invokevirtual 363, 22, [199, 1, 0, 0, 12], [], []),
  (22, .aload_n 0, 23, [], [], []),
  (23, .getfield 39, 26, [11, 20, 2, 55, 0], [], []),
  (26, .bipush 11, 28, [], [], []),
  (28, .iload_n 1, 29, [], [], []),
  (29, .iadd, 30, [], [], []),
  (30, .iaload, 31, [55, 112], [], []),
  (31, .bipush 30, 33, [], [], []),
  (33, .isub, 34, [], [], []),
  (34, .istore_n 3, 35, [], [], []),
  (35, .aload_n 0, 36, [], [], []),
  (36, .getfield 39, 39, [11, 20, 2, 55, 0], [], []),
  (39, .bipush 11, 41, [], [], []),
  (41, .iload_n 1, 42, [], [], []),
  (42, .iadd, 43, [], [], []),
  (43, .iload_n 2, 44, [], [], []),
  (44, .iastore, 45, [55, 112, 0], [], []),
  (45, .iload_n 3, 46, [], [], []),
  (46, .ireturn, 47, [0], [], [])]
/-- M_give -/
def jc205 : jCode := [
  (0, .aload_n 0, 1, [], [], []),
  (1, .iload_n 1, 2, [], [], []),
  (2, .invokevirtual 371, 5, [178, 2, 1, 0, 12], [], []),
  (5, .ifCond .eq 27, 8, [32], [], [0, 1, 2]),
  (8, .aload_n 0, 9, [], [], []),
  (9, .iload_n 2, 10, [], [], []),
  (10, .invokevirtual 320, 13, [174, 2, 1, 0, 12], [], []),
  (13, .ifCond .eq 19, 16, [32], [], [0, 1, 2]),
  (16, .aload_n 0, 17, [], [], []),
  (17, .getfield 39, 20, [11, 20, 2, 55, 0], [], []),
  (20, .bipush 11, 22, [], [], []),
  (22, .iload_n 1, 23, [], [], []),
  (23, .iadd, 24, [], [], []),
  (24, .iaload, 25, [55, 112], [], []),
  (25, .bipush 30, 27, [], [], []),
  (27, .iload_n 2, 28, [], [], []),
  (28, .iadd, 29, [], [], []),
  (29, .if_icmp .ne 5, 32, [34], [0, 1, 2], []),
  (32, .iconst (-1), 33, [], [], []),
  (33, .ireturn, 34, [0], [], []),
  (34, .aload_n 0, 35, [], [], []),
  (35, .invokevirtual 363, 38, [199, 1, 0, 0, 12], [], []),
  (38, .aload_n 0, 39, [], [], []),
  (39, .getfield 39, 42, [11, 20, 2, 55, 0], [], []),
  (42, .bipush 11, 44, [], [], []),
  (44, .iload_n 1, 45, [], [], []),
  (45, .iadd, 46, [], [], []),
  (46, .iaload, 47, [55, 112], [], []),
  (47, .bipush 30, 49, [], [], []),
  (49, .isub, 50, [], [], []),
  (50, .istore_n 3, 51, [], [], []),
  (51, .aload_n 0, 52, [], [], []),
  (52, .getfield 39, 55, [11, 20, 2, 55, 0], [], []),
  (55, .bipush 11, 57, [], [], []),
  (57, .iload_n 1, 58, [], [], []),
  (58, .iadd, 59, [], [], []),
  (59, .bipush 30, 61, [], [], []),
  (61, .iload_n 2, 62, [], [], []),
  (62, .iadd, 63, [], [], []),
  (63, .iastore, 64, [55, 112, 0], [], []),
  (64, .iload_n 3, 65, [], [], []),
  (65, .ireturn, 66, [0], [], [])]
/-- M_keeps -/
def jc206 : jCode := [
  (0, .iconst 0, 1, [], [], []),
  (1, .istore_n 1, 2, [], [], []),
  (2, .iload_n 1, 3, [], [], []),
  (3, .bipush 15, 5, [], [], []),
  (5, .if_icmp .ge 24, 8, [29], [], []),
  (8, .aload_n 0, 9, [], [], []),
  (9, .getfield 55, 12, [11, 27, 2, 58, 0], [], []),
  (12, .iload_n 1, 13, [], [], []),
  (13, .aload_n 0, 14, [], [], []),
  (14, .getfield 39, 17, [11, 20, 2, 55, 0], [], []),
  (17, .bipush 10, 19, [], [], []),
  (19, .iload_n 1, 20, [], [], []),
  (20, .iadd, 21, [], [], []),
  (21, .iaload, 22, [55, 112], [], []),
  (22, .iastore, 23, [58, 15, 0], [], []),
  (23, .iinc 1 1, 26, [], [], []),
  (26, .goto (-24), 29, [2], [], []),
  (29, .return_, 30, [], [], [])]
/-- M_laysBack -/
def jc207 : jCode := [
  (0, .iconst 0, 1, [], [], []),
  (1, .istore_n 1, 2, [], [], []),
  (2, .iload_n 1, 3, [], [], []),
  (3, .bipush 15, 5, [], [], []),
  (5, .if_icmp .ge 24, 8, [29], [], []),
  (8, .aload_n 0, 9, [], [], []),
  (9, .getfield 39, 12, [11, 20, 2, 55, 0], [], []),
  (12, .bipush 10, 14, [], [], []),
  (14, .iload_n 1, 15, [], [], []),
  (15, .iadd, 16, [], [], []),
  (16, .aload_n 0, 17, [], [], []),
  (17, .getfield 55, 20, [11, 27, 2, 58, 0], [], []),
  (20, .iload_n 1, 21, [], [], []),
  (21, .iaload, 22, [58, 15], [], []),
  (22, .iastore, 23, [55, 112, 0], [], []),
  (23, .iinc 1 1, 26, [], [], []),
  (26, .goto (-24), 29, [2], [], []),
  (29, .return_, 30, [], [], [])]
/-- M_ahead -/
def jc208 : jCode := [
  (0, .aload_n 0, 1, [], [], []),
  (1, .iload_n 1, 2, [], [], []),
  (2, .invokevirtual 295, 5, [175, 2, 1, 0, 12], [], []),
  (5, .ifCond .eq 15, 8, [20], [], [0, 1, 2]),
  (8, .iload_n 2, 9, [], [], []),
  (9, .i2l, 10, [], [], []),
  (10, .lconst 0, 11, [], [], []),
  (11, .ldc2_w 374, 14, [100], [], []),
  (14, .invokestatic 121, 17, [125, 3, 1, 0, 0], [], []),
  (17, .ifCond .ne 6, 20, [23], [0, 1, 2], []),
  (20, .bipush (-2), 22, [], [], []),
  (22, .ireturn, 23, [0], [], []),
  (23, .aload_n 0, 24, [], [], []),
  (24, .invokevirtual 376, 27, [206, 1, 0, 0, 12], [], []),
  (27, .aload_n 0, 28, [], [], []),
  (28, .iload_n 2, 29, [], [], []),
  (29, .invokevirtual 379, 32, [198, 2, 0, 0, 12], [], []),
  (32, .aload_n 0, 33, [], [], []),
  (33, .getfield 39, 36, [11, 20, 2, 55, 0], [], []),
  (36, .bipush 11, 38, [], [], []),
  (38, .iload_n 1, 39, [], [], []),
  (39, .iadd, 40, [], [], []),
  (40, .iaload, 41, [55, 112], [], []),
  (41, .istore_n 3, 42, [], [], []),
  (42, .aload_n 0, 43, [], [], []),
  (43, .invokevirtual 382, 46, [207, 1, 0, 0, 12], [], []),
  (46, .iload_n 3, 47, [], [], []),
  (47, .ireturn, 48, [0], [], [])]
/-- M_caught -/
def jc209 : jCode := [
  (0, .aload_n 0, 1, [], [], []),
  (1, .iload_n 1, 2, [], [], []),
  (2, .invokevirtual 345, 5, [177, 2, 1, 0, 12], [], []),
  (5, .ifCond .eq 13, 8, [18], [], [0, 1, 2]),
  (8, .iload_n 2, 9, [], [], []),
  (9, .i2l, 10, [], [], []),
  (10, .lconst 0, 11, [], [], []),
  (11, .lconst 1, 12, [], [], []),
  (12, .invokestatic 121, 15, [125, 3, 1, 0, 0], [], []),
  (15, .ifCond .ne 5, 18, [20], [0, 1, 2], []),
  (18, .iconst (-1), 19, [], [], []),
  (19, .ireturn, 20, [0], [], []),
  (20, .bipush (-2), 22, [], [], []),
  (22, .istore_n 3, 23, [], [], []),
  (23, .aload_n 0, 24, [], [], []),
  (24, .invokevirtual 376, 27, [206, 1, 0, 0, 12], [], []),
  (27, .iconst 0, 28, [], [], []),
  (28, .istore 4, 30, [], [], []),
  (30, .iload 4, 32, [], [], []),
  (32, .sipush 200, 35, [], [], []),
  (35, .if_icmp .ge 53, 38, [88], [], [1, 2, 4]),
  (38, .iload_n 3, 39, [], [], []),
  (39, .ifCond .ge 49, 42, [88], [], [1, 2, 4]),
  (42, .aload_n 0, 43, [], [], []),
  (43, .invokevirtual 360, 46, [197, 1, 1, 0, 12], [], []),
  (46, .iload_n 1, 47, [], [], []),
  (47, .invokestatic 385, 50, [126, 2, 1, 0, 0], [], []),
  (50, .ifCond .eq 32, 53, [82], [], []),
  (53, .iload_n 2, 54, [], [], []),
  (54, .ifCond .ne 15, 57, [69], [], []),
  (57, .aload_n 0, 58, [], [], []),
  (58, .getfield 39, 61, [11, 20, 2, 55, 0], [], []),
  (61, .bipush 10, 63, [], [], []),
  (63, .iaload, 64, [55, 112], [], []),
  (64, .iconst 1, 65, [], [], []),
  (65, .isub, 66, [], [], []),
  (66, .goto 15, 69, [81], [], [3]),
  (69, .aload_n 0, 70, [], [], []),
  (70, .getfield 39, 73, [11, 20, 2, 55, 0], [], []),
  (73, .bipush 11, 75, [], [], []),
  (75, .iload_n 1, 76, [], [], []),
  (76, .iadd, 77, [], [], []),
  (77, .iaload, 78, [55, 112], [], []),
  (78, .bipush 20, 80, [], [], []),
  (80, .isub, 81, [], [3], []),
  (81, .istore_n 3, 82, [], [], []),
  (82, .iinc 4 1, 85, [], [], []),
  (85, .goto (-55), 88, [30], [], []),
  (88, .aload_n 0, 89, [], [], []),
  (89, .invokevirtual 382, 92, [207, 1, 0, 0, 12], [], []),
  (92, .iload_n 3, 93, [], [], []),
  (93, .ireturn, 94, [0], [], [])]
/-- M_atSea -/
def jc210 : jCode := [
  (0, .aload_n 0, 1, [], [], []),
  (1, .invokevirtual 292, 4, [171, 1, 1, 0, 12], [], []),
  (4, .ifCond .eq 15, 7, [19], [], [0, 1]),
  (7, .iload_n 1, 8, [], [], []),
  (8, .i2l, 9, [], [], []),
  (9, .lconst 0, 10, [], [], []),
  (10, .ldc2_w 374, 13, [100], [], []),
  (13, .invokestatic 121, 16, [125, 3, 1, 0, 0], [], []),
  (16, .ifCond .ne 5, 19, [21], [0, 1], []),
  (19, .iconst (-1), 20, [], [], []),
  (20, .ireturn, 21, [0], [], []),
  (21, .aload_n 0, 22, [], [], []),
  (22, .invokevirtual 376, 25, [206, 1, 0, 0, 12], [], []),
  (25, .aload_n 0, 26, [], [], []),
  (26, .iload_n 1, 27, [], [], []),
  (27, .invokevirtual 379, 30, [198, 2, 0, 0, 12], [], []),
  (30, .aload_n 0, 31, [], [], []),
  (31, .iconst (-1), 32, [], [], []),
  (32, .iconst (-1), 33, [], [], []),
  (33, .invokevirtual 323, 36, [183, 3, 1, 0, 12], [], []),
  (36, .istore_n 2, 37, [], [], []),
  (37, .aload_n 0, 38, [], [], []),
  (38, .invokevirtual 382, 41, [207, 1, 0, 0, 12], [], []),
  (41, .iload_n 2, 42, [], [], []),
  (42, .ireturn, 43, [0], [], [])]
/-- M_trapped -/
def jc211 : jCode := [
  (0, .aload_n 0, 1, [], [], []),
  (1, .bipush 20, 3, [], [], []),
  (3, .bipush 23, 5, [], [], []),
  (5, .invokevirtual 323, 8, [183, 3, 1, 0, 12], [], []),
  (8, .invokestatic 388, 11, [127, 1, 1, 0, 0], [], []),
  (11, .ireturn, 12, [0], [], [])]
/-- M_full -/
def jc212 : jCode := [
  (0, .aload_n 0, 1, [], [], []),
  (1, .invokevirtual 292, 4, [171, 1, 1, 0, 12], [], []),
  (4, .ifCond .ne 5, 7, [9], [], []),
  (7, .iconst (-1), 8, [], [], []),
  (8, .ireturn, 9, [0], [], []),
  (9, .bipush (-2), 11, [], [], []),
  (11, .istore_n 1, 12, [], [], []),
  (12, .aload_n 0, 13, [], [], []),
  (13, .invokevirtual 376, 16, [206, 1, 0, 0, 12], [], []),
  (16, .iconst 0, 17, [], [], []),
  (17, .istore_n 2, 18, [], [], []),
  (18, .iload_n 2, 19, [], [], []),
  (19, .sipush 200, 22, [], [], []),
  (22, .if_icmp .ge 42, 25, [64], [], [2]),
  (25, .iload_n 1, 26, [], [], []),
  (26, .ifCond .ge 38, 29, [64], [], [2]),
  (29, .aload_n 0, 30, [], [], []),
  (30, .invokevirtual 360, 33, [197, 1, 1, 0, 12], [], []),
  (33, .pop, 34, [], [], []),
  (34, .aload_n 0, 35, [], [], []),
  (35, .invokevirtual 391, 38, [211, 1, 1, 0, 12], [], []),
  (38, .aload_n 0, 39, [], [], []),
  (39, .getfield 39, 42, [11, 20, 2, 55, 0], [], []),
  (42, .bipush 6, 44, [], [], []),
  (44, .iaload, 45, [55, 112], [], []),
  (45, .if_icmp .ne 13, 48, [58], [], []),
  (48, .aload_n 0, 49, [], [], []),
  (49, .getfield 39, 52, [11, 20, 2, 55, 0], [], []),
  (52, .bipush 10, 54, [], [], []),
  (54, .iaload, 55, [55, 112], [], []),
  (55, .iconst 1, 56, [], [], []),
  (56, .isub, 57, [], [], []),
  (57, .istore_n 1, 58, [], [], []),
  (58, .iinc 2 1, 61, [], [], []),
  (61, .goto (-43), 64, [18], [], []),
  (64, .aload_n 0, 65, [], [], []),
  (65, .invokevirtual 382, 68, [207, 1, 0, 0, 12], [], []),
  (68, .iload_n 1, 69, [], [], []),
  (69, .ireturn, 70, [0], [], [])]
/-- M_trappedIn -/
def jc213 : jCode := [
  (0, .aload_n 0, 1, [], [], []),
  (1, .iload_n 1, 2, [], [], []),
  (2, .invokevirtual 379, 5, [198, 2, 0, 0, 12], [], []),
  (5, .aload_n 0, 6, [], [], []),
  (6, .invokevirtual 391, 9, [211, 1, 1, 0, 12], [], []),
  (9, .istore_n 2, 10, [], [], []),
  (10, .aload_n 0, 11, [], [], []),
  (11, .invokevirtual 382, 14, [207, 1, 0, 0, 12], [], []),
  (14, .iload_n 2, 15, [], [], []),
  (15, .ireturn, 16, [0], [], [])]
/-- M_bestSink -/
def jc214 : jCode := [
  (0, .aload_n 0, 1, [], [], []),
  (1, .iload_n 1, 2, [], [], []),
  (2, .invokevirtual 366, 5, [182, 2, 1, 0, 12], [], []),
  (5, .ifCond .eq 27, 8, [32], [], [0, 1, 2, 3]),
  (8, .iload_n 2, 9, [], [], []),
  (9, .i2l, 10, [], [], []),
  (10, .lconst 1, 11, [], [], []),
  (11, .ldc2_w 394, 14, [40], [], []),
  (14, .invokestatic 121, 17, [125, 3, 1, 0, 0], [], []),
  (17, .ifCond .eq 15, 20, [32], [], [0, 1, 2, 3]),
  (20, .iload_n 3, 21, [], [], []),
  (21, .i2l, 22, [], [], []),
  (22, .lconst 0, 23, [], [], []),
  (23, .ldc2_w 396, 26, [2], [], []),
  (26, .invokestatic 121, 29, [125, 3, 1, 0, 0], [], []),
  (29, .ifCond .ne 6, 32, [35], [0, 1, 2, 3], []),
  (32, .bipush (-2), 34, [], [], []),
  (34, .ireturn, 35, [0], [], []),
  (35, .aload_n 0, 36, [], [], []),
  (36, .invokevirtual 376, 39, [206, 1, 0, 0, 12], [], []),
  (39, .iconst (-1), 40, [], [], []),
  (40, .istore 4, 42, [], [], []),
  (42, .aload_n 0, 43, [], [], []),
  (43, .iload_n 2, 44, [], [], []),
  (44, .invokevirtual 398, 47, [213, 2, 1, 0, 12], [], []),
  (47, .istore 5, 49, [], [], []),
  (49, .iconst 0, 50, [], [], []),
  (50, .istore 6, 52, [], [], []),
  (52, .iload 6, 54, [], [], []),
  (54, .bipush 8, 56, [], [], []),
  (56, .aload_n 0, 57, [], [], []),
  (57, .getfield 39, 60, [11, 20, 2, 55, 0], [], []),
  (60, .iconst 1, 61, [], [], []),
  (61, .iaload, 62, [55, 112], [], []),
  (62, .imul, 63, [], [], []),
  (63, .if_icmp .ge 68, 66, [131], [], []),
  (66, .aload_n 0, 67, [], [], []),
  (67, .getfield 39, 70, [11, 20, 2, 55, 0], [], []),
  (70, .bipush 17, 72, [], [], []),
  (72, .iconst 2, 73, [], [], []),
  (73, .iload_n 1, 74, [], [], []),
  (74, .imul, 75, [], [], []),
  (75, .iadd, 76, [], [], []),
  (76, .iload 6, 78, [], [], []),
  (78, .bipush 8, 80, [], [], []),
  (80, .idiv, 81, [], [], []),
  (81, .iastore, 82, [55, 112, 0], [], []),
  (82, .aload_n 0, 83, [], [], []),
  (83, .getfield 39, 86, [11, 20, 2, 55, 0], [], []),
  (86, .bipush 17, 88, [], [], []),
  (88, .iconst 2, 89, [], [], []),
  (89, .iload_n 1, 90, [], [], []),
  (90, .imul, 91, [], [], []),
  (91, .iadd, 92, [], [], []),
  (92, .iconst 1, 93, [], [], []),
  (93, .iadd, 94, [], [], []),
  (94, .iload 6, 96, [], [], []),
  (96, .bipush 8, 98, [], [], []),
  (98, .irem, 99, [], [], []),
  (99, .iastore, 100, [55, 112, 0], [], []),
  (100, .aload_n 0, 101, [], [], []),
  (101, .iload_n 2, 102, [], [], []),
  (102, .invokevirtual 398, 105, [213, 2, 1, 0, 12], [], []),
  (105, .istore 7, 107, [], [], []),
  (107, .iload 7, 109, [], [], []),
  (109, .iload 5, 111, [], [], []),
  (111, .if_icmp .gt 6, 114, [117], [], []),
  (114, .goto 11, 117, [125], [], [7]),
  (117, .iload 6, 119, [], [], []),
  (119, .istore 4, 121, [], [], []),
  (121, .iload 7, 123, [], [], []),
  (123, .istore 5, 125, [], [7], []),
  (125, .iinc 6 1, 128, [], [], []),
  (128, .goto (-76), 131, [52], [], [7]),
  (131, .iload_n 3, 132, [], [], []),
  (132, .ifCond .ne 8, 135, [140], [], []),
  (135, .iload 5, 137, [], [], []),
  (137, .goto 30, 140, [167], [], [0, 1, 2, 3, 4, 5, 6]),
  (140, .iload 4, 142, [], [], []),
  (142, .ifCond .ge 7, 145, [149], [], []),
  (145, .iconst (-1), 146, [], [], []),
  (146, .goto 21, 149, [167], [], [0, 1, 2, 3, 4, 5, 6]),
  (149, .iload_n 3, 150, [], [], []),
  (150, .iconst 1, 151, [], [], []),
  (151, .if_icmp .ne 11, 154, [162], [], []),
  (154, .iload 4, 156, [], [], []),
  (156, .bipush 8, 158, [], [], []),
  (158, .idiv, 159, [], [], []),
  (159, .goto 8, 162, [167], [], [0, 1, 2, 3, 4, 5, 6]),
  (162, .iload 4, 164, [], [], []),
  (164, .bipush 8, 166, [], [], []),
  (166, .irem, 167, [], [0, 1, 2, 3, 4, 5, 6], []),
  (167, .ireturn, 168, [0], [], [])]
/-- M_lay -/
def jc215 : jCode := [
  (0, .aload_n 0, 1, [], [], []),
  (1, .iload_n 1, 2, [], [], []),
  (2, .invokevirtual 345, 5, [177, 2, 1, 0, 12], [], []),
  (5, .ifCond .eq 34, 8, [39], [], [0, 1, 2, 3, 4]),
  (8, .iload_n 2, 9, [], [], []),
  (9, .i2l, 10, [], [], []),
  (10, .lconst 1, 11, [], [], []),
  (11, .ldc2_w 394, 14, [40], [], []),
  (14, .invokestatic 121, 17, [125, 3, 1, 0, 0], [], []),
  (17, .ifCond .eq 22, 20, [39], [], [0, 1, 2, 3, 4]),
  (20, .aload_n 0, 21, [], [], []),
  (21, .iload_n 3, 22, [], [], []),
  (22, .invokevirtual 338, 25, [173, 2, 1, 0, 12], [], []),
  (25, .ifCond .eq 14, 28, [39], [], [0, 1, 2, 3, 4]),
  (28, .iload 4, 30, [], [], []),
  (30, .i2l, 31, [], [], []),
  (31, .lconst 0, 32, [], [], []),
  (32, .lconst 1, 33, [], [], []),
  (33, .invokestatic 121, 36, [125, 3, 1, 0, 0], [], []),
  (36, .ifCond .ne 5, 39, [41], [0, 1, 2, 3, 4], []),
  (39, .iconst (-1), 40, [], [], []),
  (40, .ireturn, 41, [0], [], []),
  (41, .iconst 0, 42, [], [], []),
  (42, .istore 5, 44, [], [], []),
  (44, .aload_n 0, 45, [], [], []),
  (45, .invokevirtual 376, 48, [206, 1, 0, 0, 12], [], []),
  (48, .iconst 0, 49, [], [], []),
  (49, .istore 6, 51, [], [], []),
  (51, .iload 6, 53, [], [], []),
  (53, .aload_n 0, 54, [], [], []),
  (54, .getfield 39, 57, [11, 20, 2, 55, 0], [], []),
  (57, .iconst 1, 58, [], [], []),
  (58, .iaload, 59, [55, 112], [], []),
  (59, .if_icmp .ge 51, 62, [110], [], []),
  (62, .aload_n 0, 63, [], [], []),
  (63, .getfield 39, 66, [11, 20, 2, 55, 0], [], []),
  (66, .bipush 11, 68, [], [], []),
  (68, .iload_n 1, 69, [], [], []),
  (69, .iadd, 70, [], [], []),
  (70, .iload 6, 72, [], [], []),
  (72, .iastore, 73, [55, 112, 0], [], []),
  (73, .aload_n 0, 74, [], [], []),
  (74, .iload_n 2, 75, [], [], []),
  (75, .invokevirtual 379, 78, [198, 2, 0, 0, 12], [], []),
  (78, .aload_n 0, 79, [], [], []),
  (79, .getfield 39, 82, [11, 20, 2, 55, 0], [], []),
  (82, .bipush 11, 84, [], [], []),
  (84, .iload_n 1, 85, [], [], []),
  (85, .iadd, 86, [], [], []),
  (86, .iaload, 87, [55, 112], [], []),
  (87, .iload_n 3, 88, [], [], []),
  (88, .if_icmp .ne 12, 91, [100], [], []),
  (91, .iload 5, 93, [], [], []),
  (93, .iconst 1, 94, [], [], []),
  (94, .iload 6, 96, [], [], []),
  (96, .ishl, 97, [], [], []),
  (97, .ior, 98, [], [], []),
  (98, .istore 5, 100, [], [], []),
  (100, .aload_n 0, 101, [], [], []),
  (101, .invokevirtual 382, 104, [207, 1, 0, 0, 12], [], []),
  (104, .iinc 6 1, 107, [], [], []),
  (107, .goto (-56), 110, [51], [], []),
  (110, .iload 4, 112, [], [], []),
  (112, .ifCond .ne 11, 115, [123], [], []),
  (115, .iload 5, 117, [], [], []),
  (117, .invokestatic 388, 120, [127, 1, 1, 0, 0], [], []),
  (120, .goto 5, 123, [125], [], [0, 1, 2, 3, 4, 5, 6]),
  (123, .iload 5, 125, [], [0, 1, 2, 3, 4, 5, 6], []),
  (125, .ireturn, 126, [0], [], [])]
/-- M_throats -/
def jc216 : jCode := [
  (0, .aload_n 0, 1, [], [], []),
  (1, .iload_n 1, 2, [], [], []),
  (2, .invokevirtual 366, 5, [182, 2, 1, 0, 12], [], []),
  (5, .ifCond .eq 15, 8, [20], [], [0, 1, 2]),
  (8, .iload_n 2, 9, [], [], []),
  (9, .i2l, 10, [], [], []),
  (10, .lconst 1, 11, [], [], []),
  (11, .ldc2_w 394, 14, [40], [], []),
  (14, .invokestatic 121, 17, [125, 3, 1, 0, 0], [], []),
  (17, .ifCond .ne 5, 20, [22], [0, 1, 2], []),
  (20, .iconst (-1), 21, [], [], []),
  (21, .ireturn, 22, [0], [], []),
  (22, .aload_n 0, 23, [], [], []),
  (23, .getfield 39, 26, [11, 20, 2, 55, 0], [], []),
  (26, .bipush 25, 28, [], [], []),
  (28, .iload_n 1, 29, [], [], []),
  (29, .iadd, 30, [], [], []),
  (30, .iaload, 31, [55, 112], [], []),
  (31, .istore_n 3, 32, [], [], []),
  (32, .bipush (-2), 34, [], [], []),
  (34, .istore 4, 36, [], [], []),
  (36, .aload_n 0, 37, [], [], []),
  (37, .invokevirtual 376, 40, [206, 1, 0, 0, 12], [], []),
  (40, .iconst 1, 41, [], [], []),
  (41, .istore 5, 43, [], [], []),
  (43, .iload 5, 45, [], [], []),
  (45, .bipush 9, 47, [], [], []),
  (47, .if_icmp .gt 46, 50, [93], [], [2, 5]),
  (50, .iload 4, 52, [], [], []),
  (52, .ifCond .ge 41, 55, [93], [], [2, 5]),
  (55, .aload_n 0, 56, [], [], []),
  (56, .getfield 39, 59, [11, 20, 2, 55, 0], [], []),
  (59, .bipush 25, 61, [], [], []),
  (61, .iload_n 1, 62, [], [], []),
  (62, .iadd, 63, [], [], []),
  (63, .iload 5, 65, [], [], []),
  (65, .iastore, 66, [55, 112, 0], [], []),
  (66, .aload_n 0, 67, [], [], []),
  (67, .iload_n 2, 68, [], [], []),
  (68, .invokevirtual 379, 71, [198, 2, 0, 0, 12], [], []),
  (71, .aload_n 0, 72, [], [], []),
  (72, .iload_n 1, 73, [], [], []),
  (73, .invokevirtual 303, 76, [181, 2, 1, 0, 12], [], []),
  (76, .ifCond .lt 7, 79, [83], [], []),
  (79, .iload 5, 81, [], [], []),
  (81, .istore 4, 83, [], [], []),
  (83, .aload_n 0, 84, [], [], []),
  (84, .invokevirtual 382, 87, [207, 1, 0, 0, 12], [], []),
  (87, .iinc 5 1, 90, [], [], []),
  (90, .goto (-47), 93, [43], [], []),
  (93, .aload_n 0, 94, [], [], []),
  (94, .getfield 39, 97, [11, 20, 2, 55, 0], [], []),
  (97, .bipush 25, 99, [], [], []),
  (99, .iload_n 1, 100, [], [], []),
  (100, .iadd, 101, [], [], []),
  (101, .iload_n 3, 102, [], [], []),
  (102, .iastore, 103, [55, 112, 0], [], []),
  (103, .iload 4, 105, [], [], []),
  (105, .ireturn, 106, [0], [], [])]
/-- M_isAstray -/
def jc217 : jCode := [
  (0, .aload_n 0, 1, [], [], []),
  (1, .iload_n 1, 2, [], [], []),
  (2, .invokevirtual 371, 5, [178, 2, 1, 0, 12], [], []),
  (5, .ifCond .eq 31, 8, [36], [], [0, 1]),
  (8, .aload_n 0, 9, [], [], []),
  (9, .getfield 39, 12, [11, 20, 2, 55, 0], [], []),
  (12, .bipush 11, 14, [], [], []),
  (14, .iload_n 1, 15, [], [], []),
  (15, .iadd, 16, [], [], []),
  (16, .iaload, 17, [55, 112], [], []),
  (17, .bipush 30, 19, [], [], []),
  (19, .aload_n 0, 20, [], [], []),
  (20, .getfield 39, 23, [11, 20, 2, 55, 0], [], []),
  (23, .bipush 45, 25, [], [], []),
  (25, .iload_n 1, 26, [], [], []),
  (26, .iadd, 27, [], [], []),
  (27, .iaload, 28, [55, 112], [], []),
  (28, .iadd, 29, [], [], []),
  (29, .if_icmp .eq 7, 32, [36], [], [0, 1]),
  (32, .iconst 1, 33, [], [], []),
  (33, .goto 4, 36, [37], [], [0, 1]),
  (36, .iconst 0, 37, [], [0, 1], []),
  (37, .ireturn, 38, [1], [], [])]
/-- M_astray -/
def jc218 : jCode := [
  (0, .aload_n 0, 1, [], [], []),
  (1, .invokevirtual 292, 4, [171, 1, 1, 0, 12], [], []),
  (4, .ifCond .ne 5, 7, [9], [], []),
  (7, .iconst (-1), 8, [], [], []),
  (8, .ireturn, 9, [0], [], []),
  (9, .iconst 0, 10, [], [], []),
  (10, .istore_n 1, 11, [], [], []),
  (11, .iconst 0, 12, [], [], []),
  (12, .istore_n 2, 13, [], [], []),
  (13, .iload_n 2, 14, [], [], []),
  (14, .aload_n 0, 15, [], [], []),
  (15, .getfield 39, 18, [11, 20, 2, 55, 0], [], []),
  (18, .iconst 5, 19, [], [], []),
  (19, .iaload, 20, [55, 112], [], []),
  (20, .if_icmp .ge 27, 23, [47], [], []),
  (23, .iload_n 1, 24, [], [], []),
  (24, .aload_n 0, 25, [], [], []),
  (25, .iload_n 2, 26, [], [], []),
  (26, .invokevirtual 401, 29, [217, 2, 1, 0, 12], [], []),
  (29, .ifCond .eq 9, 32, [38], [], []),
  (32, .iconst 1, 33, [], [], []),
  (33, .iload_n 2, 34, [], [], []),
  (34, .ishl, 35, [], [], []),
  (35, .goto 4, 38, [39], [], [1]),
  (38, .iconst 0, 39, [], [1], []),
  (39, .ior, 40, [], [], []),
  (40, .istore_n 1, 41, [], [], []),
  (41, .iinc 2 1, 44, [], [], []),
  (44, .goto (-31), 47, [13], [], []),
  (47, .iload_n 1, 48, [], [], []),
  (48, .ireturn, 49, [0], [], [])]
/-- M_isLinked -/
def jc219 : jCode := [
  (0, .iconst 0, 1, [], [], []),
  (1, .istore_n 3, 2, [], [], []),
  (2, .iconst 0, 3, [], [], []),
  (3, .istore 4, 5, [], [], []),
  (5, .iconst 0, 6, [], [], []),
  (6, .istore 5, 8, [], [], []),
  (8, .iload 5, 10, [], [], []),
  (10, .aload_n 0, 11, [], [], []),
  (11, .getfield 39, 14, [11, 20, 2, 55, 0], [], []),
  (14, .iconst 5, 15, [], [], []),
  (15, .iaload, 16, [55, 112], [], []),
  (16, .if_icmp .ge 104, 19, [120], [], []),
  (19, .aload_n 0, 20, [], [], []),
  (20, .iload 5, 22, [], [], []),
  (22, .invokevirtual 401, 25, [217, 2, 1, 0, 12], [], []),
  (25, .ifCond .ne 6, 28, [31], [], []),
  (28, .goto 86, 31, [114], [], []),
  (31, .aload_n 0, 32, [], [], []),
  (32, .getfield 39, 35, [11, 20, 2, 55, 0], [], []),
  (35, .bipush 11, 37, [], [], []),
  (37, .iload 5, 39, [], [], []),
  (39, .iadd, 40, [], [], []),
  (40, .iaload, 41, [55, 112], [], []),
  (41, .bipush 30, 43, [], [], []),
  (43, .isub, 44, [], [], []),
  (44, .istore 6, 46, [], [], []),
  (46, .iload_n 3, 47, [], [], []),
  (47, .ifCond .ne 26, 50, [73], [], [3]),
  (50, .iload 6, 52, [], [], []),
  (52, .iload_n 1, 53, [], [], []),
  (53, .if_icmp .ne 24, 56, [77], [], [3]),
  (56, .iload_n 2, 57, [], [], []),
  (57, .aload_n 0, 58, [], [], []),
  (58, .getfield 39, 61, [11, 20, 2, 55, 0], [], []),
  (61, .bipush 45, 63, [], [], []),
  (63, .iload 5, 65, [], [], []),
  (65, .iadd, 66, [], [], []),
  (66, .iaload, 67, [55, 112], [], []),
  (67, .invokestatic 385, 70, [126, 2, 1, 0, 0], [], []),
  (70, .ifCond .eq 7, 73, [77], [3], [3]),
  (73, .iconst 1, 74, [], [], []),
  (74, .goto 4, 77, [78], [], [3]),
  (77, .iconst 0, 78, [], [3], []),
  (78, .istore_n 3, 79, [], [], []),
  (79, .iload 4, 81, [], [], []),
  (81, .ifCond .ne 26, 84, [107], [], [4, 6]),
  (84, .aload_n 0, 85, [], [], []),
  (85, .getfield 39, 88, [11, 20, 2, 55, 0], [], []),
  (88, .bipush 45, 90, [], [], []),
  (90, .iload 5, 92, [], [], []),
  (92, .iadd, 93, [], [], []),
  (93, .iaload, 94, [55, 112], [], []),
  (94, .iload_n 1, 95, [], [], []),
  (95, .if_icmp .ne 16, 98, [111], [], [4, 6]),
  (98, .iload_n 2, 99, [], [], []),
  (99, .iload 6, 101, [], [], []),
  (101, .invokestatic 385, 104, [126, 2, 1, 0, 0], [], []),
  (104, .ifCond .eq 7, 107, [111], [4, 6], [4, 6]),
  (107, .iconst 1, 108, [], [], []),
  (108, .goto 4, 111, [112], [], [4, 6]),
  (111, .iconst 0, 112, [], [4, 6], []),
  (112, .istore 4, 114, [], [6], []),
  (114, .iinc 5 1, 117, [], [], []),
  (117, .goto (-109), 120, [8], [], []),
  (120, .iload_n 3, 121, [], [], []),
  (121, .ifCond .eq 12, 124, [133], [], [0, 1, 2, 3, 4, 5]),
  (124, .iload 4, 126, [], [], []),
  (126, .ifCond .eq 7, 129, [133], [], [0, 1, 2, 3, 4, 5]),
  (129, .iconst 1, 130, [], [], []),
  (130, .goto 4, 133, [134], [], [0, 1, 2, 3, 4, 5]),
  (133, .iconst 0, 134, [], [0, 1, 2, 3, 4, 5], []),
  (134, .ireturn, 135, [1], [], [])]
/-- M_isRing -/
def jc220 : jCode := [
  (0, .iconst 0, 1, [], [], []),
  (1, .istore_n 2, 2, [], [], []),
  (2, .iload_n 2, 3, [], [], []),
  (3, .aload_n 0, 4, [], [], []),
  (4, .getfield 39, 7, [11, 20, 2, 55, 0], [], []),
  (7, .iconst 4, 8, [], [], []),
  (8, .iaload, 9, [55, 112], [], []),
  (9, .if_icmp .ge 28, 12, [37], [], []),
  (12, .iload_n 1, 13, [], [], []),
  (13, .iload_n 2, 14, [], [], []),
  (14, .invokestatic 385, 17, [126, 2, 1, 0, 0], [], []),
  (17, .ifCond .eq 14, 20, [31], [], []),
  (20, .aload_n 0, 21, [], [], []),
  (21, .iload_n 2, 22, [], [], []),
  (22, .iload_n 1, 23, [], [], []),
  (23, .invokevirtual 404, 26, [219, 3, 1, 0, 12], [], []),
  (26, .ifCond .ne 5, 29, [31], [], []),
  (29, .iconst 0, 30, [], [], []),
  (30, .ireturn, 31, [1], [], []),
  (31, .iinc 2 1, 34, [], [], []),
  (34, .goto (-32), 37, [2], [], []),
  (37, .iload_n 1, 38, [], [], []),
  (38, .invokestatic 388, 41, [127, 1, 1, 0, 0], [], []),
  (41, .iconst 1, 42, [], [], []),
  (42, .if_icmp .le 7, 45, [49], [], []),
  (45, .iconst 1, 46, [], [], []),
  (46, .goto 4, 49, [50], [], [0, 1, 2]),
  (49, .iconst 0, 50, [], [0, 1, 2], []),
  (50, .ireturn, 51, [1], [], [])]
/-- M_rings -/
def jc221 : jCode := [
  (0, .aload_n 0, 1, [], [], []),
  (1, .invokevirtual 292, 4, [171, 1, 1, 0, 12], [], []),
  (4, .ifCond .eq 13, 7, [17], [], [0, 1]),
  (7, .iload_n 1, 8, [], [], []),
  (8, .i2l, 9, [], [], []),
  (9, .lconst 0, 10, [], [], []),
  (10, .lconst 1, 11, [], [], []),
  (11, .invokestatic 121, 14, [125, 3, 1, 0, 0], [], []),
  (14, .ifCond .ne 5, 17, [19], [0, 1], []),
  (17, .iconst (-1), 18, [], [], []),
  (18, .ireturn, 19, [0], [], []),
  (19, .iconst 0, 20, [], [], []),
  (20, .istore_n 2, 21, [], [], []),
  (21, .iconst 0, 22, [], [], []),
  (22, .istore_n 3, 23, [], [], []),
  (23, .iconst 1, 24, [], [], []),
  (24, .istore 4, 26, [], [], []),
  (26, .iload 4, 28, [], [], []),
  (28, .iconst 1, 29, [], [], []),
  (29, .aload_n 0, 30, [], [], []),
  (30, .getfield 39, 33, [11, 20, 2, 55, 0], [], []),
  (33, .iconst 4, 34, [], [], []),
  (34, .iaload, 35, [55, 112], [], []),
  (35, .ishl, 36, [], [], []),
  (36, .if_icmp .ge 39, 39, [75], [], []),
  (39, .aload_n 0, 40, [], [], []),
  (40, .iload 4, 42, [], [], []),
  (42, .invokevirtual 407, 45, [220, 2, 1, 0, 12], [], []),
  (45, .ifCond .ne 6, 48, [51], [], []),
  (48, .goto 21, 51, [69], [], []),
  (51, .iinc 2 1, 54, [], [], []),
  (54, .iload 4, 56, [], [], []),
  (56, .invokestatic 388, 59, [127, 1, 1, 0, 0], [], []),
  (59, .iload_n 3, 60, [], [], []),
  (60, .invokestatic 388, 63, [127, 1, 1, 0, 0], [], []),
  (63, .if_icmp .le 6, 66, [69], [], []),
  (66, .iload 4, 68, [], [], []),
  (68, .istore_n 3, 69, [], [], []),
  (69, .iinc 4 1, 72, [], [], []),
  (72, .goto (-46), 75, [26], [], []),
  (75, .iload_n 1, 76, [], [], []),
  (76, .ifCond .ne 7, 79, [83], [], []),
  (79, .iload_n 2, 80, [], [], []),
  (80, .goto 4, 83, [84], [], [0, 1, 2, 3, 4]),
  (83, .iload_n 3, 84, [], [0, 1, 2, 3, 4], []),
  (84, .ireturn, 85, [0], [], [])]
/-- M_right -/
def jc222 : jCode := [
  (0, .aload_n 0, 1, [], [], []),
  (1, .invokevirtual 292, 4, [171, 1, 1, 0, 12], [], []),
  (4, .ifCond .eq 15, 7, [19], [], [0, 1]),
  (7, .iload_n 1, 8, [], [], []),
  (8, .i2l, 9, [], [], []),
  (9, .lconst 0, 10, [], [], []),
  (10, .ldc2_w 396, 13, [2], [], []),
  (13, .invokestatic 121, 16, [125, 3, 1, 0, 0], [], []),
  (16, .ifCond .ne 5, 19, [21], [0, 1], []),
  (19, .iconst (-1), 20, [], [], []),
  (20, .ireturn, 21, [0], [], []),
  (21, .bipush (-2), 23, [], [], []),
  (23, .istore_n 2, 24, [], [], []),
  (24, .iconst 0, 25, [], [], []),
  (25, .istore_n 3, 26, [], [], []),
  (26, .aload_n 0, 27, [], [], []),
  (27, .getfield 39, 30, [11, 20, 2, 55, 0], [], []),
  (30, .iconst 5, 31, [], [], []),
  (31, .iaload, 32, [55, 112], [], []),
  (32, .iconst 1, 33, [], [], []),
  (33, .isub, 34, [], [], []),
  (34, .istore 4, 36, [], [], []),
  (36, .iload 4, 38, [], [], []),
  (38, .ifCond .lt 27, 41, [65], [], []),
  (41, .aload_n 0, 42, [], [], []),
  (42, .iload 4, 44, [], [], []),
  (44, .invokevirtual 401, 47, [217, 2, 1, 0, 12], [], []),
  (47, .ifCond .ne 6, 50, [53], [], []),
  (50, .goto 9, 53, [59], [], []),
  (53, .iload 4, 55, [], [], []),
  (55, .istore_n 2, 56, [], [], []),
  (56, .iinc 3 1, 59, [], [], []),
  (59, .iinc 4 (-1), 62, [], [], []),
  (62, .goto (-26), 65, [36], [], []),
  (65, .iload_n 1, 66, [], [], []),
  (66, .ifCond .ne 7, 69, [73], [], []),
  (69, .iload_n 3, 70, [], [], []),
  (70, .goto 25, 73, [95], [], [0, 1, 2, 3, 4]),
  (73, .iload_n 1, 74, [], [], []),
  (74, .iconst 1, 75, [], [], []),
  (75, .if_icmp .eq 7, 78, [82], [], [0, 1, 3, 4]),
  (78, .iload_n 2, 79, [], [], []),
  (79, .ifCond .ge 7, 82, [86], [0, 1, 3, 4], []),
  (82, .iload_n 2, 83, [], [], []),
  (83, .goto 12, 86, [95], [], [0, 1, 2, 3, 4]),
  (86, .aload_n 0, 87, [], [], []),
  (87, .getfield 39, 90, [11, 20, 2, 55, 0], [], []),
  (90, .bipush 45, 92, [], [], []),
  (92, .iload_n 2, 93, [], [], []),
  (93, .iadd, 94, [], [], []),
  (94, .iaload, 95, [55, 112], [0, 1, 2, 3, 4], []),
  (95, .ireturn, 96, [0], [], [])]
/-- M_isRest -/
def jc223 : jCode := [
  (0, .iconst 0, 1, [], [], []),
  (1, .istore_n 3, 2, [], [], []),
  (2, .iload_n 3, 3, [], [], []),
  (3, .bipush 8, 5, [], [], []),
  (5, .if_icmp .ge 73, 8, [78], [], []),
  (8, .aload_n 0, 9, [], [], []),
  (9, .getfield 58, 12, [11, 28, 2, 59, 0], [], []),
  (12, .iconst 2, 13, [], [], []),
  (13, .bipush 8, 15, [], [], []),
  (15, .iload_n 3, 16, [], [], []),
  (16, .imul, 17, [], [], []),
  (17, .iload_n 2, 18, [], [], []),
  (18, .iadd, 19, [], [], []),
  (19, .imul, 20, [], [], []),
  (20, .iaload, 21, [59, 128], [], []),
  (21, .aload_n 0, 22, [], [], []),
  (22, .getfield 58, 25, [11, 28, 2, 59, 0], [], []),
  (25, .iconst 2, 26, [], [], []),
  (26, .bipush 8, 28, [], [], []),
  (28, .iload_n 1, 29, [], [], []),
  (29, .imul, 30, [], [], []),
  (30, .iload_n 2, 31, [], [], []),
  (31, .iadd, 32, [], [], []),
  (32, .imul, 33, [], [], []),
  (33, .iaload, 34, [59, 128], [], []),
  (34, .if_icmp .gt 36, 37, [70], [], [0, 1, 2, 3]),
  (37, .aload_n 0, 38, [], [], []),
  (38, .getfield 58, 41, [11, 28, 2, 59, 0], [], []),
  (41, .iconst 2, 42, [], [], []),
  (42, .bipush 8, 44, [], [], []),
  (44, .iload_n 1, 45, [], [], []),
  (45, .imul, 46, [], [], []),
  (46, .iload_n 3, 47, [], [], []),
  (47, .iadd, 48, [], [], []),
  (48, .imul, 49, [], [], []),
  (49, .iconst 1, 50, [], [], []),
  (50, .iadd, 51, [], [], []),
  (51, .iaload, 52, [59, 128], [], []),
  (52, .aload_n 0, 53, [], [], []),
  (53, .getfield 58, 56, [11, 28, 2, 59, 0], [], []),
  (56, .iconst 2, 57, [], [], []),
  (57, .bipush 8, 59, [], [], []),
  (59, .iload_n 1, 60, [], [], []),
  (60, .imul, 61, [], [], []),
  (61, .iload_n 2, 62, [], [], []),
  (62, .iadd, 63, [], [], []),
  (63, .imul, 64, [], [], []),
  (64, .iconst 1, 65, [], [], []),
  (65, .iadd, 66, [], [], []),
  (66, .iaload, 67, [59, 128], [], []),
  (67, .if_icmp .le 5, 70, [72], [0, 1, 2, 3], []),
  (70, .iconst 0, 71, [], [], []),
  (71, .ireturn, 72, [1], [], []),
  (72, .iinc 3 1, 75, [], [], []),
  (75, .goto (-73), 78, [2], [], []),
  (78, .iconst 1, 79, [], [], []),
  (79, .ireturn, 80, [1], [], [])]
/-- M_sizeIn -/
def jc224 : jCode := [
  (0, .aload_n 0, 1, [], [], []),
  (1, .iload_n 1, 2, [], [], []),
  (2, .invokevirtual 303, 5, [181, 2, 1, 0, 12], [], []),
  (5, .ifCond .ge 7, 8, [12], [], []),
  (8, .iconst 0, 9, [], [], []),
  (9, .goto 16, 12, [25], [], [0, 1]),
  (12, .aload_n 0, 13, [], [], []),
  (13, .getfield 39, 16, [11, 20, 2, 55, 0], [], []),
  (16, .bipush 33, 18, [], [], []),
  (18, .aload_n 0, 19, [], [], []),
  (19, .iload_n 1, 20, [], [], []),
  (20, .invokevirtual 303, 23, [181, 2, 1, 0, 12], [], []),
  (23, .iadd, 24, [], [], []),
  (24, .iaload, 25, [55, 112], [0, 1], []),
  (25, .ireturn, 26, [0], [], [])]
/-- M_rests -/
def jc225 : jCode := [
  (0, .aload_n 0, 1, [], [], []),
  (1, .iload_n 1, 2, [], [], []),
  (2, .invokevirtual 366, 5, [182, 2, 1, 0, 12], [], []),
  (5, .ifCond .eq 41, 8, [46], [], [0, 1, 2, 3, 4]),
  (8, .aload_n 0, 9, [], [], []),
  (9, .iload_n 2, 10, [], [], []),
  (10, .invokevirtual 366, 13, [182, 2, 1, 0, 12], [], []),
  (13, .ifCond .eq 33, 16, [46], [], [0, 1, 2, 3, 4]),
  (16, .iload_n 1, 17, [], [], []),
  (17, .iload_n 2, 18, [], [], []),
  (18, .if_icmp .eq 28, 21, [46], [], [0, 1, 2, 3, 4]),
  (21, .iload_n 3, 22, [], [], []),
  (22, .i2l, 23, [], [], []),
  (23, .lconst 1, 24, [], [], []),
  (24, .ldc2_w 410, 27, [20], [], []),
  (27, .invokestatic 121, 30, [125, 3, 1, 0, 0], [], []),
  (30, .ifCond .eq 16, 33, [46], [], [0, 1, 2, 3, 4]),
  (33, .iload 4, 35, [], [], []),
  (35, .i2l, 36, [], [], []),
  (36, .lconst 0, 37, [], [], []),
  (37, .ldc2_w 396, 40, [2], [], []),
  (40, .invokestatic 121, 43, [125, 3, 1, 0, 0], [], []),
  (43, .ifCond .ne 5, 46, [48], [0, 1, 2, 3, 4], []),
  (46, .iconst (-1), 47, [], [], []),
  (47, .ireturn, 48, [0], [], []),
  (48, .aload_n 0, 49, [], [], []),
  (49, .invokevirtual 376, 52, [206, 1, 0, 0, 12], [], []),
  (52, .iconst 0, 53, [], [], []),
  (53, .istore 5, 55, [], [], []),
  (55, .iload 5, 57, [], [], []),
  (57, .bipush 64, 59, [], [], []),
  (59, .if_icmp .ge 84, 62, [143], [], []),
  (62, .aload_n 0, 63, [], [], []),
  (63, .getfield 39, 66, [11, 20, 2, 55, 0], [], []),
  (66, .bipush 17, 68, [], [], []),
  (68, .iconst 2, 69, [], [], []),
  (69, .iload_n 1, 70, [], [], []),
  (70, .imul, 71, [], [], []),
  (71, .iadd, 72, [], [], []),
  (72, .iconst 1, 73, [], [], []),
  (73, .iadd, 74, [], [], []),
  (74, .iload 5, 76, [], [], []),
  (76, .bipush 8, 78, [], [], []),
  (78, .idiv, 79, [], [], []),
  (79, .iastore, 80, [55, 112, 0], [], []),
  (80, .aload_n 0, 81, [], [], []),
  (81, .getfield 39, 84, [11, 20, 2, 55, 0], [], []),
  (84, .bipush 17, 86, [], [], []),
  (86, .iconst 2, 87, [], [], []),
  (87, .iload_n 2, 88, [], [], []),
  (88, .imul, 89, [], [], []),
  (89, .iadd, 90, [], [], []),
  (90, .iconst 1, 91, [], [], []),
  (91, .iadd, 92, [], [], []),
  (92, .iload 5, 94, [], [], []),
  (94, .bipush 8, 96, [], [], []),
  (96, .irem, 97, [], [], []),
  (97, .iastore, 98, [55, 112, 0], [], []),
  (98, .aload_n 0, 99, [], [], []),
  (99, .iload_n 3, 100, [], [], []),
  (100, .invokevirtual 379, 103, [198, 2, 0, 0, 12], [], []),
  (103, .aload_n 0, 104, [], [], []),
  (104, .getfield 58, 107, [11, 28, 2, 59, 0], [], []),
  (107, .iconst 2, 108, [], [], []),
  (108, .iload 5, 110, [], [], []),
  (110, .imul, 111, [], [], []),
  (111, .aload_n 0, 112, [], [], []),
  (112, .iload_n 1, 113, [], [], []),
  (113, .invokevirtual 412, 116, [224, 2, 1, 0, 12], [], []),
  (116, .iastore, 117, [59, 128, 0], [], []),
  (117, .aload_n 0, 118, [], [], []),
  (118, .getfield 58, 121, [11, 28, 2, 59, 0], [], []),
  (121, .iconst 2, 122, [], [], []),
  (122, .iload 5, 124, [], [], []),
  (124, .imul, 125, [], [], []),
  (125, .iconst 1, 126, [], [], []),
  (126, .iadd, 127, [], [], []),
  (127, .aload_n 0, 128, [], [], []),
  (128, .iload_n 2, 129, [], [], []),
  (129, .invokevirtual 412, 132, [224, 2, 1, 0, 12], [], []),
  (132, .iastore, 133, [59, 128, 0], [], []),
  (133, .aload_n 0, 134, [], [], []),
  (134, .invokevirtual 382, 137, [207, 1, 0, 0, 12], [], []),
  (137, .iinc 5 1, 140, [], [], []),
  (140, .goto (-85), 143, [55], [], []),
  (143, .iconst 0, 144, [], [], []),
  (144, .istore 5, 146, [], [], []),
  (146, .iconst (-1), 147, [], [], []),
  (147, .istore 6, 149, [], [], []),
  (149, .bipush 63, 151, [], [], []),
  (151, .istore 7, 153, [], [1, 2, 3], []),
  (153, .iload 7, 155, [], [], []),
  (155, .ifCond .lt 36, 158, [191], [], []),
  (158, .aload_n 0, 159, [], [], []),
  (159, .iload 7, 161, [], [], []),
  (161, .bipush 8, 163, [], [], []),
  (163, .idiv, 164, [], [], []),
  (164, .iload 7, 166, [], [], []),
  (166, .bipush 8, 168, [], [], []),
  (168, .irem, 169, [], [], []),
  (169, .invokevirtual 415, 172, [223, 3, 1, 0, 12], [], []),
  (172, .ifCond .ne 6, 175, [178], [], []),
  (175, .goto 10, 178, [185], [], [1, 2, 3]),
  (178, .iload 7, 180, [], [], []),
  (180, .istore 6, 182, [], [], []),
  (182, .iinc 5 1, 185, [], [1, 2, 3], []),
  (185, .iinc 7 (-1), 188, [], [], []),
  (188, .goto (-35), 191, [153], [], [1, 2, 3]),
  (191, .iload 4, 193, [], [], []),
  (193, .ifCond .ne 6, 196, [199], [], []),
  (196, .iload 5, 198, [], [], []),
  (198, .ireturn, 199, [0], [], []),
  (199, .iload 6, 201, [], [], []),
  (201, .ifCond .ge 8, 204, [209], [], []),
  (204, .bipush (-2), 206, [], [], []),
  (206, .goto 22, 209, [228], [], [0, 1, 2, 3, 4, 5, 6, 7]),
  (209, .iload 4, 211, [], [], []),
  (211, .iconst 1, 212, [], [], []),
  (212, .if_icmp .ne 11, 215, [223], [], []),
  (215, .iload 6, 217, [], [], []),
  (217, .bipush 8, 219, [], [], []),
  (219, .idiv, 220, [], [], []),
  (220, .goto 8, 223, [228], [], [0, 1, 2, 3, 4, 5, 6, 7]),
  (223, .iload 6, 225, [], [], []),
  (225, .bipush 8, 227, [], [], []),
  (227, .irem, 228, [], [0, 1, 2, 3, 4, 5, 6, 7], []),
  (228, .ireturn, 229, [0], [], [])]
/-- M_areAlike -/
def jc226 : jCode := [
  (0, .iload_n 2, 1, [], [], []),
  (1, .iload_n 1, 2, [], [], []),
  (2, .isub, 3, [], [], []),
  (3, .aload_n 0, 4, [], [], []),
  (4, .invokevirtual 306, 7, [172, 1, 1, 0, 12], [], []),
  (7, .irem, 8, [], [], []),
  (8, .ifCond .eq 5, 11, [13], [], []),
  (11, .iconst 0, 12, [], [], []),
  (12, .ireturn, 13, [1], [], []),
  (13, .iconst 0, 14, [], [], []),
  (14, .istore_n 3, 15, [], [], []),
  (15, .iload_n 3, 16, [], [], []),
  (16, .aload_n 0, 17, [], [], []),
  (17, .getfield 39, 20, [11, 20, 2, 55, 0], [], []),
  (20, .iconst 5, 21, [], [], []),
  (21, .iaload, 22, [55, 112], [], []),
  (22, .if_icmp .ge 36, 25, [58], [], []),
  (25, .aload_n 0, 26, [], [], []),
  (26, .getfield 61, 29, [11, 29, 2, 60, 0], [], []),
  (29, .bipush 6, 31, [], [], []),
  (31, .iload_n 1, 32, [], [], []),
  (32, .imul, 33, [], [], []),
  (33, .iload_n 3, 34, [], [], []),
  (34, .iadd, 35, [], [], []),
  (35, .iaload, 36, [60, 366], [], []),
  (36, .aload_n 0, 37, [], [], []),
  (37, .getfield 61, 40, [11, 29, 2, 60, 0], [], []),
  (40, .bipush 6, 42, [], [], []),
  (42, .iload_n 2, 43, [], [], []),
  (43, .imul, 44, [], [], []),
  (44, .iload_n 3, 45, [], [], []),
  (45, .iadd, 46, [], [], []),
  (46, .iaload, 47, [60, 366], [], []),
  (47, .if_icmp .eq 5, 50, [52], [], []),
  (50, .iconst 0, 51, [], [], []),
  (51, .ireturn, 52, [1], [], []),
  (52, .iinc 3 1, 55, [], [], []),
  (55, .goto (-40), 58, [15], [], []),
  (58, .iconst 1, 59, [], [], []),
  (59, .ireturn, 60, [1], [], [])]
/-- M_cycle -/
def jc227 : jCode := [
  (0, .aload_n 0, 1, [], [], []),
  (1, .invokevirtual 292, 4, [171, 1, 1, 0, 12], [], []),
  (4, .ifCond .eq 13, 7, [17], [], [0, 1]),
  (7, .iload_n 1, 8, [], [], []),
  (8, .i2l, 9, [], [], []),
  (9, .lconst 0, 10, [], [], []),
  (10, .lconst 1, 11, [], [], []),
  (11, .invokestatic 121, 14, [125, 3, 1, 0, 0], [], []),
  (14, .ifCond .ne 5, 17, [19], [0, 1], []),
  (17, .iconst (-1), 18, [], [], []),
  (18, .ireturn, 19, [0], [], []),
  (19, .aload_n 0, 20, [], [], []),
  (20, .invokevirtual 376, 23, [206, 1, 0, 0, 12], [], []),
  (23, .iconst 0, 24, [], [], []),
  (24, .istore_n 2, 25, [], [], []),
  (25, .iload_n 2, 26, [], [], []),
  (26, .bipush 60, 28, [], [], []),
  (28, .if_icmp .gt 52, 31, [80], [], []),
  (31, .iconst 0, 32, [], [], []),
  (32, .istore_n 3, 33, [], [], []),
  (33, .iload_n 3, 34, [], [], []),
  (34, .aload_n 0, 35, [], [], []),
  (35, .getfield 39, 38, [11, 20, 2, 55, 0], [], []),
  (38, .iconst 5, 39, [], [], []),
  (39, .iaload, 40, [55, 112], [], []),
  (40, .if_icmp .ge 29, 43, [69], [], []),
  (43, .aload_n 0, 44, [], [], []),
  (44, .getfield 61, 47, [11, 29, 2, 60, 0], [], []),
  (47, .bipush 6, 49, [], [], []),
  (49, .iload_n 2, 50, [], [], []),
  (50, .imul, 51, [], [], []),
  (51, .iload_n 3, 52, [], [], []),
  (52, .iadd, 53, [], [], []),
  (53, .aload_n 0, 54, [], [], []),
  (54, .getfield 39, 57, [11, 20, 2, 55, 0], [], []),
  (57, .bipush 11, 59, [], [], []),
  (59, .iload_n 3, 60, [], [], []),
  (60, .iadd, 61, [], [], []),
  (61, .iaload, 62, [55, 112], [], []),
  (62, .iastore, 63, [60, 366, 0], [], []),
  (63, .iinc 3 1, 66, [], [], []),
  (66, .goto (-33), 69, [33], [], []),
  (69, .aload_n 0, 70, [], [], []),
  (70, .invokevirtual 360, 73, [197, 1, 1, 0, 12], [], []),
  (73, .pop, 74, [], [], []),
  (74, .iinc 2 1, 77, [], [], []),
  (77, .goto (-52), 80, [25], [], [3]),
  (80, .aload_n 0, 81, [], [], []),
  (81, .invokevirtual 382, 84, [207, 1, 0, 0, 12], [], []),
  (84, .iconst 0, 85, [], [], []),
  (85, .istore_n 2, 86, [], [], []),
  (86, .iload_n 2, 87, [], [], []),
  (87, .bipush 60, 89, [], [], []),
  (89, .if_icmp .ge 54, 92, [143], [], []),
  (92, .iload_n 2, 93, [], [], []),
  (93, .iconst 1, 94, [], [], []),
  (94, .iadd, 95, [], [], []),
  (95, .istore_n 3, 96, [], [], []),
  (96, .iload_n 3, 97, [], [], []),
  (97, .bipush 60, 99, [], [], []),
  (99, .if_icmp .gt 38, 102, [137], [], []),
  (102, .aload_n 0, 103, [], [], []),
  (103, .iload_n 2, 104, [], [], []),
  (104, .iload_n 3, 105, [], [], []),
  (105, .invokevirtual 418, 108, [226, 3, 1, 0, 12], [], []),
  (108, .ifCond .eq 23, 111, [131], [], []),
  (111, .iload_n 1, 112, [], [], []),
  (112, .ifCond .ne 15, 115, [127], [], []),
  (115, .aload_n 0, 116, [], [], []),
  (116, .getfield 39, 119, [11, 20, 2, 55, 0], [], []),
  (119, .bipush 10, 121, [], [], []),
  (121, .iaload, 122, [55, 112], [], []),
  (122, .iload_n 2, 123, [], [], []),
  (123, .iadd, 124, [], [], []),
  (124, .goto 6, 127, [130], [], [0, 1, 2, 3]),
  (127, .iload_n 3, 128, [], [], []),
  (128, .iload_n 2, 129, [], [], []),
  (129, .isub, 130, [], [0, 1, 2, 3], []),
  (130, .ireturn, 131, [0], [], []),
  (131, .iinc 3 1, 134, [], [], []),
  (134, .goto (-38), 137, [96], [], []),
  (137, .iinc 2 1, 140, [], [], []),
  (140, .goto (-54), 143, [86], [], [3]),
  (143, .bipush (-2), 145, [], [], []),
  (145, .ireturn, 146, [0], [], [])]
/-- M_sizesOf -/
def jc228 : jCode := [
  (0, .iconst 0, 1, [], [], []),
  (1, .istore_n 2, 2, [], [], []),
  (2, .iconst 0, 3, [], [], []),
  (3, .istore_n 3, 4, [], [], []),
  (4, .iload_n 3, 5, [], [], []),
  (5, .aload_n 0, 6, [], [], []),
  (6, .getfield 39, 9, [11, 20, 2, 55, 0], [], []),
  (9, .iconst 5, 10, [], [], []),
  (10, .iaload, 11, [55, 112], [], []),
  (11, .if_icmp .ge 41, 14, [52], [], []),
  (14, .iload_n 2, 15, [], [], []),
  (15, .aload_n 0, 16, [], [], []),
  (16, .getfield 39, 19, [11, 20, 2, 55, 0], [], []),
  (19, .bipush 11, 21, [], [], []),
  (21, .iload_n 3, 22, [], [], []),
  (22, .iadd, 23, [], [], []),
  (23, .iaload, 24, [55, 112], [], []),
  (24, .bipush 30, 26, [], [], []),
  (26, .iload_n 1, 27, [], [], []),
  (27, .iadd, 28, [], [], []),
  (28, .if_icmp .ne 15, 31, [43], [], []),
  (31, .aload_n 0, 32, [], [], []),
  (32, .getfield 39, 35, [11, 20, 2, 55, 0], [], []),
  (35, .bipush 33, 37, [], [], []),
  (37, .iload_n 3, 38, [], [], []),
  (38, .iadd, 39, [], [], []),
  (39, .iaload, 40, [55, 112], [], []),
  (40, .goto 4, 43, [44], [], [2]),
  (43, .iconst 0, 44, [], [2], []),
  (44, .iadd, 45, [], [], []),
  (45, .istore_n 2, 46, [], [], []),
  (46, .iinc 3 1, 49, [], [], []),
  (49, .goto (-45), 52, [4], [], []),
  (52, .iload_n 2, 53, [], [], []),
  (53, .ireturn, 54, [0], [], [])]
/-- M_pence -/
def jc229 : jCode := [
  (0, .aload_n 0, 1, [], [], []),
  (1, .iload_n 2, 2, [], [], []),
  (2, .invokevirtual 320, 5, [174, 2, 1, 0, 12], [], []),
  (5, .ifCond .eq 15, 8, [20], [], [0, 1, 2]),
  (8, .iload_n 1, 9, [], [], []),
  (9, .i2l, 10, [], [], []),
  (10, .lconst 0, 11, [], [], []),
  (11, .ldc2_w 421, 14, [9999], [], []),
  (14, .invokestatic 121, 17, [125, 3, 1, 0, 0], [], []),
  (17, .ifCond .ne 5, 20, [22], [0, 1, 2], []),
  (20, .iconst (-1), 21, [], [], []),
  (21, .ireturn, 22, [0], [], []),
  (22, .iconst 0, 23, [], [], []),
  (23, .istore_n 3, 24, [], [], []),
  (24, .iconst 0, 25, [], [], []),
  (25, .istore 4, 27, [], [], []),
  (27, .iload 4, 29, [], [], []),
  (29, .aload_n 0, 30, [], [], []),
  (30, .getfield 39, 33, [11, 20, 2, 55, 0], [], []),
  (33, .iconst 4, 34, [], [], []),
  (34, .iaload, 35, [55, 112], [], []),
  (35, .if_icmp .ge 18, 38, [53], [], []),
  (38, .iload_n 3, 39, [], [], []),
  (39, .aload_n 0, 40, [], [], []),
  (40, .iload 4, 42, [], [], []),
  (42, .invokevirtual 423, 45, [228, 2, 1, 0, 12], [], []),
  (45, .iadd, 46, [], [], []),
  (46, .istore_n 3, 47, [], [], []),
  (47, .iinc 4 1, 50, [], [], []),
  (50, .goto (-23), 53, [27], [], []),
  (53, .iload_n 3, 54, [], [], []),
  (54, .ifCond .ne 5, 57, [59], [], []),
  (57, .iconst 0, 58, [], [], []),
  (58, .ireturn, 59, [0], [], []),
  (59, .iload_n 1, 60, [], [], []),
  (60, .aload_n 0, 61, [], [], []),
  (61, .iload_n 2, 62, [], [], []),
  (62, .invokevirtual 423, 65, [228, 2, 1, 0, 12], [], []),
  (65, .imul, 66, [], [], []),
  (66, .istore 4, 68, [], [], []),
  (68, .iload_n 1, 69, [], [], []),
  (69, .istore 5, 71, [], [], []),
  (71, .iconst 0, 72, [], [], []),
  (72, .istore 6, 74, [], [], []),
  (74, .iconst 0, 75, [], [], []),
  (75, .istore 7, 77, [], [], []),
  (77, .iload 7, 79, [], [], []),
  (79, .aload_n 0, 80, [], [], []),
  (80, .getfield 39, 83, [11, 20, 2, 55, 0], [], []),
  (83, .iconst 4, 84, [], [], []),
  (84, .iaload, 85, [55, 112], [], []),
  (85, .if_icmp .ge 66, 88, [151], [], []),
  (88, .iload_n 1, 89, [], [], []),
  (89, .aload_n 0, 90, [], [], []),
  (90, .iload 7, 92, [], [], []),
  (92, .invokevirtual 423, 95, [228, 2, 1, 0, 12], [], []),
  (95, .imul, 96, [], [], []),
  (96, .istore 8, 98, [], [], []),
  (98, .iload 5, 100, [], [], []),
  (100, .iload 8, 102, [], [], []),
  (102, .iload_n 3, 103, [], [], []),
  (103, .idiv, 104, [], [], []),
  (104, .isub, 105, [], [], []),
  (105, .istore 5, 107, [], [], []),
  (107, .iload 6, 109, [], [], []),
  (109, .iload 8, 111, [], [], []),
  (111, .iload_n 3, 112, [], [], []),
  (112, .irem, 113, [], [], []),
  (113, .iload 4, 115, [], [], []),
  (115, .iload_n 3, 116, [], [], []),
  (116, .irem, 117, [], [], []),
  (117, .if_icmp .gt 20, 120, [137], [], [6, 8]),
  (120, .iload 8, 122, [], [], []),
  (122, .iload_n 3, 123, [], [], []),
  (123, .irem, 124, [], [], []),
  (124, .iload 4, 126, [], [], []),
  (126, .iload_n 3, 127, [], [], []),
  (127, .irem, 128, [], [], []),
  (128, .if_icmp .ne 13, 131, [141], [], [6, 8]),
  (131, .iload 7, 133, [], [], []),
  (133, .iload_n 2, 134, [], [], []),
  (134, .if_icmp .ge 7, 137, [141], [6, 8], [6, 8]),
  (137, .iconst 1, 138, [], [], []),
  (138, .goto 4, 141, [142], [], [6, 8]),
  (141, .iconst 0, 142, [], [6, 8], []),
  (142, .iadd, 143, [], [], []),
  (143, .istore 6, 145, [], [], []),
  (145, .iinc 7 1, 148, [], [], []),
  (148, .goto (-71), 151, [77], [], [8]),
  (151, .iload 4, 153, [], [], []),
  (153, .iload_n 3, 154, [], [], []),
  (154, .idiv, 155, [], [], []),
  (155, .iload 6, 157, [], [], []),
  (157, .iload 5, 159, [], [], []),
  (159, .if_icmp .ge 7, 162, [166], [], []),
  (162, .iconst 1, 163, [], [], []),
  (163, .goto 4, 166, [167], [], [0, 1, 2, 3, 4, 5, 6, 7]),
  (166, .iconst 0, 167, [], [0, 1, 2, 3, 4, 5, 6, 7], []),
  (167, .iadd, 168, [], [], []),
  (168, .ireturn, 169, [0], [], [])]
/-- M_note -/
def jc230 : jCode := [
  (0, .iload_n 1, 1, [], [], []),
  (1, .iconst (-1), 2, [], [], []),
  (2, .if_icmp .ne 13, 5, [15], [], []),
  (5, .aload_n 0, 6, [], [], []),
  (6, .getfield 39, 9, [11, 20, 2, 55, 0], [], []),
  (9, .bipush 111, 11, [], [], []),
  (11, .iconst 0, 12, [], [], []),
  (12, .iastore, 13, [55, 112, 0], [], []),
  (13, .iconst 0, 14, [], [], []),
  (14, .ireturn, 15, [0], [], []),
  (15, .iload_n 1, 16, [], [], []),
  (16, .i2l, 17, [], [], []),
  (17, .lconst 0, 18, [], [], []),
  (18, .ldc2_w 426, 21, [60], [], []),
  (21, .invokestatic 121, 24, [125, 3, 1, 0, 0], [], []),
  (24, .ifCond .eq 36, 27, [60], [], [0, 1, 2, 3]),
  (27, .aload_n 0, 28, [], [], []),
  (28, .iload_n 2, 29, [], [], []),
  (29, .invokevirtual 295, 32, [175, 2, 1, 0, 12], [], []),
  (32, .ifCond .eq 28, 35, [60], [], [0, 1, 2, 3]),
  (35, .iload_n 3, 36, [], [], []),
  (36, .iconst (-1), 37, [], [], []),
  (37, .if_icmp .eq 11, 40, [48], [], []),
  (40, .aload_n 0, 41, [], [], []),
  (41, .iload_n 3, 42, [], [], []),
  (42, .invokevirtual 338, 45, [173, 2, 1, 0, 12], [], []),
  (45, .ifCond .eq 15, 48, [60], [], [0, 1, 2, 3]),
  (48, .aload_n 0, 49, [], [], []),
  (49, .getfield 39, 52, [11, 20, 2, 55, 0], [], []),
  (52, .bipush 111, 54, [], [], []),
  (54, .iaload, 55, [55, 112], [], []),
  (55, .bipush 10, 57, [], [], []),
  (57, .if_icmp .ne 6, 60, [63], [0, 1, 2, 3], []),
  (60, .bipush (-2), 62, [], [], []),
  (62, .ireturn, 63, [0], [], []),
  (63, .bipush 81, 65, [], [], []),
  (65, .iconst 3, 66, [], [], []),
  (66, .aload_n 0, 67, [], [], []),
  (67, .getfield 39, 70, [11, 20, 2, 55, 0], [], []),
  (70, .bipush 111, 72, [], [], []),
  (72, .iaload, 73, [55, 112], [], []),
  (73, .imul, 74, [], [], []),
  (74, .iadd, 75, [], [], []),
  (75, .istore 4, 77, [], [], []),
  (77, .aload_n 0, 78, [], [], []),
  (78, .getfield 39, 81, [11, 20, 2, 55, 0], [], []),
  (81, .iload 4, 83, [], [], []),
  (83, .iload_n 1, 84, [], [], []),
  (84, .iastore, 85, [55, 112, 0], [], []),
  (85, .aload_n 0, 86, [], [], []),
  (86, .getfield 39, 89, [11, 20, 2, 55, 0], [], []),
  (89, .iload 4, 91, [], [], []),
  (91, .iconst 1, 92, [], [], []),
  (92, .iadd, 93, [], [], []),
  (93, .iload_n 2, 94, [], [], []),
  (94, .iastore, 95, [55, 112, 0], [], []),
  (95, .aload_n 0, 96, [], [], []),
  (96, .getfield 39, 99, [11, 20, 2, 55, 0], [], []),
  (99, .iload 4, 101, [], [], []),
  (101, .iconst 2, 102, [], [], []),
  (102, .iadd, 103, [], [], []),
  (103, .iload_n 3, 104, [], [], []),
  (104, .iastore, 105, [55, 112, 0], [], []),
  (105, .aload_n 0, 106, [], [], []),
  (106, .getfield 39, 109, [11, 20, 2, 55, 0], [], []),
  (109, .bipush 111, 111, [], [], []),
  (111, .dup2, 112, [], [], []),
  (112, .iaload, 113, [55, 112], [], []),
  (113, .iconst 1, 114, [], [], []),
  (114, .iadd, 115, [], [], []),
  (115, .iastore, 116, [55, 112, 0], [], []),
  (116, .aload_n 0, 117, [], [], []),
  (117, .getfield 39, 120, [11, 20, 2, 55, 0], [], []),
  (120, .bipush 111, 122, [], [], []),
  (122, .iaload, 123, [55, 112], [], []),
  (123, .ireturn, 124, [0], [], [])]
/-- M_freeIn -/
def jc231 : jCode := [
  (0, .aload_n 0, 1, [], [], []),
  (1, .iload_n 1, 2, [], [], []),
  (2, .invokevirtual 345, 5, [177, 2, 1, 0, 12], [], []),
  (5, .ifCond .eq 15, 8, [20], [], []),
  (8, .aload_n 0, 9, [], [], []),
  (9, .getfield 39, 12, [11, 20, 2, 55, 0], [], []),
  (12, .bipush 11, 14, [], [], []),
  (14, .iload_n 1, 15, [], [], []),
  (15, .iadd, 16, [], [], []),
  (16, .iaload, 17, [55, 112], [], []),
  (17, .goto 4, 20, [21], [], [0, 1]),
  (20, .iconst (-1), 21, [], [0, 1], []),
  (21, .ireturn, 22, [0], [], [])]
/-- M_areNotesSo -/
def jc232 : jCode := [
  (0, .iconst 0, 1, [], [], []),
  (1, .istore_n 2, 2, [], [], []),
  (2, .iload_n 2, 3, [], [], []),
  (3, .iconst 3, 4, [], [], []),
  (4, .aload_n 0, 5, [], [], []),
  (5, .getfield 39, 8, [11, 20, 2, 55, 0], [], []),
  (8, .bipush 111, 10, [], [], []),
  (10, .iaload, 11, [55, 112], [], []),
  (11, .imul, 12, [], [], []),
  (12, .if_icmp .ge 53, 15, [65], [], []),
  (15, .aload_n 0, 16, [], [], []),
  (16, .getfield 39, 19, [11, 20, 2, 55, 0], [], []),
  (19, .bipush 81, 21, [], [], []),
  (21, .iload_n 2, 22, [], [], []),
  (22, .iadd, 23, [], [], []),
  (23, .iaload, 24, [55, 112], [], []),
  (24, .iload_n 1, 25, [], [], []),
  (25, .if_icmp .ne 34, 28, [59], [], []),
  (28, .aload_n 0, 29, [], [], []),
  (29, .aload_n 0, 30, [], [], []),
  (30, .getfield 39, 33, [11, 20, 2, 55, 0], [], []),
  (33, .bipush 81, 35, [], [], []),
  (35, .iload_n 2, 36, [], [], []),
  (36, .iadd, 37, [], [], []),
  (37, .iconst 1, 38, [], [], []),
  (38, .iadd, 39, [], [], []),
  (39, .iaload, 40, [55, 112], [], []),
  (40, .invokevirtual 428, 43, [231, 2, 1, 0, 12], [], []),
  (43, .aload_n 0, 44, [], [], []),
  (44, .getfield 39, 47, [11, 20, 2, 55, 0], [], []),
  (47, .bipush 81, 49, [], [], []),
  (49, .iload_n 2, 50, [], [], []),
  (50, .iadd, 51, [], [], []),
  (51, .iconst 2, 52, [], [], []),
  (52, .iadd, 53, [], [], []),
  (53, .iaload, 54, [55, 112], [], []),
  (54, .if_icmp .eq 5, 57, [59], [], []),
  (57, .iconst 0, 58, [], [], []),
  (58, .ireturn, 59, [1], [], []),
  (59, .iinc 2 3, 62, [], [], []),
  (62, .goto (-60), 65, [2], [], []),
  (65, .iconst 1, 66, [], [], []),
  (66, .ireturn, 67, [1], [], [])]
/-- M_areAllSo -/
def jc233 : jCode := [
  (0, .iconst 1, 1, [], [], []),
  (1, .istore_n 3, 2, [], [], []),
  (2, .iconst 0, 3, [], [], []),
  (3, .istore 4, 5, [], [], []),
  (5, .iload 4, 7, [], [], []),
  (7, .bipush 60, 9, [], [], []),
  (9, .if_icmp .gt 77, 12, [86], [], []),
  (12, .iload_n 3, 13, [], [], []),
  (13, .ifCond .eq 16, 16, [29], [], [3]),
  (16, .aload_n 0, 17, [], [], []),
  (17, .iload 4, 19, [], [], []),
  (19, .invokevirtual 431, 22, [232, 2, 1, 0, 12], [], []),
  (22, .ifCond .eq 7, 25, [29], [], [3]),
  (25, .iconst 1, 26, [], [], []),
  (26, .goto 4, 29, [30], [], [3]),
  (29, .iconst 0, 30, [], [3], []),
  (30, .istore_n 3, 31, [], [], []),
  (31, .iconst 0, 32, [], [], []),
  (32, .istore 5, 34, [], [], []),
  (34, .iload 5, 36, [], [], []),
  (36, .aload_n 0, 37, [], [], []),
  (37, .getfield 39, 40, [11, 20, 2, 55, 0], [], []),
  (40, .iconst 5, 41, [], [], []),
  (41, .iaload, 42, [55, 112], [], []),
  (42, .if_icmp .ge 33, 45, [75], [], [5]),
  (45, .iload 4, 47, [], [], []),
  (47, .iload_n 2, 48, [], [], []),
  (48, .if_icmp .ne 27, 51, [75], [], [5]),
  (51, .aload_n 0, 52, [], [], []),
  (52, .getfield 68, 55, [11, 31, 2, 62, 0], [], []),
  (55, .bipush 6, 57, [], [], []),
  (57, .iload_n 1, 58, [], [], []),
  (58, .imul, 59, [], [], []),
  (59, .iload 5, 61, [], [], []),
  (61, .iadd, 62, [], [], []),
  (62, .aload_n 0, 63, [], [], []),
  (63, .iload 5, 65, [], [], []),
  (65, .invokevirtual 428, 68, [231, 2, 1, 0, 12], [], []),
  (68, .iastore, 69, [62, 42, 0], [], []),
  (69, .iinc 5 1, 72, [], [], []),
  (72, .goto (-38), 75, [34], [], []),
  (75, .aload_n 0, 76, [], [], []),
  (76, .invokevirtual 360, 79, [197, 1, 1, 0, 12], [], []),
  (79, .pop, 80, [], [], []),
  (80, .iinc 4 1, 83, [], [], []),
  (83, .goto (-78), 86, [5], [], [5]),
  (86, .iload_n 3, 87, [], [], []),
  (87, .ireturn, 88, [1], [], [])]
/-- M_of -/
def jc234 : jCode := [
  (0, .aload_n 0, 1, [], [], []),
  (1, .iload_n 1, 2, [], [], []),
  (2, .invokevirtual 295, 5, [175, 2, 1, 0, 12], [], []),
  (5, .ifCond .ne 5, 8, [10], [], []),
  (8, .iconst (-1), 9, [], [], []),
  (9, .ireturn, 10, [0], [], []),
  (10, .aload_n 0, 11, [], [], []),
  (11, .getfield 39, 14, [11, 20, 2, 55, 0], [], []),
  (14, .bipush 45, 16, [], [], []),
  (16, .iload_n 1, 17, [], [], []),
  (17, .iadd, 18, [], [], []),
  (18, .iaload, 19, [55, 112], [], []),
  (19, .istore_n 2, 20, [], [], []),
  (20, .iconst 0, 21, [], [], []),
  (21, .istore_n 3, 22, [], [], []),
  (22, .aload_n 0, 23, [], [], []),
  (23, .invokevirtual 376, 26, [206, 1, 0, 0, 12], [], []),
  (26, .iconst 0, 27, [], [], []),
  (27, .istore 4, 29, [], [], []),
  (29, .iload 4, 31, [], [], []),
  (31, .aload_n 0, 32, [], [], []),
  (32, .getfield 39, 35, [11, 20, 2, 55, 0], [], []),
  (35, .iconst 4, 36, [], [], []),
  (36, .iaload, 37, [55, 112], [], []),
  (37, .if_icmp .ge 40, 40, [77], [], []),
  (40, .aload_n 0, 41, [], [], []),
  (41, .getfield 39, 44, [11, 20, 2, 55, 0], [], []),
  (44, .bipush 45, 46, [], [], []),
  (46, .iload_n 1, 47, [], [], []),
  (47, .iadd, 48, [], [], []),
  (48, .iload 4, 50, [], [], []),
  (50, .iastore, 51, [55, 112, 0], [], []),
  (51, .aload_n 0, 52, [], [], []),
  (52, .invokevirtual 271, 55, [185, 1, 0, 0, 12], [], []),
  (55, .aload_n 0, 56, [], [], []),
  (56, .iconst 0, 57, [], [], []),
  (57, .iconst (-1), 58, [], [], []),
  (58, .invokevirtual 434, 61, [233, 3, 1, 0, 12], [], []),
  (61, .ifCond .eq 10, 64, [71], [], []),
  (64, .iload_n 3, 65, [], [], []),
  (65, .iconst 1, 66, [], [], []),
  (66, .iload 4, 68, [], [], []),
  (68, .ishl, 69, [], [], []),
  (69, .ior, 70, [], [], []),
  (70, .istore_n 3, 71, [], [], []),
  (71, .iinc 4 1, 74, [], [], []),
  (74, .goto (-45), 77, [29], [], []),
  (77, .aload_n 0, 78, [], [], []),
  (78, .getfield 39, 81, [11, 20, 2, 55, 0], [], []),
  (81, .bipush 45, 83, [], [], []),
  (83, .iload_n 1, 84, [], [], []),
  (84, .iadd, 85, [], [], []),
  (85, .iload_n 2, 86, [], [], []),
  (86, .iastore, 87, [55, 112, 0], [], []),
  (87, .aload_n 0, 88, [], [], []),
  (88, .invokevirtual 382, 91, [207, 1, 0, 0, 12], [], []),
  (91, .iload_n 3, 92, [], [], []),
  (92, .ireturn, 93, [0], [], [])]
/-- M_fillsFits -/
def jc235 : jCode := [
  (0, .aload_n 0, 1, [], [], []),
  (1, .getfield 42, 4, [11, 21, 0, 0, 0], [], []),
  (4, .istore_n 2, 5, [], [], []),
  (5, .aload_n 0, 6, [], [], []),
  (6, .invokevirtual 376, 9, [206, 1, 0, 0, 12], [], []),
  (9, .iconst 0, 10, [], [], []),
  (10, .istore_n 3, 11, [], [], []),
  (11, .iload_n 3, 12, [], [], []),
  (12, .aload_n 0, 13, [], [], []),
  (13, .getfield 265, 16, [11, 2, 0, 0, 0], [], []),
  (16, .if_icmp .gt 32, 19, [48], [], []),
  (19, .aload_n 0, 20, [], [], []),
  (20, .iload_n 3, 21, [], [], []),
  (21, .iconst 1, 22, [], [], []),
  (22, .isub, 23, [], [], []),
  (23, .putfield 42, 26, [11, 21, 0, 0, 0], [], []),
  (26, .aload_n 0, 27, [], [], []),
  (27, .invokevirtual 271, 30, [185, 1, 0, 0, 12], [], []),
  (30, .aload_n 0, 31, [], [], []),
  (31, .getfield 64, 34, [11, 30, 2, 61, 0], [], []),
  (34, .iload_n 3, 35, [], [], []),
  (35, .aload_n 0, 36, [], [], []),
  (36, .iload_n 3, 37, [], [], []),
  (37, .iload_n 1, 38, [], [], []),
  (38, .invokevirtual 434, 41, [233, 3, 1, 0, 12], [], []),
  (41, .bastore, 42, [61, 7, 3], [], []),
  (42, .iinc 3 1, 45, [], [], []),
  (45, .goto (-34), 48, [11], [], []),
  (48, .aload_n 0, 49, [], [], []),
  (49, .iload_n 2, 50, [], [], []),
  (50, .putfield 42, 53, [11, 21, 0, 0, 0], [], []),
  (53, .aload_n 0, 54, [], [], []),
  (54, .invokevirtual 382, 57, [207, 1, 0, 0, 12], [], []),
  (57, .return_, 58, [], [], [])]
/-- M_ruled -/
def jc236 : jCode := [
  (0, .aload_n 0, 1, [], [], []),
  (1, .invokevirtual 292, 4, [171, 1, 1, 0, 12], [], []),
  (4, .ifCond .eq 13, 7, [17], [], [0, 1]),
  (7, .iload_n 1, 8, [], [], []),
  (8, .i2l, 9, [], [], []),
  (9, .lconst 0, 10, [], [], []),
  (10, .lconst 1, 11, [], [], []),
  (11, .invokestatic 121, 14, [125, 3, 1, 0, 0], [], []),
  (14, .ifCond .ne 6, 17, [20], [0, 1], []),
  (17, .bipush (-3), 19, [], [], []),
  (19, .ireturn, 20, [0], [], []),
  (20, .aload_n 0, 21, [], [], []),
  (21, .iconst 0, 22, [], [], []),
  (22, .invokevirtual 437, 25, [235, 2, 0, 0, 12], [], []),
  (25, .iconst 0, 26, [], [], []),
  (26, .istore_n 2, 27, [], [], []),
  (27, .bipush (-2), 29, [], [], []),
  (29, .istore_n 3, 30, [], [], []),
  (30, .aload_n 0, 31, [], [], []),
  (31, .getfield 265, 34, [11, 2, 0, 0, 0], [], []),
  (34, .istore 4, 36, [], [], []),
  (36, .iload 4, 38, [], [], []),
  (38, .ifCond .lt 30, 41, [68], [], []),
  (41, .aload_n 0, 42, [], [], []),
  (42, .getfield 64, 45, [11, 30, 2, 61, 0], [], []),
  (45, .iload 4, 47, [], [], []),
  (47, .baload, 48, [61, 7], [], []),
  (48, .ifCond .ne 6, 51, [54], [], []),
  (51, .goto 11, 54, [62], [], []),
  (54, .iload 4, 56, [], [], []),
  (56, .iconst 1, 57, [], [], []),
  (57, .isub, 58, [], [], []),
  (58, .istore_n 3, 59, [], [], []),
  (59, .iinc 2 1, 62, [], [], []),
  (62, .iinc 4 (-1), 65, [], [], []),
  (65, .goto (-29), 68, [36], [], []),
  (68, .iload_n 1, 69, [], [], []),
  (69, .ifCond .ne 7, 72, [76], [], []),
  (72, .iload_n 2, 73, [], [], []),
  (73, .goto 4, 76, [77], [], [0, 1, 2, 3, 4]),
  (76, .iload_n 3, 77, [], [0, 1, 2, 3, 4], []),
  (77, .ireturn, 78, [0], [], [])]
/-- M_alikeAt -/
def jc237 : jCode := [
  (0, .iconst 0, 1, [], [], []),
  (1, .istore_n 2, 2, [], [], []),
  (2, .iconst 0, 3, [], [], []),
  (3, .istore_n 3, 4, [], [], []),
  (4, .iload_n 3, 5, [], [], []),
  (5, .aload_n 0, 6, [], [], []),
  (6, .getfield 265, 9, [11, 2, 0, 0, 0], [], []),
  (9, .if_icmp .gt 98, 12, [107], [], []),
  (12, .iconst 0, 13, [], [], []),
  (13, .istore 4, 15, [], [], []),
  (15, .iconst 0, 16, [], [], []),
  (16, .istore 5, 18, [], [], []),
  (18, .iload 5, 20, [], [], []),
  (20, .aload_n 0, 21, [], [], []),
  (21, .getfield 265, 24, [11, 2, 0, 0, 0], [], []),
  (24, .if_icmp .gt 64, 27, [88], [], [5]),
  (27, .aload_n 0, 28, [], [], []),
  (28, .getfield 64, 31, [11, 30, 2, 61, 0], [], []),
  (31, .iload_n 3, 32, [], [], []),
  (32, .baload, 33, [61, 7], [], []),
  (33, .ifCond .eq 55, 36, [88], [], [5]),
  (36, .iload 4, 38, [], [], []),
  (38, .aload_n 0, 39, [], [], []),
  (39, .getfield 64, 42, [11, 30, 2, 61, 0], [], []),
  (42, .iload 5, 44, [], [], []),
  (44, .baload, 45, [61, 7], [], []),
  (45, .ifCond .eq 33, 48, [78], [], [4]),
  (48, .aload_n 0, 49, [], [], []),
  (49, .getfield 68, 52, [11, 31, 2, 62, 0], [], []),
  (52, .bipush 6, 54, [], [], []),
  (54, .iload_n 3, 55, [], [], []),
  (55, .imul, 56, [], [], []),
  (56, .iload_n 1, 57, [], [], []),
  (57, .iadd, 58, [], [], []),
  (58, .iaload, 59, [62, 42], [], []),
  (59, .aload_n 0, 60, [], [], []),
  (60, .getfield 68, 63, [11, 31, 2, 62, 0], [], []),
  (63, .bipush 6, 65, [], [], []),
  (65, .iload 5, 67, [], [], []),
  (67, .imul, 68, [], [], []),
  (68, .iload_n 1, 69, [], [], []),
  (69, .iadd, 70, [], [], []),
  (70, .iaload, 71, [62, 42], [], []),
  (71, .if_icmp .ne 7, 74, [78], [], [4]),
  (74, .iconst 1, 75, [], [], []),
  (75, .goto 4, 78, [79], [], [4]),
  (78, .iconst 0, 79, [], [4], []),
  (79, .iadd, 80, [], [], []),
  (80, .istore 4, 82, [], [], []),
  (82, .iinc 5 1, 85, [], [], []),
  (85, .goto (-67), 88, [18], [], []),
  (88, .iload 4, 90, [], [], []),
  (90, .iload_n 2, 91, [], [], []),
  (91, .if_icmp .le 8, 94, [99], [], []),
  (94, .iload 4, 96, [], [], []),
  (96, .goto 4, 99, [100], [], [2, 4, 5]),
  (99, .iload_n 2, 100, [], [2, 4, 5], []),
  (100, .istore_n 2, 101, [], [], []),
  (101, .iinc 3 1, 104, [], [], []),
  (104, .goto (-100), 107, [4], [], [4, 5]),
  (107, .iload_n 2, 108, [], [], []),
  (108, .ireturn, 109, [0], [], [])]
/-- M_look -/
def jc238 : jCode := [
  (0, .aload_n 0, 1, [], [], []),
  (1, .invokevirtual 292, 4, [171, 1, 1, 0, 12], [], []),
  (4, .ifCond .eq 25, 7, [29], [], [0, 1, 2]),
  (7, .iload_n 1, 8, [], [], []),
  (8, .i2l, 9, [], [], []),
  (9, .lconst 0, 10, [], [], []),
  (10, .ldc2_w 426, 13, [60], [], []),
  (13, .invokestatic 121, 16, [125, 3, 1, 0, 0], [], []),
  (16, .ifCond .eq 13, 19, [29], [], [0, 1, 2]),
  (19, .iload_n 2, 20, [], [], []),
  (20, .i2l, 21, [], [], []),
  (21, .lconst 0, 22, [], [], []),
  (22, .lconst 1, 23, [], [], []),
  (23, .invokestatic 121, 26, [125, 3, 1, 0, 0], [], []),
  (26, .ifCond .ne 5, 29, [31], [0, 1, 2], []),
  (29, .iconst (-1), 30, [], [], []),
  (30, .ireturn, 31, [0], [], []),
  (31, .aload_n 0, 32, [], [], []),
  (32, .iload_n 1, 33, [], [], []),
  (33, .invokevirtual 437, 36, [235, 2, 0, 0, 12], [], []),
  (36, .bipush (-2), 38, [], [], []),
  (38, .istore_n 3, 39, [], [], []),
  (39, .bipush (-2), 41, [], [], []),
  (41, .istore 4, 43, [], [], []),
  (43, .iconst 0, 44, [], [], []),
  (44, .istore 5, 46, [], [1], []),
  (46, .iload 5, 48, [], [], []),
  (48, .aload_n 0, 49, [], [], []),
  (49, .getfield 39, 52, [11, 20, 2, 55, 0], [], []),
  (52, .iconst 5, 53, [], [], []),
  (53, .iaload, 54, [55, 112], [], []),
  (54, .if_icmp .ge 43, 57, [97], [], []),
  (57, .aload_n 0, 58, [], [], []),
  (58, .iload 5, 60, [], [], []),
  (60, .invokevirtual 440, 63, [237, 2, 1, 0, 12], [], []),
  (63, .istore 6, 65, [], [], []),
  (65, .iload 6, 67, [], [], []),
  (67, .ifCond .eq 24, 70, [91], [], [1, 6]),
  (70, .iload_n 3, 71, [], [], []),
  (71, .ifCond .lt 13, 74, [84], [], [1, 3, 4]),
  (74, .iload 6, 76, [], [], []),
  (76, .iload 4, 78, [], [], []),
  (78, .if_icmp .lt 6, 81, [84], [], [1, 3, 4]),
  (81, .goto 10, 84, [91], [], [1, 6]),
  (84, .iload 5, 86, [], [], []),
  (86, .istore_n 3, 87, [], [], []),
  (87, .iload 6, 89, [], [], []),
  (89, .istore 4, 91, [], [1, 6], []),
  (91, .iinc 5 1, 94, [], [], []),
  (94, .goto (-48), 97, [46], [], [1, 6]),
  (97, .iload_n 2, 98, [], [], []),
  (98, .ifCond .ne 7, 101, [105], [], []),
  (101, .iload_n 3, 102, [], [], []),
  (102, .goto 5, 105, [107], [], [0, 1, 2, 3, 4, 5]),
  (105, .iload 4, 107, [], [0, 1, 2, 3, 4, 5], []),
  (107, .ireturn, 108, [0], [], [])]
/-- M_seed -/
def jc239 : jCode := [
  (0, .iload_n 1, 1, [], [], []),
  (1, .ifCond .ge 5, 4, [6], [], []),
  (4, .iconst (-1), 5, [], [], []),
  (5, .ireturn, 6, [0], [], []),
  (6, .aload_n 0, 7, [], [], []),
  (7, .getfield 443, 10, [11, 22, 0, 0, 0], [], []),
  (10, .istore_n 2, 11, [], [], []),
  (11, .aload_n 0, 12, [], [], []),
  (12, .iload_n 1, 13, [], [], []),
  (13, .putfield 443, 16, [11, 22, 0, 0, 0], [], []),
  (16, .iload_n 2, 17, [], [], []),
  (17, .ireturn, 18, [0], [], [])]
/-- M_draw -/
def jc240 : jCode := [
  (0, .aload_n 0, 1, [], [], []),
  (1, .aload_n 0, 2, [], [], []),
  (2, .getfield 446, 5, [11, 32, 1, 0, 0], [], []),
  (5, .ldc2_w 450, 8, [1103515245], [], []),
  (8, .lmul, 9, [], [], []),
  (9, .ldc2_w 452, 12, [12345], [], []),
  (12, .ladd, 13, [], [], []),
  (13, .ldc2_w 454, 16, [2147483648], [], []),
  (16, .lrem, 17, [], [], []),
  (17, .putfield 446, 20, [11, 32, 1, 0, 0], [], []),
  (20, .aload_n 0, 21, [], [], []),
  (21, .getfield 446, 24, [11, 32, 1, 0, 0], [], []),
  (24, .ldc2_w 456, 27, [65536], [], []),
  (27, .ldiv, 28, [], [], []),
  (28, .iload_n 1, 29, [], [], []),
  (29, .i2l, 30, [], [], []),
  (30, .lrem, 31, [], [], []),
  (31, .l2i, 32, [], [], []),
  (32, .ireturn, 33, [0], [], [])]
/-- M_moons -/
def jc241 : jCode := [
  (0, .aload_n 0, 1, [], [], []),
  (1, .invokevirtual 292, 4, [171, 1, 1, 0, 12], [], []),
  (4, .ifCond .eq 50, 7, [54], [], [0, 1, 2, 3, 4]),
  (7, .iload_n 1, 8, [], [], []),
  (8, .i2l, 9, [], [], []),
  (9, .lconst 1, 10, [], [], []),
  (10, .ldc2_w 458, 13, [10], [], []),
  (13, .invokestatic 121, 16, [125, 3, 1, 0, 0], [], []),
  (16, .ifCond .eq 38, 19, [54], [], [0, 1, 2, 3, 4]),
  (19, .iload_n 2, 20, [], [], []),
  (20, .i2l, 21, [], [], []),
  (21, .lconst 1, 22, [], [], []),
  (22, .ldc2_w 426, 25, [60], [], []),
  (25, .invokestatic 121, 28, [125, 3, 1, 0, 0], [], []),
  (28, .ifCond .eq 26, 31, [54], [], [0, 1, 2, 3, 4]),
  (31, .iload_n 3, 32, [], [], []),
  (32, .i2l, 33, [], [], []),
  (33, .lconst 0, 34, [], [], []),
  (34, .ldc2_w 374, 37, [100], [], []),
  (37, .invokestatic 121, 40, [125, 3, 1, 0, 0], [], []),
  (40, .ifCond .eq 14, 43, [54], [], [0, 1, 2, 3, 4]),
  (43, .iload 4, 45, [], [], []),
  (45, .i2l, 46, [], [], []),
  (46, .lconst 0, 47, [], [], []),
  (47, .lconst 1, 48, [], [], []),
  (48, .invokestatic 121, 51, [125, 3, 1, 0, 0], [], []),
  (51, .ifCond .ne 5, 54, [56], [0, 1, 2, 3, 4], []),
  (54, .iconst (-1), 55, [], [], []),
  (55, .ireturn, 56, [0], [], []),
  (56, .aload_n 0, 57, [], [], []),
  (57, .aload_n 0, 58, [], [], []),
  (58, .getfield 443, 61, [11, 22, 0, 0, 0], [], []),
  (61, .i2l, 62, [], [], []),
  (62, .putfield 446, 65, [11, 32, 1, 0, 0], [], []),
  (65, .iconst 0, 66, [], [], []),
  (66, .istore 5, 68, [], [], []),
  (68, .iconst 0, 69, [], [], []),
  (69, .istore 6, 71, [], [], []),
  (71, .aload_n 0, 72, [], [], []),
  (72, .invokevirtual 376, 75, [206, 1, 0, 0, 12], [], []),
  (75, .iconst 0, 76, [], [], []),
  (76, .istore 7, 78, [], [], []),
  (78, .iload 7, 80, [], [], []),
  (80, .iload_n 1, 81, [], [], []),
  (81, .if_icmp .ge 76, 84, [157], [], []),
  (84, .iconst 0, 85, [], [], []),
  (85, .istore 8, 87, [], [], []),
  (87, .iload 8, 89, [], [], []),
  (89, .iload_n 2, 90, [], [], []),
  (90, .if_icmp .ge 34, 93, [124], [], []),
  (93, .aload_n 0, 94, [], [], []),
  (94, .bipush 100, 96, [], [], []),
  (96, .invokevirtual 460, 99, [240, 2, 1, 0, 12], [], []),
  (99, .iload_n 3, 100, [], [], []),
  (100, .if_icmp .ge 13, 103, [113], [], []),
  (103, .aload_n 0, 104, [], [], []),
  (104, .aload_n 0, 105, [], [], []),
  (105, .bipush 10, 107, [], [], []),
  (107, .invokevirtual 460, 110, [240, 2, 1, 0, 12], [], []),
  (110, .putfield 46, 113, [11, 23, 0, 0, 0], [], []),
  (113, .aload_n 0, 114, [], [], []),
  (114, .invokevirtual 360, 117, [197, 1, 1, 0, 12], [], []),
  (117, .pop, 118, [], [], []),
  (118, .iinc 8 1, 121, [], [], []),
  (121, .goto (-34), 124, [87], [], []),
  (124, .iload 5, 126, [], [], []),
  (126, .aload_n 0, 127, [], [], []),
  (127, .invokevirtual 391, 130, [211, 1, 1, 0, 12], [], []),
  (130, .iadd, 131, [], [], []),
  (131, .istore 5, 133, [], [], []),
  (133, .iload 6, 135, [], [], []),
  (135, .aload_n 0, 136, [], [], []),
  (136, .iconst (-1), 137, [], [], []),
  (137, .iconst (-1), 138, [], [], []),
  (138, .invokevirtual 323, 141, [183, 3, 1, 0, 12], [], []),
  (141, .invokestatic 388, 144, [127, 1, 1, 0, 0], [], []),
  (144, .iadd, 145, [], [], []),
  (145, .istore 6, 147, [], [], []),
  (147, .aload_n 0, 148, [], [], []),
  (148, .invokevirtual 382, 151, [207, 1, 0, 0, 12], [], []),
  (151, .iinc 7 1, 154, [], [], []),
  (154, .goto (-76), 157, [78], [], [8]),
  (157, .iload 4, 159, [], [], []),
  (159, .ifCond .ne 8, 162, [167], [], []),
  (162, .iload 5, 164, [], [], []),
  (164, .goto 5, 167, [169], [], [0, 1, 2, 3, 4, 5, 6, 7]),
  (167, .iload 6, 169, [], [0, 1, 2, 3, 4, 5, 6, 7], []),
  (169, .ireturn, 170, [0], [], [])]
/-- M_count -/
def jc242 : jCode := [
  (0, .iload_n 1, 1, [], [], []),
  (1, .tableswitch 154 0 14 #[75, 75, 84, 89, 89, 89, 98, 103, 108, 116, 124, 131, 139, 144, 149], 76, [155, 0, 76, 1, 76, 2, 85, 3, 90, 4, 90, 5, 90, 6, 99, 7, 104, 8, 109, 9, 117, 10, 125, 11, 132, 12, 140, 13, 145, 14, 150], [], []),
  (76, .aload_n 0, 77, [], [], []),
  (77, .getfield 39, 80, [11, 20, 2, 55, 0], [], []),
  (80, .iload_n 1, 81, [], [], []),
  (81, .iconst 1, 82, [], [], []),
  (82, .iadd, 83, [], [], []),
  (83, .iaload, 84, [55, 112], [], []),
  (84, .ireturn, 85, [0], [], []),
  (85, .aload_n 0, 86, [], [], []),
  (86, .invokevirtual 306, 89, [172, 1, 1, 0, 12], [], []),
  (89, .ireturn, 90, [0], [], []),
  (90, .aload_n 0, 91, [], [], []),
  (91, .getfield 39, 94, [11, 20, 2, 55, 0], [], []),
  (94, .iload_n 1, 95, [], [], []),
  (95, .iconst 1, 96, [], [], []),
  (96, .iadd, 97, [], [], []),
  (97, .iaload, 98, [55, 112], [], []),
  (98, .ireturn, 99, [0], [], []),
  (99, .aload_n 0, 100, [], [], []),
  (100, .getfield 265, 103, [11, 2, 0, 0, 0], [], []),
  (103, .ireturn, 104, [0], [], []),
  (104, .aload_n 0, 105, [], [], []),
  (105, .getfield 42, 108, [11, 21, 0, 0, 0], [], []),
  (108, .ireturn, 109, [0], [], []),
  (109, .aload_n 0, 110, [], [], []),
  (110, .getfield 39, 113, [11, 20, 2, 55, 0], [], []),
  (113, .bipush 10, 115, [], [], []),
  (115, .iaload, 116, [55, 112], [], []),
  (116, .ireturn, 117, [0], [], []),
  (117, .aload_n 0, 118, [], [], []),
  (118, .iconst 0, 119, [], [], []),
  (119, .bipush 19, 121, [], [], []),
  (121, .invokevirtual 323, 124, [183, 3, 1, 0, 12], [], []),
  (124, .ireturn, 125, [0], [], []),
  (125, .aload_n 0, 126, [], [], []),
  (126, .iconst (-1), 127, [], [], []),
  (127, .iconst (-1), 128, [], [], []),
  (128, .invokevirtual 323, 131, [183, 3, 1, 0, 12], [], []),
  (131, .ireturn, 132, [0], [], []),
  (132, .aload_n 0, 133, [], [], []),
  (133, .getfield 39, 136, [11, 20, 2, 55, 0], [], []),
  (136, .bipush 111, 138, [], [], []),
  (138, .iaload, 139, [55, 112], [], []),
  (139, .ireturn, 140, [0], [], []),
  (140, .aload_n 0, 141, [], [], []),
  (141, .getfield 274, 144, [11, 26, 0, 0, 0], [], []),
  (144, .ireturn, 145, [0], [], []),
  (145, .aload_n 0, 146, [], [], []),
  (146, .getfield 443, 149, [11, 22, 0, 0, 0], [], []),
  (149, .ireturn, 150, [0], [], []),
  (150, .aload_n 0, 151, [], [], []),
  (151, .getfield 83, 154, [11, 1, 0, 0, 0], [], []),
  (154, .ireturn, 155, [0], [], []),
  (155, .iconst (-1), 156, [], [], []),
  (156, .ireturn, 157, [0], [], [])]
/-- M_image -/
def jc243 : jCode := [
  (0, .iload_n 1, 1, [], [], []),
  (1, .i2l, 2, [], [], []),
  (2, .lconst 0, 3, [], [], []),
  (3, .ldc2_w 312, 6, [3], [], []),
  (6, .invokestatic 121, 9, [125, 3, 1, 0, 0], [], []),
  (9, .ifCond .ne 5, 12, [14], [], []),
  (12, .iconst (-1), 13, [], [], []),
  (13, .ireturn, 14, [0], [], []),
  (14, .aload_n 0, 15, [], [], []),
  (15, .getfield 80, 18, [11, 36, 2, 66, 0], [], []),
  (18, .iload_n 1, 19, [], [], []),
  (19, .iconst 1, 20, [], [], []),
  (20, .bastore, 21, [66, 4, 3], [], []),
  (21, .aload_n 0, 22, [], [], []),
  (22, .getfield 74, 25, [11, 34, 2, 64, 0], [], []),
  (25, .iload_n 1, 26, [], [], []),
  (26, .aload_n 0, 27, [], [], []),
  (27, .getfield 42, 30, [11, 21, 0, 0, 0], [], []),
  (30, .iastore, 31, [64, 4, 0], [], []),
  (31, .aload_n 0, 32, [], [], []),
  (32, .getfield 77, 35, [11, 35, 2, 65, 0], [], []),
  (35, .iload_n 1, 36, [], [], []),
  (36, .aload_n 0, 37, [], [], []),
  (37, .getfield 443, 40, [11, 22, 0, 0, 0], [], []),
  (40, .iastore, 41, [65, 4, 0], [], []),
  (41, .iconst 0, 42, [], [], []),
  (42, .istore_n 2, 43, [], [], []),
  (43, .iload_n 2, 44, [], [], []),
  (44, .bipush 112, 46, [], [], []),
  (46, .if_icmp .ge 26, 49, [72], [], []),
  (49, .aload_n 0, 50, [], [], []),
  (50, .getfield 71, 53, [11, 33, 2, 63, 0], [], []),
  (53, .bipush 112, 55, [], [], []),
  (55, .iload_n 1, 56, [], [], []),
  (56, .imul, 57, [], [], []),
  (57, .iload_n 2, 58, [], [], []),
  (58, .iadd, 59, [], [], []),
  (59, .aload_n 0, 60, [], [], []),
  (60, .getfield 39, 63, [11, 20, 2, 55, 0], [], []),
  (63, .iload_n 2, 64, [], [], []),
  (64, .iaload, 65, [55, 112], [], []),
  (65, .iastore, 66, [63, 448, 0], [], []),
  (66, .iinc 2 1, 69, [], [], []),
  (69, .goto (-26), 72, [43], [], []),
  (72, .aload_n 0, 73, [], [], []),
  (73, .getfield 39, 76, [11, 20, 2, 55, 0], [], []),
  (76, .bipush 10, 78, [], [], []),
  (78, .iaload, 79, [55, 112], [], []),
  (79, .ireturn, 80, [0], [], [])]
/-- M_back -/
def jc244 : jCode := [
  (0, .iload_n 1, 1, [], [], []),
  (1, .i2l, 2, [], [], []),
  (2, .lconst 0, 3, [], [], []),
  (3, .ldc2_w 312, 6, [3], [], []),
  (6, .invokestatic 121, 9, [125, 3, 1, 0, 0], [], []),
  (9, .ifCond .eq 12, 12, [21], [], [0, 1]),
  (12, .aload_n 0, 13, [], [], []),
  (13, .getfield 80, 16, [11, 36, 2, 66, 0], [], []),
  (16, .iload_n 1, 17, [], [], []),
  (17, .baload, 18, [66, 4], [], []),
  (18, .ifCond .ne 5, 21, [23], [0, 1], []),
  (21, .iconst (-1), 22, [], [], []),
  (22, .ireturn, 23, [0], [], []),
  (23, .aload_n 0, 24, [], [], []),
  (24, .aload_n 0, 25, [], [], []),
  (25, .getfield 74, 28, [11, 34, 2, 64, 0], [], []),
  (28, .iload_n 1, 29, [], [], []),
  (29, .iaload, 30, [64, 4], [], []),
  (30, .putfield 42, 33, [11, 21, 0, 0, 0], [], []),
  (33, .aload_n 0, 34, [], [], []),
  (34, .aload_n 0, 35, [], [], []),
  (35, .getfield 77, 38, [11, 35, 2, 65, 0], [], []),
  (38, .iload_n 1, 39, [], [], []),
  (39, .iaload, 40, [65, 4], [], []),
  (40, .putfield 443, 43, [11, 22, 0, 0, 0], [], []),
  (43, .aload_n 0, 44, [], [], []),
  (44, .iconst 0, 45, [], [], []),
  (45, .putfield 274, 48, [11, 26, 0, 0, 0], [], []),
  (48, .iconst 0, 49, [], [], []),
  (49, .istore_n 2, 50, [], [], []),
  (50, .iload_n 2, 51, [], [], []),
  (51, .bipush 112, 53, [], [], []),
  (53, .if_icmp .ge 26, 56, [79], [], []),
  (56, .aload_n 0, 57, [], [], []),
  (57, .getfield 39, 60, [11, 20, 2, 55, 0], [], []),
  (60, .iload_n 2, 61, [], [], []),
  (61, .aload_n 0, 62, [], [], []),
  (62, .getfield 71, 65, [11, 33, 2, 63, 0], [], []),
  (65, .bipush 112, 67, [], [], []),
  (67, .iload_n 1, 68, [], [], []),
  (68, .imul, 69, [], [], []),
  (69, .iload_n 2, 70, [], [], []),
  (70, .iadd, 71, [], [], []),
  (71, .iaload, 72, [63, 448], [], []),
  (72, .iastore, 73, [55, 112, 0], [], []),
  (73, .iinc 2 1, 76, [], [], []),
  (76, .goto (-26), 79, [50], [], []),
  (79, .aload_n 0, 80, [], [], []),
  (80, .getfield 39, 83, [11, 20, 2, 55, 0], [], []),
  (83, .bipush 10, 85, [], [], []),
  (85, .iaload, 86, [55, 112], [], []),
  (86, .ireturn, 87, [0], [], [])]
/-- J_bitCount -/
def jc245 : jCode := [
  (0, .iload_n 0, 1, [], [], []),
  (1, .iload_n 0, 2, [], [], []),
  (2, .iconst 1, 3, [], [], []),
  (3, .iushr, 4, [], [], []),
  (4, .ldc_w 265, 7, [0, 1431655765, 0], [], []),
  (7, .iand, 8, [], [], []),
  (8, .isub, 9, [], [], []),
  (9, .istore_n 0, 10, [], [], []),
  (10, .iload_n 0, 11, [], [], []),
  (11, .ldc_w 266, 14, [0, 858993459, 0], [], []),
  (14, .iand, 15, [], [], []),
  (15, .iload_n 0, 16, [], [], []),
  (16, .iconst 2, 17, [], [], []),
  (17, .iushr, 18, [], [], []),
  (18, .ldc_w 266, 21, [0, 858993459, 0], [], []),
  (21, .iand, 22, [], [], []),
  (22, .iadd, 23, [], [], []),
  (23, .istore_n 0, 24, [], [], []),
  (24, .iload_n 0, 25, [], [], []),
  (25, .iload_n 0, 26, [], [], []),
  (26, .iconst 4, 27, [], [], []),
  (27, .iushr, 28, [], [], []),
  (28, .iadd, 29, [], [], []),
  (29, .ldc_w 267, 32, [0, 252645135, 0], [], []),
  (32, .iand, 33, [], [], []),
  (33, .istore_n 0, 34, [], [], []),
  (34, .iload_n 0, 35, [], [], []),
  (35, .iload_n 0, 36, [], [], []),
  (36, .bipush 8, 38, [], [], []),
  (38, .iushr, 39, [], [], []),
  (39, .iadd, 40, [], [], []),
  (40, .istore_n 0, 41, [], [], []),
  (41, .iload_n 0, 42, [], [], []),
  (42, .iload_n 0, 43, [], [], []),
  (43, .bipush 16, 45, [], [], []),
  (45, .iushr, 46, [], [], []),
  (46, .iadd, 47, [], [], []),
  (47, .istore_n 0, 48, [], [], []),
  (48, .iload_n 0, 49, [], [], []),
  (49, .bipush 63, 51, [], [], []),
  (51, .iand, 52, [], [], []),
  (52, .ireturn, 53, [0], [], [])]
/-- J_max -/
def jc246 : jCode := [
  (0, .iload_n 0, 1, [], [], []),
  (1, .iload_n 1, 2, [], [], []),
  (2, .if_icmp .lt 7, 5, [9], [], []),
  (5, .iload_n 0, 6, [], [], []),
  (6, .goto 4, 9, [10], [], [0, 1]),
  (9, .iload_n 1, 10, [], [0, 1], []),
  (10, .ireturn, 11, [0], [], [])]
/-- J_min -/
def jc247 : jCode := [
  (0, .iload_n 0, 1, [], [], []),
  (1, .iload_n 1, 2, [], [], []),
  (2, .if_icmp .gt 7, 5, [9], [], []),
  (5, .iload_n 0, 6, [], [], []),
  (6, .goto 4, 9, [10], [], [0, 1]),
  (9, .iload_n 1, 10, [], [0, 1], []),
  (10, .ireturn, 11, [0], [], [])]
end
section
/-! Methods by number, and what a call means at a depth -/
def jprog : List (jCode × Nat) := [(jc0, 2), (jc1, 2), (jc2, 4), (jc3, 6), (jc4, 5), (jc5, 15), (jc6, 3), (jc7, 8), (jc8, 6), (jc9, 10), (jc10, 4), (jc11, 5), (jc12, 7), (jc13, 11), (jc14, 1), (jc15, 6), (jc16, 7), (jc17, 1), (jc18, 8), (jc19, 8), (jc20, 7), (jc21, 4), (jc22, 5), (jc23, 8), (jc24, 9), (jc25, 4), (jc26, 4), (jc27, 2), (jc28, 3), (jc29, 3), (jc30, 1), (jc31, 2), (jc32, 1), (jc33, 2), (jc34, 5), (jc35, 2), (jc36, 3), (jc37, 4), (jc38, 3), (jc39, 5), (jc40, 5), (jc41, 5), (jc42, 4), (jc43, 1), (jc44, 6), (jc45, 2), (jc46, 4), (jc47, 3), (jc48, 2), (jc49, 2), (jc50, 3), (jc51, 7), (jc52, 1), (jc53, 7), (jc54, 2), (jc55, 10), (jc56, 3), (jc57, 4), (jc58, 4), (jc59, 5), (jc60, 4), (jc61, 3), (jc62, 1), (jc63, 3), (jc64, 1), (jc65, 1), (jc66, 1), (jc67, 1), (jc68, 2), (jc69, 7), (jc70, 1), (jc71, 2), (jc72, 6), (jc73, 2), (jc74, 3), (jc75, 5), (jc76, 4), (jc77, 5), (jc78, 6), (jc79, 2), (jc80, 2), (jc81, 2), (jc82, 3), (jc83, 3), (jc84, 3), (jc85, 2), (jc86, 2), (jc87, 1), (jc88, 4), (jc89, 6), (jc90, 4), (jc91, 4), (jc92, 1), (jc93, 3), (jc94, 3), (jc95, 2), (jc96, 1), (jc97, 4), (jc98, 6), (jc99, 3), (jc100, 1), (jc101, 2), (jc102, 4), (jc103, 2), (jc104, 5), (jc105, 2), (jc106, 3), (jc107, 4), (jc108, 3), (jc109, 4), (jc110, 3), (jc111, 5), (jc112, 2), (jc113, 2), (jc114, 2), (jc115, 3), (jc116, 1), (jc117, 2), (jc118, 2), (jc119, 2), (jc120, 2), (jc121, 2), (jc122, 2), (jc123, 2), (jc124, 1), (jc125, 6), (jc126, 2), (jc127, 3), (jc128, 3), (jc129, 6), (jc130, 2), (jc131, 3), (jc132, 1), (jc133, 2), (jc134, 2), (jc135, 6), (jc136, 1), (jc137, 3), (jc138, 5), (jc139, 1), (jc140, 3), (jc141, 2), (jc142, 2), (jc143, 1), (jc144, 2), (jc145, 3), (jc146, 2), (jc147, 2), (jc148, 5), (jc149, 3), (jc150, 2), (jc151, 1), (jc152, 3), (jc153, 2), (jc154, 4), (jc155, 2), (jc156, 2), (jc157, 2), (jc158, 3), (jc159, 3), (jc160, 2), (jc161, 1), (jc162, 3), (jc163, 2), (jc164, 1), (jc165, 2), (jc166, 2), (jc167, 3), (jc168, 1), (jc169, 5), (jc170, 11), (jc171, 1), (jc172, 1), (jc173, 2), (jc174, 2), (jc175, 2), (jc176, 2), (jc177, 2), (jc178, 2), (jc179, 2), (jc180, 2), (jc181, 3), (jc182, 2), (jc183, 5), (jc184, 2), (jc185, 2), (jc186, 3), (jc187, 3), (jc188, 3), (jc189, 2), (jc190, 2), (jc191, 4), (jc192, 7), (jc193, 9), (jc194, 4), (jc195, 3), (jc196, 3), (jc197, 3), (jc198, 3), (jc199, 2), (jc200, 2), (jc201, 1), (jc202, 3), (jc203, 5), (jc204, 4), (jc205, 4), (jc206, 2), (jc207, 2), (jc208, 4), (jc209, 5), (jc210, 3), (jc211, 1), (jc212, 3), (jc213, 3), (jc214, 8), (jc215, 7), (jc216, 6), (jc217, 2), (jc218, 3), (jc219, 7), (jc220, 3), (jc221, 5), (jc222, 5), (jc223, 4), (jc224, 2), (jc225, 8), (jc226, 4), (jc227, 4), (jc228, 4), (jc229, 9), (jc230, 5), (jc231, 2), (jc232, 3), (jc233, 6), (jc234, 5), (jc235, 4), (jc236, 5), (jc237, 6), (jc238, 7), (jc239, 3), (jc240, 2), (jc241, 9), (jc242, 2), (jc243, 3), (jc244, 3), (jc245, 1), (jc246, 2), (jc247, 2)]
def jfind : List (jCode × Nat) → Nat → Option (jCode × Nat)
  | [], _ => none
  | q :: _, 0 => some q
  | _ :: l, n + 1 => jfind l n
def jexp : List jV → List jV
  | [] => []
  | .inr (.inl x) :: l => vJ x :: vU :: jexp l
  | v :: l => v :: jexp l
def jpadto : Nat → List jV → List jV
  | 0, _ => []
  | n + 1, [] => vU :: jpadto n []
  | n + 1, v :: l => v :: jpadto n l
def jlocs (n : Nat) (as : List jV) : List jV := jpadto n (jexp as)
def jtexts : List (List Int) := [[114, 105, 118, 101, 114, 32, 109, 111, 111, 110, 32, 112, 101, 114, 115, 111, 110, 32, 109, 101, 109, 111, 114, 121, 32, 116, 114, 97, 112], [103, 111], [109, 101, 109, 111, 114, 121, 32, 112, 111, 111, 108, 32, 102, 114, 111, 109, 32, 115, 105, 122, 101, 32, 115, 109, 101, 108, 108, 32, 98, 97, 105, 116, 32, 116, 114, 97, 112, 115, 32, 119, 105, 116, 104, 32, 108, 105, 103, 104, 116, 32, 110, 101, 120, 116, 32, 119, 104, 111, 115, 101, 32, 110, 105, 103, 104, 116], [105, 102], [110, 111, 116], [97, 110, 100], [111, 114]]
def jtext : List (List Int) → Int → List Int
  | [], _ => []
  | t :: l, i => if i = 0 then t else jtext l (i - 1)
def jchar : List Int → Int → Option Int
  | [], _ => none
  | c :: l, i => if i = 0 then some c else jchar l (i - 1)
/-- String.length, String.charAt of the program's own texts -/
def jprim (y : Nat) (as : List jV) (mem : jMem) : jR := match as with
  | [.inr (.inr (.inl (f, some i)))] => bif Nat.beq y 248 && Nat.beq f 100 then some (vI ((jtext jtexts i).length : Int), mem) else none
  | [.inr (.inr (.inl (f, some i))), .inl x] => bif Nat.beq y 249 && Nat.beq f 100 then (match jchar (jtext jtexts i) x with
    | some c => some (vI c, mem)
    | none => none) else none
  | _ => none
noncomputable def jSem : Nat → jCall
  | 0 => fun _ _ _ => none
  | d + 1 => fun y as mem => match jfind jprog y with
    | some q => jAtC q.1 (jSem d) 0 (jlocs q.2 as) [] mem
    | none => jprim y as mem
end
section
/-! Methods by name: the meaning of each, and of its cuts -/
noncomputable def Ac_keep (d : Nat) (r1 : Int) (mem : jMem) : jR := jSem d 0 [vR 0 (some 0), vR 9 (some r1)] mem
noncomputable def Ac_takeBack (d : Nat) (r1 : Int) (mem : jMem) : jR := jSem d 1 [vR 0 (some 0), vR 9 (some r1)] mem
noncomputable def As_after (d : Nat) (r1 : Int) (o2 : Option Int) (x3 : Int) (mem : jMem) : jR := jSem d 2 [vR 1 (some 0), vR 6 (some r1), vR 5 o2, vI x3] mem
noncomputable def As_firstCatch (d : Nat) (r1 : Int) (o2 : Option Int) (x3 : Int) (x4 : Int) (mem : jMem) : jR := jSem d 3 [vR 1 (some 0), vR 6 (some r1), vR 5 o2, vI x3, vI x4] mem
noncomputable def As_firstCatch_14 (d : Nat) (r1 : Int) (o2 : Option Int) (x3 : Int) (x4 : Int) (x5 : Int) (mem : jMem) : jR := jAtC jc3 (jSem d) 14 [vR 1 (some 0), vR 6 (some r1), vR 5 o2, vI x3, vI x4, vI x5] [] mem
noncomputable def As_firstCatch_73 (d : Nat) (x3 : Int) (x4 : Int) (mem : jMem) : jR := jAtC jc3 (jSem d) 73 [vR 1 (some 0), vU, vU, vI x3, vI x4, vU] [] mem
noncomputable def As_firstFull (d : Nat) (r1 : Int) (o2 : Option Int) (mem : jMem) : jR := jSem d 4 [vR 1 (some 0), vR 6 (some r1), vR 5 o2] mem
noncomputable def As_firstFull_13 (d : Nat) (r1 : Int) (o2 : Option Int) (x3 : Int) (mem : jMem) : jR := jAtC jc4 (jSem d) 13 [vR 1 (some 0), vR 6 (some r1), vR 5 o2, vI x3, vU] [] mem
noncomputable def As_bestPlace (d : Nat) (r1 : Int) (o2 : Option Int) (x3 : Int) (x4 : Int) (x5 : Int) (mem : jMem) : jR := jSem d 5 [vR 1 (some 0), vR 6 (some r1), vR 5 o2, vI x3, vI x4, vI x5] mem
noncomputable def As_bestPlace_35 (d : Nat) (r1 : Int) (o2 : Option Int) (x3 : Int) (x4 : Int) (x5 : Int) (x6 : Int) (x7 : Int) (x8 : Int) (x9 : Int) (x10 : Int) (mem : jMem) : jR := jAtC jc5 (jSem d) 35 [vR 1 (some 0), vR 6 (some r1), vR 5 o2, vI x3, vI x4, vI x5, vI x6, vI x7, vI x8, vI x9, vI x10, vU, vU, vU, vU] [] mem
noncomputable def As_bestPlace_53 (d : Nat) (r1 : Int) (o2 : Option Int) (x3 : Int) (x4 : Int) (x5 : Int) (x6 : Int) (x7 : Int) (x8 : Int) (x9 : Int) (x10 : Int) (x11 : Int) (x12 : Int) (mem : jMem) : jR := jAtC jc5 (jSem d) 53 [vR 1 (some 0), vR 6 (some r1), vR 5 o2, vI x3, vI x4, vI x5, vI x6, vI x7, vI x8, vI x9, vI x10, vI x11, vI x12, vU, vU] [] mem
noncomputable def As_bestPlace_75 (d : Nat) (r1 : Int) (o2 : Option Int) (x3 : Int) (x4 : Int) (x5 : Int) (x6 : Int) (x7 : Int) (x8 : Int) (x9 : Int) (x10 : Int) (x11 : Int) (x12 : Int) (s0 : Int) (mem : jMem) : jR := jAtC jc5 (jSem d) 75 [vR 1 (some 0), vR 6 (some r1), vR 5 o2, vI x3, vI x4, vI x5, vI x6, vI x7, vI x8, vI x9, vI x10, vI x11, vI x12, vU, vU] [vI s0] mem
noncomputable def As_bestPlace_90 (d : Nat) (r1 : Int) (o2 : Option Int) (x3 : Int) (x4 : Int) (x5 : Int) (x6 : Int) (x7 : Int) (x8 : Int) (x9 : Int) (x10 : Int) (x11 : Int) (x12 : Int) (x13 : Int) (mem : jMem) : jR := jAtC jc5 (jSem d) 90 [vR 1 (some 0), vR 6 (some r1), vR 5 o2, vI x3, vI x4, vI x5, vI x6, vI x7, vI x8, vI x9, vI x10, vI x11, vI x12, vI x13, vU] [] mem
noncomputable def As_smellsOfFree (d : Nat) (r0 : Int) (mem : jMem) : jR := jSem d 6 [vR 6 (some r0)] mem
noncomputable def As_smellsOfFree_4 (d : Nat) (r0 : Int) (x1 : Int) (x2 : Int) (mem : jMem) : jR := jAtC jc6 (jSem d) 4 [vR 6 (some r0), vI x1, vI x2] [] mem
noncomputable def As_poolsBefore (d : Nat) (r1 : Int) (o2 : Option Int) (x3 : Int) (x4 : Int) (x5 : Int) (mem : jMem) : jR := jSem d 7 [vR 1 (some 0), vR 6 (some r1), vR 5 o2, vI x3, vI x4, vI x5] mem
noncomputable def As_poolsBefore_6 (d : Nat) (r1 : Int) (o2 : Option Int) (x3 : Int) (x4 : Int) (x5 : Int) (x6 : Int) (x7 : Int) (mem : jMem) : jR := jAtC jc7 (jSem d) 6 [vR 1 (some 0), vR 6 (some r1), vR 5 o2, vI x3, vI x4, vI x5, vI x6, vI x7] [] mem
noncomputable def As_leastThroat (d : Nat) (r1 : Int) (o2 : Option Int) (x3 : Int) (x4 : Int) (mem : jMem) : jR := jSem d 8 [vR 1 (some 0), vR 6 (some r1), vR 5 o2, vI x3, vI x4] mem
noncomputable def As_leastThroat_3 (d : Nat) (r1 : Int) (o2 : Option Int) (x3 : Int) (x4 : Int) (x5 : Int) (mem : jMem) : jR := jAtC jc8 (jSem d) 3 [vR 1 (some 0), vR 6 (some r1), vR 5 o2, vI x3, vI x4, vI x5] [] mem
noncomputable def As_steadyBaits (d : Nat) (r1 : Int) (o2 : Option Int) (x3 : Int) (x4 : Int) (x5 : Int) (x6 : Int) (mem : jMem) : jR := jSem d 9 [vR 1 (some 0), vR 6 (some r1), vR 5 o2, vI x3, vI x4, vI x5, vI x6] mem
noncomputable def As_steadyBaits_3 (d : Nat) (r1 : Int) (o2 : Option Int) (x3 : Int) (x4 : Int) (x5 : Int) (x6 : Int) (x7 : Int) (mem : jMem) : jR := jAtC jc9 (jSem d) 3 [vR 1 (some 0), vR 6 (some r1), vR 5 o2, vI x3, vI x4, vI x5, vI x6, vI x7, vU, vU] [] mem
noncomputable def As_steadyBaits_117 (d : Nat) (x6 : Int) (x7 : Int) (x8 : Int) (x9 : Int) (mem : jMem) : jR := jAtC jc9 (jSem d) 117 [vR 1 (some 0), vU, vU, vU, vU, vU, vI x6, vI x7, vI x8, vI x9] [] mem
noncomputable def As_sizeIn (d : Nat) (r1 : Int) (x2 : Int) (mem : jMem) : jR := jSem d 10 [vR 1 (some 0), vR 4 (some r1), vI x2] mem
noncomputable def As_isSteady (d : Nat) (x1 : Int) (mem : jMem) : jR := jSem d 11 [vR 1 (some 0), vI x1] mem
noncomputable def As_isSteady_13 (d : Nat) (x1 : Int) (x2 : Int) (x3 : Int) (x4 : Int) (mem : jMem) : jR := jAtC jc11 (jSem d) 13 [vR 1 (some 0), vI x1, vI x2, vI x3, vI x4] [] mem
noncomputable def As_firstRound (d : Nat) (r1 : Int) (o2 : Option Int) (x3 : Int) (mem : jMem) : jR := jSem d 12 [vR 1 (some 0), vR 6 (some r1), vR 5 o2, vI x3] mem
noncomputable def As_firstRound_14 (d : Nat) (r1 : Int) (o2 : Option Int) (x3 : Int) (x4 : Int) (mem : jMem) : jR := jAtC jc12 (jSem d) 14 [vR 1 (some 0), vR 6 (some r1), vR 5 o2, vI x3, vI x4, vU, vU] [] mem
noncomputable def As_firstRound_81 (d : Nat) (r1 : Int) (x3 : Int) (x4 : Int) (x5 : Int) (mem : jMem) : jR := jAtC jc12 (jSem d) 81 [vR 1 (some 0), vR 6 (some r1), vU, vI x3, vI x4, vI x5, vU] [] mem
noncomputable def As_firstRound_95 (d : Nat) (r1 : Int) (x3 : Int) (x4 : Int) (x5 : Int) (x6 : Int) (mem : jMem) : jR := jAtC jc12 (jSem d) 95 [vR 1 (some 0), vR 6 (some r1), vU, vI x3, vI x4, vI x5, vI x6] [] mem
noncomputable def As_drawnNights (d : Nat) (r1 : Int) (o2 : Option Int) (x3 : Int) (x4 : Int) (x5 : Int) (x6 : Int) (mem : jMem) : jR := jSem d 13 [vR 1 (some 0), vR 6 (some r1), vR 5 o2, vI x3, vI x4, vI x5, vI x6] mem
noncomputable def As_drawnNights_15 (d : Nat) (r1 : Int) (o2 : Option Int) (x3 : Int) (x4 : Int) (x5 : Int) (x6 : Int) (x7 : Int) (x8 : Int) (mem : jMem) : jR := jAtC jc13 (jSem d) 15 [vR 1 (some 0), vR 6 (some r1), vR 5 o2, vI x3, vI x4, vI x5, vI x6, vI x7, vI x8, vU, vU] [] mem
noncomputable def As_drawnNights_35 (d : Nat) (r1 : Int) (o2 : Option Int) (x3 : Int) (x4 : Int) (x5 : Int) (x6 : Int) (x7 : Int) (x8 : Int) (x9 : Int) (mem : jMem) : jR := jAtC jc13 (jSem d) 35 [vR 1 (some 0), vR 6 (some r1), vR 5 o2, vI x3, vI x4, vI x5, vI x6, vI x7, vI x8, vI x9, vU] [] mem
noncomputable def As_drawnNights_79 (d : Nat) (r1 : Int) (o2 : Option Int) (x3 : Int) (x4 : Int) (x5 : Int) (x6 : Int) (x7 : Int) (x8 : Int) (x9 : Int) (x10 : Int) (mem : jMem) : jR := jAtC jc13 (jSem d) 79 [vR 1 (some 0), vR 6 (some r1), vR 5 o2, vI x3, vI x4, vI x5, vI x6, vI x7, vI x8, vI x9, vI x10] [] mem
noncomputable def As_draw (d : Nat) (mem : jMem) : jR := jSem d 14 [vR 1 (some 0)] mem
noncomputable def Gu_owners (d : Nat) (r1 : Int) (o2 : Option Int) (x3 : Int) (mem : jMem) : jR := jSem d 15 [vR 2 (some 0), vR 6 (some r1), vR 5 o2, vI x3] mem
noncomputable def Gu_owners_6 (d : Nat) (r1 : Int) (o2 : Option Int) (x3 : Int) (x4 : Int) (x5 : Int) (mem : jMem) : jR := jAtC jc15 (jSem d) 6 [vR 2 (some 0), vR 6 (some r1), vR 5 o2, vI x3, vI x4, vI x5] [] mem
noncomputable def Gu_sieve (d : Nat) (r1 : Int) (x3 : Int) (x4 : Int) (mem : jMem) : jR := jSem d 16 [vR 2 (some 0), vR 6 (some r1), vR 44 (some 0), vI x3, vI x4] mem
noncomputable def Gu_sieve_6 (d : Nat) (r1 : Int) (x3 : Int) (x4 : Int) (x5 : Int) (x6 : Int) (mem : jMem) : jR := jAtC jc16 (jSem d) 6 [vR 2 (some 0), vR 6 (some r1), vR 44 (some 0), vI x3, vI x4, vI x5, vI x6] [] mem
noncomputable def Gu_sieve_46 (d : Nat) (r1 : Int) (x3 : Int) (x4 : Int) (x5 : Int) (x6 : Int) (r_1 : Int) (q2 : Option Int) (mem : jMem) : jR := jAtC jc16 (jSem d) 46 [vR 2 (some 0), vR 6 (some r1), vR 44 (some 0), vI x3, vI x4, vI x5, vI x6] [vR 5 q2, vR 6 (some r_1), vR 2 (some 0)] mem
noncomputable def Gu_firstFitting (d : Nat) (mem : jMem) : jR := jSem d 17 [vR 2 (some 0)] mem
noncomputable def Gu_fits (d : Nat) (r1 : Int) (o2 : Option Int) (x3 : Int) (x4 : Int) (mem : jMem) : jR := jSem d 18 [vR 2 (some 0), vR 6 (some r1), vR 5 o2, vI x3, vI x4] mem
noncomputable def Gu_fits_16 (d : Nat) (r1 : Int) (o2 : Option Int) (x3 : Int) (x4 : Int) (x5 : Int) (x6 : Int) (mem : jMem) : jR := jAtC jc18 (jSem d) 16 [vR 2 (some 0), vR 6 (some r1), vR 5 o2, vI x3, vI x4, vI x5, vI x6, vU] [] mem
noncomputable def Gu_fits_48 (d : Nat) (r1 : Int) (o2 : Option Int) (x3 : Int) (x4 : Int) (x5 : Int) (x6 : Int) (x7 : Int) (mem : jMem) : jR := jAtC jc18 (jSem d) 48 [vR 2 (some 0), vR 6 (some r1), vR 5 o2, vI x3, vI x4, vI x5, vI x6, vI x7] [] mem
noncomputable def Gu_fits_87 (d : Nat) (r1 : Int) (o2 : Option Int) (x3 : Int) (x4 : Int) (x5 : Int) (x6 : Int) (mem : jMem) : jR := jAtC jc18 (jSem d) 87 [vR 2 (some 0), vR 6 (some r1), vR 5 o2, vI x3, vI x4, vI x5, vI x6, vU] [] mem
noncomputable def Gu_bestParting (d : Nat) (x1 : Int) (x2 : Int) (x3 : Int) (mem : jMem) : jR := jSem d 19 [vR 2 (some 0), vI x1, vI x2, vI x3] mem
noncomputable def Gu_bestParting_11 (d : Nat) (x1 : Int) (x2 : Int) (x3 : Int) (x4 : Int) (x5 : Int) (x6 : Int) (mem : jMem) : jR := jAtC jc19 (jSem d) 11 [vR 2 (some 0), vI x1, vI x2, vI x3, vI x4, vI x5, vI x6, vU] [] mem
noncomputable def Gu_mostAlike (d : Nat) (x1 : Int) (x2 : Int) (mem : jMem) : jR := jSem d 20 [vR 2 (some 0), vI x1, vI x2] mem
noncomputable def Gu_mostAlike_5 (d : Nat) (x1 : Int) (x2 : Int) (x3 : Int) (x4 : Int) (mem : jMem) : jR := jAtC jc20 (jSem d) 5 [vR 2 (some 0), vI x1, vI x2, vI x3, vI x4, vU, vU] [] mem
noncomputable def Gu_mostAlike_17 (d : Nat) (x1 : Int) (x2 : Int) (x3 : Int) (x4 : Int) (x5 : Int) (x6 : Int) (mem : jMem) : jR := jAtC jc20 (jSem d) 17 [vR 2 (some 0), vI x1, vI x2, vI x3, vI x4, vI x5, vI x6] [] mem
noncomputable def Ha_strayed (d : Nat) (r0 : Int) (mem : jMem) : jR := jSem d 21 [vR 6 (some r0)] mem
noncomputable def Ha_strayed_4 (d : Nat) (r0 : Int) (x1 : Int) (x2 : Int) (mem : jMem) : jR := jAtC jc21 (jSem d) 4 [vR 6 (some r0), vI x1, vI x2, vU] [] mem
noncomputable def Ha_ringed (d : Nat) (r0 : Int) (x1 : Int) (mem : jMem) : jR := jSem d 22 [vR 6 (some r0), vI x1] mem
noncomputable def Ha_ringed_7 (d : Nat) (r0 : Int) (x1 : Int) (x2 : Int) (x3 : Int) (x4 : Int) (mem : jMem) : jR := jAtC jc22 (jSem d) 7 [vR 6 (some r0), vI x1, vI x2, vI x3, vI x4] [] mem
noncomputable def Ha_isRing (d : Nat) (r0 : Int) (x1 : Int) (mem : jMem) : jR := jSem d 23 [vR 6 (some r0), vI x1] mem
noncomputable def Ha_isRing_13 (d : Nat) (r0 : Int) (x1 : Int) (x2 : Int) (x3 : Int) (x4 : Int) (x5 : Int) (mem : jMem) : jR := jAtC jc23 (jSem d) 13 [vR 6 (some r0), vI x1, vI x2, vI x3, vI x4, vI x5, vU, vU] [] mem
noncomputable def Ha_share (d : Nat) (r0 : Int) (x1 : Int) (x2 : Int) (mem : jMem) : jR := jSem d 24 [vR 6 (some r0), vI x1, vI x2] mem
noncomputable def Ha_share_8 (d : Nat) (r0 : Int) (x1 : Int) (x2 : Int) (x3 : Int) (x4 : Int) (x5 : Int) (mem : jMem) : jR := jAtC jc24 (jSem d) 8 [vR 6 (some r0), vI x1, vI x2, vI x3, vI x4, vI x5, vU, vU, vU] [] mem
noncomputable def Ha_share_58 (d : Nat) (r0 : Int) (x1 : Int) (x2 : Int) (x3 : Int) (x4 : Int) (x5 : Int) (x6 : Int) (x7 : Int) (mem : jMem) : jR := jAtC jc24 (jSem d) 58 [vR 6 (some r0), vI x1, vI x2, vI x3, vI x4, vI x5, vI x6, vI x7, vU] [] mem
noncomputable def Ha_sizesOf (d : Nat) (r0 : Int) (x1 : Int) (mem : jMem) : jR := jSem d 25 [vR 6 (some r0), vI x1] mem
noncomputable def Ha_sizesOf_4 (d : Nat) (r0 : Int) (x1 : Int) (x2 : Int) (x3 : Int) (mem : jMem) : jR := jAtC jc25 (jSem d) 4 [vR 6 (some r0), vI x1, vI x2, vI x3] [] mem
noncomputable def No_add (d : Nat) (r0 : Int) (x1 : Int) (x2 : Int) (x3 : Int) (mem : jMem) : jR := jSem d 26 [vR 3 (some r0), vI x1, vI x2, vI x3] mem
noncomputable def No_copy (d : Nat) (r0 : Int) (r1 : Int) (mem : jMem) : jR := jSem d 27 [vR 3 (some r0), vR 3 (some r1)] mem
noncomputable def No_lastNight (d : Nat) (r0 : Int) (mem : jMem) : jR := jSem d 28 [vR 3 (some r0)] mem
noncomputable def No_lastNight_4 (d : Nat) (r0 : Int) (x1 : Int) (x2 : Int) (mem : jMem) : jR := jAtC jc28 (jSem d) 4 [vR 3 (some r0), vI x1, vI x2] [] mem
noncomputable def No_hold (d : Nat) (r0 : Int) (r1 : Int) (mem : jMem) : jR := jSem d 29 [vR 3 (some r0), vR 9 (some r1)] mem
noncomputable def No_hold_2 (d : Nat) (r0 : Int) (r1 : Int) (x2 : Int) (mem : jMem) : jR := jAtC jc29 (jSem d) 2 [vR 3 (some r0), vR 9 (some r1), vI x2] [] mem
noncomputable def No_poolOrNone (d : Nat) (x0 : Int) (mem : jMem) : jR := jSem d 30 [vI x0] mem
noncomputable def Ri_copy (d : Nat) (r0 : Int) (r1 : Int) (mem : jMem) : jR := jSem d 31 [vR 4 (some r0), vR 4 (some r1)] mem
noncomputable def Ri_round (d : Nat) (r0 : Int) (mem : jMem) : jR := jSem d 32 [vR 4 (some r0)] mem
noncomputable def Ri_lightOf (d : Nat) (r0 : Int) (x1 : Int) (mem : jMem) : jR := jSem d 33 [vR 4 (some r0), vI x1] mem
noncomputable def Ri_read (d : Nat) (r0 : Int) (mem : jMem) : jR := jSem d 34 [vR 4 (some r0), vR 8 (some 0)] mem
noncomputable def Ri_read_31 (d : Nat) (r0 : Int) (x2 : Int) (mem : jMem) : jR := jAtC jc34 (jSem d) 31 [vR 4 (some r0), vR 8 (some 0), vI x2, vU, vU] [] mem
noncomputable def Ri_read_72 (d : Nat) (r0 : Int) (x2 : Int) (x3 : Int) (s0 : Int) (mem : jMem) : jR := jAtC jc34 (jSem d) 72 [vR 4 (some r0), vR 8 (some 0), vI x2, vI x3, vU] [vI s0] mem
noncomputable def Ri_read_91 (d : Nat) (r0 : Int) (x2 : Int) (x3 : Int) (s0 : Int) (s1 : Int) (mem : jMem) : jR := jAtC jc34 (jSem d) 91 [vR 4 (some r0), vR 8 (some 0), vI x2, vI x3, vU] [vI s1, vI s0] mem
noncomputable def Ri_hasNoRoom (d : Nat) (r0 : Int) (x1 : Int) (mem : jMem) : jR := jSem d 35 [vR 4 (some r0), vI x1] mem
noncomputable def Ri_readClause (d : Nat) (r0 : Int) (x2 : Int) (mem : jMem) : jR := jSem d 36 [vR 4 (some r0), vR 8 (some 0), vI x2] mem
noncomputable def Ru_read (d : Nat) (r0 : Int) (mem : jMem) : jR := jSem d 37 [vR 5 (some r0), vR 8 (some 0)] mem
noncomputable def Ru_read_21 (d : Nat) (r0 : Int) (x2 : Int) (mem : jMem) : jR := jAtC jc37 (jSem d) 21 [vR 5 (some r0), vR 8 (some 0), vI x2, vU] [] mem
noncomputable def Ru_read_115 (d : Nat) (r0 : Int) (x2 : Int) (q0 : Option Int) (s1 : Int) (mem : jMem) : jR := jAtC jc37 (jSem d) 115 [vR 5 (some r0), vR 8 (some 0), vI x2, vU] [vI s1, vR 5 q0] mem
noncomputable def Ru_emit (d : Nat) (r0 : Int) (x1 : Int) (x2 : Int) (mem : jMem) : jR := jSem d 38 [vR 5 (some r0), vI x1, vI x2] mem
noncomputable def Ru_readTest (d : Nat) (r0 : Int) (x2 : Int) (mem : jMem) : jR := jSem d 39 [vR 5 (some r0), vR 8 (some 0), vI x2] mem
noncomputable def Ru_readTest_10 (d : Nat) (r0 : Int) (x2 : Int) (x3 : Int) (x4 : Int) (mem : jMem) : jR := jAtC jc39 (jSem d) 10 [vR 5 (some r0), vR 8 (some 0), vI x2, vI x3, vI x4] [] mem
noncomputable def Ru_readPart (d : Nat) (r0 : Int) (x2 : Int) (mem : jMem) : jR := jSem d 40 [vR 5 (some r0), vR 8 (some 0), vI x2] mem
noncomputable def Ru_readPart_10 (d : Nat) (r0 : Int) (x2 : Int) (x3 : Int) (x4 : Int) (mem : jMem) : jR := jAtC jc40 (jSem d) 10 [vR 5 (some r0), vR 8 (some 0), vI x2, vI x3, vI x4] [] mem
noncomputable def Ru_readFact (d : Nat) (r0 : Int) (x2 : Int) (mem : jMem) : jR := jSem d 41 [vR 5 (some r0), vR 8 (some 0), vI x2] mem
noncomputable def Ru_readFact_19 (d : Nat) (r0 : Int) (x2 : Int) (s0 : Int) (mem : jMem) : jR := jAtC jc41 (jSem d) 19 [vR 5 (some r0), vR 8 (some 0), vI x2, vU, vU] [vI s0] mem
noncomputable def Ru_readFact_39 (d : Nat) (r0 : Int) (x2 : Int) (x3 : Int) (mem : jMem) : jR := jAtC jc41 (jSem d) 39 [vR 5 (some r0), vR 8 (some 0), vI x2, vI x3, vU] [] mem
noncomputable def Ru_readComparison (d : Nat) (r0 : Int) (mem : jMem) : jR := jSem d 42 [vR 5 (some r0), vR 8 (some 0)] mem
noncomputable def Ru_readSign (d : Nat) (mem : jMem) : jR := jSem d 43 [vR 8 (some 0)] mem
noncomputable def Ru_readSum (d : Nat) (r0 : Int) (mem : jMem) : jR := jSem d 44 [vR 5 (some r0), vR 8 (some 0)] mem
noncomputable def Ru_readSum_11 (d : Nat) (r0 : Int) (x2 : Int) (x3 : Int) (x4 : Int) (mem : jMem) : jR := jAtC jc44 (jSem d) 11 [vR 5 (some r0), vR 8 (some 0), vI x2, vI x3, vI x4, vU] [] mem
noncomputable def Ru_readSum_53 (d : Nat) (r0 : Int) (x2 : Int) (x4 : Int) (x5 : Int) (mem : jMem) : jR := jAtC jc44 (jSem d) 53 [vR 5 (some r0), vR 8 (some 0), vI x2, vU, vI x4, vI x5] [] mem
noncomputable def Ru_readSum_90 (d : Nat) (r0 : Int) (x2 : Int) (x4 : Int) (x5 : Int) (mem : jMem) : jR := jAtC jc44 (jSem d) 90 [vR 5 (some r0), vR 8 (some 0), vI x2, vU, vI x4, vI x5] [] mem
noncomputable def Ru_emitSign (d : Nat) (r0 : Int) (x1 : Int) (mem : jMem) : jR := jSem d 45 [vR 5 (some r0), vI x1] mem
noncomputable def Ru_readValue (d : Nat) (r0 : Int) (mem : jMem) : jR := jSem d 46 [vR 5 (some r0), vR 8 (some 0)] mem
noncomputable def Ru_readValue_105 (d : Nat) (r0 : Int) (x2 : Int) (x3 : Int) (q0 : Option Int) (s1 : Int) (mem : jMem) : jR := jAtC jc46 (jSem d) 105 [vR 5 (some r0), vR 8 (some 0), vI x2, vI x3] [vI s1, vR 5 q0] mem
noncomputable def Ru_hasUnit (d : Nat) (r0 : Int) (x2 : Int) (mem : jMem) : jR := jSem d 47 [vR 5 (some r0), vR 8 (some 0), vI x2] mem
noncomputable def Sc_copy (d : Nat) (r0 : Int) (r1 : Int) (mem : jMem) : jR := jSem d 48 [vR 6 (some r0), vR 6 (some r1)] mem
noncomputable def Sc_bitsAt (d : Nat) (r0 : Int) (x1 : Int) (mem : jMem) : jR := jSem d 49 [vR 6 (some r0), vI x1] mem
noncomputable def Sc_freeBits (d : Nat) (r0 : Int) (mem : jMem) : jR := jSem d 50 [vR 6 (some r0)] mem
noncomputable def Sc_freeBits_4 (d : Nat) (r0 : Int) (x1 : Int) (x2 : Int) (mem : jMem) : jR := jAtC jc50 (jSem d) 4 [vR 6 (some r0), vI x1, vI x2] [] mem
noncomputable def Sm_pass (d : Nat) (r0 : Int) (r1 : Int) (r2 : Int) (o3 : Option Int) (x4 : Int) (mem : jMem) : jR := jSem d 51 [vR 7 (some r0), vR 4 (some r1), vR 9 (some r2), vR 5 o3, vI x4] mem
noncomputable def Sm_pass_12 (d : Nat) (r0 : Int) (r1 : Int) (r2 : Int) (o3 : Option Int) (x4 : Int) (x5 : Int) (x6 : Int) (mem : jMem) : jR := jAtC jc51 (jSem d) 12 [vR 7 (some r0), vR 4 (some r1), vR 9 (some r2), vR 5 o3, vI x4, vI x5, vI x6] [] mem
noncomputable def Sm_isStill (d : Nat) (r0 : Int) (mem : jMem) : jR := jSem d 52 [vR 7 (some r0)] mem
noncomputable def Sm_step (d : Nat) (r0 : Int) (r1 : Int) (r2 : Int) (o3 : Option Int) (x4 : Int) (mem : jMem) : jR := jSem d 53 [vR 7 (some r0), vR 4 (some r1), vR 9 (some r2), vR 5 o3, vI x4] mem
noncomputable def Sm_step_60 (d : Nat) (r0 : Int) (x5 : Int) (mem : jMem) : jR := jAtC jc53 (jSem d) 60 [vR 7 (some r0), vU, vU, vU, vU, vI x5, vU] [] mem
noncomputable def Sm_step_123 (d : Nat) (r0 : Int) (x5 : Int) (mem : jMem) : jR := jAtC jc53 (jSem d) 123 [vR 7 (some r0), vU, vU, vU, vU, vI x5, vU] [] mem
noncomputable def Sm_step_155 (d : Nat) (r0 : Int) (x5 : Int) (s0 : Int) (mem : jMem) : jR := jAtC jc53 (jSem d) 155 [vR 7 (some r0), vU, vU, vU, vU, vI x5, vU] [vI s0] mem
noncomputable def Sm_step_185 (d : Nat) (r0 : Int) (x5 : Int) (x6 : Int) (r_0 : Int) (s1 : Int) (mem : jMem) : jR := jAtC jc53 (jSem d) 185 [vR 7 (some r0), vU, vU, vU, vU, vI x5, vI x6] [vI s1, vR 7 (some r_0)] mem
noncomputable def Sm_step_230 (d : Nat) (r0 : Int) (x5 : Int) (r_0 : Int) (s1 : Int) (mem : jMem) : jR := jAtC jc53 (jSem d) 230 [vR 7 (some r0), vU, vU, vU, vU, vI x5, vU] [vI s1, vR 7 (some r_0)] mem
noncomputable def Sm_countPools (d : Nat) (r0 : Int) (mem : jMem) : jR := jSem d 54 [vR 7 (some r0)] mem
noncomputable def Sm_countPools_2 (d : Nat) (r0 : Int) (x1 : Int) (mem : jMem) : jR := jAtC jc54 (jSem d) 2 [vR 7 (some r0), vI x1] [] mem
noncomputable def Sm_countPools_30 (d : Nat) (r0 : Int) (x1 : Int) (mem : jMem) : jR := jAtC jc54 (jSem d) 30 [vR 7 (some r0), vI x1] [] mem
noncomputable def Sm_countPools_82 (d : Nat) (r0 : Int) (x1 : Int) (mem : jMem) : jR := jAtC jc54 (jSem d) 82 [vR 7 (some r0), vI x1] [] mem
noncomputable def Sm_goalOf (d : Nat) (r0 : Int) (x1 : Int) (mem : jMem) : jR := jSem d 55 [vR 7 (some r0), vI x1] mem
noncomputable def Sm_goalOf_55 (d : Nat) (r0 : Int) (x2 : Int) (x3 : Int) (x4 : Int) (y5 : Int) (x7 : Int) (mem : jMem) : jR := jAtC jc55 (jSem d) 55 [vR 7 (some r0), vU, vI x2, vI x3, vI x4, vJ y5, vU, vI x7, vU, vU] [] mem
noncomputable def Sm_goesToSea (d : Nat) (r0 : Int) (x1 : Int) (mem : jMem) : jR := jSem d 56 [vR 7 (some r0), vI x1] mem
noncomputable def Sm_fillTraps (d : Nat) (r0 : Int) (mem : jMem) : jR := jSem d 57 [vR 7 (some r0)] mem
noncomputable def Sm_fillTraps_4 (d : Nat) (r0 : Int) (x1 : Int) (x2 : Int) (mem : jMem) : jR := jAtC jc57 (jSem d) 4 [vR 7 (some r0), vI x1, vI x2, vU] [] mem
noncomputable def Sm_fillTraps_17 (d : Nat) (r0 : Int) (x1 : Int) (x2 : Int) (x3 : Int) (mem : jMem) : jR := jAtC jc57 (jSem d) 17 [vR 7 (some r0), vI x1, vI x2, vI x3] [] mem
noncomputable def Sm_worthOfPool (d : Nat) (r0 : Int) (mem : jMem) : jR := jSem d 58 [vR 7 (some r0)] mem
noncomputable def Sm_worthOfPool_4 (d : Nat) (r0 : Int) (x1 : Int) (x2 : Int) (mem : jMem) : jR := jAtC jc58 (jSem d) 4 [vR 7 (some r0), vI x1, vI x2, vU] [] mem
noncomputable def Sm_worthOfPool_37 (d : Nat) (r0 : Int) (x1 : Int) (x2 : Int) (x3 : Int) (mem : jMem) : jR := jAtC jc58 (jSem d) 37 [vR 7 (some r0), vI x1, vI x2, vI x3] [] mem
noncomputable def Sm_join (d : Nat) (x0 : Int) (y1 : Int) (y3 : Int) (mem : jMem) : jR := jSem d 59 [vI x0, vJ y1, vJ y3] mem
noncomputable def Sm_wordValue (d : Nat) (r0 : Int) (x1 : Int) (mem : jMem) : jR := jSem d 60 [vR 7 (some r0), vI x1] mem
noncomputable def Sm_wordValue_113 (d : Nat) (r0 : Int) (x2 : Int) (x3 : Int) (mem : jMem) : jR := jAtC jc60 (jSem d) 113 [vR 7 (some r0), vU, vI x2, vI x3] [] mem
noncomputable def Ta_put (d : Nat) (x1 : Int) (mem : jMem) : jR := jSem d 61 [vR 8 (some 0), vI x1] mem
noncomputable def Ta_put_3 (d : Nat) (x1 : Int) (x2 : Int) (mem : jMem) : jR := jAtC jc61 (jSem d) 3 [vR 8 (some 0), vI x1, vI x2] [] mem
noncomputable def Ta_rewind (d : Nat) (mem : jMem) : jR := jSem d 62 [vR 8 (some 0)] mem
noncomputable def Ta_blame (d : Nat) (x1 : Int) (x2 : Int) (mem : jMem) : jR := jSem d 63 [vR 8 (some 0), vI x1, vI x2] mem
noncomputable def Ta_peek (d : Nat) (mem : jMem) : jR := jSem d 64 [vR 8 (some 0)] mem
noncomputable def Ta_onDigit (d : Nat) (mem : jMem) : jR := jSem d 65 [vR 8 (some 0)] mem
noncomputable def Ta_skip (d : Nat) (mem : jMem) : jR := jSem d 66 [vR 8 (some 0)] mem
noncomputable def Ta_skip_0 (d : Nat) (mem : jMem) : jR := jAtC jc66 (jSem d) 0 [vR 8 (some 0)] [] mem
noncomputable def Ta_over (d : Nat) (mem : jMem) : jR := jSem d 67 [vR 8 (some 0)] mem
noncomputable def Ta_took (d : Nat) (x1 : Int) (mem : jMem) : jR := jSem d 68 [vR 8 (some 0), vI x1] mem
noncomputable def Ta_find (d : Nat) (r1 : Int) (mem : jMem) : jR := jSem d 69 [vR 8 (some 0), vR 100 (some r1)] mem
noncomputable def Ta_find_13 (d : Nat) (r1 : Int) (x2 : Int) (x3 : Int) (x4 : Int) (x5 : Int) (mem : jMem) : jR := jAtC jc69 (jSem d) 13 [vR 8 (some 0), vR 100 (some r1), vI x2, vI x3, vI x4, vI x5, vU] [] mem
noncomputable def Ta_find_40 (d : Nat) (r1 : Int) (x2 : Int) (x3 : Int) (x4 : Int) (x5 : Int) (s0 : Int) (mem : jMem) : jR := jAtC jc69 (jSem d) 40 [vR 8 (some 0), vR 100 (some r1), vI x2, vI x3, vI x4, vI x5, vU] [vI s0] mem
noncomputable def Ta_find_91 (d : Nat) (r1 : Int) (x2 : Int) (x4 : Int) (x5 : Int) (x6 : Int) (mem : jMem) : jR := jAtC jc69 (jSem d) 91 [vR 8 (some 0), vR 100 (some r1), vI x2, vU, vI x4, vI x5, vI x6] [] mem
noncomputable def Ta_find_112 (d : Nat) (r1 : Int) (x2 : Int) (x5 : Int) (mem : jMem) : jR := jAtC jc69 (jSem d) 112 [vR 8 (some 0), vR 100 (some r1), vI x2, vU, vU, vI x5, vU] [] mem
noncomputable def Ta_passWord (d : Nat) (mem : jMem) : jR := jSem d 70 [vR 8 (some 0)] mem
noncomputable def Ta_passWord_0 (d : Nat) (mem : jMem) : jR := jAtC jc70 (jSem d) 0 [vR 8 (some 0)] [] mem
noncomputable def Ta_tookWord (d : Nat) (r1 : Int) (mem : jMem) : jR := jSem d 71 [vR 8 (some 0), vR 100 (some r1)] mem
noncomputable def Ta_number (d : Nat) (x1 : Int) (x2 : Int) (mem : jMem) : jR := jSem d 72 [vR 8 (some 0), vI x1, vI x2] mem
noncomputable def Ta_number_21 (d : Nat) (x1 : Int) (x2 : Int) (x3 : Int) (x4 : Int) (mem : jMem) : jR := jAtC jc72 (jSem d) 21 [vR 8 (some 0), vI x1, vI x2, vI x3, vI x4, vU] [] mem
noncomputable def Ta_number_103 (d : Nat) (x1 : Int) (x2 : Int) (x3 : Int) (x4 : Int) (mem : jMem) : jR := jAtC jc72 (jSem d) 103 [vR 8 (some 0), vI x1, vI x2, vI x3, vI x4, vU] [] mem
noncomputable def Ta_number_137 (d : Nat) (x3 : Int) (x5 : Int) (mem : jMem) : jR := jAtC jc72 (jSem d) 137 [vR 8 (some 0), vU, vU, vI x3, vU, vI x5] [] mem
noncomputable def Wa_copy (d : Nat) (r0 : Int) (r1 : Int) (mem : jMem) : jR := jSem d 73 [vR 9 (some r0), vR 9 (some r1)] mem
noncomputable def Wa_begin (d : Nat) (r0 : Int) (r1 : Int) (mem : jMem) : jR := jSem d 74 [vR 9 (some r0), vR 4 (some r1)] mem
noncomputable def Wa_begin_7 (d : Nat) (r0 : Int) (r1 : Int) (x2 : Int) (mem : jMem) : jR := jAtC jc74 (jSem d) 7 [vR 9 (some r0), vR 4 (some r1), vI x2] [] mem
noncomputable def Wa_begin_45 (d : Nat) (r0 : Int) (r1 : Int) (x2 : Int) (mem : jMem) : jR := jAtC jc74 (jSem d) 45 [vR 9 (some r0), vR 4 (some r1), vI x2] [] mem
noncomputable def Wa_bitsAt (d : Nat) (r0 : Int) (x1 : Int) (x2 : Int) (mem : jMem) : jR := jSem d 75 [vR 9 (some r0), vI x1, vI x2] mem
noncomputable def Wa_bitsAt_5 (d : Nat) (r0 : Int) (x1 : Int) (x2 : Int) (x3 : Int) (x4 : Int) (mem : jMem) : jR := jAtC jc75 (jSem d) 5 [vR 9 (some r0), vI x1, vI x2, vI x3, vI x4] [] mem
noncomputable def Wa_fullTraps (d : Nat) (r0 : Int) (x1 : Int) (mem : jMem) : jR := jSem d 76 [vR 9 (some r0), vI x1] mem
noncomputable def Wa_fullTraps_4 (d : Nat) (r0 : Int) (x1 : Int) (x2 : Int) (x3 : Int) (mem : jMem) : jR := jAtC jc76 (jSem d) 4 [vR 9 (some r0), vI x1, vI x2, vI x3] [] mem
noncomputable def Wa_places (d : Nat) (r0 : Int) (x1 : Int) (mem : jMem) : jR := jSem d 77 [vR 9 (some r0), vI x1] mem
noncomputable def Wa_places_5 (d : Nat) (r0 : Int) (x1 : Int) (y2 : Int) (x4 : Int) (mem : jMem) : jR := jAtC jc77 (jSem d) 5 [vR 9 (some r0), vI x1, vJ y2, vU, vI x4] [] mem
noncomputable def E_feed (d : Nat) (x1 : Int) (x2 : Int) (x3 : Int) (x4 : Int) (x5 : Int) (mem : jMem) : jR := jSem d 78 [vR 10 (some 0), vI x1, vI x2, vI x3, vI x4, vI x5] mem
noncomputable def E_end (d : Nat) (x1 : Int) (mem : jMem) : jR := jSem d 79 [vR 10 (some 0), vI x1] mem
noncomputable def E_river (d : Nat) (mem : jMem) : jR := jSem d 80 [vR 10 (some 0)] mem
noncomputable def E_rule (d : Nat) (mem : jMem) : jR := jSem d 81 [vR 10 (some 0)] mem
noncomputable def E_force (d : Nat) (x1 : Int) (mem : jMem) : jR := jSem d 82 [vR 10 (some 0), vI x1] mem
noncomputable def E_memory (d : Nat) (x1 : Int) (x2 : Int) (mem : jMem) : jR := jSem d 83 [vR 10 (some 0), vI x1, vI x2] mem
noncomputable def E_trap (d : Nat) (x1 : Int) (x2 : Int) (mem : jMem) : jR := jSem d 84 [vR 10 (some 0), vI x1, vI x2] mem
noncomputable def E_person (d : Nat) (x1 : Int) (mem : jMem) : jR := jSem d 85 [vR 10 (some 0), vI x1] mem
noncomputable def E_moon (d : Nat) (x1 : Int) (mem : jMem) : jR := jSem d 86 [vR 10 (some 0), vI x1] mem
noncomputable def E_night (d : Nat) (mem : jMem) : jR := jSem d 87 [vR 10 (some 0)] mem
noncomputable def E_lift (d : Nat) (x1 : Int) (mem : jMem) : jR := jSem d 88 [vR 10 (some 0), vI x1] mem
noncomputable def E_sink (d : Nat) (x1 : Int) (x2 : Int) (x3 : Int) (mem : jMem) : jR := jSem d 89 [vR 10 (some 0), vI x1, vI x2, vI x3] mem
noncomputable def E_sink_70 (d : Nat) (x1 : Int) (x2 : Int) (x3 : Int) (x4 : Int) (x5 : Int) (mem : jMem) : jR := jAtC jc89 (jSem d) 70 [vR 10 (some 0), vI x1, vI x2, vI x3, vI x4, vI x5] [] mem
noncomputable def E_free (d : Nat) (x1 : Int) (x2 : Int) (mem : jMem) : jR := jSem d 90 [vR 10 (some 0), vI x1, vI x2] mem
noncomputable def E_give (d : Nat) (x1 : Int) (x2 : Int) (mem : jMem) : jR := jSem d 91 [vR 10 (some 0), vI x1, vI x2] mem
noncomputable def E_undo (d : Nat) (mem : jMem) : jR := jSem d 92 [vR 10 (some 0)] mem
noncomputable def E_ahead (d : Nat) (x1 : Int) (x2 : Int) (mem : jMem) : jR := jSem d 93 [vR 10 (some 0), vI x1, vI x2] mem
noncomputable def E_caught (d : Nat) (x1 : Int) (x2 : Int) (mem : jMem) : jR := jSem d 94 [vR 10 (some 0), vI x1, vI x2] mem
noncomputable def E_atSea (d : Nat) (x1 : Int) (mem : jMem) : jR := jSem d 95 [vR 10 (some 0), vI x1] mem
noncomputable def E_full (d : Nat) (mem : jMem) : jR := jSem d 96 [vR 10 (some 0)] mem
noncomputable def E_bestSink (d : Nat) (x1 : Int) (x2 : Int) (x3 : Int) (mem : jMem) : jR := jSem d 97 [vR 10 (some 0), vI x1, vI x2, vI x3] mem
noncomputable def E_lay (d : Nat) (x1 : Int) (x2 : Int) (x3 : Int) (x4 : Int) (mem : jMem) : jR := jSem d 98 [vR 10 (some 0), vI x1, vI x2, vI x3, vI x4] mem
noncomputable def E_throats (d : Nat) (x1 : Int) (x2 : Int) (mem : jMem) : jR := jSem d 99 [vR 10 (some 0), vI x1, vI x2] mem
noncomputable def E_astray (d : Nat) (mem : jMem) : jR := jSem d 100 [vR 10 (some 0)] mem
noncomputable def E_rings (d : Nat) (x1 : Int) (mem : jMem) : jR := jSem d 101 [vR 10 (some 0), vI x1] mem
noncomputable def E_right (d : Nat) (x1 : Int) (mem : jMem) : jR := jSem d 102 [vR 10 (some 0), vI x1] mem
noncomputable def E_right_43 (d : Nat) (x1 : Int) (x2 : Int) (x3 : Int) (mem : jMem) : jR := jAtC jc102 (jSem d) 43 [vR 10 (some 0), vI x1, vI x2, vI x3] [] mem
noncomputable def E_of (d : Nat) (x1 : Int) (mem : jMem) : jR := jSem d 103 [vR 10 (some 0), vI x1] mem
noncomputable def E_rests (d : Nat) (x1 : Int) (x2 : Int) (x3 : Int) (x4 : Int) (mem : jMem) : jR := jSem d 104 [vR 10 (some 0), vI x1, vI x2, vI x3, vI x4] mem
noncomputable def E_cycle (d : Nat) (x1 : Int) (mem : jMem) : jR := jSem d 105 [vR 10 (some 0), vI x1] mem
noncomputable def E_pence (d : Nat) (x1 : Int) (x2 : Int) (mem : jMem) : jR := jSem d 106 [vR 10 (some 0), vI x1, vI x2] mem
noncomputable def E_note (d : Nat) (x1 : Int) (x2 : Int) (x3 : Int) (mem : jMem) : jR := jSem d 107 [vR 10 (some 0), vI x1, vI x2, vI x3] mem
noncomputable def E_note_52 (d : Nat) (x1 : Int) (x2 : Int) (x3 : Int) (mem : jMem) : jR := jAtC jc107 (jSem d) 52 [vR 10 (some 0), vI x1, vI x2, vI x3] [] mem
noncomputable def E_ruled (d : Nat) (x1 : Int) (mem : jMem) : jR := jSem d 108 [vR 10 (some 0), vI x1] mem
noncomputable def E_look (d : Nat) (x1 : Int) (x2 : Int) (mem : jMem) : jR := jSem d 109 [vR 10 (some 0), vI x1, vI x2] mem
noncomputable def E_seed (d : Nat) (x1 : Int) (mem : jMem) : jR := jSem d 110 [vR 10 (some 0), vI x1] mem
noncomputable def E_moons (d : Nat) (x1 : Int) (x2 : Int) (x3 : Int) (x4 : Int) (mem : jMem) : jR := jSem d 111 [vR 10 (some 0), vI x1, vI x2, vI x3, vI x4] mem
noncomputable def E_count (d : Nat) (x1 : Int) (mem : jMem) : jR := jSem d 112 [vR 10 (some 0), vI x1] mem
noncomputable def E_image (d : Nat) (x1 : Int) (mem : jMem) : jR := jSem d 113 [vR 10 (some 0), vI x1] mem
noncomputable def E_back (d : Nat) (x1 : Int) (mem : jMem) : jR := jSem d 114 [vR 10 (some 0), vI x1] mem
noncomputable def E_within (d : Nat) (x0 : Int) (x1 : Int) (x2 : Int) (mem : jMem) : jR := jSem d 115 [vI x0, vI x1, vI x2] mem
noncomputable def E_isFreePlace (d : Nat) (x0 : Int) (mem : jMem) : jR := jSem d 116 [vI x0] mem
noncomputable def E_isMemory (d : Nat) (x1 : Int) (mem : jMem) : jR := jSem d 117 [vR 10 (some 0), vI x1] mem
noncomputable def E_isTrap (d : Nat) (x1 : Int) (mem : jMem) : jR := jSem d 118 [vR 10 (some 0), vI x1] mem
noncomputable def E_isPerson (d : Nat) (x1 : Int) (mem : jMem) : jR := jSem d 119 [vR 10 (some 0), vI x1] mem
noncomputable def E_isPool (d : Nat) (x1 : Int) (mem : jMem) : jR := jSem d 120 [vR 10 (some 0), vI x1] mem
noncomputable def E_isEmptyTrap (d : Nat) (x1 : Int) (mem : jMem) : jR := jSem d 121 [vR 10 (some 0), vI x1] mem
noncomputable def E_isFree (d : Nat) (x1 : Int) (mem : jMem) : jR := jSem d 122 [vR 10 (some 0), vI x1] mem
noncomputable def E_isHad (d : Nat) (x1 : Int) (mem : jMem) : jR := jSem d 123 [vR 10 (some 0), vI x1] mem
noncomputable def E_ruling (d : Nat) (mem : jMem) : jR := jSem d 124 [vR 10 (some 0)] mem
noncomputable def M_in (d : Nat) (y0 : Int) (y2 : Int) (y4 : Int) (mem : jMem) : jR := jSem d 125 [vJ y0, vJ y2, vJ y4] mem
noncomputable def M_isOf (d : Nat) (x0 : Int) (x1 : Int) (mem : jMem) : jR := jSem d 126 [vI x0, vI x1] mem
noncomputable def M_bits (d : Nat) (x0 : Int) (mem : jMem) : jR := jSem d 127 [vI x0] mem
noncomputable def M_bits_4 (d : Nat) (x1 : Int) (x2 : Int) (mem : jMem) : jR := jAtC jc127 (jSem d) 4 [vU, vI x1, vI x2] [] mem
noncomputable def M_four (d : Nat) (x1 : Int) (mem : jMem) : jR := jSem d 128 [vR 11 (some 0), vI x1] mem
noncomputable def M_four_3 (d : Nat) (x1 : Int) (x2 : Int) (mem : jMem) : jR := jAtC jc128 (jSem d) 3 [vR 11 (some 0), vI x1, vI x2] [] mem
noncomputable def M_feed (d : Nat) (x1 : Int) (x2 : Int) (x3 : Int) (x4 : Int) (x5 : Int) (mem : jMem) : jR := jSem d 129 [vR 11 (some 0), vI x1, vI x2, vI x3, vI x4, vI x5] mem
noncomputable def M_end (d : Nat) (x1 : Int) (mem : jMem) : jR := jSem d 130 [vR 11 (some 0), vI x1] mem
noncomputable def M_fails (d : Nat) (x1 : Int) (x2 : Int) (mem : jMem) : jR := jSem d 131 [vR 11 (some 0), vI x1, vI x2] mem
noncomputable def M_see (d : Nat) (mem : jMem) : jR := jSem d 132 [vR 11 (some 0)] mem
noncomputable def M_see_0 (d : Nat) (mem : jMem) : jR := jAtC jc132 (jSem d) 0 [vR 11 (some 0)] [] mem
noncomputable def M_see_38 (d : Nat) (mem : jMem) : jR := jAtC jc132 (jSem d) 38 [vR 11 (some 0)] [] mem
noncomputable def M_isDigit (d : Nat) (x1 : Int) (mem : jMem) : jR := jSem d 133 [vR 11 (some 0), vI x1] mem
noncomputable def M_isLetter (d : Nat) (x1 : Int) (mem : jMem) : jR := jSem d 134 [vR 11 (some 0), vI x1] mem
noncomputable def M_isWord (d : Nat) (y1 : Int) (mem : jMem) : jR := jSem d 135 [vR 11 (some 0), vJ y1] mem
noncomputable def M_isWord_10 (d : Nat) (y1 : Int) (y3 : Int) (x5 : Int) (mem : jMem) : jR := jAtC jc135 (jSem d) 10 [vR 11 (some 0), vJ y1, vU, vJ y3, vU, vI x5] [] mem
noncomputable def M_passWord (d : Nat) (mem : jMem) : jR := jSem d 136 [vR 11 (some 0)] mem
noncomputable def M_passWord_0 (d : Nat) (mem : jMem) : jR := jAtC jc136 (jSem d) 0 [vR 11 (some 0)] [] mem
noncomputable def M_takesWord (d : Nat) (y1 : Int) (mem : jMem) : jR := jSem d 137 [vR 11 (some 0), vJ y1] mem
noncomputable def M_numberHere (d : Nat) (x1 : Int) (x2 : Int) (mem : jMem) : jR := jSem d 138 [vR 11 (some 0), vI x1, vI x2] mem
noncomputable def M_numberHere_34 (d : Nat) (x1 : Int) (x2 : Int) (x3 : Int) (x4 : Int) (mem : jMem) : jR := jAtC jc138 (jSem d) 34 [vR 11 (some 0), vI x1, vI x2, vI x3, vI x4] [] mem
noncomputable def M_numberHere_117 (d : Nat) (x3 : Int) (mem : jMem) : jR := jAtC jc138 (jSem d) 117 [vR 11 (some 0), vU, vU, vI x3, vU] [] mem
noncomputable def M_wordHere (d : Nat) (mem : jMem) : jR := jSem d 139 [vR 11 (some 0)] mem
noncomputable def M_puts (d : Nat) (x1 : Int) (x2 : Int) (mem : jMem) : jR := jSem d 140 [vR 11 (some 0), vI x1, vI x2] mem
noncomputable def M_makes (d : Nat) (x1 : Int) (mem : jMem) : jR := jSem d 141 [vR 11 (some 0), vI x1] mem
noncomputable def M_opens (d : Nat) (x1 : Int) (mem : jMem) : jR := jSem d 142 [vR 11 (some 0), vI x1] mem
noncomputable def M_strength (d : Nat) (x0 : Int) (mem : jMem) : jR := jSem d 143 [vI x0] mem
noncomputable def M_layDown (d : Nat) (x1 : Int) (mem : jMem) : jR := jSem d 144 [vR 11 (some 0), vI x1] mem
noncomputable def M_layDown_0 (d : Nat) (x1 : Int) (mem : jMem) : jR := jAtC jc144 (jSem d) 0 [vR 11 (some 0), vI x1] [] mem
noncomputable def M_value (d : Nat) (mem : jMem) : jR := jSem d 145 [vR 11 (some 0)] mem
noncomputable def M_term (d : Nat) (mem : jMem) : jR := jSem d 146 [vR 11 (some 0)] mem
noncomputable def M_term_9 (d : Nat) (mem : jMem) : jR := jAtC jc146 (jSem d) 9 [vR 11 (some 0), vU] [] mem
noncomputable def M_term_36 (d : Nat) (mem : jMem) : jR := jAtC jc146 (jSem d) 36 [vR 11 (some 0), vU] [] mem
noncomputable def M_term_74 (d : Nat) (s0 : Int) (mem : jMem) : jR := jAtC jc146 (jSem d) 74 [vR 11 (some 0), vU] [vI s0] mem
noncomputable def M_sum (d : Nat) (mem : jMem) : jR := jSem d 147 [vR 11 (some 0)] mem
noncomputable def M_sum_9 (d : Nat) (mem : jMem) : jR := jAtC jc147 (jSem d) 9 [vR 11 (some 0), vU] [] mem
noncomputable def M_sum_27 (d : Nat) (mem : jMem) : jR := jAtC jc147 (jSem d) 27 [vR 11 (some 0), vU] [] mem
noncomputable def M_sum_46 (d : Nat) (s0 : Int) (mem : jMem) : jR := jAtC jc147 (jSem d) 46 [vR 11 (some 0), vU] [vI s0] mem
noncomputable def M_compare (d : Nat) (mem : jMem) : jR := jSem d 148 [vR 11 (some 0)] mem
noncomputable def M_compare_44 (d : Nat) (x1 : Int) (x2 : Int) (mem : jMem) : jR := jAtC jc148 (jSem d) 44 [vR 11 (some 0), vI x1, vI x2, vU, vU] [] mem
noncomputable def M_compare_90 (d : Nat) (x1 : Int) (x2 : Int) (s0 : Int) (mem : jMem) : jR := jAtC jc148 (jSem d) 90 [vR 11 (some 0), vI x1, vI x2, vU, vU] [vI s0] mem
noncomputable def M_compare_105 (d : Nat) (x1 : Int) (x2 : Int) (x3 : Int) (mem : jMem) : jR := jAtC jc148 (jSem d) 105 [vR 11 (some 0), vI x1, vI x2, vI x3, vU] [] mem
noncomputable def M_compare_152 (d : Nat) (s0 : Int) (mem : jMem) : jR := jAtC jc148 (jSem d) 152 [vR 11 (some 0), vU, vU, vU, vU] [vI s0] mem
noncomputable def M_fact (d : Nat) (mem : jMem) : jR := jSem d 149 [vR 11 (some 0)] mem
noncomputable def M_fact_2 (d : Nat) (x1 : Int) (mem : jMem) : jR := jAtC jc149 (jSem d) 2 [vR 11 (some 0), vI x1, vU] [] mem
noncomputable def M_isInside (d : Nat) (mem : jMem) : jR := jSem d 150 [vR 11 (some 0)] mem
noncomputable def M_isInside_2 (d : Nat) (x1 : Int) (mem : jMem) : jR := jAtC jc150 (jSem d) 2 [vR 11 (some 0), vI x1] [] mem
noncomputable def M_closes (d : Nat) (mem : jMem) : jR := jSem d 151 [vR 11 (some 0)] mem
noncomputable def M_closes_5 (d : Nat) (mem : jMem) : jR := jAtC jc151 (jSem d) 5 [vR 11 (some 0)] [] mem
noncomputable def M_tested (d : Nat) (mem : jMem) : jR := jSem d 152 [vR 11 (some 0)] mem
noncomputable def M_tested_12 (d : Nat) (x1 : Int) (mem : jMem) : jR := jAtC jc152 (jSem d) 12 [vR 11 (some 0), vI x1, vU] [] mem
noncomputable def M_tested_54 (d : Nat) (s0 : Int) (mem : jMem) : jR := jAtC jc152 (jSem d) 54 [vR 11 (some 0), vU, vU] [vI s0] mem
noncomputable def M_tested_76 (d : Nat) (x1 : Int) (s0 : Int) (mem : jMem) : jR := jAtC jc152 (jSem d) 76 [vR 11 (some 0), vI x1, vU] [vI s0] mem
noncomputable def M_isGoHere (d : Nat) (mem : jMem) : jR := jSem d 153 [vR 11 (some 0)] mem
noncomputable def M_isGoHere_110 (d : Nat) (x1 : Int) (mem : jMem) : jR := jAtC jc153 (jSem d) 110 [vR 11 (some 0), vI x1] [] mem
noncomputable def M_cellHere (d : Nat) (x1 : Int) (x2 : Int) (x3 : Int) (mem : jMem) : jR := jSem d 154 [vR 11 (some 0), vI x1, vI x2, vI x3] mem
noncomputable def M_isRiverHere (d : Nat) (x1 : Int) (mem : jMem) : jR := jSem d 155 [vR 11 (some 0), vI x1] mem
noncomputable def M_isMoonHere (d : Nat) (x1 : Int) (mem : jMem) : jR := jSem d 156 [vR 11 (some 0), vI x1] mem
noncomputable def M_isPersonHere (d : Nat) (x1 : Int) (mem : jMem) : jR := jSem d 157 [vR 11 (some 0), vI x1] mem
noncomputable def M_isMemoryHere (d : Nat) (x1 : Int) (mem : jMem) : jR := jSem d 158 [vR 11 (some 0), vI x1] mem
noncomputable def M_isTrapHere (d : Nat) (x1 : Int) (mem : jMem) : jR := jSem d 159 [vR 11 (some 0), vI x1] mem
noncomputable def M_riverLineHere (d : Nat) (x1 : Int) (mem : jMem) : jR := jSem d 160 [vR 11 (some 0), vI x1] mem
noncomputable def M_isRiverWord (d : Nat) (mem : jMem) : jR := jSem d 161 [vR 11 (some 0)] mem
noncomputable def M_clauseHere (d : Nat) (mem : jMem) : jR := jSem d 162 [vR 11 (some 0)] mem
noncomputable def M_clauseHere_24 (d : Nat) (x1 : Int) (s0 : Int) (mem : jMem) : jR := jAtC jc162 (jSem d) 24 [vR 11 (some 0), vI x1, vU] [vI s0] mem
noncomputable def M_clauseHere_71 (d : Nat) (x1 : Int) (x2 : Int) (s0 : Int) (s1 : Int) (mem : jMem) : jR := jAtC jc162 (jSem d) 71 [vR 11 (some 0), vI x1, vI x2] [vI s1, vI s0] mem
noncomputable def M_readsAll (d : Nat) (mem : jMem) : jR := jSem d 163 [vR 11 (some 0)] mem
noncomputable def M_readsAll_35 (d : Nat) (x1 : Int) (mem : jMem) : jR := jAtC jc163 (jSem d) 35 [vR 11 (some 0), vI x1] [] mem
noncomputable def M_readsAll_66 (d : Nat) (x1 : Int) (mem : jMem) : jR := jAtC jc163 (jSem d) 66 [vR 11 (some 0), vI x1] [] mem
noncomputable def M_readsAll_88 (d : Nat) (mem : jMem) : jR := jAtC jc163 (jSem d) 88 [vR 11 (some 0), vU] [] mem
noncomputable def M_rule (d : Nat) (mem : jMem) : jR := jSem d 164 [vR 11 (some 0)] mem
noncomputable def M_river (d : Nat) (mem : jMem) : jR := jSem d 165 [vR 11 (some 0)] mem
noncomputable def M_river_8 (d : Nat) (x1 : Int) (mem : jMem) : jR := jAtC jc165 (jSem d) 8 [vR 11 (some 0), vI x1] [] mem
noncomputable def M_river_44 (d : Nat) (x1 : Int) (mem : jMem) : jR := jAtC jc165 (jSem d) 44 [vR 11 (some 0), vI x1] [] mem
noncomputable def M_isRule (d : Nat) (x1 : Int) (mem : jMem) : jR := jSem d 166 [vR 11 (some 0), vI x1] mem
noncomputable def M_push (d : Nat) (y1 : Int) (mem : jMem) : jR := jSem d 167 [vR 11 (some 0), vJ y1] mem
noncomputable def M_pop (d : Nat) (mem : jMem) : jR := jSem d 168 [vR 11 (some 0)] mem
noncomputable def M_one (d : Nat) (x0 : Int) (y1 : Int) (y3 : Int) (mem : jMem) : jR := jSem d 169 [vI x0, vJ y1, vJ y3] mem
noncomputable def M_reckons (d : Nat) (x1 : Int) (x2 : Int) (x3 : Int) (mem : jMem) : jR := jSem d 170 [vR 11 (some 0), vI x1, vI x2, vI x3] mem
noncomputable def M_reckons_8 (d : Nat) (x1 : Int) (x3 : Int) (x4 : Int) (mem : jMem) : jR := jAtC jc170 (jSem d) 8 [vR 11 (some 0), vI x1, vU, vI x3, vI x4, vU, vU, vU, vU, vU, vU] [] mem
noncomputable def M_isRiver (d : Nat) (mem : jMem) : jR := jSem d 171 [vR 11 (some 0)] mem
noncomputable def M_rounds (d : Nat) (mem : jMem) : jR := jSem d 172 [vR 11 (some 0)] mem
noncomputable def M_isPool (d : Nat) (x1 : Int) (mem : jMem) : jR := jSem d 173 [vR 11 (some 0), vI x1] mem
noncomputable def M_isPerson (d : Nat) (x1 : Int) (mem : jMem) : jR := jSem d 174 [vR 11 (some 0), vI x1] mem
noncomputable def M_isMemory (d : Nat) (x1 : Int) (mem : jMem) : jR := jSem d 175 [vR 11 (some 0), vI x1] mem
noncomputable def M_isTrap (d : Nat) (x1 : Int) (mem : jMem) : jR := jSem d 176 [vR 11 (some 0), vI x1] mem
noncomputable def M_isFree (d : Nat) (x1 : Int) (mem : jMem) : jR := jSem d 177 [vR 11 (some 0), vI x1] mem
noncomputable def M_isHad (d : Nat) (x1 : Int) (mem : jMem) : jR := jSem d 178 [vR 11 (some 0), vI x1] mem
noncomputable def M_poolOf (d : Nat) (x1 : Int) (mem : jMem) : jR := jSem d 179 [vR 11 (some 0), vI x1] mem
noncomputable def M_baitOf (d : Nat) (x1 : Int) (mem : jMem) : jR := jSem d 180 [vR 11 (some 0), vI x1] mem
noncomputable def M_memoryIn (d : Nat) (x1 : Int) (mem : jMem) : jR := jSem d 181 [vR 11 (some 0), vI x1] mem
noncomputable def M_memoryIn_2 (d : Nat) (x1 : Int) (x2 : Int) (mem : jMem) : jR := jAtC jc181 (jSem d) 2 [vR 11 (some 0), vI x1, vI x2] [] mem
noncomputable def M_isEmptyTrap (d : Nat) (x1 : Int) (mem : jMem) : jR := jSem d 182 [vR 11 (some 0), vI x1] mem
noncomputable def M_onesThat (d : Nat) (x1 : Int) (x2 : Int) (mem : jMem) : jR := jSem d 183 [vR 11 (some 0), vI x1, vI x2] mem
noncomputable def M_onesThat_5 (d : Nat) (x1 : Int) (x2 : Int) (x3 : Int) (x4 : Int) (mem : jMem) : jR := jAtC jc183 (jSem d) 5 [vR 11 (some 0), vI x1, vI x2, vI x3, vI x4] [] mem
noncomputable def M_lightOn (d : Nat) (x1 : Int) (mem : jMem) : jR := jSem d 184 [vR 11 (some 0), vI x1] mem
noncomputable def M_begins (d : Nat) (mem : jMem) : jR := jSem d 185 [vR 11 (some 0)] mem
noncomputable def M_begins_10 (d : Nat) (x1 : Int) (mem : jMem) : jR := jAtC jc185 (jSem d) 10 [vR 11 (some 0), vI x1] [] mem
noncomputable def M_begins_42 (d : Nat) (x1 : Int) (mem : jMem) : jR := jAtC jc185 (jSem d) 42 [vR 11 (some 0), vI x1] [] mem
noncomputable def M_force (d : Nat) (x1 : Int) (mem : jMem) : jR := jSem d 186 [vR 11 (some 0), vI x1] mem
noncomputable def M_force_16 (d : Nat) (x1 : Int) (mem : jMem) : jR := jAtC jc186 (jSem d) 16 [vR 11 (some 0), vI x1, vU] [] mem
noncomputable def M_memory (d : Nat) (x1 : Int) (x2 : Int) (mem : jMem) : jR := jSem d 187 [vR 11 (some 0), vI x1, vI x2] mem
noncomputable def M_trap (d : Nat) (x1 : Int) (x2 : Int) (mem : jMem) : jR := jSem d 188 [vR 11 (some 0), vI x1, vI x2] mem
noncomputable def M_person (d : Nat) (x1 : Int) (mem : jMem) : jR := jSem d 189 [vR 11 (some 0), vI x1] mem
noncomputable def M_moon (d : Nat) (x1 : Int) (mem : jMem) : jR := jSem d 190 [vR 11 (some 0), vI x1] mem
noncomputable def M_summedBy (d : Nat) (x1 : Int) (mem : jMem) : jR := jSem d 191 [vR 11 (some 0), vI x1] mem
noncomputable def M_summedBy_2 (d : Nat) (x1 : Int) (x2 : Int) (mem : jMem) : jR := jAtC jc191 (jSem d) 2 [vR 11 (some 0), vI x1, vI x2, vU] [] mem
noncomputable def M_summedBy_58 (d : Nat) (x1 : Int) (x3 : Int) (mem : jMem) : jR := jAtC jc191 (jSem d) 58 [vR 11 (some 0), vI x1, vU, vI x3] [] mem
noncomputable def M_sumOf (d : Nat) (x1 : Int) (x2 : Int) (mem : jMem) : jR := jSem d 192 [vR 11 (some 0), vI x1, vI x2] mem
noncomputable def M_sumOf_8 (d : Nat) (x1 : Int) (x2 : Int) (x3 : Int) (x4 : Int) (x5 : Int) (mem : jMem) : jR := jAtC jc192 (jSem d) 8 [vR 11 (some 0), vI x1, vI x2, vI x3, vI x4, vI x5, vU] [] mem
noncomputable def M_sumOf_83 (d : Nat) (x1 : Int) (x2 : Int) (x3 : Int) (x4 : Int) (x5 : Int) (x6 : Int) (mem : jMem) : jR := jAtC jc192 (jSem d) 83 [vR 11 (some 0), vI x1, vI x2, vI x3, vI x4, vI x5, vI x6] [] mem
noncomputable def M_sumOf_255 (d : Nat) (x1 : Int) (s1 : Int) (z2 : Int) (mem : jMem) : jR := jAtC jc192 (jSem d) 255 [vR 11 (some 0), vI x1, vU, vU, vU, vU, vU] [vJ z2, vI s1, vR 54 (some 0)] mem
noncomputable def M_choice (d : Nat) (x1 : Int) (mem : jMem) : jR := jSem d 193 [vR 11 (some 0), vI x1] mem
noncomputable def M_choice_45 (d : Nat) (x1 : Int) (x2 : Int) (x3 : Int) (y4 : Int) (x6 : Int) (mem : jMem) : jR := jAtC jc193 (jSem d) 45 [vR 11 (some 0), vI x1, vI x2, vI x3, vJ y4, vU, vI x6, vU, vU] [] mem
noncomputable def M_swim (d : Nat) (mem : jMem) : jR := jSem d 194 [vR 11 (some 0)] mem
noncomputable def M_swim_11 (d : Nat) (x1 : Int) (x2 : Int) (mem : jMem) : jR := jAtC jc194 (jSem d) 11 [vR 11 (some 0), vI x1, vI x2, vU] [] mem
noncomputable def M_swim_48 (d : Nat) (x1 : Int) (x2 : Int) (mem : jMem) : jR := jAtC jc194 (jSem d) 48 [vR 11 (some 0), vI x1, vI x2, vU] [] mem
noncomputable def M_swim_115 (d : Nat) (x1 : Int) (x2 : Int) (s0 : Int) (mem : jMem) : jR := jAtC jc194 (jSem d) 115 [vR 11 (some 0), vI x1, vI x2, vU] [vI s0] mem
noncomputable def M_fitsIn (d : Nat) (x1 : Int) (x2 : Int) (mem : jMem) : jR := jSem d 195 [vR 11 (some 0), vI x1, vI x2] mem
noncomputable def M_catches (d : Nat) (x1 : Int) (mem : jMem) : jR := jSem d 196 [vR 11 (some 0), vI x1] mem
noncomputable def M_catches_2 (d : Nat) (x1 : Int) (x2 : Int) (mem : jMem) : jR := jAtC jc196 (jSem d) 2 [vR 11 (some 0), vI x1, vI x2] [] mem
noncomputable def M_passes (d : Nat) (mem : jMem) : jR := jSem d 197 [vR 11 (some 0)] mem
noncomputable def M_passes_8 (d : Nat) (x1 : Int) (x2 : Int) (mem : jMem) : jR := jAtC jc197 (jSem d) 8 [vR 11 (some 0), vI x1, vI x2] [] mem
noncomputable def M_passesAll (d : Nat) (x1 : Int) (mem : jMem) : jR := jSem d 198 [vR 11 (some 0), vI x1] mem
noncomputable def M_passesAll_2 (d : Nat) (x1 : Int) (x2 : Int) (mem : jMem) : jR := jAtC jc198 (jSem d) 2 [vR 11 (some 0), vI x1, vI x2] [] mem
noncomputable def M_keepsAct (d : Nat) (mem : jMem) : jR := jSem d 199 [vR 11 (some 0)] mem
noncomputable def M_keepsAct_12 (d : Nat) (x1 : Int) (mem : jMem) : jR := jAtC jc199 (jSem d) 12 [vR 11 (some 0), vI x1] [] mem
noncomputable def M_keepsAct_52 (d : Nat) (x1 : Int) (mem : jMem) : jR := jAtC jc199 (jSem d) 52 [vR 11 (some 0), vI x1] [] mem
noncomputable def M_undo (d : Nat) (mem : jMem) : jR := jSem d 200 [vR 11 (some 0)] mem
noncomputable def M_undo_21 (d : Nat) (x1 : Int) (mem : jMem) : jR := jAtC jc200 (jSem d) 21 [vR 11 (some 0), vI x1] [] mem
noncomputable def M_night (d : Nat) (mem : jMem) : jR := jSem d 201 [vR 11 (some 0)] mem
noncomputable def M_lift (d : Nat) (x1 : Int) (mem : jMem) : jR := jSem d 202 [vR 11 (some 0), vI x1] mem
noncomputable def M_sink (d : Nat) (x1 : Int) (x2 : Int) (x3 : Int) (mem : jMem) : jR := jSem d 203 [vR 11 (some 0), vI x1, vI x2, vI x3] mem
noncomputable def M_sink_48 (d : Nat) (x1 : Int) (x2 : Int) (x3 : Int) (mem : jMem) : jR := jAtC jc203 (jSem d) 48 [vR 11 (some 0), vI x1, vI x2, vI x3, vU] [] mem
noncomputable def M_free (d : Nat) (x1 : Int) (x2 : Int) (mem : jMem) : jR := jSem d 204 [vR 11 (some 0), vI x1, vI x2] mem
noncomputable def M_give (d : Nat) (x1 : Int) (x2 : Int) (mem : jMem) : jR := jSem d 205 [vR 11 (some 0), vI x1, vI x2] mem
noncomputable def M_keeps (d : Nat) (mem : jMem) : jR := jSem d 206 [vR 11 (some 0)] mem
noncomputable def M_keeps_2 (d : Nat) (x1 : Int) (mem : jMem) : jR := jAtC jc206 (jSem d) 2 [vR 11 (some 0), vI x1] [] mem
noncomputable def M_laysBack (d : Nat) (mem : jMem) : jR := jSem d 207 [vR 11 (some 0)] mem
noncomputable def M_laysBack_2 (d : Nat) (x1 : Int) (mem : jMem) : jR := jAtC jc207 (jSem d) 2 [vR 11 (some 0), vI x1] [] mem
noncomputable def M_ahead (d : Nat) (x1 : Int) (x2 : Int) (mem : jMem) : jR := jSem d 208 [vR 11 (some 0), vI x1, vI x2] mem
noncomputable def M_caught (d : Nat) (x1 : Int) (x2 : Int) (mem : jMem) : jR := jSem d 209 [vR 11 (some 0), vI x1, vI x2] mem
noncomputable def M_caught_30 (d : Nat) (x1 : Int) (x2 : Int) (x3 : Int) (x4 : Int) (mem : jMem) : jR := jAtC jc209 (jSem d) 30 [vR 11 (some 0), vI x1, vI x2, vI x3, vI x4] [] mem
noncomputable def M_atSea (d : Nat) (x1 : Int) (mem : jMem) : jR := jSem d 210 [vR 11 (some 0), vI x1] mem
noncomputable def M_trapped (d : Nat) (mem : jMem) : jR := jSem d 211 [vR 11 (some 0)] mem
noncomputable def M_full (d : Nat) (mem : jMem) : jR := jSem d 212 [vR 11 (some 0)] mem
noncomputable def M_full_18 (d : Nat) (x1 : Int) (x2 : Int) (mem : jMem) : jR := jAtC jc212 (jSem d) 18 [vR 11 (some 0), vI x1, vI x2] [] mem
noncomputable def M_trappedIn (d : Nat) (x1 : Int) (mem : jMem) : jR := jSem d 213 [vR 11 (some 0), vI x1] mem
noncomputable def M_bestSink (d : Nat) (x1 : Int) (x2 : Int) (x3 : Int) (mem : jMem) : jR := jSem d 214 [vR 11 (some 0), vI x1, vI x2, vI x3] mem
noncomputable def M_bestSink_52 (d : Nat) (x1 : Int) (x2 : Int) (x3 : Int) (x4 : Int) (x5 : Int) (x6 : Int) (mem : jMem) : jR := jAtC jc214 (jSem d) 52 [vR 11 (some 0), vI x1, vI x2, vI x3, vI x4, vI x5, vI x6, vU] [] mem
noncomputable def M_lay (d : Nat) (x1 : Int) (x2 : Int) (x3 : Int) (x4 : Int) (mem : jMem) : jR := jSem d 215 [vR 11 (some 0), vI x1, vI x2, vI x3, vI x4] mem
noncomputable def M_lay_51 (d : Nat) (x1 : Int) (x2 : Int) (x3 : Int) (x4 : Int) (x5 : Int) (x6 : Int) (mem : jMem) : jR := jAtC jc215 (jSem d) 51 [vR 11 (some 0), vI x1, vI x2, vI x3, vI x4, vI x5, vI x6] [] mem
noncomputable def M_throats (d : Nat) (x1 : Int) (x2 : Int) (mem : jMem) : jR := jSem d 216 [vR 11 (some 0), vI x1, vI x2] mem
noncomputable def M_throats_43 (d : Nat) (x1 : Int) (x2 : Int) (x3 : Int) (x4 : Int) (x5 : Int) (mem : jMem) : jR := jAtC jc216 (jSem d) 43 [vR 11 (some 0), vI x1, vI x2, vI x3, vI x4, vI x5] [] mem
noncomputable def M_throats_93 (d : Nat) (x1 : Int) (x3 : Int) (x4 : Int) (mem : jMem) : jR := jAtC jc216 (jSem d) 93 [vR 11 (some 0), vI x1, vU, vI x3, vI x4, vU] [] mem
noncomputable def M_isAstray (d : Nat) (x1 : Int) (mem : jMem) : jR := jSem d 217 [vR 11 (some 0), vI x1] mem
noncomputable def M_astray (d : Nat) (mem : jMem) : jR := jSem d 218 [vR 11 (some 0)] mem
noncomputable def M_astray_13 (d : Nat) (x1 : Int) (x2 : Int) (mem : jMem) : jR := jAtC jc218 (jSem d) 13 [vR 11 (some 0), vI x1, vI x2] [] mem
noncomputable def M_isLinked (d : Nat) (x1 : Int) (x2 : Int) (mem : jMem) : jR := jSem d 219 [vR 11 (some 0), vI x1, vI x2] mem
noncomputable def M_isLinked_8 (d : Nat) (x1 : Int) (x2 : Int) (x3 : Int) (x4 : Int) (x5 : Int) (mem : jMem) : jR := jAtC jc219 (jSem d) 8 [vR 11 (some 0), vI x1, vI x2, vI x3, vI x4, vI x5, vU] [] mem
noncomputable def M_isLinked_78 (d : Nat) (x1 : Int) (x2 : Int) (x4 : Int) (x5 : Int) (x6 : Int) (s0 : Int) (mem : jMem) : jR := jAtC jc219 (jSem d) 78 [vR 11 (some 0), vI x1, vI x2, vU, vI x4, vI x5, vI x6] [vI s0] mem
noncomputable def M_isRing (d : Nat) (x1 : Int) (mem : jMem) : jR := jSem d 220 [vR 11 (some 0), vI x1] mem
noncomputable def M_isRing_2 (d : Nat) (x1 : Int) (x2 : Int) (mem : jMem) : jR := jAtC jc220 (jSem d) 2 [vR 11 (some 0), vI x1, vI x2] [] mem
noncomputable def M_rings (d : Nat) (x1 : Int) (mem : jMem) : jR := jSem d 221 [vR 11 (some 0), vI x1] mem
noncomputable def M_rings_26 (d : Nat) (x1 : Int) (x2 : Int) (x3 : Int) (x4 : Int) (mem : jMem) : jR := jAtC jc221 (jSem d) 26 [vR 11 (some 0), vI x1, vI x2, vI x3, vI x4] [] mem
noncomputable def M_right (d : Nat) (x1 : Int) (mem : jMem) : jR := jSem d 222 [vR 11 (some 0), vI x1] mem
noncomputable def M_right_36 (d : Nat) (x1 : Int) (x2 : Int) (x3 : Int) (x4 : Int) (mem : jMem) : jR := jAtC jc222 (jSem d) 36 [vR 11 (some 0), vI x1, vI x2, vI x3, vI x4] [] mem
noncomputable def M_isRest (d : Nat) (x1 : Int) (x2 : Int) (mem : jMem) : jR := jSem d 223 [vR 11 (some 0), vI x1, vI x2] mem
noncomputable def M_isRest_2 (d : Nat) (x1 : Int) (x2 : Int) (x3 : Int) (mem : jMem) : jR := jAtC jc223 (jSem d) 2 [vR 11 (some 0), vI x1, vI x2, vI x3] [] mem
noncomputable def M_sizeIn (d : Nat) (x1 : Int) (mem : jMem) : jR := jSem d 224 [vR 11 (some 0), vI x1] mem
noncomputable def M_rests (d : Nat) (x1 : Int) (x2 : Int) (x3 : Int) (x4 : Int) (mem : jMem) : jR := jSem d 225 [vR 11 (some 0), vI x1, vI x2, vI x3, vI x4] mem
noncomputable def M_rests_55 (d : Nat) (x1 : Int) (x2 : Int) (x3 : Int) (x4 : Int) (x5 : Int) (mem : jMem) : jR := jAtC jc225 (jSem d) 55 [vR 11 (some 0), vI x1, vI x2, vI x3, vI x4, vI x5, vU, vU] [] mem
noncomputable def M_rests_153 (d : Nat) (x4 : Int) (x5 : Int) (x6 : Int) (x7 : Int) (mem : jMem) : jR := jAtC jc225 (jSem d) 153 [vR 11 (some 0), vU, vU, vU, vI x4, vI x5, vI x6, vI x7] [] mem
noncomputable def M_areAlike (d : Nat) (x1 : Int) (x2 : Int) (mem : jMem) : jR := jSem d 226 [vR 11 (some 0), vI x1, vI x2] mem
noncomputable def M_areAlike_15 (d : Nat) (x1 : Int) (x2 : Int) (x3 : Int) (mem : jMem) : jR := jAtC jc226 (jSem d) 15 [vR 11 (some 0), vI x1, vI x2, vI x3] [] mem
noncomputable def M_cycle (d : Nat) (x1 : Int) (mem : jMem) : jR := jSem d 227 [vR 11 (some 0), vI x1] mem
noncomputable def M_cycle_25 (d : Nat) (x1 : Int) (x2 : Int) (mem : jMem) : jR := jAtC jc227 (jSem d) 25 [vR 11 (some 0), vI x1, vI x2, vU] [] mem
noncomputable def M_cycle_33 (d : Nat) (x1 : Int) (x2 : Int) (x3 : Int) (mem : jMem) : jR := jAtC jc227 (jSem d) 33 [vR 11 (some 0), vI x1, vI x2, vI x3] [] mem
noncomputable def M_cycle_86 (d : Nat) (x1 : Int) (x2 : Int) (mem : jMem) : jR := jAtC jc227 (jSem d) 86 [vR 11 (some 0), vI x1, vI x2, vU] [] mem
noncomputable def M_cycle_96 (d : Nat) (x1 : Int) (x2 : Int) (x3 : Int) (mem : jMem) : jR := jAtC jc227 (jSem d) 96 [vR 11 (some 0), vI x1, vI x2, vI x3] [] mem
noncomputable def M_sizesOf (d : Nat) (x1 : Int) (mem : jMem) : jR := jSem d 228 [vR 11 (some 0), vI x1] mem
noncomputable def M_sizesOf_4 (d : Nat) (x1 : Int) (x2 : Int) (x3 : Int) (mem : jMem) : jR := jAtC jc228 (jSem d) 4 [vR 11 (some 0), vI x1, vI x2, vI x3] [] mem
noncomputable def M_pence (d : Nat) (x1 : Int) (x2 : Int) (mem : jMem) : jR := jSem d 229 [vR 11 (some 0), vI x1, vI x2] mem
noncomputable def M_pence_27 (d : Nat) (x1 : Int) (x2 : Int) (x3 : Int) (x4 : Int) (mem : jMem) : jR := jAtC jc229 (jSem d) 27 [vR 11 (some 0), vI x1, vI x2, vI x3, vI x4, vU, vU, vU, vU] [] mem
noncomputable def M_pence_77 (d : Nat) (x1 : Int) (x2 : Int) (x3 : Int) (x4 : Int) (x5 : Int) (x6 : Int) (x7 : Int) (mem : jMem) : jR := jAtC jc229 (jSem d) 77 [vR 11 (some 0), vI x1, vI x2, vI x3, vI x4, vI x5, vI x6, vI x7, vU] [] mem
noncomputable def M_note (d : Nat) (x1 : Int) (x2 : Int) (x3 : Int) (mem : jMem) : jR := jSem d 230 [vR 11 (some 0), vI x1, vI x2, vI x3] mem
noncomputable def M_note_48 (d : Nat) (x1 : Int) (x2 : Int) (x3 : Int) (mem : jMem) : jR := jAtC jc230 (jSem d) 48 [vR 11 (some 0), vI x1, vI x2, vI x3, vU] [] mem
noncomputable def M_freeIn (d : Nat) (x1 : Int) (mem : jMem) : jR := jSem d 231 [vR 11 (some 0), vI x1] mem
noncomputable def M_areNotesSo (d : Nat) (x1 : Int) (mem : jMem) : jR := jSem d 232 [vR 11 (some 0), vI x1] mem
noncomputable def M_areNotesSo_2 (d : Nat) (x1 : Int) (x2 : Int) (mem : jMem) : jR := jAtC jc232 (jSem d) 2 [vR 11 (some 0), vI x1, vI x2] [] mem
noncomputable def M_areAllSo (d : Nat) (x1 : Int) (x2 : Int) (mem : jMem) : jR := jSem d 233 [vR 11 (some 0), vI x1, vI x2] mem
noncomputable def M_areAllSo_5 (d : Nat) (x1 : Int) (x2 : Int) (x3 : Int) (x4 : Int) (mem : jMem) : jR := jAtC jc233 (jSem d) 5 [vR 11 (some 0), vI x1, vI x2, vI x3, vI x4, vU] [] mem
noncomputable def M_areAllSo_34 (d : Nat) (x1 : Int) (x2 : Int) (x3 : Int) (x4 : Int) (x5 : Int) (mem : jMem) : jR := jAtC jc233 (jSem d) 34 [vR 11 (some 0), vI x1, vI x2, vI x3, vI x4, vI x5] [] mem
noncomputable def M_of (d : Nat) (x1 : Int) (mem : jMem) : jR := jSem d 234 [vR 11 (some 0), vI x1] mem
noncomputable def M_of_29 (d : Nat) (x1 : Int) (x2 : Int) (x3 : Int) (x4 : Int) (mem : jMem) : jR := jAtC jc234 (jSem d) 29 [vR 11 (some 0), vI x1, vI x2, vI x3, vI x4] [] mem
noncomputable def M_fillsFits (d : Nat) (x1 : Int) (mem : jMem) : jR := jSem d 235 [vR 11 (some 0), vI x1] mem
noncomputable def M_fillsFits_11 (d : Nat) (x1 : Int) (x2 : Int) (x3 : Int) (mem : jMem) : jR := jAtC jc235 (jSem d) 11 [vR 11 (some 0), vI x1, vI x2, vI x3] [] mem
noncomputable def M_ruled (d : Nat) (x1 : Int) (mem : jMem) : jR := jSem d 236 [vR 11 (some 0), vI x1] mem
noncomputable def M_ruled_36 (d : Nat) (x1 : Int) (x2 : Int) (x3 : Int) (x4 : Int) (mem : jMem) : jR := jAtC jc236 (jSem d) 36 [vR 11 (some 0), vI x1, vI x2, vI x3, vI x4] [] mem
noncomputable def M_alikeAt (d : Nat) (x1 : Int) (mem : jMem) : jR := jSem d 237 [vR 11 (some 0), vI x1] mem
noncomputable def M_alikeAt_4 (d : Nat) (x1 : Int) (x2 : Int) (x3 : Int) (mem : jMem) : jR := jAtC jc237 (jSem d) 4 [vR 11 (some 0), vI x1, vI x2, vI x3, vU, vU] [] mem
noncomputable def M_alikeAt_18 (d : Nat) (x1 : Int) (x2 : Int) (x3 : Int) (x4 : Int) (x5 : Int) (mem : jMem) : jR := jAtC jc237 (jSem d) 18 [vR 11 (some 0), vI x1, vI x2, vI x3, vI x4, vI x5] [] mem
noncomputable def M_alikeAt_88 (d : Nat) (x1 : Int) (x2 : Int) (x3 : Int) (x4 : Int) (mem : jMem) : jR := jAtC jc237 (jSem d) 88 [vR 11 (some 0), vI x1, vI x2, vI x3, vI x4, vU] [] mem
noncomputable def M_look (d : Nat) (x1 : Int) (x2 : Int) (mem : jMem) : jR := jSem d 238 [vR 11 (some 0), vI x1, vI x2] mem
noncomputable def M_look_46 (d : Nat) (x2 : Int) (x3 : Int) (x4 : Int) (x5 : Int) (mem : jMem) : jR := jAtC jc238 (jSem d) 46 [vR 11 (some 0), vU, vI x2, vI x3, vI x4, vI x5, vU] [] mem
noncomputable def M_seed (d : Nat) (x1 : Int) (mem : jMem) : jR := jSem d 239 [vR 11 (some 0), vI x1] mem
noncomputable def M_draw (d : Nat) (x1 : Int) (mem : jMem) : jR := jSem d 240 [vR 11 (some 0), vI x1] mem
noncomputable def M_moons (d : Nat) (x1 : Int) (x2 : Int) (x3 : Int) (x4 : Int) (mem : jMem) : jR := jSem d 241 [vR 11 (some 0), vI x1, vI x2, vI x3, vI x4] mem
noncomputable def M_moons_78 (d : Nat) (x1 : Int) (x2 : Int) (x3 : Int) (x4 : Int) (x5 : Int) (x6 : Int) (x7 : Int) (mem : jMem) : jR := jAtC jc241 (jSem d) 78 [vR 11 (some 0), vI x1, vI x2, vI x3, vI x4, vI x5, vI x6, vI x7, vU] [] mem
noncomputable def M_moons_87 (d : Nat) (x1 : Int) (x2 : Int) (x3 : Int) (x4 : Int) (x5 : Int) (x6 : Int) (x7 : Int) (x8 : Int) (mem : jMem) : jR := jAtC jc241 (jSem d) 87 [vR 11 (some 0), vI x1, vI x2, vI x3, vI x4, vI x5, vI x6, vI x7, vI x8] [] mem
noncomputable def M_count (d : Nat) (x1 : Int) (mem : jMem) : jR := jSem d 242 [vR 11 (some 0), vI x1] mem
noncomputable def M_image (d : Nat) (x1 : Int) (mem : jMem) : jR := jSem d 243 [vR 11 (some 0), vI x1] mem
noncomputable def M_image_43 (d : Nat) (x1 : Int) (x2 : Int) (mem : jMem) : jR := jAtC jc243 (jSem d) 43 [vR 11 (some 0), vI x1, vI x2] [] mem
noncomputable def M_back (d : Nat) (x1 : Int) (mem : jMem) : jR := jSem d 244 [vR 11 (some 0), vI x1] mem
noncomputable def M_back_50 (d : Nat) (x1 : Int) (x2 : Int) (mem : jMem) : jR := jAtC jc244 (jSem d) 50 [vR 11 (some 0), vI x1, vI x2] [] mem
noncomputable def J_bitCount (d : Nat) (x0 : Int) (mem : jMem) : jR := jSem d 245 [vI x0] mem
noncomputable def J_max (d : Nat) (x0 : Int) (x1 : Int) (mem : jMem) : jR := jSem d 246 [vI x0, vI x1] mem
noncomputable def J_min (d : Nat) (x0 : Int) (x1 : Int) (mem : jMem) : jR := jSem d 247 [vI x0, vI x1] mem
end
section
/-! The equations, each by unrolling (rfl) -/
set_option maxRecDepth 100000 in
theorem q_Ac_keep (d : Nat) (r1 : Int) (mem : jMem) : Ac_keep (d + 1) r1 mem = jix 20 (jrI mem 0 0 1) (jbnd (Wa_copy d ((jrI mem 0 0 1) + 5) r1 mem) fun v1 mem2 => jbnd (J_min d (jw32 ((jrI mem2 0 0 2) + 1)) 20 (jwI mem2 0 0 1 ((jw32 ((jrI mem2 0 0 1) + 1)).tmod 20))) fun v3 mem4 => some (vU, (jwI mem4 0 0 2 (jasI v3)))) := Eq.trans (b := jAtC jc0 (jSem d) 0 [vR 0 (some 0), vR 9 (some r1)] [] mem) rfl ((jfrom_eq jc0 (jSem d) [] 24 0 [vR 0 (some 0), vR 9 (some r1)] [] mem).trans rfl)
set_option maxRecDepth 100000 in
theorem q_Ac_takeBack (d : Nat) (r1 : Int) (mem : jMem) : Ac_takeBack (d + 1) r1 mem = if 0 < (jrI mem 0 0 2) then jix 20 ((jw32 ((jw32 ((jrI mem 0 0 1) + 20)) - 1)).tmod 20) (jbnd (Wa_copy d r1 (((jw32 ((jw32 ((jrI mem 0 0 1) + 20)) - 1)).tmod 20) + 5) (jwI mem 0 0 1 ((jw32 ((jw32 ((jrI mem 0 0 1) + 20)) - 1)).tmod 20))) fun v1 mem2 => some (vI (jw32 ((jrI mem2 0 0 2) - 1)), (jwI mem2 0 0 2 (jw32 ((jrI mem2 0 0 2) - 1))))) else some (vI (-1), mem) := Eq.trans (b := jAtC jc1 (jSem d) 0 [vR 0 (some 0), vR 9 (some r1)] [] mem) rfl ((jfrom_eq jc1 (jSem d) [] 29 0 [vR 0 (some 0), vR 9 (some r1)] [] mem).trans rfl)
set_option maxRecDepth 100000 in
theorem q_As_after (d : Nat) (r1 : Int) (o2 : Option Int) (x3 : Int) (mem : jMem) : As_after (d + 1) r1 o2 x3 mem = jbnd (Wa_copy d 25 r1 mem) fun v1 mem2 => jbnd (Sm_pass d 1 r1 25 o2 x3 mem2) fun v3 mem4 => some (vR 9 (some 25), mem4) := Eq.trans (b := jAtC jc2 (jSem d) 0 [vR 1 (some 0), vR 6 (some r1), vR 5 o2, vI x3] [] mem) rfl ((jfrom_eq jc2 (jSem d) [] 17 0 [vR 1 (some 0), vR 6 (some r1), vR 5 o2, vI x3] [] mem).trans rfl)
set_option maxRecDepth 100000 in
theorem q_As_firstCatch (d : Nat) (r1 : Int) (o2 : Option Int) (x3 : Int) (x4 : Int) (mem : jMem) : As_firstCatch (d + 1) r1 o2 x3 x4 mem = jbnd (Wa_copy d 25 r1 mem) fun v1 mem2 => As_firstCatch_14 d r1 o2 x3 x4 0 mem2 := Eq.trans (b := jAtC jc3 (jSem d) 0 [vR 1 (some 0), vR 6 (some r1), vR 5 o2, vI x3, vI x4, vU] [] mem) rfl ((jfrom_eq jc3 (jSem d) [14, 73] 8 0 [vR 1 (some 0), vR 6 (some r1), vR 5 o2, vI x3, vI x4, vU] [] mem).trans rfl)
set_option maxRecDepth 100000 in
theorem q_As_firstCatch_14 (d : Nat) (r1 : Int) (o2 : Option Int) (x3 : Int) (x4 : Int) (x5 : Int) (mem : jMem) : As_firstCatch_14 d r1 o2 x3 x4 x5 mem = if x5 < 200 then jix 6 x3 (jbnd (E_isFreePlace d (jrI mem 38 25 x3) mem) fun v1 mem2 => if (jasI v1) = 0 then As_firstCatch_73 d x3 x4 mem2 else jbnd (Sm_pass d 1 r1 25 o2 1 mem2) fun v3 mem4 => jbnd (Sm_isStill d 1 mem4) fun v5 mem6 => if (jasI v5) = 0 then As_firstCatch_14 d r1 o2 x3 x4 (jw32 (x5 + 1)) mem6 else As_firstCatch_73 d x3 x4 mem6) else As_firstCatch_73 d x3 x4 mem := (jfrom_eq jc3 (jSem d) [14, 73] 26 14 [vR 1 (some 0), vR 6 (some r1), vR 5 o2, vI x3, vI x4, vI x5] [] mem).trans rfl
set_option maxRecDepth 100000 in
theorem q_As_firstCatch_73 (d : Nat) (x3 : Int) (x4 : Int) (mem : jMem) : As_firstCatch_73 d x3 x4 mem = jix 6 x3 (if (jrI mem 38 25 x3) < 20 then some (vI (-2), mem) else if x4 = 0 then some (vI (jw32 ((jrI mem 9 25 0) - 1)), mem) else jix 6 x3 (some (vI (jw32 ((jrI mem 38 25 x3) - 20)), mem))) := (jfrom_eq jc3 (jSem d) [14, 73] 17 73 [vR 1 (some 0), vU, vU, vI x3, vI x4, vU] [] mem).trans rfl
set_option maxRecDepth 100000 in
theorem q_As_firstFull (d : Nat) (r1 : Int) (o2 : Option Int) (mem : jMem) : As_firstFull (d + 1) r1 o2 mem = jbnd (Wa_copy d 25 r1 mem) fun v1 mem2 => As_firstFull_13 d r1 o2 0 mem2 := Eq.trans (b := jAtC jc4 (jSem d) 0 [vR 1 (some 0), vR 6 (some r1), vR 5 o2, vU, vU] [] mem) rfl ((jfrom_eq jc4 (jSem d) [13] 8 0 [vR 1 (some 0), vR 6 (some r1), vR 5 o2, vU, vU] [] mem).trans rfl)
set_option maxRecDepth 100000 in
theorem q_As_firstFull_13 (d : Nat) (r1 : Int) (o2 : Option Int) (x3 : Int) (mem : jMem) : As_firstFull_13 d r1 o2 x3 mem = if x3 < 200 then jbnd (Sm_pass d 1 r1 25 o2 1 mem) fun v1 mem2 => jbnd (Wa_fullTraps d 25 (jrI mem2 4 r1 6) mem2) fun v3 mem4 => if (jasI v3) = (jrI mem4 4 r1 6) then some (vI (jrI mem 9 25 0), mem4) else jbnd (Sm_isStill d 1 mem4) fun v5 mem6 => if (jasI v5) = 0 then As_firstFull_13 d r1 o2 (jw32 (x3 + 1)) mem6 else some (vI (-2), mem6) else some (vI (-2), mem) := (jfrom_eq jc4 (jSem d) [13] 33 13 [vR 1 (some 0), vR 6 (some r1), vR 5 o2, vI x3, vU] [] mem).trans rfl
set_option maxRecDepth 100000 in
theorem q_As_bestPlace (d : Nat) (r1 : Int) (o2 : Option Int) (x3 : Int) (x4 : Int) (x5 : Int) (mem : jMem) : As_bestPlace (d + 1) r1 o2 x3 x4 x5 mem = jbnd (As_after d r1 o2 x4 mem) fun v1 mem2 => jsm (jasR v1) fun _ => jbnd (jSem d 76 [vR 9 (jasR v1), vI (jrI mem2 4 r1 6)] mem2) fun v3 mem4 => jbnd (As_smellsOfFree d r1 mem4) fun v5 mem6 => As_bestPlace_35 d r1 o2 x3 x4 x5 (jasI v3) (-1) (-1) (jasI v5) 0 mem6 := Eq.trans (b := jAtC jc5 (jSem d) 0 [vR 1 (some 0), vR 6 (some r1), vR 5 o2, vI x3, vI x4, vI x5, vU, vU, vU, vU, vU, vU, vU, vU, vU] [] mem) rfl ((jfrom_eq jc5 (jSem d) [35, 53, 75, 90] 20 0 [vR 1 (some 0), vR 6 (some r1), vR 5 o2, vI x3, vI x4, vI x5, vU, vU, vU, vU, vU, vU, vU, vU, vU] [] mem).trans rfl)
set_option maxRecDepth 100000 in
theorem q_As_bestPlace_35 (d : Nat) (r1 : Int) (o2 : Option Int) (x3 : Int) (x4 : Int) (x5 : Int) (x6 : Int) (x7 : Int) (x8 : Int) (x9 : Int) (x10 : Int) (mem : jMem) : As_bestPlace_35 d r1 o2 x3 x4 x5 x6 x7 x8 x9 x10 mem = if x10 < (jrI mem 4 r1 1) then As_bestPlace_53 d r1 o2 x3 x4 x5 x6 x7 x8 x9 x10 0 0 mem else if x5 = 0 then some (vI x6, mem) else if x5 = 1 then some (vI x7, mem) else some (vI x8, mem) := (jfrom_eq jc5 (jSem d) [35, 53, 75, 90] 13 35 [vR 1 (some 0), vR 6 (some r1), vR 5 o2, vI x3, vI x4, vI x5, vI x6, vI x7, vI x8, vI x9, vI x10, vU, vU, vU, vU] [] mem).trans rfl
set_option maxRecDepth 100000 in
theorem q_As_bestPlace_53 (d : Nat) (r1 : Int) (o2 : Option Int) (x3 : Int) (x4 : Int) (x5 : Int) (x6 : Int) (x7 : Int) (x8 : Int) (x9 : Int) (x10 : Int) (x11 : Int) (x12 : Int) (mem : jMem) : As_bestPlace_53 d r1 o2 x3 x4 x5 x6 x7 x8 x9 x10 x11 x12 mem = if x12 < 8 then if (jand (jshr x9 x12) 1) = 0 then As_bestPlace_75 d r1 o2 x3 x4 x5 x6 x7 x8 x9 x10 x11 x12 1 mem else As_bestPlace_75 d r1 o2 x3 x4 x5 x6 x7 x8 x9 x10 x11 x12 0 mem else As_bestPlace_35 d r1 o2 x3 x4 x5 x6 x7 x8 x9 (jw32 (x10 + 1)) mem := (jfrom_eq jc5 (jSem d) [35, 53, 75, 90] 12 53 [vR 1 (some 0), vR 6 (some r1), vR 5 o2, vI x3, vI x4, vI x5, vI x6, vI x7, vI x8, vI x9, vI x10, vI x11, vI x12, vU, vU] [] mem).trans rfl
set_option maxRecDepth 100000 in
theorem q_As_bestPlace_75 (d : Nat) (r1 : Int) (o2 : Option Int) (x3 : Int) (x4 : Int) (x5 : Int) (x6 : Int) (x7 : Int) (x8 : Int) (x9 : Int) (x10 : Int) (x11 : Int) (x12 : Int) (s0 : Int) (mem : jMem) : As_bestPlace_75 d r1 o2 x3 x4 x5 x6 x7 x8 x9 x10 x11 x12 s0 mem = if s0 = 0 then As_bestPlace_90 d r1 o2 x3 x4 x5 x6 x7 x8 x9 x10 x11 x12 s0 mem else if x11 = 0 then As_bestPlace_90 d r1 o2 x3 x4 x5 x6 x7 x8 x9 x10 x11 x12 s0 mem else As_bestPlace_53 d r1 o2 x3 x4 x5 x6 x7 x8 x9 x10 x11 (jw32 (x12 + 1)) mem := (jfrom_eq jc5 (jSem d) [35, 53, 75, 90] 9 75 [vR 1 (some 0), vR 6 (some r1), vR 5 o2, vI x3, vI x4, vI x5, vI x6, vI x7, vI x8, vI x9, vI x10, vI x11, vI x12, vU, vU] [vI s0] mem).trans rfl
set_option maxRecDepth 100000 in
theorem q_As_bestPlace_90 (d : Nat) (r1 : Int) (o2 : Option Int) (x3 : Int) (x4 : Int) (x5 : Int) (x6 : Int) (x7 : Int) (x8 : Int) (x9 : Int) (x10 : Int) (x11 : Int) (x12 : Int) (x13 : Int) (mem : jMem) : As_bestPlace_90 d r1 o2 x3 x4 x5 x6 x7 x8 x9 x10 x11 x12 x13 mem = jbnd (Wa_copy d 25 r1 mem) fun v1 mem2 => jix 4 x3 (jix 4 x3 (jbnd (Sm_pass d 1 r1 25 o2 x4 (jwI (jwI mem2 40 25 x3 x10) 42 25 x3 x12)) fun v3 mem4 => jbnd (Wa_fullTraps d 25 (jrI mem4 4 r1 6) mem4) fun v5 mem6 => if x6 < (jasI v5) then As_bestPlace_53 d r1 o2 x3 x4 x5 (jasI v5) x10 x12 x9 x10 (jor x11 x13) (jw32 (x12 + 1)) mem6 else As_bestPlace_53 d r1 o2 x3 x4 x5 x6 x7 x8 x9 x10 (jor x11 x13) (jw32 (x12 + 1)) mem6)) := (jfrom_eq jc5 (jSem d) [35, 53, 75, 90] 49 90 [vR 1 (some 0), vR 6 (some r1), vR 5 o2, vI x3, vI x4, vI x5, vI x6, vI x7, vI x8, vI x9, vI x10, vI x11, vI x12, vI x13, vU] [] mem).trans rfl
set_option maxRecDepth 100000 in
theorem q_As_smellsOfFree (d : Nat) (r0 : Int) (mem : jMem) : As_smellsOfFree (d + 1) r0 mem = As_smellsOfFree_4 d r0 0 0 mem := Eq.trans (b := jAtC jc6 (jSem d) 0 [vR 6 (some r0), vU, vU] [] mem) rfl ((jfrom_eq jc6 (jSem d) [4] 5 0 [vR 6 (some r0), vU, vU] [] mem).trans rfl)
set_option maxRecDepth 100000 in
theorem q_As_smellsOfFree_4 (d : Nat) (r0 : Int) (x1 : Int) (x2 : Int) (mem : jMem) : As_smellsOfFree_4 d r0 x1 x2 mem = if x2 < (jrI mem 4 r0 5) then jix 6 x2 (jbnd (E_isFreePlace d (jrI mem 38 r0 x2) mem) fun v1 mem2 => if (jasI v1) = 0 then As_smellsOfFree_4 d r0 x1 (jw32 (x2 + 1)) mem2 else jix 6 x2 (As_smellsOfFree_4 d r0 (jor x1 (jshl 1 (jrI mem2 25 r0 x2))) (jw32 (x2 + 1)) mem2)) else some (vI x1, mem) := (jfrom_eq jc6 (jSem d) [4] 25 4 [vR 6 (some r0), vI x1, vI x2] [] mem).trans rfl
set_option maxRecDepth 100000 in
theorem q_As_poolsBefore (d : Nat) (r1 : Int) (o2 : Option Int) (x3 : Int) (x4 : Int) (x5 : Int) (mem : jMem) : As_poolsBefore (d + 1) r1 o2 x3 x4 x5 mem = As_poolsBefore_6 d r1 o2 x3 x4 x5 0 0 mem := Eq.trans (b := jAtC jc7 (jSem d) 0 [vR 1 (some 0), vR 6 (some r1), vR 5 o2, vI x3, vI x4, vI x5, vU, vU] [] mem) rfl ((jfrom_eq jc7 (jSem d) [6] 5 0 [vR 1 (some 0), vR 6 (some r1), vR 5 o2, vI x3, vI x4, vI x5, vU, vU] [] mem).trans rfl)
set_option maxRecDepth 100000 in
theorem q_As_poolsBefore_6 (d : Nat) (r1 : Int) (o2 : Option Int) (x3 : Int) (x4 : Int) (x5 : Int) (x6 : Int) (x7 : Int) (mem : jMem) : As_poolsBefore_6 d r1 o2 x3 x4 x5 x6 x7 mem = if x7 < (jrI mem 4 r1 1) then jbnd (Wa_copy d 25 r1 mem) fun v1 mem2 => jix 6 x3 (jbnd (Sm_pass d 1 r1 25 o2 x4 (jwI mem2 38 25 x3 x7)) fun v3 mem4 => jix 6 x3 (if (jrI mem4 38 25 x3) = x5 then As_poolsBefore_6 d r1 o2 x3 x4 x5 (jor x6 (jshl 1 x7)) (jw32 (x7 + 1)) mem4 else As_poolsBefore_6 d r1 o2 x3 x4 x5 x6 (jw32 (x7 + 1)) mem4)) else some (vI x6, mem) := (jfrom_eq jc7 (jSem d) [6] 41 6 [vR 1 (some 0), vR 6 (some r1), vR 5 o2, vI x3, vI x4, vI x5, vI x6, vI x7] [] mem).trans rfl
set_option maxRecDepth 100000 in
theorem q_As_leastThroat (d : Nat) (r1 : Int) (o2 : Option Int) (x3 : Int) (x4 : Int) (mem : jMem) : As_leastThroat (d + 1) r1 o2 x3 x4 mem = As_leastThroat_3 d r1 o2 x3 x4 1 mem := Eq.trans (b := jAtC jc8 (jSem d) 0 [vR 1 (some 0), vR 6 (some r1), vR 5 o2, vI x3, vI x4, vU] [] mem) rfl ((jfrom_eq jc8 (jSem d) [3] 3 0 [vR 1 (some 0), vR 6 (some r1), vR 5 o2, vI x3, vI x4, vU] [] mem).trans rfl)
set_option maxRecDepth 100000 in
theorem q_As_leastThroat_3 (d : Nat) (r1 : Int) (o2 : Option Int) (x3 : Int) (x4 : Int) (x5 : Int) (mem : jMem) : As_leastThroat_3 d r1 o2 x3 x4 x5 mem = if 9 < x5 then some (vI (-2), mem) else jbnd (Wa_copy d 25 r1 mem) fun v1 mem2 => jix 4 x3 (jbnd (Sm_pass d 1 r1 25 o2 x4 (jwI mem2 41 25 x3 x5)) fun v3 mem4 => jix 4 x3 (if (jrI mem4 43 25 x3) = (-1) then As_leastThroat_3 d r1 o2 x3 x4 (jw32 (x5 + 1)) mem4 else some (vI x5, mem4))) := (jfrom_eq jc8 (jSem d) [3] 33 3 [vR 1 (some 0), vR 6 (some r1), vR 5 o2, vI x3, vI x4, vI x5] [] mem).trans rfl
set_option maxRecDepth 100000 in
theorem q_As_steadyBaits (d : Nat) (r1 : Int) (o2 : Option Int) (x3 : Int) (x4 : Int) (x5 : Int) (x6 : Int) (mem : jMem) : As_steadyBaits (d + 1) r1 o2 x3 x4 x5 x6 mem = As_steadyBaits_3 d r1 o2 x3 x4 x5 x6 0 mem := Eq.trans (b := jAtC jc9 (jSem d) 0 [vR 1 (some 0), vR 6 (some r1), vR 5 o2, vI x3, vI x4, vI x5, vI x6, vU, vU, vU] [] mem) rfl ((jfrom_eq jc9 (jSem d) [3, 117] 3 0 [vR 1 (some 0), vR 6 (some r1), vR 5 o2, vI x3, vI x4, vI x5, vI x6, vU, vU, vU] [] mem).trans rfl)
set_option maxRecDepth 100000 in
theorem q_As_steadyBaits_3 (d : Nat) (r1 : Int) (o2 : Option Int) (x3 : Int) (x4 : Int) (x5 : Int) (x6 : Int) (x7 : Int) (mem : jMem) : As_steadyBaits_3 d r1 o2 x3 x4 x5 x6 x7 mem = if x7 < 64 then jbnd (Wa_copy d 25 r1 mem) fun v1 mem2 => jix 4 x3 (jix 4 x4 (jbnd (Sm_pass d 1 r1 25 o2 x5 (jwI (jwI mem2 42 25 x3 (jw32 (x7.tdiv 8))) 42 25 x4 (x7.tmod 8))) fun v3 mem4 => jbnd (As_sizeIn d r1 x3 mem4) fun v5 mem6 => jix 64 x7 (jbnd (As_sizeIn d r1 x4 (jwI mem6 14 0 x7 (jasI v5))) fun v7 mem8 => jix 64 x7 (As_steadyBaits_3 d r1 o2 x3 x4 x5 x6 (jw32 (x7 + 1)) (jwI mem8 15 0 x7 (jasI v7)))))) else As_steadyBaits_117 d x6 0 (-1) 63 mem := (jfrom_eq jc9 (jSem d) [3, 117] 54 3 [vR 1 (some 0), vR 6 (some r1), vR 5 o2, vI x3, vI x4, vI x5, vI x6, vI x7, vU, vU] [] mem).trans rfl
set_option maxRecDepth 100000 in
theorem q_As_steadyBaits_117 (d : Nat) (x6 : Int) (x7 : Int) (x8 : Int) (x9 : Int) (mem : jMem) : As_steadyBaits_117 d x6 x7 x8 x9 mem = if x9 < 0 then if x6 = 0 then some (vI x7, mem) else if x8 = (-1) then some (vI (-2), mem) else if x6 = 1 then some (vI (jw32 (x8.tdiv 8)), mem) else some (vI (x8.tmod 8), mem) else jbnd (As_isSteady d x9 mem) fun v1 mem2 => if (jasI v1) = 0 then As_steadyBaits_117 d x6 x7 x8 (jw32 (x9 + (-1))) mem2 else As_steadyBaits_117 d x6 (jw32 (x7 + 1)) x9 (jw32 (x9 + (-1))) mem2 := (jfrom_eq jc9 (jSem d) [3, 117] 15 117 [vR 1 (some 0), vU, vU, vU, vU, vU, vI x6, vI x7, vI x8, vI x9] [] mem).trans rfl
set_option maxRecDepth 100000 in
theorem q_As_sizeIn (d : Nat) (r1 : Int) (x2 : Int) (mem : jMem) : As_sizeIn (d + 1) r1 x2 mem = jix 4 x2 (if (jrI mem 43 25 x2) = (-1) then some (vI 0, mem) else jix 6 (jrI mem 43 25 x2) (some (vI (jrI mem 24 r1 (jrI mem 43 25 x2)), mem))) := Eq.trans (b := jAtC jc10 (jSem d) 0 [vR 1 (some 0), vR 4 (some r1), vI x2, vU] [] mem) rfl ((jfrom_eq jc10 (jSem d) [] 14 0 [vR 1 (some 0), vR 4 (some r1), vI x2, vU] [] mem).trans rfl)
set_option maxRecDepth 100000 in
theorem q_As_isSteady (d : Nat) (x1 : Int) (mem : jMem) : As_isSteady (d + 1) x1 mem = As_isSteady_13 d x1 (jw32 (x1.tdiv 8)) (x1.tmod 8) 0 mem := Eq.trans (b := jAtC jc11 (jSem d) 0 [vR 1 (some 0), vI x1, vU, vU, vU] [] mem) rfl ((jfrom_eq jc11 (jSem d) [13] 11 0 [vR 1 (some 0), vI x1, vU, vU, vU] [] mem).trans rfl)
set_option maxRecDepth 100000 in
theorem q_As_isSteady_13 (d : Nat) (x1 : Int) (x2 : Int) (x3 : Int) (x4 : Int) (mem : jMem) : As_isSteady_13 d x1 x2 x3 x4 mem = if x4 < 8 then jix 64 (jw32 ((jw32 (x4 * 8)) + x3)) (jix 64 x1 (if (jrI mem 14 0 x1) < (jrI mem 14 0 (jw32 ((jw32 (x4 * 8)) + x3))) then some (vI 0, mem) else jix 64 (jw32 ((jw32 (x2 * 8)) + x4)) (jix 64 x1 (if (jrI mem 15 0 x1) < (jrI mem 15 0 (jw32 ((jw32 (x2 * 8)) + x4))) then some (vI 0, mem) else As_isSteady_13 d x1 x2 x3 (jw32 (x4 + 1)) mem)))) else some (vI 1, mem) := (jfrom_eq jc11 (jSem d) [13] 32 13 [vR 1 (some 0), vI x1, vI x2, vI x3, vI x4] [] mem).trans rfl
set_option maxRecDepth 100000 in
theorem q_As_firstRound (d : Nat) (r1 : Int) (o2 : Option Int) (x3 : Int) (mem : jMem) : As_firstRound (d + 1) r1 o2 x3 mem = jbnd (Wa_copy d 25 r1 mem) fun v1 mem2 => As_firstRound_14 d r1 o2 x3 0 mem2 := Eq.trans (b := jAtC jc12 (jSem d) 0 [vR 1 (some 0), vR 6 (some r1), vR 5 o2, vI x3, vU, vU, vU] [] mem) rfl ((jfrom_eq jc12 (jSem d) [14, 81, 95] 8 0 [vR 1 (some 0), vR 6 (some r1), vR 5 o2, vI x3, vU, vU, vU] [] mem).trans rfl)
set_option maxRecDepth 100000 in
theorem q_As_firstRound_14 (d : Nat) (r1 : Int) (o2 : Option Int) (x3 : Int) (x4 : Int) (mem : jMem) : As_firstRound_14 d r1 o2 x3 x4 mem = if 60 < x4 then jbnd (Ri_round d r1 mem) fun v1 mem2 => jbnd (J_max d 1 (jasI v1) mem2) fun v3 mem4 => As_firstRound_81 d r1 x3 (jasI v3) 0 mem4 else jbnd (Wa_places d 25 (jrI mem 4 r1 5) mem) fun v5 mem6 => jix 61 x4 (jbnd (Sm_pass d 1 r1 25 o2 1 (jwJ mem6 13 0 x4 (jasJ v5))) fun v7 mem8 => As_firstRound_14 d r1 o2 x3 (jw32 (x4 + 1)) mem8) := (jfrom_eq jc12 (jSem d) [14, 81, 95] 25 14 [vR 1 (some 0), vR 6 (some r1), vR 5 o2, vI x3, vI x4, vU, vU] [] mem).trans rfl
set_option maxRecDepth 100000 in
theorem q_As_firstRound_81 (d : Nat) (r1 : Int) (x3 : Int) (x4 : Int) (x5 : Int) (mem : jMem) : As_firstRound_81 d r1 x3 x4 x5 mem = if x5 < 60 then As_firstRound_95 d r1 x3 x4 x5 (jw32 (x5 + x4)) mem else some (vI (-2), mem) := (jfrom_eq jc12 (jSem d) [14, 81, 95] 8 81 [vR 1 (some 0), vR 6 (some r1), vU, vI x3, vI x4, vI x5, vU] [] mem).trans rfl
set_option maxRecDepth 100000 in
theorem q_As_firstRound_95 (d : Nat) (r1 : Int) (x3 : Int) (x4 : Int) (x5 : Int) (x6 : Int) (mem : jMem) : As_firstRound_95 d r1 x3 x4 x5 x6 mem = if 60 < x6 then As_firstRound_81 d r1 x3 x4 (jw32 (x5 + 1)) mem else jix 61 x5 (jix 61 x6 (if (jlcmp (jrJ mem 13 0 x5) (jrJ mem 13 0 x6)) = 0 then if x3 = 0 then some (vI (jw32 ((jrI mem 9 r1 0) + x5)), mem) else some (vI (jw32 (x6 - x5)), mem) else As_firstRound_95 d r1 x3 x4 x5 (jw32 (x6 + x4)) mem)) := (jfrom_eq jc12 (jSem d) [14, 81, 95] 22 95 [vR 1 (some 0), vR 6 (some r1), vU, vI x3, vI x4, vI x5, vI x6] [] mem).trans rfl
set_option maxRecDepth 100000 in
theorem q_As_drawnNights (d : Nat) (r1 : Int) (o2 : Option Int) (x3 : Int) (x4 : Int) (x5 : Int) (x6 : Int) (mem : jMem) : As_drawnNights (d + 1) r1 o2 x3 x4 x5 x6 mem = As_drawnNights_15 d r1 o2 x3 x4 x5 x6 0 0 (jwJ mem 1 0 5 (jrI mem 6 r1 4)) := Eq.trans (b := jAtC jc13 (jSem d) 0 [vR 1 (some 0), vR 6 (some r1), vR 5 o2, vI x3, vI x4, vI x5, vI x6, vU, vU, vU, vU] [] mem) rfl ((jfrom_eq jc13 (jSem d) [15, 35, 79] 10 0 [vR 1 (some 0), vR 6 (some r1), vR 5 o2, vI x3, vI x4, vI x5, vI x6, vU, vU, vU, vU] [] mem).trans rfl)
set_option maxRecDepth 100000 in
theorem q_As_drawnNights_15 (d : Nat) (r1 : Int) (o2 : Option Int) (x3 : Int) (x4 : Int) (x5 : Int) (x6 : Int) (x7 : Int) (x8 : Int) (mem : jMem) : As_drawnNights_15 d r1 o2 x3 x4 x5 x6 x7 x8 mem = if x8 < x3 then jbnd (Wa_copy d 25 r1 mem) fun v1 mem2 => As_drawnNights_35 d r1 o2 x3 x4 x5 x6 x7 x8 0 mem2 else some (vI x7, mem) := (jfrom_eq jc13 (jSem d) [15, 35, 79] 11 15 [vR 1 (some 0), vR 6 (some r1), vR 5 o2, vI x3, vI x4, vI x5, vI x6, vI x7, vI x8, vU, vU] [] mem).trans rfl
set_option maxRecDepth 100000 in
theorem q_As_drawnNights_35 (d : Nat) (r1 : Int) (o2 : Option Int) (x3 : Int) (x4 : Int) (x5 : Int) (x6 : Int) (x7 : Int) (x8 : Int) (x9 : Int) (mem : jMem) : As_drawnNights_35 d r1 o2 x3 x4 x5 x6 x7 x8 x9 mem = if x9 < x4 then jbnd (Ri_lightOf d r1 (jrI mem 9 25 0) mem) fun v1 mem2 => jbnd (As_draw d mem2) fun v3 mem4 => if ((jasI v3).tmod 100) < x5 then jbnd (As_draw d mem4) fun v5 mem6 => As_drawnNights_79 d r1 o2 x3 x4 x5 x6 x7 x8 x9 ((jasI v5).tmod 10) mem6 else As_drawnNights_79 d r1 o2 x3 x4 x5 x6 x7 x8 x9 (jasI v1) mem4 else if x6 = 0 then jbnd (Wa_fullTraps d 25 (jrI mem 4 r1 6) mem) fun v7 mem8 => As_drawnNights_15 d r1 o2 x3 x4 x5 x6 (jw32 (x7 + (jasI v7))) (jw32 (x8 + 1)) mem8 else jbnd (Wa_bitsAt d 25 (-1) (jrI mem 4 r1 5) mem) fun v9 mem10 => jbnd (J_bitCount d (jasI v9) mem10) fun v11 mem12 => As_drawnNights_15 d r1 o2 x3 x4 x5 x6 (jw32 (x7 + (jasI v11))) (jw32 (x8 + 1)) mem12 := (jfrom_eq jc13 (jSem d) [15, 35, 79] 22 35 [vR 1 (some 0), vR 6 (some r1), vR 5 o2, vI x3, vI x4, vI x5, vI x6, vI x7, vI x8, vI x9, vU] [] mem).trans rfl
set_option maxRecDepth 100000 in
theorem q_As_drawnNights_79 (d : Nat) (r1 : Int) (o2 : Option Int) (x3 : Int) (x4 : Int) (x5 : Int) (x6 : Int) (x7 : Int) (x8 : Int) (x9 : Int) (x10 : Int) (mem : jMem) : As_drawnNights_79 d r1 o2 x3 x4 x5 x6 x7 x8 x9 x10 mem = jbnd (Sm_step d 1 r1 25 o2 x10 mem) fun v1 mem2 => As_drawnNights_35 d r1 o2 x3 x4 x5 x6 x7 x8 (jw32 (x9 + 1)) mem2 := (jfrom_eq jc13 (jSem d) [15, 35, 79] 13 79 [vR 1 (some 0), vR 6 (some r1), vR 5 o2, vI x3, vI x4, vI x5, vI x6, vI x7, vI x8, vI x9, vI x10] [] mem).trans rfl
set_option maxRecDepth 100000 in
theorem q_As_draw (d : Nat) (mem : jMem) : As_draw (d + 1) mem = some (vI (jw32 (jw64 (((jw64 ((jw64 ((jrJ mem 1 0 5) * 1103515245)) + 12345)).tmod 2147483648).tdiv 65536))), (jwJ mem 1 0 5 ((jw64 ((jw64 ((jrJ mem 1 0 5) * 1103515245)) + 12345)).tmod 2147483648))) := Eq.trans (b := jAtC jc14 (jSem d) 0 [vR 1 (some 0)] [] mem) rfl ((jfrom_eq jc14 (jSem d) [] 16 0 [vR 1 (some 0)] [] mem).trans rfl)
set_option maxRecDepth 100000 in
theorem q_Gu_owners (d : Nat) (r1 : Int) (o2 : Option Int) (x3 : Int) (mem : jMem) : Gu_owners (d + 1) r1 o2 x3 mem = Gu_owners_6 d r1 o2 x3 0 0 mem := Eq.trans (b := jAtC jc15 (jSem d) 0 [vR 2 (some 0), vR 6 (some r1), vR 5 o2, vI x3, vU, vU] [] mem) rfl ((jfrom_eq jc15 (jSem d) [6] 5 0 [vR 2 (some 0), vR 6 (some r1), vR 5 o2, vI x3, vU, vU] [] mem).trans rfl)
set_option maxRecDepth 100000 in
theorem q_Gu_owners_6 (d : Nat) (r1 : Int) (o2 : Option Int) (x3 : Int) (x4 : Int) (x5 : Int) (mem : jMem) : Gu_owners_6 d r1 o2 x3 x4 x5 mem = if x5 < (jrI mem 4 r1 4) then jbnd (Wa_begin d 26 r1 mem) fun v1 mem2 => jix 6 x3 (jbnd (Gu_fits d r1 o2 0 0 (jwI mem2 39 26 x3 x5)) fun v3 mem4 => if (jasI v3) = 0 then Gu_owners_6 d r1 o2 x3 x4 (jw32 (x5 + 1)) mem4 else Gu_owners_6 d r1 o2 x3 (jor x4 (jshl 1 x5)) (jw32 (x5 + 1)) mem4) else some (vI x4, mem) := (jfrom_eq jc15 (jSem d) [6] 32 6 [vR 2 (some 0), vR 6 (some r1), vR 5 o2, vI x3, vI x4, vI x5] [] mem).trans rfl
set_option maxRecDepth 100000 in
theorem q_Gu_sieve (d : Nat) (r1 : Int) (x3 : Int) (x4 : Int) (mem : jMem) : Gu_sieve (d + 1) r1 x3 x4 mem = Gu_sieve_6 d r1 x3 x4 0 (-1) mem := Eq.trans (b := jAtC jc16 (jSem d) 0 [vR 2 (some 0), vR 6 (some r1), vR 44 (some 0), vI x3, vI x4, vU, vU] [] mem) rfl ((jfrom_eq jc16 (jSem d) [6, 46] 5 0 [vR 2 (some 0), vR 6 (some r1), vR 44 (some 0), vI x3, vI x4, vU, vU] [] mem).trans rfl)
set_option maxRecDepth 100000 in
theorem q_Gu_sieve_6 (d : Nat) (r1 : Int) (x3 : Int) (x4 : Int) (x5 : Int) (x6 : Int) (mem : jMem) : Gu_sieve_6 d r1 x3 x4 x5 x6 mem = if x6 < x3 then if x6 < 6 then jbnd (Wa_begin d 26 r1 mem) fun v1 mem2 => if x6 = (-1) then Gu_sieve_46 d r1 x3 x4 x5 x6 r1 none mem2 else jix 6 x6 (Gu_sieve_46 d r1 x3 x4 x5 x6 r1 (some x6) mem2) else some (vI x5, mem) else some (vI x5, mem) := (jfrom_eq jc16 (jSem d) [6, 46] 20 6 [vR 2 (some 0), vR 6 (some r1), vR 44 (some 0), vI x3, vI x4, vI x5, vI x6] [] mem).trans rfl
set_option maxRecDepth 100000 in
theorem q_Gu_sieve_46 (d : Nat) (r1 : Int) (x3 : Int) (x4 : Int) (x5 : Int) (x6 : Int) (r_1 : Int) (q2 : Option Int) (mem : jMem) : Gu_sieve_46 d r1 x3 x4 x5 x6 r_1 q2 mem = jbnd (Gu_fits d r_1 q2 x4 x5 mem) fun v1 mem2 => if (jasI v1) = 0 then Gu_sieve_6 d r1 x3 x4 x5 (jw32 (x6 + 1)) mem2 else jix 7 x5 (Gu_sieve_6 d r1 x3 x4 (jw32 (x5 + 1)) (jw32 (x6 + 1)) (jwI mem2 16 0 x5 x6)) := (jfrom_eq jc16 (jSem d) [6, 46] 13 46 [vR 2 (some 0), vR 6 (some r1), vR 44 (some 0), vI x3, vI x4, vI x5, vI x6] [vR 5 q2, vR 6 (some r_1), vR 2 (some 0)] mem).trans rfl
set_option maxRecDepth 100000 in
theorem q_Gu_firstFitting (d : Nat) (mem : jMem) : Gu_firstFitting (d + 1) mem = some (vI (jrI mem 16 0 0), mem) := Eq.trans (b := jAtC jc17 (jSem d) 0 [vR 2 (some 0)] [] mem) rfl ((jfrom_eq jc17 (jSem d) [] 5 0 [vR 2 (some 0)] [] mem).trans rfl)
set_option maxRecDepth 100000 in
theorem q_Gu_fits (d : Nat) (r1 : Int) (o2 : Option Int) (x3 : Int) (x4 : Int) (mem : jMem) : Gu_fits (d + 1) r1 o2 x3 x4 mem = jbnd (No_lastNight d r1 mem) fun v1 mem2 => jbnd (J_max d x3 (jasI v1) mem2) fun v3 mem4 => Gu_fits_16 d r1 o2 x3 x4 (jasI v3) 0 mem4 := Eq.trans (b := jAtC jc18 (jSem d) 0 [vR 2 (some 0), vR 6 (some r1), vR 5 o2, vI x3, vI x4, vU, vU, vU] [] mem) rfl ((jfrom_eq jc18 (jSem d) [16, 48, 87] 9 0 [vR 2 (some 0), vR 6 (some r1), vR 5 o2, vI x3, vI x4, vU, vU, vU] [] mem).trans rfl)
set_option maxRecDepth 100000 in
theorem q_Gu_fits_16 (d : Nat) (r1 : Int) (o2 : Option Int) (x3 : Int) (x4 : Int) (x5 : Int) (x6 : Int) (mem : jMem) : Gu_fits_16 d r1 o2 x3 x4 x5 x6 mem = if x5 < x6 then some (vI 1, mem) else jbnd (No_hold d r1 26 mem) fun v1 mem2 => if (jasI v1) = 0 then some (vI 0, mem2) else if x6 = x3 then Gu_fits_48 d r1 o2 x3 x4 x5 x6 0 mem2 else Gu_fits_87 d r1 o2 x3 x4 x5 x6 mem2 := (jfrom_eq jc18 (jSem d) [16, 48, 87] 15 16 [vR 2 (some 0), vR 6 (some r1), vR 5 o2, vI x3, vI x4, vI x5, vI x6, vU] [] mem).trans rfl
set_option maxRecDepth 100000 in
theorem q_Gu_fits_48 (d : Nat) (r1 : Int) (o2 : Option Int) (x3 : Int) (x4 : Int) (x5 : Int) (x6 : Int) (x7 : Int) (mem : jMem) : Gu_fits_48 d r1 o2 x3 x4 x5 x6 x7 mem = if x7 < 6 then jix 6 x7 (jbnd (No_poolOrNone d (jrI mem 38 26 x7) mem) fun v1 mem2 => jix 42 (jw32 ((jw32 (x4 * 6)) + x7)) (Gu_fits_48 d r1 o2 x3 x4 x5 x6 (jw32 (x7 + 1)) (jwI mem2 17 0 (jw32 ((jw32 (x4 * 6)) + x7)) (jasI v1)))) else Gu_fits_87 d r1 o2 x3 x4 x5 x6 mem := (jfrom_eq jc18 (jSem d) [16, 48, 87] 20 48 [vR 2 (some 0), vR 6 (some r1), vR 5 o2, vI x3, vI x4, vI x5, vI x6, vI x7] [] mem).trans rfl
set_option maxRecDepth 100000 in
theorem q_Gu_fits_87 (d : Nat) (r1 : Int) (o2 : Option Int) (x3 : Int) (x4 : Int) (x5 : Int) (x6 : Int) (mem : jMem) : Gu_fits_87 d r1 o2 x3 x4 x5 x6 mem = if x6 < x5 then jbnd (Sm_pass d 2 r1 26 o2 1 mem) fun v1 mem2 => Gu_fits_16 d r1 o2 x3 x4 x5 (jw32 (x6 + 1)) mem2 else Gu_fits_16 d r1 o2 x3 x4 x5 (jw32 (x6 + 1)) mem := (jfrom_eq jc18 (jSem d) [16, 48, 87] 15 87 [vR 2 (some 0), vR 6 (some r1), vR 5 o2, vI x3, vI x4, vI x5, vI x6, vU] [] mem).trans rfl
set_option maxRecDepth 100000 in
theorem q_Gu_bestParting (d : Nat) (x1 : Int) (x2 : Int) (x3 : Int) (mem : jMem) : Gu_bestParting (d + 1) x1 x2 x3 mem = Gu_bestParting_11 d x1 x2 x3 (-1) (jw32 (x1 + 1)) 0 mem := Eq.trans (b := jAtC jc19 (jSem d) 0 [vR 2 (some 0), vI x1, vI x2, vI x3, vU, vU, vU, vU] [] mem) rfl ((jfrom_eq jc19 (jSem d) [11] 9 0 [vR 2 (some 0), vI x1, vI x2, vI x3, vU, vU, vU, vU] [] mem).trans rfl)
set_option maxRecDepth 100000 in
theorem q_Gu_bestParting_11 (d : Nat) (x1 : Int) (x2 : Int) (x3 : Int) (x4 : Int) (x5 : Int) (x6 : Int) (mem : jMem) : Gu_bestParting_11 d x1 x2 x3 x4 x5 x6 mem = if x6 < x2 then jbnd (Gu_mostAlike d x1 x6 mem) fun v1 mem2 => if (jasI v1) < x5 then Gu_bestParting_11 d x1 x2 x3 x6 (jasI v1) (jw32 (x6 + 1)) mem2 else Gu_bestParting_11 d x1 x2 x3 x4 x5 (jw32 (x6 + 1)) mem2 else if x3 = 0 then some (vI x4, mem) else some (vI x5, mem) := (jfrom_eq jc19 (jSem d) [11] 18 11 [vR 2 (some 0), vI x1, vI x2, vI x3, vI x4, vI x5, vI x6, vU] [] mem).trans rfl
set_option maxRecDepth 100000 in
theorem q_Gu_mostAlike (d : Nat) (x1 : Int) (x2 : Int) (mem : jMem) : Gu_mostAlike (d + 1) x1 x2 mem = Gu_mostAlike_5 d x1 x2 0 0 mem := Eq.trans (b := jAtC jc20 (jSem d) 0 [vR 2 (some 0), vI x1, vI x2, vU, vU, vU, vU] [] mem) rfl ((jfrom_eq jc20 (jSem d) [5, 17] 5 0 [vR 2 (some 0), vI x1, vI x2, vU, vU, vU, vU] [] mem).trans rfl)
set_option maxRecDepth 100000 in
theorem q_Gu_mostAlike_5 (d : Nat) (x1 : Int) (x2 : Int) (x3 : Int) (x4 : Int) (mem : jMem) : Gu_mostAlike_5 d x1 x2 x3 x4 mem = if x4 < x1 then Gu_mostAlike_17 d x1 x2 x3 x4 0 0 mem else some (vI x3, mem) := (jfrom_eq jc20 (jSem d) [5, 17] 8 5 [vR 2 (some 0), vI x1, vI x2, vI x3, vI x4, vU, vU] [] mem).trans rfl
set_option maxRecDepth 100000 in
theorem q_Gu_mostAlike_17 (d : Nat) (x1 : Int) (x2 : Int) (x3 : Int) (x4 : Int) (x5 : Int) (x6 : Int) (mem : jMem) : Gu_mostAlike_17 d x1 x2 x3 x4 x5 x6 mem = if x6 < x1 then jix 42 (jw32 ((jw32 (x4 * 6)) + x2)) (jix 42 (jw32 ((jw32 (x6 * 6)) + x2)) (if (jrI mem 17 0 (jw32 ((jw32 (x4 * 6)) + x2))) = (jrI mem 17 0 (jw32 ((jw32 (x6 * 6)) + x2))) then Gu_mostAlike_17 d x1 x2 x3 x4 (jw32 (x5 + 1)) (jw32 (x6 + 1)) mem else Gu_mostAlike_17 d x1 x2 x3 x4 x5 (jw32 (x6 + 1)) mem)) else jbnd (J_max d x3 x5 mem) fun v1 mem2 => Gu_mostAlike_5 d x1 x2 (jasI v1) (jw32 (x4 + 1)) mem2 := (jfrom_eq jc20 (jSem d) [5, 17] 24 17 [vR 2 (some 0), vI x1, vI x2, vI x3, vI x4, vI x5, vI x6] [] mem).trans rfl
set_option maxRecDepth 100000 in
theorem q_Ha_strayed (d : Nat) (r0 : Int) (mem : jMem) : Ha_strayed (d + 1) r0 mem = Ha_strayed_4 d r0 0 0 mem := Eq.trans (b := jAtC jc21 (jSem d) 0 [vR 6 (some r0), vU, vU, vU] [] mem) rfl ((jfrom_eq jc21 (jSem d) [4] 5 0 [vR 6 (some r0), vU, vU, vU] [] mem).trans rfl)
set_option maxRecDepth 100000 in
theorem q_Ha_strayed_4 (d : Nat) (r0 : Int) (x1 : Int) (x2 : Int) (mem : jMem) : Ha_strayed_4 d r0 x1 x2 mem = if x2 < (jrI mem 4 r0 5) then jix 6 x2 (if (jrI mem 38 r0 x2) < 30 then Ha_strayed_4 d r0 x1 (jw32 (x2 + 1)) mem else jix 6 x2 (if (jrI mem 38 r0 x2) = (jw32 (30 + (jrI mem 26 r0 x2))) then Ha_strayed_4 d r0 x1 (jw32 (x2 + 1)) mem else Ha_strayed_4 d r0 (jor x1 (jshl 1 x2)) (jw32 (x2 + 1)) mem)) else some (vI x1, mem) := (jfrom_eq jc21 (jSem d) [4] 32 4 [vR 6 (some r0), vI x1, vI x2, vU] [] mem).trans rfl
set_option maxRecDepth 100000 in
theorem q_Ha_ringed (d : Nat) (r0 : Int) (x1 : Int) (mem : jMem) : Ha_ringed (d + 1) r0 x1 mem = Ha_ringed_7 d r0 x1 0 0 1 mem := Eq.trans (b := jAtC jc22 (jSem d) 0 [vR 6 (some r0), vI x1, vU, vU, vU] [] mem) rfl ((jfrom_eq jc22 (jSem d) [7] 7 0 [vR 6 (some r0), vI x1, vU, vU, vU] [] mem).trans rfl)
set_option maxRecDepth 100000 in
theorem q_Ha_ringed_7 (d : Nat) (r0 : Int) (x1 : Int) (x2 : Int) (x3 : Int) (x4 : Int) (mem : jMem) : Ha_ringed_7 d r0 x1 x2 x3 x4 mem = if x4 < (jshl 1 (jrI mem 4 r0 4)) then jbnd (J_bitCount d x4 mem) fun v1 mem2 => if (jasI v1) < 2 then Ha_ringed_7 d r0 x1 x2 x3 (jw32 (x4 + 1)) mem2 else jbnd (Ha_isRing d r0 x4 mem2) fun v3 mem4 => if (jasI v3) = 0 then Ha_ringed_7 d r0 x1 x2 x3 (jw32 (x4 + 1)) mem4 else jbnd (J_bitCount d x4 mem4) fun v5 mem6 => jbnd (J_bitCount d x3 mem6) fun v7 mem8 => if (jasI v7) < (jasI v5) then Ha_ringed_7 d r0 x1 (jw32 (x2 + 1)) x4 (jw32 (x4 + 1)) mem8 else Ha_ringed_7 d r0 x1 (jw32 (x2 + 1)) x3 (jw32 (x4 + 1)) mem8 else if x1 = 0 then some (vI x2, mem) else some (vI x3, mem) := (jfrom_eq jc22 (jSem d) [7] 26 7 [vR 6 (some r0), vI x1, vI x2, vI x3, vI x4] [] mem).trans rfl
set_option maxRecDepth 100000 in
theorem q_Ha_isRing (d : Nat) (r0 : Int) (x1 : Int) (mem : jMem) : Ha_isRing (d + 1) r0 x1 mem = jbnd (Ha_strayed d r0 mem) fun v1 mem2 => Ha_isRing_13 d r0 x1 0 0 (jasI v1) 0 mem2 := Eq.trans (b := jAtC jc23 (jSem d) 0 [vR 6 (some r0), vI x1, vU, vU, vU, vU, vU, vU] [] mem) rfl ((jfrom_eq jc23 (jSem d) [13] 10 0 [vR 6 (some r0), vI x1, vU, vU, vU, vU, vU, vU] [] mem).trans rfl)
set_option maxRecDepth 100000 in
theorem q_Ha_isRing_13 (d : Nat) (r0 : Int) (x1 : Int) (x2 : Int) (x3 : Int) (x4 : Int) (x5 : Int) (mem : jMem) : Ha_isRing_13 d r0 x1 x2 x3 x4 x5 mem = if x5 < (jrI mem 4 r0 5) then if (jand (jshr x4 x5) 1) = 0 then Ha_isRing_13 d r0 x1 x2 x3 x4 (jw32 (x5 + 1)) mem else jix 6 x5 (jix 6 x5 (if (jand x1 (jshl 1 (jw32 ((jrI mem 38 r0 x5) - 30)))) = 0 then Ha_isRing_13 d r0 x1 x2 x3 x4 (jw32 (x5 + 1)) mem else if (jand x1 (jshl 1 (jrI mem 26 r0 x5))) = 0 then Ha_isRing_13 d r0 x1 x2 x3 x4 (jw32 (x5 + 1)) mem else Ha_isRing_13 d r0 x1 (jor x2 (jshl 1 (jw32 ((jrI mem 38 r0 x5) - 30)))) (jor x3 (jshl 1 (jrI mem 26 r0 x5))) x4 (jw32 (x5 + 1)) mem)) else if x2 = x1 then if x3 = x1 then some (vI 1, mem) else some (vI 0, mem) else some (vI 0, mem) := (jfrom_eq jc23 (jSem d) [13] 48 13 [vR 6 (some r0), vI x1, vI x2, vI x3, vI x4, vI x5, vU, vU] [] mem).trans rfl
set_option maxRecDepth 100000 in
theorem q_Ha_share (d : Nat) (r0 : Int) (x1 : Int) (x2 : Int) (mem : jMem) : Ha_share (d + 1) r0 x1 x2 mem = Ha_share_8 d r0 x1 x2 0 0 0 mem := Eq.trans (b := jAtC jc24 (jSem d) 0 [vR 6 (some r0), vI x1, vI x2, vU, vU, vU, vU, vU, vU] [] mem) rfl ((jfrom_eq jc24 (jSem d) [8, 58] 7 0 [vR 6 (some r0), vI x1, vI x2, vU, vU, vU, vU, vU, vU] [] mem).trans rfl)
set_option maxRecDepth 100000 in
theorem q_Ha_share_8 (d : Nat) (r0 : Int) (x1 : Int) (x2 : Int) (x3 : Int) (x4 : Int) (x5 : Int) (mem : jMem) : Ha_share_8 d r0 x1 x2 x3 x4 x5 mem = if x5 < (jrI mem 4 r0 4) then jbnd (Ha_sizesOf d r0 x5 mem) fun v1 mem2 => Ha_share_8 d r0 x1 x2 (jw32 (x3 + (jasI v1))) x4 (jw32 (x5 + 1)) mem2 else if x3 = 0 then some (vI 0, mem) else jbnd (Ha_sizesOf d r0 x2 mem) fun v3 mem4 => jnz x3 (Ha_share_58 d r0 x1 x2 x3 x4 ((jw32 (x1 * (jasI v3))).tmod x3) 0 0 mem4) := (jfrom_eq jc24 (jSem d) [8, 58] 20 8 [vR 6 (some r0), vI x1, vI x2, vI x3, vI x4, vI x5, vU, vU, vU] [] mem).trans rfl
set_option maxRecDepth 100000 in
theorem q_Ha_share_58 (d : Nat) (r0 : Int) (x1 : Int) (x2 : Int) (x3 : Int) (x4 : Int) (x5 : Int) (x6 : Int) (x7 : Int) (mem : jMem) : Ha_share_58 d r0 x1 x2 x3 x4 x5 x6 x7 mem = if x7 < (jrI mem 4 r0 4) then jbnd (Ha_sizesOf d r0 x7 mem) fun v1 mem2 => jnz x3 (jnz x3 (if x5 < ((jw32 (x1 * (jasI v1))).tmod x3) then Ha_share_58 d r0 x1 x2 x3 (jw32 (x4 + (jw32 ((jw32 (x1 * (jasI v1))).tdiv x3)))) x5 (jw32 (x6 + 1)) (jw32 (x7 + 1)) mem2 else jnz x3 (if ((jw32 (x1 * (jasI v1))).tmod x3) = x5 then if x7 < x2 then Ha_share_58 d r0 x1 x2 x3 (jw32 (x4 + (jw32 ((jw32 (x1 * (jasI v1))).tdiv x3)))) x5 (jw32 (x6 + 1)) (jw32 (x7 + 1)) mem2 else Ha_share_58 d r0 x1 x2 x3 (jw32 (x4 + (jw32 ((jw32 (x1 * (jasI v1))).tdiv x3)))) x5 x6 (jw32 (x7 + 1)) mem2 else Ha_share_58 d r0 x1 x2 x3 (jw32 (x4 + (jw32 ((jw32 (x1 * (jasI v1))).tdiv x3)))) x5 x6 (jw32 (x7 + 1)) mem2))) else jbnd (Ha_sizesOf d r0 x2 mem) fun v3 mem4 => jnz x3 (if x6 < (jw32 (x1 - x4)) then some (vI (jw32 ((jw32 ((jw32 (x1 * (jasI v3))).tdiv x3)) + 1)), mem4) else some (vI (jw32 ((jw32 ((jw32 (x1 * (jasI v3))).tdiv x3)) + 0)), mem4)) := (jfrom_eq jc24 (jSem d) [8, 58] 34 58 [vR 6 (some r0), vI x1, vI x2, vI x3, vI x4, vI x5, vI x6, vI x7, vU] [] mem).trans rfl
set_option maxRecDepth 100000 in
theorem q_Ha_sizesOf (d : Nat) (r0 : Int) (x1 : Int) (mem : jMem) : Ha_sizesOf (d + 1) r0 x1 mem = Ha_sizesOf_4 d r0 x1 0 0 mem := Eq.trans (b := jAtC jc25 (jSem d) 0 [vR 6 (some r0), vI x1, vU, vU] [] mem) rfl ((jfrom_eq jc25 (jSem d) [4] 5 0 [vR 6 (some r0), vI x1, vU, vU] [] mem).trans rfl)
set_option maxRecDepth 100000 in
theorem q_Ha_sizesOf_4 (d : Nat) (r0 : Int) (x1 : Int) (x2 : Int) (x3 : Int) (mem : jMem) : Ha_sizesOf_4 d r0 x1 x2 x3 mem = if x3 < (jrI mem 4 r0 5) then jix 6 x3 (if (jrI mem 38 r0 x3) = (jw32 (30 + x1)) then jix 6 x3 (Ha_sizesOf_4 d r0 x1 (jw32 (x2 + (jrI mem 24 r0 x3))) (jw32 (x3 + 1)) mem) else Ha_sizesOf_4 d r0 x1 x2 (jw32 (x3 + 1)) mem) else some (vI x2, mem) := (jfrom_eq jc25 (jSem d) [4] 25 4 [vR 6 (some r0), vI x1, vI x2, vI x3] [] mem).trans rfl
set_option maxRecDepth 100000 in
theorem q_No_add (d : Nat) (r0 : Int) (x1 : Int) (x2 : Int) (x3 : Int) (mem : jMem) : No_add (d + 1) r0 x1 x2 x3 mem = if (jrI mem 3 r0 0) < 10 then jix 10 (jrI mem 3 r0 0) (jix 10 (jrI mem 3 r0 0) (jix 10 (jrI mem 3 r0 0) (some (vI 1, (jwI (jwI (jwI (jwI mem 18 r0 (jrI mem 3 r0 0) x1) 19 r0 (jrI mem 3 r0 0) x2) 20 r0 (jrI mem 3 r0 0) x3) 3 r0 0 (jw32 ((jrI mem 3 r0 0) + 1))))))) else some (vI 0, mem) := Eq.trans (b := jAtC jc26 (jSem d) 0 [vR 3 (some r0), vI x1, vI x2, vI x3] [] mem) rfl ((jfrom_eq jc26 (jSem d) [] 30 0 [vR 3 (some r0), vI x1, vI x2, vI x3] [] mem).trans rfl)
set_option maxRecDepth 100000 in
theorem q_No_copy (d : Nat) (r0 : Int) (r1 : Int) (mem : jMem) : No_copy (d + 1) r0 r1 mem = some (vU, (jwC (jwC (jwC (jwI mem 3 r0 0 (jrI mem 3 r1 0)) 18 r1 0 18 r0 0 10) 19 r1 0 19 r0 0 10) 20 r1 0 20 r0 0 10)) := Eq.trans (b := jAtC jc27 (jSem d) 0 [vR 3 (some r0), vR 3 (some r1)] [] mem) rfl ((jfrom_eq jc27 (jSem d) [] 29 0 [vR 3 (some r0), vR 3 (some r1)] [] mem).trans rfl)
set_option maxRecDepth 100000 in
theorem q_No_lastNight (d : Nat) (r0 : Int) (mem : jMem) : No_lastNight (d + 1) r0 mem = No_lastNight_4 d r0 0 0 mem := Eq.trans (b := jAtC jc28 (jSem d) 0 [vR 3 (some r0), vU, vU] [] mem) rfl ((jfrom_eq jc28 (jSem d) [4] 5 0 [vR 3 (some r0), vU, vU] [] mem).trans rfl)
set_option maxRecDepth 100000 in
theorem q_No_lastNight_4 (d : Nat) (r0 : Int) (x1 : Int) (x2 : Int) (mem : jMem) : No_lastNight_4 d r0 x1 x2 mem = if x2 < (jrI mem 3 r0 0) then if x2 < 10 then jix 10 x2 (jbnd (J_max d x1 (jrI mem 18 r0 x2) mem) fun v1 mem2 => No_lastNight_4 d r0 (jasI v1) (jw32 (x2 + 1)) mem2) else some (vI x1, mem) else some (vI x1, mem) := (jfrom_eq jc28 (jSem d) [4] 17 4 [vR 3 (some r0), vI x1, vI x2] [] mem).trans rfl
set_option maxRecDepth 100000 in
theorem q_No_hold (d : Nat) (r0 : Int) (r1 : Int) (mem : jMem) : No_hold (d + 1) r0 r1 mem = No_hold_2 d r0 r1 0 mem := Eq.trans (b := jAtC jc29 (jSem d) 0 [vR 3 (some r0), vR 9 (some r1), vU] [] mem) rfl ((jfrom_eq jc29 (jSem d) [2] 3 0 [vR 3 (some r0), vR 9 (some r1), vU] [] mem).trans rfl)
set_option maxRecDepth 100000 in
theorem q_No_hold_2 (d : Nat) (r0 : Int) (r1 : Int) (x2 : Int) (mem : jMem) : No_hold_2 d r0 r1 x2 mem = if x2 < (jrI mem 3 r0 0) then if x2 < 10 then jix 10 x2 (if (jrI mem 18 r0 x2) = (jrI mem 9 r1 0) then jix 10 x2 (jix 6 (jrI mem 19 r0 x2) (jbnd (No_poolOrNone d (jrI mem 38 r1 (jrI mem 19 r0 x2)) mem) fun v1 mem2 => jix 10 x2 (if (jasI v1) = (jrI mem2 20 r0 x2) then No_hold_2 d r0 r1 (jw32 (x2 + 1)) mem2 else some (vI 0, mem2)))) else No_hold_2 d r0 r1 (jw32 (x2 + 1)) mem) else some (vI 1, mem) else some (vI 1, mem) := (jfrom_eq jc29 (jSem d) [2] 30 2 [vR 3 (some r0), vR 9 (some r1), vI x2] [] mem).trans rfl
set_option maxRecDepth 100000 in
theorem q_No_poolOrNone (d : Nat) (x0 : Int) (mem : jMem) : No_poolOrNone (d + 1) x0 mem = jbnd (E_isFreePlace d x0 mem) fun v1 mem2 => if (jasI v1) = 0 then some (vI (-1), mem2) else some (vI x0, mem2) := Eq.trans (b := jAtC jc30 (jSem d) 0 [vI x0] [] mem) rfl ((jfrom_eq jc30 (jSem d) [] 6 0 [vI x0] [] mem).trans rfl)
set_option maxRecDepth 100000 in
theorem q_Ri_copy (d : Nat) (r0 : Int) (r1 : Int) (mem : jMem) : Ri_copy (d + 1) r0 r1 mem = jbo (jrI mem 4 r1 0) (some (vU, (jwC (jwC (jwC (jwC (jwC (jwC (jwC (jwC (jwC (jwC (jwI (jwI (jwI (jwI (jwI (jwI (jwI mem 4 r0 0 (jrI mem 4 r1 0)) 4 r0 1 (jrI (jwI mem 4 r0 0 (jrI mem 4 r1 0)) 4 r1 1)) 4 r0 2 (jrI (jwI (jwI mem 4 r0 0 (jrI mem 4 r1 0)) 4 r0 1 (jrI (jwI mem 4 r0 0 (jrI mem 4 r1 0)) 4 r1 1)) 4 r1 2)) 4 r0 3 (jrI (jwI (jwI (jwI mem 4 r0 0 (jrI mem 4 r1 0)) 4 r0 1 (jrI (jwI mem 4 r0 0 (jrI mem 4 r1 0)) 4 r1 1)) 4 r0 2 (jrI (jwI (jwI mem 4 r0 0 (jrI mem 4 r1 0)) 4 r0 1 (jrI (jwI mem 4 r0 0 (jrI mem 4 r1 0)) 4 r1 1)) 4 r1 2)) 4 r1 3)) 4 r0 4 (jrI (jwI (jwI (jwI (jwI mem 4 r0 0 (jrI mem 4 r1 0)) 4 r0 1 (jrI (jwI mem 4 r0 0 (jrI mem 4 r1 0)) 4 r1 1)) 4 r0 2 (jrI (jwI (jwI mem 4 r0 0 (jrI mem 4 r1 0)) 4 r0 1 (jrI (jwI mem 4 r0 0 (jrI mem 4 r1 0)) 4 r1 1)) 4 r1 2)) 4 r0 3 (jrI (jwI (jwI (jwI mem 4 r0 0 (jrI mem 4 r1 0)) 4 r0 1 (jrI (jwI mem 4 r0 0 (jrI mem 4 r1 0)) 4 r1 1)) 4 r0 2 (jrI (jwI (jwI mem 4 r0 0 (jrI mem 4 r1 0)) 4 r0 1 (jrI (jwI mem 4 r0 0 (jrI mem 4 r1 0)) 4 r1 1)) 4 r1 2)) 4 r1 3)) 4 r1 4)) 4 r0 5 (jrI (jwI (jwI (jwI (jwI (jwI mem 4 r0 0 (jrI mem 4 r1 0)) 4 r0 1 (jrI (jwI mem 4 r0 0 (jrI mem 4 r1 0)) 4 r1 1)) 4 r0 2 (jrI (jwI (jwI mem 4 r0 0 (jrI mem 4 r1 0)) 4 r0 1 (jrI (jwI mem 4 r0 0 (jrI mem 4 r1 0)) 4 r1 1)) 4 r1 2)) 4 r0 3 (jrI (jwI (jwI (jwI mem 4 r0 0 (jrI mem 4 r1 0)) 4 r0 1 (jrI (jwI mem 4 r0 0 (jrI mem 4 r1 0)) 4 r1 1)) 4 r0 2 (jrI (jwI (jwI mem 4 r0 0 (jrI mem 4 r1 0)) 4 r0 1 (jrI (jwI mem 4 r0 0 (jrI mem 4 r1 0)) 4 r1 1)) 4 r1 2)) 4 r1 3)) 4 r0 4 (jrI (jwI (jwI (jwI (jwI mem 4 r0 0 (jrI mem 4 r1 0)) 4 r0 1 (jrI (jwI mem 4 r0 0 (jrI mem 4 r1 0)) 4 r1 1)) 4 r0 2 (jrI (jwI (jwI mem 4 r0 0 (jrI mem 4 r1 0)) 4 r0 1 (jrI (jwI mem 4 r0 0 (jrI mem 4 r1 0)) 4 r1 1)) 4 r1 2)) 4 r0 3 (jrI (jwI (jwI (jwI mem 4 r0 0 (jrI mem 4 r1 0)) 4 r0 1 (jrI (jwI mem 4 r0 0 (jrI mem 4 r1 0)) 4 r1 1)) 4 r0 2 (jrI (jwI (jwI mem 4 r0 0 (jrI mem 4 r1 0)) 4 r0 1 (jrI (jwI mem 4 r0 0 (jrI mem 4 r1 0)) 4 r1 1)) 4 r1 2)) 4 r1 3)) 4 r1 4)) 4 r1 5)) 4 r0 6 (jrI (jwI (jwI (jwI (jwI (jwI (jwI mem 4 r0 0 (jrI mem 4 r1 0)) 4 r0 1 (jrI (jwI mem 4 r0 0 (jrI mem 4 r1 0)) 4 r1 1)) 4 r0 2 (jrI (jwI (jwI mem 4 r0 0 (jrI mem 4 r1 0)) 4 r0 1 (jrI (jwI mem 4 r0 0 (jrI mem 4 r1 0)) 4 r1 1)) 4 r1 2)) 4 r0 3 (jrI (jwI (jwI (jwI mem 4 r0 0 (jrI mem 4 r1 0)) 4 r0 1 (jrI (jwI mem 4 r0 0 (jrI mem 4 r1 0)) 4 r1 1)) 4 r0 2 (jrI (jwI (jwI mem 4 r0 0 (jrI mem 4 r1 0)) 4 r0 1 (jrI (jwI mem 4 r0 0 (jrI mem 4 r1 0)) 4 r1 1)) 4 r1 2)) 4 r1 3)) 4 r0 4 (jrI (jwI (jwI (jwI (jwI mem 4 r0 0 (jrI mem 4 r1 0)) 4 r0 1 (jrI (jwI mem 4 r0 0 (jrI mem 4 r1 0)) 4 r1 1)) 4 r0 2 (jrI (jwI (jwI mem 4 r0 0 (jrI mem 4 r1 0)) 4 r0 1 (jrI (jwI mem 4 r0 0 (jrI mem 4 r1 0)) 4 r1 1)) 4 r1 2)) 4 r0 3 (jrI (jwI (jwI (jwI mem 4 r0 0 (jrI mem 4 r1 0)) 4 r0 1 (jrI (jwI mem 4 r0 0 (jrI mem 4 r1 0)) 4 r1 1)) 4 r0 2 (jrI (jwI (jwI mem 4 r0 0 (jrI mem 4 r1 0)) 4 r0 1 (jrI (jwI mem 4 r0 0 (jrI mem 4 r1 0)) 4 r1 1)) 4 r1 2)) 4 r1 3)) 4 r1 4)) 4 r0 5 (jrI (jwI (jwI (jwI (jwI (jwI mem 4 r0 0 (jrI mem 4 r1 0)) 4 r0 1 (jrI (jwI mem 4 r0 0 (jrI mem 4 r1 0)) 4 r1 1)) 4 r0 2 (jrI (jwI (jwI mem 4 r0 0 (jrI mem 4 r1 0)) 4 r0 1 (jrI (jwI mem 4 r0 0 (jrI mem 4 r1 0)) 4 r1 1)) 4 r1 2)) 4 r0 3 (jrI (jwI (jwI (jwI mem 4 r0 0 (jrI mem 4 r1 0)) 4 r0 1 (jrI (jwI mem 4 r0 0 (jrI mem 4 r1 0)) 4 r1 1)) 4 r0 2 (jrI (jwI (jwI mem 4 r0 0 (jrI mem 4 r1 0)) 4 r0 1 (jrI (jwI mem 4 r0 0 (jrI mem 4 r1 0)) 4 r1 1)) 4 r1 2)) 4 r1 3)) 4 r0 4 (jrI (jwI (jwI (jwI (jwI mem 4 r0 0 (jrI mem 4 r1 0)) 4 r0 1 (jrI (jwI mem 4 r0 0 (jrI mem 4 r1 0)) 4 r1 1)) 4 r0 2 (jrI (jwI (jwI mem 4 r0 0 (jrI mem 4 r1 0)) 4 r0 1 (jrI (jwI mem 4 r0 0 (jrI mem 4 r1 0)) 4 r1 1)) 4 r1 2)) 4 r0 3 (jrI (jwI (jwI (jwI mem 4 r0 0 (jrI mem 4 r1 0)) 4 r0 1 (jrI (jwI mem 4 r0 0 (jrI mem 4 r1 0)) 4 r1 1)) 4 r0 2 (jrI (jwI (jwI mem 4 r0 0 (jrI mem 4 r1 0)) 4 r0 1 (jrI (jwI mem 4 r0 0 (jrI mem 4 r1 0)) 4 r1 1)) 4 r1 2)) 4 r1 3)) 4 r1 4)) 4 r1 5)) 4 r1 6)) 21 r1 0 21 r0 0 12) 22 r1 0 22 r0 0 4) 23 r1 0 23 r0 0 6) 24 r1 0 24 r0 0 6) 25 r1 0 25 r0 0 6) 26 r1 0 26 r0 0 6) 27 r1 0 27 r0 0 4) 28 r1 0 28 r0 0 4) 29 r1 0 29 r0 0 4) 30 r1 0 30 r0 0 4))) := Eq.trans (b := jAtC jc31 (jSem d) 0 [vR 4 (some r0), vR 4 (some r1)] [] mem) rfl ((jfrom_eq jc31 (jSem d) [] 109 0 [vR 4 (some r0), vR 4 (some r1)] [] mem).trans rfl)
set_option maxRecDepth 100000 in
theorem q_Ri_round (d : Nat) (r0 : Int) (mem : jMem) : Ri_round (d + 1) r0 mem = if (jrI mem 4 r0 0) = 0 then some (vI 0, mem) else jbnd (J_max d 1 (jrI mem 4 r0 3) mem) fun v1 mem2 => some (vI (jasI v1), mem2) := Eq.trans (b := jAtC jc32 (jSem d) 0 [vR 4 (some r0)] [] mem) rfl ((jfrom_eq jc32 (jSem d) [] 9 0 [vR 4 (some r0)] [] mem).trans rfl)
set_option maxRecDepth 100000 in
theorem q_Ri_lightOf (d : Nat) (r0 : Int) (x1 : Int) (mem : jMem) : Ri_lightOf (d + 1) r0 x1 mem = if 0 < (jrI mem 4 r0 3) then if x1 < 0 then some (vI 0, mem) else jnz (jrI mem 4 r0 3) (jix 12 (x1.tmod (jrI mem 4 r0 3)) (some (vI (jrI mem 21 r0 (x1.tmod (jrI mem 4 r0 3))), mem))) else some (vI 0, mem) := Eq.trans (b := jAtC jc33 (jSem d) 0 [vR 4 (some r0), vI x1] [] mem) rfl ((jfrom_eq jc33 (jSem d) [] 13 0 [vR 4 (some r0), vI x1] [] mem).trans rfl)
set_option maxRecDepth 100000 in
theorem q_Ri_read (d : Nat) (r0 : Int) (mem : jMem) : Ri_read (d + 1) r0 mem = jbnd (Ta_rewind d (jwI (jwI (jwI (jwI (jwI mem 4 r0 0 0) 4 r0 3 0) 4 r0 4 0) 4 r0 5 0) 4 r0 6 0)) fun v1 mem2 => Ri_read_31 d r0 0 mem2 := Eq.trans (b := jAtC jc34 (jSem d) 0 [vR 4 (some r0), vR 8 (some 0), vU, vU, vU] [] mem) rfl ((jfrom_eq jc34 (jSem d) [31, 72, 91] 20 0 [vR 4 (some r0), vR 8 (some 0), vU, vU, vU] [] mem).trans rfl)
set_option maxRecDepth 100000 in
theorem q_Ri_read_31 (d : Nat) (r0 : Int) (x2 : Int) (mem : jMem) : Ri_read_31 d r0 x2 mem = if 40 < x2 then some (vI 0, mem) else jbnd (Ta_skip d mem) fun v1 mem2 => jbnd (Ta_find d 0 mem2) fun v3 mem4 => if (jasI v3) = (-1) then jbnd (Ta_blame d (jrI mem4 8 0 2) 0 mem4) fun v5 mem6 => jbo (jasI v5) (some (vI (jasI v5), mem6)) else if x2 = 0 then Ri_read_72 d r0 x2 (jasI v3) 1 mem4 else Ri_read_72 d r0 x2 (jasI v3) 0 mem4 := (jfrom_eq jc34 (jSem d) [31, 72, 91] 18 31 [vR 4 (some r0), vR 8 (some 0), vI x2, vU, vU] [] mem).trans rfl
set_option maxRecDepth 100000 in
theorem q_Ri_read_72 (d : Nat) (r0 : Int) (x2 : Int) (x3 : Int) (s0 : Int) (mem : jMem) : Ri_read_72 d r0 x2 x3 s0 mem = if x2 = 40 then jbnd (Ta_blame d (jrI mem 8 0 2) 4 mem) fun v1 mem2 => jbo (jasI v1) (some (vI (jasI v1), mem2)) else if x3 = 0 then Ri_read_91 d r0 x2 x3 s0 1 mem else Ri_read_91 d r0 x2 x3 s0 0 mem := (jfrom_eq jc34 (jSem d) [31, 72, 91] 10 72 [vR 4 (some r0), vR 8 (some 0), vI x2, vI x3, vU] [vI s0] mem).trans rfl
set_option maxRecDepth 100000 in
theorem q_Ri_read_91 (d : Nat) (r0 : Int) (x2 : Int) (x3 : Int) (s0 : Int) (s1 : Int) (mem : jMem) : Ri_read_91 d r0 x2 x3 s0 s1 mem = if s0 = s1 then jbnd (Ri_hasNoRoom d r0 x3 mem) fun v1 mem2 => if (jasI v1) = 0 then jbnd (Ta_passWord d mem2) fun v3 mem4 => jbnd (Ri_readClause d r0 x3 mem4) fun v5 mem6 => if (jrI mem6 8 0 3) = 0 then jbnd (Ta_over d mem6) fun v7 mem8 => if (jasI v7) = 0 then jbnd (Ta_took d 59 mem8) fun v9 mem10 => if (jasI v9) = 0 then jbnd (Ta_blame d (jrI mem10 8 0 2) 0 mem10) fun v11 mem12 => jbo (jasI v11) (some (vI (jasI v11), mem12)) else Ri_read_31 d r0 (jw32 (x2 + 1)) mem10 else some (vI 1, (jwI mem8 4 r0 0 1)) else some (vI 0, mem6) else jbnd (Ta_blame d (jrI mem2 8 0 2) 4 mem2) fun v13 mem14 => jbo (jasI v13) (some (vI (jasI v13), mem14)) else jbnd (Ta_blame d (jrI mem 8 0 2) 4 mem) fun v15 mem16 => jbo (jasI v15) (some (vI (jasI v15), mem16)) := (jfrom_eq jc34 (jSem d) [31, 72, 91] 27 91 [vR 4 (some r0), vR 8 (some 0), vI x2, vI x3, vU] [vI s1, vI s0] mem).trans rfl
set_option maxRecDepth 100000 in
theorem q_Ri_hasNoRoom (d : Nat) (r0 : Int) (x1 : Int) (mem : jMem) : Ri_hasNoRoom (d + 1) r0 x1 mem = if x1 = 1 then if (jrI mem 4 r0 3) < 12 then some (vI 0, mem) else some (vI 1, mem) else if x1 = 2 then if (jrI mem 4 r0 4) < 4 then some (vI 0, mem) else some (vI 1, mem) else if x1 = 3 then if (jrI mem 4 r0 5) < 6 then some (vI 0, mem) else some (vI 1, mem) else if x1 = 4 then if (jrI mem 4 r0 6) < 4 then some (vI 0, mem) else some (vI 1, mem) else some (vI 0, mem) := Eq.trans (b := jAtC jc35 (jSem d) 0 [vR 4 (some r0), vI x1] [] mem) rfl ((jfrom_eq jc35 (jSem d) [] 9 0 [vR 4 (some r0), vI x1] [] mem).trans rfl)
set_option maxRecDepth 100000 in
theorem q_Ri_readClause (d : Nat) (r0 : Int) (x2 : Int) (mem : jMem) : Ri_readClause (d + 1) r0 x2 mem = if x2 = 0 then jbnd (Ta_number d 2 12 mem) fun v1 mem2 => jbnd (Ta_number d 1 9 (jwI mem2 4 r0 1 (jasI v1))) fun v3 mem4 => some (vU, (jwI mem4 4 r0 2 (jasI v3))) else if x2 = 1 then jbnd (Ta_number d 0 9 mem) fun v5 mem6 => jix 12 (jrI mem 4 r0 3) (some (vU, (jwI (jwI mem6 21 r0 (jrI mem 4 r0 3) (jasI v5)) 4 r0 3 (jw32 ((jrI mem6 4 r0 3) + 1))))) else if x2 = 2 then jbnd (Ta_number d 1 9 mem) fun v7 mem8 => jix 4 (jrI mem 4 r0 4) (some (vU, (jwI (jwI mem8 22 r0 (jrI mem 4 r0 4) (jasI v7)) 4 r0 4 (jw32 ((jrI mem8 4 r0 4) + 1))))) else if x2 = 3 then jbnd (Ta_number d 0 (jw32 ((jrI mem 4 r0 1) - 1)) mem) fun v9 mem10 => jix 6 (jrI mem 4 r0 5) (jbnd (Ta_number d 1 9 (jwI mem10 23 r0 (jrI mem 4 r0 5) (jasI v9))) fun v11 mem12 => jix 6 (jrI mem10 4 r0 5) (jbnd (Ta_number d 0 7 (jwI mem12 24 r0 (jrI mem10 4 r0 5) (jasI v11))) fun v13 mem14 => jix 6 (jrI mem12 4 r0 5) (jbnd (Ta_number d 0 (jw32 ((jrI mem14 4 r0 4) - 1)) (jwI mem14 25 r0 (jrI mem12 4 r0 5) (jasI v13))) fun v15 mem16 => jix 6 (jrI mem14 4 r0 5) (some (vU, (jwI (jwI mem16 26 r0 (jrI mem14 4 r0 5) (jasI v15)) 4 r0 5 (jw32 ((jrI mem16 4 r0 5) + 1)))))))) else jbnd (Ta_number d 0 (jw32 ((jrI mem 4 r0 1) - 1)) mem) fun v17 mem18 => jix 4 (jrI mem 4 r0 6) (jbnd (Ta_number d 1 9 (jwI mem18 27 r0 (jrI mem 4 r0 6) (jasI v17))) fun v19 mem20 => jix 4 (jrI mem18 4 r0 6) (jbnd (Ta_number d 0 7 (jwI mem20 28 r0 (jrI mem18 4 r0 6) (jasI v19))) fun v21 mem22 => jix 4 (jrI mem20 4 r0 6) (jbnd (Ta_number d 0 (jw32 ((jrI mem22 4 r0 4) - 1)) (jwI mem22 29 r0 (jrI mem20 4 r0 6) (jasI v21))) fun v23 mem24 => jix 4 (jrI mem22 4 r0 6) (some (vU, (jwI (jwI mem24 30 r0 (jrI mem22 4 r0 6) (jasI v23)) 4 r0 6 (jw32 ((jrI mem24 4 r0 6) + 1)))))))) := Eq.trans (b := jAtC jc36 (jSem d) 0 [vR 4 (some r0), vR 8 (some 0), vI x2] [] mem) rfl ((jfrom_eq jc36 (jSem d) [] 52 0 [vR 4 (some r0), vR 8 (some 0), vI x2] [] mem).trans rfl)
set_option maxRecDepth 100000 in
theorem q_Ru_read (d : Nat) (r0 : Int) (mem : jMem) : Ru_read (d + 1) r0 mem = jbnd (Ta_rewind d (jwI (jwI (jwI mem 5 r0 2 0) 5 r0 3 0) 5 r0 4 0)) fun v1 mem2 => Ru_read_21 d r0 0 mem2 := Eq.trans (b := jAtC jc37 (jSem d) 0 [vR 5 (some r0), vR 8 (some 0), vU, vU] [] mem) rfl ((jfrom_eq jc37 (jSem d) [21, 115] 14 0 [vR 5 (some r0), vR 8 (some 0), vU, vU] [] mem).trans rfl)
set_option maxRecDepth 100000 in
theorem q_Ru_read_21 (d : Nat) (r0 : Int) (x2 : Int) (mem : jMem) : Ru_read_21 d r0 x2 mem = if 12 < x2 then some (vI 0, mem) else jbnd (Ta_skip d mem) fun v1 mem2 => jbnd (Ta_find d 1 mem2) fun v3 mem4 => if (jasI v3) = (-1) then jbnd (Ta_blame d (jrI mem4 8 0 2) 0 mem4) fun v5 mem6 => jbo (jasI v5) (some (vI (jasI v5), mem6)) else if x2 = 12 then jbnd (Ta_blame d (jrI mem4 8 0 2) 4 mem4) fun v7 mem8 => jbo (jasI v7) (some (vI (jasI v7), mem8)) else jbnd (Ta_passWord d mem4) fun v9 mem10 => jbnd (Ru_readSum d r0 mem10) fun v11 mem12 => if (jasI v11) = 0 then some (vI 0, mem12) else jbnd (Ta_tookWord d 3 mem12) fun v13 mem14 => if (jasI v13) = 0 then if (jasI v13) = 0 then Ru_read_115 d r0 x2 (some r0) 8 mem14 else Ru_read_115 d r0 x2 (some r0) 9 mem14 else jbnd (Ru_readTest d r0 0 mem14) fun v15 mem16 => if (jasI v15) = 0 then some (vI 0, mem16) else if (jasI v13) = 0 then Ru_read_115 d r0 x2 (some r0) 8 mem16 else Ru_read_115 d r0 x2 (some r0) 9 mem16 := (jfrom_eq jc37 (jSem d) [21, 115] 36 21 [vR 5 (some r0), vR 8 (some 0), vI x2, vU] [] mem).trans rfl
set_option maxRecDepth 100000 in
theorem q_Ru_read_115 (d : Nat) (r0 : Int) (x2 : Int) (q0 : Option Int) (s1 : Int) (mem : jMem) : Ru_read_115 d r0 x2 q0 s1 mem = jsm q0 fun _ => jbnd (jSem d 38 [vR 5 q0, vI s1, vI 0] mem) fun v1 mem2 => jbnd (Ta_over d mem2) fun v3 mem4 => if (jasI v3) = 0 then jbnd (Ta_took d 59 mem4) fun v5 mem6 => if (jasI v5) = 0 then jbnd (Ta_blame d (jrI mem6 8 0 2) 0 mem6) fun v7 mem8 => jbo (jasI v7) (some (vI (jasI v7), mem8)) else Ru_read_21 d r0 (jw32 (x2 + 1)) mem6 else some (vI 1, mem4) := (jfrom_eq jc37 (jSem d) [21, 115] 15 115 [vR 5 (some r0), vR 8 (some 0), vI x2, vU] [vI s1, vR 5 q0] mem).trans rfl
set_option maxRecDepth 100000 in
theorem q_Ru_emit (d : Nat) (r0 : Int) (x1 : Int) (x2 : Int) (mem : jMem) : Ru_emit (d + 1) r0 x1 x2 mem = if (jrI mem 5 r0 2) < 400 then jix 400 (jrI mem 5 r0 2) (jix 400 (jrI mem 5 r0 2) (some (vU, (jwI (jwI (jwI mem 31 r0 (jrI mem 5 r0 2) x1) 32 r0 (jrI mem 5 r0 2) x2) 5 r0 2 (jw32 ((jrI mem 5 r0 2) + 1)))))) else some (vU, mem) := Eq.trans (b := jAtC jc38 (jSem d) 0 [vR 5 (some r0), vI x1, vI x2] [] mem) rfl ((jfrom_eq jc38 (jSem d) [] 25 0 [vR 5 (some r0), vI x1, vI x2] [] mem).trans rfl)
set_option maxRecDepth 100000 in
theorem q_Ru_readTest (d : Nat) (r0 : Int) (x2 : Int) (mem : jMem) : Ru_readTest (d + 1) r0 x2 mem = jbnd (Ru_readPart d r0 x2 mem) fun v1 mem2 => Ru_readTest_10 d r0 x2 (jasI v1) 0 mem2 := Eq.trans (b := jAtC jc39 (jSem d) 0 [vR 5 (some r0), vR 8 (some 0), vI x2, vU, vU] [] mem) rfl ((jfrom_eq jc39 (jSem d) [10] 8 0 [vR 5 (some r0), vR 8 (some 0), vI x2, vU, vU] [] mem).trans rfl)
set_option maxRecDepth 100000 in
theorem q_Ru_readTest_10 (d : Nat) (r0 : Int) (x2 : Int) (x3 : Int) (x4 : Int) (mem : jMem) : Ru_readTest_10 d r0 x2 x3 x4 mem = if 60 < x4 then jbo x3 (some (vI x3, mem)) else if x3 = 0 then jbo x3 (some (vI x3, mem)) else jbnd (Ta_tookWord d 6 mem) fun v1 mem2 => if (jasI v1) = 0 then jbo x3 (some (vI x3, mem2)) else jbnd (Ru_readPart d r0 x2 mem2) fun v3 mem4 => jbnd (Ru_emit d r0 5 0 mem4) fun v5 mem6 => Ru_readTest_10 d r0 x2 (jasI v3) (jw32 (x4 + 1)) mem6 := (jfrom_eq jc39 (jSem d) [10] 21 10 [vR 5 (some r0), vR 8 (some 0), vI x2, vI x3, vI x4] [] mem).trans rfl
set_option maxRecDepth 100000 in
theorem q_Ru_readPart (d : Nat) (r0 : Int) (x2 : Int) (mem : jMem) : Ru_readPart (d + 1) r0 x2 mem = jbnd (Ru_readFact d r0 x2 mem) fun v1 mem2 => Ru_readPart_10 d r0 x2 (jasI v1) 0 mem2 := Eq.trans (b := jAtC jc40 (jSem d) 0 [vR 5 (some r0), vR 8 (some 0), vI x2, vU, vU] [] mem) rfl ((jfrom_eq jc40 (jSem d) [10] 8 0 [vR 5 (some r0), vR 8 (some 0), vI x2, vU, vU] [] mem).trans rfl)
set_option maxRecDepth 100000 in
theorem q_Ru_readPart_10 (d : Nat) (r0 : Int) (x2 : Int) (x3 : Int) (x4 : Int) (mem : jMem) : Ru_readPart_10 d r0 x2 x3 x4 mem = if 60 < x4 then jbo x3 (some (vI x3, mem)) else if x3 = 0 then jbo x3 (some (vI x3, mem)) else jbnd (Ta_tookWord d 5 mem) fun v1 mem2 => if (jasI v1) = 0 then jbo x3 (some (vI x3, mem2)) else jbnd (Ru_readFact d r0 x2 mem2) fun v3 mem4 => jbnd (Ru_emit d r0 4 0 mem4) fun v5 mem6 => Ru_readPart_10 d r0 x2 (jasI v3) (jw32 (x4 + 1)) mem6 := (jfrom_eq jc40 (jSem d) [10] 21 10 [vR 5 (some r0), vR 8 (some 0), vI x2, vI x3, vI x4] [] mem).trans rfl
set_option maxRecDepth 100000 in
theorem q_Ru_readFact (d : Nat) (r0 : Int) (x2 : Int) (mem : jMem) : Ru_readFact (d + 1) r0 x2 mem = jbnd (Ta_skip d mem) fun v1 mem2 => jbnd (Ta_find d 4 mem2) fun v3 mem4 => if (jasI v3) = (-1) then Ru_readFact_19 d r0 x2 0 mem4 else Ru_readFact_19 d r0 x2 1 mem4 := Eq.trans (b := jAtC jc41 (jSem d) 0 [vR 5 (some r0), vR 8 (some 0), vI x2, vU, vU] [] mem) rfl ((jfrom_eq jc41 (jSem d) [19, 39] 10 0 [vR 5 (some r0), vR 8 (some 0), vI x2, vU, vU] [] mem).trans rfl)
set_option maxRecDepth 100000 in
theorem q_Ru_readFact_19 (d : Nat) (r0 : Int) (x2 : Int) (s0 : Int) (mem : jMem) : Ru_readFact_19 d r0 x2 s0 mem = if s0 = 0 then jbnd (Ta_peek d mem) fun v1 mem2 => if (jasI v1) = 91 then Ru_readFact_39 d r0 x2 s0 mem2 else jbnd (Ru_readComparison d r0 mem2) fun v3 mem4 => jbo (jasI v3) (some (vI (jasI v3), mem4)) else Ru_readFact_39 d r0 x2 s0 mem := (jfrom_eq jc41 (jSem d) [19, 39] 11 19 [vR 5 (some r0), vR 8 (some 0), vI x2, vU, vU] [vI s0] mem).trans rfl
set_option maxRecDepth 100000 in
theorem q_Ru_readFact_39 (d : Nat) (r0 : Int) (x2 : Int) (x3 : Int) (mem : jMem) : Ru_readFact_39 d r0 x2 x3 mem = if x2 < 10 then if x3 = 0 then jbnd (Ta_took d 91 mem) fun v1 mem2 => jbnd (Ru_readTest d r0 (jw32 (x2 + 1)) mem2) fun v3 mem4 => if (jasI v3) = 0 then some (vI 0, mem4) else jbnd (Ta_skip d mem4) fun v5 mem6 => jbnd (Ta_took d 93 mem6) fun v7 mem8 => if (jasI v7) = 0 then jbnd (Ta_blame d (jrI mem8 8 0 2) 0 mem8) fun v9 mem10 => if (jasI v9) = 0 then some (vI 0, mem10) else some (vI 1, mem10) else some (vI 1, mem8) else jbnd (Ta_passWord d mem) fun v11 mem12 => jbnd (Ru_readFact d r0 (jw32 (x2 + 1)) mem12) fun v13 mem14 => jbnd (Ru_emit d r0 3 0 mem14) fun v15 mem16 => jbo (jasI v13) (some (vI (jasI v13), mem16)) else jbnd (Ta_blame d (jrI mem 8 0 2) 2 mem) fun v17 mem18 => jbo (jasI v17) (some (vI (jasI v17), mem18)) := (jfrom_eq jc41 (jSem d) [19, 39] 31 39 [vR 5 (some r0), vR 8 (some 0), vI x2, vI x3, vU] [] mem).trans rfl
set_option maxRecDepth 100000 in
theorem q_Ru_readComparison (d : Nat) (r0 : Int) (mem : jMem) : Ru_readComparison (d + 1) r0 mem = jbnd (Ru_readSum d r0 mem) fun v1 mem2 => if (jasI v1) = 0 then some (vI 0, mem2) else jbnd (Ta_skip d mem2) fun v3 mem4 => jbnd (Ru_readSign d mem4) fun v5 mem6 => if (jasI v5) = (-1) then jbnd (Ta_blame d (jrI mem4 8 0 2) 0 mem6) fun v7 mem8 => jbo (jasI v7) (some (vI (jasI v7), mem8)) else jbnd (Ru_hasUnit d r0 (jrI mem4 8 0 2) mem6) fun v9 mem10 => if (jasI v9) = 0 then some (vI 0, mem10) else jbnd (Ru_readSum d r0 mem10) fun v11 mem12 => if (jasI v11) = 0 then some (vI 0, mem12) else jbnd (Ru_emit d r0 (jasI v5) 0 mem12) fun v13 mem14 => some (vI 1, mem14) := Eq.trans (b := jAtC jc42 (jSem d) 0 [vR 5 (some r0), vR 8 (some 0), vU, vU] [] mem) rfl ((jfrom_eq jc42 (jSem d) [] 30 0 [vR 5 (some r0), vR 8 (some 0), vU, vU] [] mem).trans rfl)
set_option maxRecDepth 100000 in
theorem q_Ru_readSign (d : Nat) (mem : jMem) : Ru_readSign (d + 1) mem = jbnd (Ta_took d 61 mem) fun v1 mem2 => if (jasI v1) = 0 then jbnd (Ta_took d 60 mem2) fun v3 mem4 => if (jasI v3) = 0 then jbnd (Ta_took d 62 mem4) fun v5 mem6 => if (jasI v5) = 0 then some (vI (-1), mem6) else jbnd (Ta_took d 61 mem6) fun v7 mem8 => if (jasI v7) = 0 then some (vI 62, mem8) else some (vI 2, mem8) else jbnd (Ta_took d 61 mem4) fun v9 mem10 => if (jasI v9) = 0 then some (vI 60, mem10) else some (vI 1, mem10) else some (vI 61, mem2) := Eq.trans (b := jAtC jc43 (jSem d) 0 [vR 8 (some 0)] [] mem) rfl ((jfrom_eq jc43 (jSem d) [] 19 0 [vR 8 (some 0)] [] mem).trans rfl)
set_option maxRecDepth 100000 in
theorem q_Ru_readSum (d : Nat) (r0 : Int) (mem : jMem) : Ru_readSum (d + 1) r0 mem = jbnd (Ru_readValue d r0 mem) fun v1 mem2 => Ru_readSum_11 d r0 0 (jasI v1) 0 mem2 := Eq.trans (b := jAtC jc44 (jSem d) 0 [vR 5 (some r0), vR 8 (some 0), vU, vU, vU, vU] [] mem) rfl ((jfrom_eq jc44 (jSem d) [11, 53, 90] 9 0 [vR 5 (some r0), vR 8 (some 0), vU, vU, vU, vU] [] mem).trans rfl)
set_option maxRecDepth 100000 in
theorem q_Ru_readSum_11 (d : Nat) (r0 : Int) (x2 : Int) (x3 : Int) (x4 : Int) (mem : jMem) : Ru_readSum_11 d r0 x2 x3 x4 mem = if 60 < x4 then jbnd (Ru_emitSign d r0 x2 mem) fun v1 mem2 => jbo x3 (some (vI x3, mem2)) else if x3 = 0 then jbnd (Ru_emitSign d r0 x2 mem) fun v3 mem4 => jbo x3 (some (vI x3, mem4)) else jbnd (Ta_skip d mem) fun v5 mem6 => jbnd (Ta_peek d mem6) fun v7 mem8 => if (jasI v7) = 42 then Ru_readSum_53 d r0 x2 x4 (jasI v7) mem8 else if (jasI v7) = 47 then Ru_readSum_53 d r0 x2 x4 (jasI v7) mem8 else if (jasI v7) = 37 then Ru_readSum_53 d r0 x2 x4 (jasI v7) mem8 else if (jasI v7) = 43 then Ru_readSum_90 d r0 x2 x4 (jasI v7) mem8 else if (jasI v7) = 45 then Ru_readSum_90 d r0 x2 x4 (jasI v7) mem8 else jbnd (Ru_emitSign d r0 x2 mem8) fun v9 mem10 => jbo x3 (some (vI x3, mem10)) := (jfrom_eq jc44 (jSem d) [11, 53, 90] 30 11 [vR 5 (some r0), vR 8 (some 0), vI x2, vI x3, vI x4, vU] [] mem).trans rfl
set_option maxRecDepth 100000 in
theorem q_Ru_readSum_53 (d : Nat) (r0 : Int) (x2 : Int) (x4 : Int) (x5 : Int) (mem : jMem) : Ru_readSum_53 d r0 x2 x4 x5 mem = jbnd (Ta_took d x5 mem) fun v1 mem2 => jbnd (Ru_readValue d r0 mem2) fun v3 mem4 => jbnd (Ru_emit d r0 x5 0 mem4) fun v5 mem6 => Ru_readSum_11 d r0 x2 (jasI v3) (jw32 (x4 + 1)) mem6 := (jfrom_eq jc44 (jSem d) [11, 53, 90] 16 53 [vR 5 (some r0), vR 8 (some 0), vI x2, vU, vI x4, vI x5] [] mem).trans rfl
set_option maxRecDepth 100000 in
theorem q_Ru_readSum_90 (d : Nat) (r0 : Int) (x2 : Int) (x4 : Int) (x5 : Int) (mem : jMem) : Ru_readSum_90 d r0 x2 x4 x5 mem = jbnd (Ru_emitSign d r0 x2 mem) fun v1 mem2 => jbnd (Ta_took d x5 mem2) fun v3 mem4 => jbnd (Ru_readValue d r0 mem4) fun v5 mem6 => Ru_readSum_11 d r0 x5 (jasI v5) (jw32 (x4 + 1)) mem6 := (jfrom_eq jc44 (jSem d) [11, 53, 90] 16 90 [vR 5 (some r0), vR 8 (some 0), vI x2, vU, vI x4, vI x5] [] mem).trans rfl
set_option maxRecDepth 100000 in
theorem q_Ru_emitSign (d : Nat) (r0 : Int) (x1 : Int) (mem : jMem) : Ru_emitSign (d + 1) r0 x1 mem = if x1 = 0 then some (vU, mem) else jbnd (Ru_emit d r0 x1 0 mem) fun v1 mem2 => some (vU, mem2) := Eq.trans (b := jAtC jc45 (jSem d) 0 [vR 5 (some r0), vI x1] [] mem) rfl ((jfrom_eq jc45 (jSem d) [] 7 0 [vR 5 (some r0), vI x1] [] mem).trans rfl)
set_option maxRecDepth 100000 in
theorem q_Ru_readValue (d : Nat) (r0 : Int) (mem : jMem) : Ru_readValue (d + 1) r0 mem = jbnd (Ta_skip d mem) fun v1 mem2 => jbnd (Ta_onDigit d mem2) fun v3 mem4 => if (jasI v3) = 0 then jbnd (Ta_find d 2 mem4) fun v5 mem6 => if (jasI v5) = (-1) then jbnd (Ta_blame d (jrI mem2 8 0 2) 0 mem6) fun v7 mem8 => jbo (jasI v7) (some (vI (jasI v7), mem8)) else jbnd (Ta_passWord d mem6) fun v9 mem10 => if (jrI mem10 5 r0 3) = 0 then if (jasI v5) = 8 then Ru_readValue_105 d r0 (jrI mem2 8 0 2) (jasI v5) (some r0) 1 mem10 else if (jasI v5) = 9 then Ru_readValue_105 d r0 (jrI mem2 8 0 2) (jasI v5) (some r0) 1 mem10 else if (jasI v5) = 11 then Ru_readValue_105 d r0 (jrI mem2 8 0 2) (jasI v5) (some r0) 1 mem10 else Ru_readValue_105 d r0 (jrI mem2 8 0 2) (jasI v5) (some r0) 0 mem10 else Ru_readValue_105 d r0 (jrI mem2 8 0 2) (jasI v5) (some r0) 1 mem10 else jbnd (Ta_number d 0 99999 mem4) fun v11 mem12 => jbnd (Ru_emit d r0 6 (jasI v11) mem12) fun v13 mem14 => if (jrI mem14 8 0 3) = 0 then jbnd (Ru_hasUnit d r0 (jrI mem2 8 0 2) mem14) fun v15 mem16 => if (jasI v15) = 0 then some (vI 0, mem16) else some (vI 1, mem16) else some (vI 0, mem14) := Eq.trans (b := jAtC jc46 (jSem d) 0 [vR 5 (some r0), vR 8 (some 0), vU, vU] [] mem) rfl ((jfrom_eq jc46 (jSem d) [105] 33 0 [vR 5 (some r0), vR 8 (some 0), vU, vU] [] mem).trans rfl)
set_option maxRecDepth 100000 in
theorem q_Ru_readValue_105 (d : Nat) (r0 : Int) (x2 : Int) (x3 : Int) (q0 : Option Int) (s1 : Int) (mem : jMem) : Ru_readValue_105 d r0 x2 x3 q0 s1 mem = jsm q0 fun i1 => jbo s1 (jbnd (Ru_emit d r0 7 x3 (jwI mem 5 i1 3 s1)) fun v2 mem3 => jbnd (Ru_hasUnit d r0 x2 mem3) fun v4 mem5 => jbo (jasI v4) (some (vI (jasI v4), mem5))) := (jfrom_eq jc46 (jSem d) [105] 10 105 [vR 5 (some r0), vR 8 (some 0), vI x2, vI x3] [vI s1, vR 5 q0] mem).trans rfl
set_option maxRecDepth 100000 in
theorem q_Ru_hasUnit (d : Nat) (r0 : Int) (x2 : Int) (mem : jMem) : Ru_hasUnit (d + 1) r0 x2 mem = if 60 < (jrI (jwI mem 5 r0 4 (jw32 ((jrI mem 5 r0 4) + 1))) 5 r0 4) then jbnd (Ta_blame d x2 3 (jwI mem 5 r0 4 (jw32 ((jrI mem 5 r0 4) + 1)))) fun v1 mem2 => if (jasI v1) = 0 then some (vI 0, mem2) else some (vI 1, mem2) else some (vI 1, (jwI mem 5 r0 4 (jw32 ((jrI mem 5 r0 4) + 1)))) := Eq.trans (b := jAtC jc47 (jSem d) 0 [vR 5 (some r0), vR 8 (some 0), vI x2] [] mem) rfl ((jfrom_eq jc47 (jSem d) [] 18 0 [vR 5 (some r0), vR 8 (some 0), vI x2] [] mem).trans rfl)
set_option maxRecDepth 100000 in
theorem q_Sc_copy (d : Nat) (r0 : Int) (r1 : Int) (mem : jMem) : Sc_copy (d + 1) r0 r1 mem = jbnd (Ri_copy d r0 r1 mem) fun v1 mem2 => jbnd (Wa_copy d r0 r1 mem2) fun v3 mem4 => jbnd (No_copy d r0 r1 mem4) fun v5 mem6 => some (vU, (jwI (jwI mem6 6 r0 3 (jrI mem6 6 r1 3)) 6 r0 4 (jrI (jwI mem6 6 r0 3 (jrI mem6 6 r1 3)) 6 r1 4))) := Eq.trans (b := jAtC jc48 (jSem d) 0 [vR 6 (some r0), vR 6 (some r1)] [] mem) rfl ((jfrom_eq jc48 (jSem d) [] 24 0 [vR 6 (some r0), vR 6 (some r1)] [] mem).trans rfl)
set_option maxRecDepth 100000 in
theorem q_Sc_bitsAt (d : Nat) (r0 : Int) (x1 : Int) (mem : jMem) : Sc_bitsAt (d + 1) r0 x1 mem = jbnd (Wa_bitsAt d r0 x1 (jrI mem 4 r0 5) mem) fun v1 mem2 => some (vI (jasI v1), mem2) := Eq.trans (b := jAtC jc49 (jSem d) 0 [vR 6 (some r0), vI x1] [] mem) rfl ((jfrom_eq jc49 (jSem d) [] 8 0 [vR 6 (some r0), vI x1] [] mem).trans rfl)
set_option maxRecDepth 100000 in
theorem q_Sc_freeBits (d : Nat) (r0 : Int) (mem : jMem) : Sc_freeBits (d + 1) r0 mem = Sc_freeBits_4 d r0 0 0 mem := Eq.trans (b := jAtC jc50 (jSem d) 0 [vR 6 (some r0), vU, vU] [] mem) rfl ((jfrom_eq jc50 (jSem d) [4] 5 0 [vR 6 (some r0), vU, vU] [] mem).trans rfl)
set_option maxRecDepth 100000 in
theorem q_Sc_freeBits_4 (d : Nat) (r0 : Int) (x1 : Int) (x2 : Int) (mem : jMem) : Sc_freeBits_4 d r0 x1 x2 mem = if x2 < (jrI mem 4 r0 5) then jix 6 x2 (jbnd (E_isFreePlace d (jrI mem 38 r0 x2) mem) fun v1 mem2 => if (jasI v1) = 0 then Sc_freeBits_4 d r0 x1 (jw32 (x2 + 1)) mem2 else Sc_freeBits_4 d r0 (jor x1 (jshl 1 x2)) (jw32 (x2 + 1)) mem2) else some (vI x1, mem) := (jfrom_eq jc50 (jSem d) [4] 21 4 [vR 6 (some r0), vI x1, vI x2] [] mem).trans rfl
set_option maxRecDepth 100000 in
theorem q_Sm_pass (d : Nat) (r0 : Int) (r1 : Int) (r2 : Int) (o3 : Option Int) (x4 : Int) (mem : jMem) : Sm_pass (d + 1) r0 r1 r2 o3 x4 mem = Sm_pass_12 d r0 r1 r2 o3 x4 (jw32 ((jrI mem 9 r2 0) + x4)) 0 mem := Eq.trans (b := jAtC jc51 (jSem d) 0 [vR 7 (some r0), vR 4 (some r1), vR 9 (some r2), vR 5 o3, vI x4, vU, vU] [] mem) rfl ((jfrom_eq jc51 (jSem d) [12] 8 0 [vR 7 (some r0), vR 4 (some r1), vR 9 (some r2), vR 5 o3, vI x4, vU, vU] [] mem).trans rfl)
set_option maxRecDepth 100000 in
theorem q_Sm_pass_12 (d : Nat) (r0 : Int) (r1 : Int) (r2 : Int) (o3 : Option Int) (x4 : Int) (x5 : Int) (x6 : Int) (mem : jMem) : Sm_pass_12 d r0 r1 r2 o3 x4 x5 x6 mem = if x6 < x4 then jbnd (Ri_lightOf d r1 (jrI mem 9 r2 0) mem) fun v1 mem2 => jbnd (Sm_step d r0 r1 r2 o3 (jasI v1) mem2) fun v3 mem4 => jbnd (Sm_isStill d r0 mem4) fun v5 mem6 => if (jasI v5) = 0 then Sm_pass_12 d r0 r1 r2 o3 x4 x5 (jw32 (x6 + 1)) mem6 else some (vU, (jwI mem6 9 r2 0 x5)) else some (vU, (jwI mem 9 r2 0 x5)) := (jfrom_eq jc51 (jSem d) [12] 21 12 [vR 7 (some r0), vR 4 (some r1), vR 9 (some r2), vR 5 o3, vI x4, vI x5, vI x6] [] mem).trans rfl
set_option maxRecDepth 100000 in
theorem q_Sm_isStill (d : Nat) (r0 : Int) (mem : jMem) : Sm_isStill (d + 1) r0 mem = if (jrI mem 7 r0 11) = 0 then jnl (jrS mem 7 r0 6) (some (vI 1, mem)) (jsm (jrS mem 7 r0 6) fun i1 => if (jrI mem 5 i1 3) = 0 then some (vI 1, mem) else some (vI 0, mem)) else some (vI 0, mem) := Eq.trans (b := jAtC jc52 (jSem d) 0 [vR 7 (some r0)] [] mem) rfl ((jfrom_eq jc52 (jSem d) [] 13 0 [vR 7 (some r0)] [] mem).trans rfl)
set_option maxRecDepth 100000 in
theorem q_Sm_step (d : Nat) (r0 : Int) (r1 : Int) (r2 : Int) (o3 : Option Int) (x4 : Int) (mem : jMem) : Sm_step (d + 1) r0 r1 r2 o3 x4 mem = jsm (jrS (jwS (jwS (jwS mem 7 r0 4 (some r1)) 7 r0 5 (some r2)) 7 r0 6 o3) 7 r0 5) fun i1 => jsm (jrS (jwS (jwS (jwS mem 7 r0 4 (some r1)) 7 r0 5 (some r2)) 7 r0 6 o3) 7 r0 4) fun _ => jbnd (jSem d 33 [vR 4 (jrS (jwS (jwS (jwS mem 7 r0 4 (some r1)) 7 r0 5 (some r2)) 7 r0 6 o3) 7 r0 4), vI (jw32 ((jrI mem 9 i1 0) + 1))] (jwI (jwS (jwS (jwS mem 7 r0 4 (some r1)) 7 r0 5 (some r2)) 7 r0 6 o3) 7 r0 7 x4)) fun v2 mem3 => jnl (jrS mem3 7 r0 6) (Sm_step_60 d r0 0 (jwI (jwI mem3 7 r0 8 (jasI v2)) 7 r0 11 0)) (jbnd (Sm_countPools d r0 (jwI (jwI mem3 7 r0 8 (jasI v2)) 7 r0 11 0)) fun v4 mem5 => Sm_step_60 d r0 0 mem5) := Eq.trans (b := jAtC jc53 (jSem d) 0 [vR 7 (some r0), vR 4 (some r1), vR 9 (some r2), vR 5 o3, vI x4, vU, vU] [] mem) rfl ((jfrom_eq jc53 (jSem d) [60, 123, 155, 185, 230] 33 0 [vR 7 (some r0), vR 4 (some r1), vR 9 (some r2), vR 5 o3, vI x4, vU, vU] [] mem).trans rfl)
set_option maxRecDepth 100000 in
theorem q_Sm_step_60 (d : Nat) (r0 : Int) (x5 : Int) (mem : jMem) : Sm_step_60 d r0 x5 mem = jsm (jrS mem 7 r0 4) fun i1 => if x5 < (jrI mem 4 i1 5) then jsm (jrS mem 7 r0 5) fun i2 => jix 6 x5 (jbnd (E_isFreePlace d (jrI mem 38 i2 x5) mem) fun v3 mem4 => if (jasI v3) = 0 then jsm (jrS mem4 7 r0 5) fun i5 => jix 6 x5 (jix 6 x5 (Sm_step_60 d r0 (jw32 (x5 + 1)) (jwI mem4 34 r0 x5 (jrI mem4 38 i5 x5)))) else jbnd (Sm_goalOf d r0 x5 mem4) fun v6 mem7 => jix 6 x5 (Sm_step_60 d r0 (jw32 (x5 + 1)) (jwI mem7 34 r0 x5 (jasI v6)))) else Sm_step_123 d r0 0 mem := (jfrom_eq jc53 (jSem d) [60, 123, 155, 185, 230] 24 60 [vR 7 (some r0), vU, vU, vU, vU, vI x5, vU] [] mem).trans rfl
set_option maxRecDepth 100000 in
theorem q_Sm_step_123 (d : Nat) (r0 : Int) (x5 : Int) (mem : jMem) : Sm_step_123 d r0 x5 mem = jsm (jrS mem 7 r0 4) fun i1 => if x5 < (jrI mem 4 i1 5) then jbnd (Sm_goesToSea d r0 x5 mem) fun v2 mem3 => if (jasI v2) = 0 then jix 6 x5 (Sm_step_155 d r0 x5 (jrI mem3 34 r0 x5) mem3) else Sm_step_155 d r0 x5 (-1) mem3 else jbnd (Sm_fillTraps d r0 mem) fun v4 mem5 => if (jrI mem5 7 r0 11) = 0 then if (jasI v4) = 0 then Sm_step_230 d r0 (jasI v4) r0 0 mem5 else Sm_step_230 d r0 (jasI v4) r0 1 mem5 else Sm_step_230 d r0 (jasI v4) r0 1 mem5 := (jfrom_eq jc53 (jSem d) [60, 123, 155, 185, 230] 17 123 [vR 7 (some r0), vU, vU, vU, vU, vI x5, vU] [] mem).trans rfl
set_option maxRecDepth 100000 in
theorem q_Sm_step_155 (d : Nat) (r0 : Int) (x5 : Int) (s0 : Int) (mem : jMem) : Sm_step_155 d r0 x5 s0 mem = if (jrI mem 7 r0 11) = 0 then jsm (jrS mem 7 r0 5) fun i1 => jix 6 x5 (if s0 = (jrI mem 38 i1 x5) then Sm_step_185 d r0 x5 s0 r0 0 mem else Sm_step_185 d r0 x5 s0 r0 1 mem) else Sm_step_185 d r0 x5 s0 r0 1 mem := (jfrom_eq jc53 (jSem d) [60, 123, 155, 185, 230] 15 155 [vR 7 (some r0), vU, vU, vU, vU, vI x5, vU] [vI s0] mem).trans rfl
set_option maxRecDepth 100000 in
theorem q_Sm_step_185 (d : Nat) (r0 : Int) (x5 : Int) (x6 : Int) (r_0 : Int) (s1 : Int) (mem : jMem) : Sm_step_185 d r0 x5 x6 r_0 s1 mem = jbo s1 (jsm (jrS mem 7 r0 5) fun i1 => jix 6 x5 (Sm_step_123 d r0 (jw32 (x5 + 1)) (jwI (jwI mem 7 r_0 11 s1) 38 i1 x5 x6))) := (jfrom_eq jc53 (jSem d) [60, 123, 155, 185, 230] 10 185 [vR 7 (some r0), vU, vU, vU, vU, vI x5, vI x6] [vI s1, vR 7 (some r_0)] mem).trans rfl
set_option maxRecDepth 100000 in
theorem q_Sm_step_230 (d : Nat) (r0 : Int) (x5 : Int) (r_0 : Int) (s1 : Int) (mem : jMem) : Sm_step_230 d r0 x5 r_0 s1 mem = jbo s1 (jsm (jrS mem 7 r0 5) fun i1 => jsm (jrS mem 7 r0 5) fun i2 => some (vI x5, (jwI (jwI mem 7 r_0 11 s1) 9 i2 0 (jw32 ((jrI mem 9 i1 0) + 1))))) := (jfrom_eq jc53 (jSem d) [60, 123, 155, 185, 230] 10 230 [vR 7 (some r0), vU, vU, vU, vU, vI x5, vU] [vI s1, vR 7 (some r_0)] mem).trans rfl
set_option maxRecDepth 100000 in
theorem q_Sm_countPools (d : Nat) (r0 : Int) (mem : jMem) : Sm_countPools (d + 1) r0 mem = Sm_countPools_2 d r0 0 mem := Eq.trans (b := jAtC jc54 (jSem d) 0 [vR 7 (some r0), vU] [] mem) rfl ((jfrom_eq jc54 (jSem d) [2, 30, 82] 3 0 [vR 7 (some r0), vU] [] mem).trans rfl)
set_option maxRecDepth 100000 in
theorem q_Sm_countPools_2 (d : Nat) (r0 : Int) (x1 : Int) (mem : jMem) : Sm_countPools_2 d r0 x1 mem = if x1 < 12 then jix 12 x1 (jix 12 x1 (Sm_countPools_2 d r0 (jw32 (x1 + 1)) (jwI (jwI mem 35 r0 x1 0) 36 r0 x1 0))) else Sm_countPools_30 d r0 0 mem := (jfrom_eq jc54 (jSem d) [2, 30, 82] 16 2 [vR 7 (some r0), vI x1] [] mem).trans rfl
set_option maxRecDepth 100000 in
theorem q_Sm_countPools_30 (d : Nat) (r0 : Int) (x1 : Int) (mem : jMem) : Sm_countPools_30 d r0 x1 mem = jsm (jrS mem 7 r0 4) fun i1 => if x1 < (jrI mem 4 i1 5) then jsm (jrS mem 7 r0 5) fun i2 => jix 6 x1 (jbnd (E_isFreePlace d (jrI mem 38 i2 x1) mem) fun v3 mem4 => if (jasI v3) = 0 then Sm_countPools_30 d r0 (jw32 (x1 + 1)) mem4 else jsm (jrS mem4 7 r0 5) fun i5 => jix 6 x1 (jix 12 (jrI mem4 38 i5 x1) (jix 12 (jrI mem4 38 i5 x1) (Sm_countPools_30 d r0 (jw32 (x1 + 1)) (jwI mem4 35 r0 (jrI mem4 38 i5 x1) (jw32 ((jrI mem4 35 r0 (jrI mem4 38 i5 x1)) + 1))))))) else Sm_countPools_82 d r0 0 mem := (jfrom_eq jc54 (jSem d) [2, 30, 82] 27 30 [vR 7 (some r0), vI x1] [] mem).trans rfl
set_option maxRecDepth 100000 in
theorem q_Sm_countPools_82 (d : Nat) (r0 : Int) (x1 : Int) (mem : jMem) : Sm_countPools_82 d r0 x1 mem = jsm (jrS mem 7 r0 4) fun i1 => if x1 < (jrI mem 4 i1 6) then jsm (jrS mem 7 r0 5) fun i2 => jix 4 x1 (jix 12 (jrI mem 40 i2 x1) (jix 12 (jrI mem 40 i2 x1) (Sm_countPools_82 d r0 (jw32 (x1 + 1)) (jwI mem 36 r0 (jrI mem 40 i2 x1) (jw32 ((jrI mem 36 r0 (jrI mem 40 i2 x1)) + 1)))))) else some (vU, mem) := (jfrom_eq jc54 (jSem d) [2, 30, 82] 20 82 [vR 7 (some r0), vI x1] [] mem).trans rfl
set_option maxRecDepth 100000 in
theorem q_Sm_goalOf (d : Nat) (r0 : Int) (x1 : Int) (mem : jMem) : Sm_goalOf (d + 1) r0 x1 mem = jsm (jrS mem 7 r0 5) fun i1 => jix 6 x1 (jsm (jrS mem 7 r0 4) fun i2 => jnl (jrS mem 7 r0 6) (jbnd (J_min d (jw32 ((jrI mem 38 i1 x1) + 1)) (jw32 ((jrI mem 4 i2 1) - 1)) mem) fun v3 mem4 => some (vI (jasI v3), mem4)) (jbnd (J_max d (jw32 ((jrI mem 38 i1 x1) - 1)) 0 (jwI mem 7 r0 9 x1)) fun v5 mem6 => Sm_goalOf_55 d r0 (jrI mem 38 i1 x1) (jw32 ((jrI mem 4 i2 1) - 1)) (jrI mem 38 i1 x1) 0 (jasI v5) mem6)) := Eq.trans (b := jAtC jc55 (jSem d) 0 [vR 7 (some r0), vI x1, vU, vU, vU, vU, vU, vU, vU, vU] [] mem) rfl ((jfrom_eq jc55 (jSem d) [55] 29 0 [vR 7 (some r0), vI x1, vU, vU, vU, vU, vU, vU, vU, vU] [] mem).trans rfl)
set_option maxRecDepth 100000 in
theorem q_Sm_goalOf_55 (d : Nat) (r0 : Int) (x2 : Int) (x3 : Int) (x4 : Int) (y5 : Int) (x7 : Int) (mem : jMem) : Sm_goalOf_55 d r0 x2 x3 x4 y5 x7 mem = jbnd (J_min d (jw32 (x2 + 1)) x3 mem) fun v1 mem2 => if (jasI v1) < x7 then some (vI x4, mem2) else jbnd (Sm_worthOfPool d r0 (jwI mem2 7 r0 10 x7)) fun v3 mem4 => if 0 < (jlcmp (jasJ v3) y5) then Sm_goalOf_55 d r0 x2 x3 x7 (jasJ v3) (jw32 (x7 + 1)) mem4 else Sm_goalOf_55 d r0 x2 x3 x4 y5 (jw32 (x7 + 1)) mem4 := (jfrom_eq jc55 (jSem d) [55] 24 55 [vR 7 (some r0), vU, vI x2, vI x3, vI x4, vJ y5, vU, vI x7, vU, vU] [] mem).trans rfl
set_option maxRecDepth 100000 in
theorem q_Sm_goesToSea (d : Nat) (r0 : Int) (x1 : Int) (mem : jMem) : Sm_goesToSea (d + 1) r0 x1 mem = jsm (jrS mem 7 r0 4) fun i1 => jsm (jrS mem 7 r0 5) fun i2 => jix 6 x1 (if (jrI mem 38 i2 x1) = (jw32 ((jrI mem 4 i1 1) - 1)) then jix 6 x1 (if (jrI mem 34 r0 x1) = (jw32 ((jrI mem 4 i1 1) - 1)) then jsm (jrS mem 7 r0 4) fun i3 => jix 6 x1 (jsm (jrS mem 7 r0 4) fun i4 => if (jrI mem 24 i3 x1) < (jrI mem 4 i4 2) then some (vI 0, mem) else some (vI 1, mem)) else some (vI 0, mem)) else some (vI 0, mem)) := Eq.trans (b := jAtC jc56 (jSem d) 0 [vR 7 (some r0), vI x1, vU] [] mem) rfl ((jfrom_eq jc56 (jSem d) [] 31 0 [vR 7 (some r0), vI x1, vU] [] mem).trans rfl)
set_option maxRecDepth 100000 in
theorem q_Sm_fillTraps (d : Nat) (r0 : Int) (mem : jMem) : Sm_fillTraps (d + 1) r0 mem = Sm_fillTraps_4 d r0 0 0 mem := Eq.trans (b := jAtC jc57 (jSem d) 0 [vR 7 (some r0), vU, vU, vU] [] mem) rfl ((jfrom_eq jc57 (jSem d) [4, 17] 5 0 [vR 7 (some r0), vU, vU, vU] [] mem).trans rfl)
set_option maxRecDepth 100000 in
theorem q_Sm_fillTraps_4 (d : Nat) (r0 : Int) (x1 : Int) (x2 : Int) (mem : jMem) : Sm_fillTraps_4 d r0 x1 x2 mem = jsm (jrS mem 7 r0 4) fun i1 => if x2 < (jrI mem 4 i1 6) then Sm_fillTraps_17 d r0 x1 x2 0 mem else some (vI x1, mem) := (jfrom_eq jc57 (jSem d) [4, 17] 8 4 [vR 7 (some r0), vI x1, vI x2, vU] [] mem).trans rfl
set_option maxRecDepth 100000 in
theorem q_Sm_fillTraps_17 (d : Nat) (r0 : Int) (x1 : Int) (x2 : Int) (x3 : Int) (mem : jMem) : Sm_fillTraps_17 d r0 x1 x2 x3 mem = jsm (jrS mem 7 r0 4) fun i1 => if x3 < (jrI mem 4 i1 5) then jsm (jrS mem 7 r0 5) fun i2 => jix 4 x2 (if (jrI mem 43 i2 x2) = (-1) then jsm (jrS mem 7 r0 5) fun i3 => jix 6 x3 (jsm (jrS mem 7 r0 5) fun i4 => jix 4 x2 (if (jrI mem 38 i3 x3) = (jrI mem 40 i4 x2) then jsm (jrS mem 7 r0 4) fun i5 => jix 6 x3 (jsm (jrS mem 7 r0 5) fun i6 => jix 4 x2 (if (jrI mem 25 i5 x3) = (jrI mem 42 i6 x2) then jsm (jrS mem 7 r0 4) fun i7 => jix 6 x3 (jsm (jrS mem 7 r0 5) fun i8 => jix 4 x2 (if (jrI mem 41 i8 x2) < (jrI mem 24 i7 x3) then Sm_fillTraps_17 d r0 x1 x2 (jw32 (x3 + 1)) mem else jsm (jrS mem 7 r0 5) fun i9 => jix 6 x3 (jsm (jrS mem 7 r0 5) fun i10 => jix 4 x2 (Sm_fillTraps_17 d r0 (jor x1 (jshl 1 x3)) x2 (jw32 (x3 + 1)) (jwI (jwI mem 38 i9 x3 (jw32 (20 + x2))) 43 i10 x2 x3))))) else Sm_fillTraps_17 d r0 x1 x2 (jw32 (x3 + 1)) mem)) else Sm_fillTraps_17 d r0 x1 x2 (jw32 (x3 + 1)) mem)) else Sm_fillTraps_4 d r0 x1 (jw32 (x2 + 1)) mem) else Sm_fillTraps_4 d r0 x1 (jw32 (x2 + 1)) mem := (jfrom_eq jc57 (jSem d) [4, 17] 68 17 [vR 7 (some r0), vI x1, vI x2, vI x3] [] mem).trans rfl
set_option maxRecDepth 100000 in
theorem q_Sm_worthOfPool (d : Nat) (r0 : Int) (mem : jMem) : Sm_worthOfPool (d + 1) r0 mem = Sm_worthOfPool_4 d r0 0 0 mem := Eq.trans (b := jAtC jc58 (jSem d) 0 [vR 7 (some r0), vU, vU, vU] [] mem) rfl ((jfrom_eq jc58 (jSem d) [4, 37] 5 0 [vR 7 (some r0), vU, vU, vU] [] mem).trans rfl)
set_option maxRecDepth 100000 in
theorem q_Sm_worthOfPool_4 (d : Nat) (r0 : Int) (x1 : Int) (x2 : Int) (mem : jMem) : Sm_worthOfPool_4 d r0 x1 x2 mem = jsm (jrS mem 7 r0 6) fun i1 => if x2 < (jrI mem 5 i1 2) then jsm (jrS mem 7 r0 6) fun i2 => jix 400 x2 (if (jrI mem 31 i2 x2) = 6 then Sm_worthOfPool_37 d r0 x1 x2 (jrI mem 31 i2 x2) mem else if (jrI mem 31 i2 x2) = 7 then Sm_worthOfPool_37 d r0 x1 x2 (jrI mem 31 i2 x2) mem else if (jrI mem 31 i2 x2) = 8 then if x1 < 1 then some (vJ 0, mem) else jix 64 (jw32 (x1 - 1)) (some (vJ (jrJ mem 33 r0 (jw32 (x1 - 1))), mem)) else if (jrI mem 31 i2 x2) = 3 then if x1 < 1 then Sm_worthOfPool_4 d r0 x1 (jw32 (x2 + 1)) mem else jix 64 (jw32 (x1 - 1)) (jix 64 (jw32 (x1 - 1)) (Sm_worthOfPool_4 d r0 x1 (jw32 (x2 + 1)) (jwJ mem 33 r0 (jw32 (x1 - 1)) (jw64 (1 - (jrJ mem 33 r0 (jw32 (x1 - 1)))))))) else if x1 < 2 then Sm_worthOfPool_4 d r0 x1 (jw32 (x2 + 1)) mem else if (jrI mem 31 i2 x2) = 9 then jix 64 (jw32 (x1 - 1)) (if (jlcmp (jrJ mem 33 r0 (jw32 (x1 - 1))) 0) = 0 then Sm_worthOfPool_4 d r0 (jw32 (x1 + (-2))) (jw32 (x2 + 1)) mem else jix 64 (jw32 (x1 - 2)) (some (vJ (jrJ mem 33 r0 (jw32 (x1 - 2))), mem))) else jix 64 (jw32 (x1 - 2)) (jix 64 (jw32 (x1 - 1)) (jbnd (Sm_join d (jrI mem 31 i2 x2) (jrJ mem 33 r0 (jw32 (x1 - 2))) (jrJ mem 33 r0 (jw32 (x1 - 1))) mem) fun v3 mem4 => jix 64 (jw32 (x1 - 2)) (Sm_worthOfPool_4 d r0 (jw32 (x1 + (-1))) (jw32 (x2 + 1)) (jwJ mem4 33 r0 (jw32 (x1 - 2)) (jasJ v3)))))) else some (vJ 0, mem) := (jfrom_eq jc58 (jSem d) [4, 37] 53 4 [vR 7 (some r0), vI x1, vI x2, vU] [] mem).trans rfl
set_option maxRecDepth 100000 in
theorem q_Sm_worthOfPool_37 (d : Nat) (r0 : Int) (x1 : Int) (x2 : Int) (x3 : Int) (mem : jMem) : Sm_worthOfPool_37 d r0 x1 x2 x3 mem = if x1 < 64 then if x3 = 6 then jsm (jrS mem 7 r0 6) fun i1 => jix 400 x2 (jix 64 x1 (Sm_worthOfPool_4 d r0 (jw32 (x1 + 1)) (jw32 (x2 + 1)) (jwJ mem 33 r0 x1 (jrI mem 32 i1 x2)))) else jsm (jrS mem 7 r0 6) fun i2 => jix 400 x2 (jbnd (Sm_wordValue d r0 (jrI mem 32 i2 x2) mem) fun v3 mem4 => jix 64 x1 (Sm_worthOfPool_4 d r0 (jw32 (x1 + 1)) (jw32 (x2 + 1)) (jwJ mem4 33 r0 x1 (jasI v3)))) else Sm_worthOfPool_4 d r0 x1 (jw32 (x2 + 1)) mem := (jfrom_eq jc58 (jSem d) [4, 37] 23 37 [vR 7 (some r0), vI x1, vI x2, vI x3] [] mem).trans rfl
set_option maxRecDepth 100000 in
theorem q_Sm_join (d : Nat) (x0 : Int) (y1 : Int) (y3 : Int) (mem : jMem) : Sm_join (d + 1) x0 y1 y3 mem = if x0 = 1 then if 0 < (jlcmp y1 y3) then some (vJ 0, mem) else some (vJ 1, mem) else if x0 = 2 then if (jlcmp y1 y3) < 0 then some (vJ 0, mem) else some (vJ 1, mem) else if x0 = 4 then some (vJ (jland y1 y3), mem) else if x0 = 5 then some (vJ (jlor y1 y3), mem) else if x0 = 37 then if (jlcmp y3 0) = 0 then some (vJ 0, mem) else jnz y3 (some (vJ (y1.tmod y3), mem)) else if x0 = 42 then some (vJ (jw64 (y1 * y3)), mem) else if x0 = 43 then some (vJ (jw64 (y1 + y3)), mem) else if x0 = 45 then some (vJ (jw64 (y1 - y3)), mem) else if x0 = 47 then if (jlcmp y3 0) = 0 then some (vJ 0, mem) else jnz y3 (some (vJ (jw64 (y1.tdiv y3)), mem)) else if x0 = 60 then if (jlcmp y1 y3) < 0 then some (vJ 1, mem) else some (vJ 0, mem) else if x0 = 61 then if (jlcmp y1 y3) = 0 then some (vJ 1, mem) else some (vJ 0, mem) else if x0 = 62 then if 0 < (jlcmp y1 y3) then some (vJ 1, mem) else some (vJ 0, mem) else some (vJ 0, mem) := Eq.trans (b := jAtC jc59 (jSem d) 0 [vI x0, vJ y1, vU, vJ y3, vU] [] mem) rfl ((jfrom_eq jc59 (jSem d) [] 10 0 [vI x0, vJ y1, vU, vJ y3, vU] [] mem).trans rfl)
set_option maxRecDepth 100000 in
theorem q_Sm_wordValue (d : Nat) (r0 : Int) (x1 : Int) (mem : jMem) : Sm_wordValue (d + 1) r0 x1 mem = if x1 = 0 then some (vI (jrI mem 7 r0 9), mem) else if x1 = 1 then some (vI (jrI mem 7 r0 10), mem) else if x1 = 2 then jsm (jrS mem 7 r0 5) fun i1 => jix 6 (jrI mem 7 r0 9) (some (vI (jrI mem 38 i1 (jrI mem 7 r0 9)), mem)) else if x1 = 3 then jsm (jrS mem 7 r0 4) fun i2 => jix 6 (jrI mem 7 r0 9) (some (vI (jrI mem 24 i2 (jrI mem 7 r0 9)), mem)) else if x1 = 4 then jsm (jrS mem 7 r0 4) fun i3 => jix 6 (jrI mem 7 r0 9) (some (vI (jrI mem 25 i3 (jrI mem 7 r0 9)), mem)) else if x1 = 5 then Sm_wordValue_113 d r0 0 0 mem else if x1 = 6 then jix 12 (jrI mem 7 r0 10) (some (vI (jrI mem 36 r0 (jrI mem 7 r0 10)), mem)) else if x1 = 7 then jix 12 (jrI mem 7 r0 10) (jsm (jrS mem 7 r0 5) fun i4 => jix 6 (jrI mem 7 r0 9) (if (jrI mem 38 i4 (jrI mem 7 r0 9)) = (jrI mem 7 r0 10) then some (vI (jw32 ((jrI mem 35 r0 (jrI mem 7 r0 10)) - 1)), mem) else some (vI (jw32 ((jrI mem 35 r0 (jrI mem 7 r0 10)) - 0)), mem))) else if x1 = 8 then some (vI (jrI mem 7 r0 7), mem) else if x1 = 9 then some (vI (jrI mem 7 r0 8), mem) else if x1 = 10 then jsm (jrS mem 7 r0 5) fun i5 => jix 6 (jrI mem 7 r0 9) (some (vI (jrI mem 39 i5 (jrI mem 7 r0 9)), mem)) else jsm (jrS mem 7 r0 5) fun i6 => some (vI (jrI mem 9 i6 0), mem) := Eq.trans (b := jAtC jc60 (jSem d) 0 [vR 7 (some r0), vI x1, vU, vU] [] mem) rfl ((jfrom_eq jc60 (jSem d) [113] 20 0 [vR 7 (some r0), vI x1, vU, vU] [] mem).trans rfl)
set_option maxRecDepth 100000 in
theorem q_Sm_wordValue_113 (d : Nat) (r0 : Int) (x2 : Int) (x3 : Int) (mem : jMem) : Sm_wordValue_113 d r0 x2 x3 mem = jsm (jrS mem 7 r0 4) fun i1 => if x3 < (jrI mem 4 i1 6) then jsm (jrS mem 7 r0 5) fun i2 => jix 4 x3 (if (jrI mem 40 i2 x3) = (jrI mem 7 r0 10) then jsm (jrS mem 7 r0 5) fun i3 => jix 4 x3 (if (jrI mem 43 i3 x3) = (-1) then jsm (jrS mem 7 r0 5) fun i4 => jix 4 x3 (jsm (jrS mem 7 r0 4) fun i5 => jix 6 (jrI mem 7 r0 9) (if (jrI mem 42 i4 x3) = (jrI mem 25 i5 (jrI mem 7 r0 9)) then Sm_wordValue_113 d r0 (jw32 (x2 + 1)) (jw32 (x3 + 1)) mem else Sm_wordValue_113 d r0 x2 (jw32 (x3 + 1)) mem)) else Sm_wordValue_113 d r0 x2 (jw32 (x3 + 1)) mem) else Sm_wordValue_113 d r0 x2 (jw32 (x3 + 1)) mem) else some (vI x2, mem) := (jfrom_eq jc60 (jSem d) [113] 36 113 [vR 7 (some r0), vU, vI x2, vI x3] [] mem).trans rfl
set_option maxRecDepth 100000 in
theorem q_Ta_put (d : Nat) (x1 : Int) (mem : jMem) : Ta_put (d + 1) x1 mem = Ta_put_3 d x1 24 mem := Eq.trans (b := jAtC jc61 (jSem d) 0 [vR 8 (some 0), vI x1, vU] [] mem) rfl ((jfrom_eq jc61 (jSem d) [3] 3 0 [vR 8 (some 0), vI x1, vU] [] mem).trans rfl)
set_option maxRecDepth 100000 in
theorem q_Ta_put_3 (d : Nat) (x1 : Int) (x2 : Int) (mem : jMem) : Ta_put_3 d x1 x2 mem = if x2 < 0 then some (vU, mem) else if (jrI mem 8 0 1) < 400 then jix 400 (jrI mem 8 0 1) (Ta_put_3 d x1 (jw32 (x2 + (-8))) (jwI (jwI mem 37 0 (jrI mem 8 0 1) (jw8 (jw8 (jshr x1 x2)))) 8 0 1 (jw32 ((jrI mem 8 0 1) + 1)))) else Ta_put_3 d x1 (jw32 (x2 + (-8))) mem := (jfrom_eq jc61 (jSem d) [3] 26 3 [vR 8 (some 0), vI x1, vI x2] [] mem).trans rfl
set_option maxRecDepth 100000 in
theorem q_Ta_rewind (d : Nat) (mem : jMem) : Ta_rewind (d + 1) mem = some (vU, (jwI (jwI mem 8 0 2 0) 8 0 3 0)) := Eq.trans (b := jAtC jc62 (jSem d) 0 [vR 8 (some 0)] [] mem) rfl ((jfrom_eq jc62 (jSem d) [] 7 0 [vR 8 (some 0)] [] mem).trans rfl)
set_option maxRecDepth 100000 in
theorem q_Ta_blame (d : Nat) (x1 : Int) (x2 : Int) (mem : jMem) : Ta_blame (d + 1) x1 x2 mem = if (jrI mem 8 0 3) = 0 then some (vI 0, (jwI mem 8 0 3 (jw32 ((jw32 (1 + (jw32 (8 * x1)))) + x2)))) else some (vI 0, mem) := Eq.trans (b := jAtC jc63 (jSem d) 0 [vR 8 (some 0), vI x1, vI x2] [] mem) rfl ((jfrom_eq jc63 (jSem d) [] 14 0 [vR 8 (some 0), vI x1, vI x2] [] mem).trans rfl)
set_option maxRecDepth 100000 in
theorem q_Ta_peek (d : Nat) (mem : jMem) : Ta_peek (d + 1) mem = if (jrI mem 8 0 2) < (jrI mem 8 0 1) then jix 400 (jrI mem 8 0 2) (some (vI (jand (jrI mem 37 0 (jrI mem 8 0 2)) 255), mem)) else some (vI (-1), mem) := Eq.trans (b := jAtC jc64 (jSem d) 0 [vR 8 (some 0)] [] mem) rfl ((jfrom_eq jc64 (jSem d) [] 14 0 [vR 8 (some 0)] [] mem).trans rfl)
set_option maxRecDepth 100000 in
theorem q_Ta_onDigit (d : Nat) (mem : jMem) : Ta_onDigit (d + 1) mem = if (jrI mem 8 0 2) < (jrI mem 8 0 1) then jix 400 (jrI mem 8 0 2) (if (jrI mem 37 0 (jrI mem 8 0 2)) < 48 then some (vI 0, mem) else jix 400 (jrI mem 8 0 2) (if 57 < (jrI mem 37 0 (jrI mem 8 0 2)) then some (vI 0, mem) else some (vI 1, mem))) else some (vI 0, mem) := Eq.trans (b := jAtC jc65 (jSem d) 0 [vR 8 (some 0)] [] mem) rfl ((jfrom_eq jc65 (jSem d) [] 22 0 [vR 8 (some 0)] [] mem).trans rfl)
set_option maxRecDepth 100000 in
theorem q_Ta_skip (d : Nat) (mem : jMem) : Ta_skip (d + 1) mem = Ta_skip_0 d mem := rfl
set_option maxRecDepth 100000 in
theorem q_Ta_skip_0 (d : Nat) (mem : jMem) : Ta_skip_0 d mem = if (jrI mem 8 0 2) < (jrI mem 8 0 1) then jix 400 (jrI mem 8 0 2) (if (jrI mem 37 0 (jrI mem 8 0 2)) = 32 then Ta_skip_0 d (jwI mem 8 0 2 (jw32 ((jrI mem 8 0 2) + 1))) else some (vU, mem)) else some (vU, mem) := (jfrom_eq jc66 (jSem d) [0] 20 0 [vR 8 (some 0)] [] mem).trans rfl
set_option maxRecDepth 100000 in
theorem q_Ta_over (d : Nat) (mem : jMem) : Ta_over (d + 1) mem = jbnd (Ta_skip d mem) fun v1 mem2 => jbnd (Ta_peek d mem2) fun v3 mem4 => if (jasI v3) = (-1) then some (vI 1, mem4) else some (vI 0, mem4) := Eq.trans (b := jAtC jc67 (jSem d) 0 [vR 8 (some 0)] [] mem) rfl ((jfrom_eq jc67 (jSem d) [] 9 0 [vR 8 (some 0)] [] mem).trans rfl)
set_option maxRecDepth 100000 in
theorem q_Ta_took (d : Nat) (x1 : Int) (mem : jMem) : Ta_took (d + 1) x1 mem = jbnd (Ta_peek d mem) fun v1 mem2 => if (jasI v1) = x1 then some (vI 1, (jwI mem2 8 0 2 (jw32 ((jrI mem2 8 0 2) + 1)))) else some (vI 0, mem2) := Eq.trans (b := jAtC jc68 (jSem d) 0 [vR 8 (some 0), vI x1] [] mem) rfl ((jfrom_eq jc68 (jSem d) [] 12 0 [vR 8 (some 0), vI x1] [] mem).trans rfl)
set_option maxRecDepth 100000 in
theorem q_Ta_find (d : Nat) (r1 : Int) (mem : jMem) : Ta_find (d + 1) r1 mem = Ta_find_13 d r1 0 (jrI mem 8 0 2) 1 0 mem := Eq.trans (b := jAtC jc69 (jSem d) 0 [vR 8 (some 0), vR 100 (some r1), vU, vU, vU, vU, vU] [] mem) rfl ((jfrom_eq jc69 (jSem d) [13, 40, 91, 112] 10 0 [vR 8 (some 0), vR 100 (some r1), vU, vU, vU, vU, vU] [] mem).trans rfl)
set_option maxRecDepth 100000 in
theorem q_Ta_find_13 (d : Nat) (r1 : Int) (x2 : Int) (x3 : Int) (x4 : Int) (x5 : Int) (mem : jMem) : Ta_find_13 d r1 x2 x3 x4 x5 mem = jbnd (jSem d 248 [vR 100 (some r1)] mem) fun v1 mem2 => if (jasI v1) < x5 then some (vI (-1), mem2) else if x3 < (jrI mem2 8 0 1) then jix 400 x3 (Ta_find_40 d r1 x2 x3 x4 x5 (jrI mem2 37 0 x3) mem2) else Ta_find_40 d r1 x2 x3 x4 x5 (-1) mem2 := (jfrom_eq jc69 (jSem d) [13, 40, 91, 112] 14 13 [vR 8 (some 0), vR 100 (some r1), vI x2, vI x3, vI x4, vI x5, vU] [] mem).trans rfl
set_option maxRecDepth 100000 in
theorem q_Ta_find_40 (d : Nat) (r1 : Int) (x2 : Int) (x3 : Int) (x4 : Int) (x5 : Int) (s0 : Int) (mem : jMem) : Ta_find_40 d r1 x2 x3 x4 x5 s0 mem = jbnd (jSem d 248 [vR 100 (some r1)] mem) fun v1 mem2 => if x5 < (jasI v1) then jbnd (jSem d 249 [vR 100 (some r1), vI x5] mem2) fun v3 mem4 => if (jasI v3) = 32 then Ta_find_91 d r1 x2 x4 x5 s0 mem4 else if x4 = 0 then Ta_find_13 d r1 x2 (jw32 (x3 + 1)) 0 (jw32 (x5 + 1)) mem4 else jbnd (jSem d 249 [vR 100 (some r1), vI x5] mem4) fun v5 mem6 => if s0 = (jasI v5) then Ta_find_13 d r1 x2 (jw32 (x3 + 1)) 1 (jw32 (x5 + 1)) mem6 else Ta_find_13 d r1 x2 (jw32 (x3 + 1)) 0 (jw32 (x5 + 1)) mem6 else Ta_find_91 d r1 x2 x4 x5 s0 mem2 := (jfrom_eq jc69 (jSem d) [13, 40, 91, 112] 25 40 [vR 8 (some 0), vR 100 (some r1), vI x2, vI x3, vI x4, vI x5, vU] [vI s0] mem).trans rfl
set_option maxRecDepth 100000 in
theorem q_Ta_find_91 (d : Nat) (r1 : Int) (x2 : Int) (x4 : Int) (x5 : Int) (x6 : Int) (mem : jMem) : Ta_find_91 d r1 x2 x4 x5 x6 mem = if x4 = 0 then Ta_find_112 d r1 x2 x5 mem else if x6 < 97 then some (vI x2, mem) else if 122 < x6 then some (vI x2, mem) else Ta_find_112 d r1 x2 x5 mem := (jfrom_eq jc69 (jSem d) [13, 40, 91, 112] 10 91 [vR 8 (some 0), vR 100 (some r1), vI x2, vU, vI x4, vI x5, vI x6] [] mem).trans rfl
set_option maxRecDepth 100000 in
theorem q_Ta_find_112 (d : Nat) (r1 : Int) (x2 : Int) (x5 : Int) (mem : jMem) : Ta_find_112 d r1 x2 x5 mem = Ta_find_13 d r1 (jw32 (x2 + 1)) (jrI mem 8 0 2) 1 (jw32 (x5 + 1)) mem := (jfrom_eq jc69 (jSem d) [13, 40, 91, 112] 9 112 [vR 8 (some 0), vR 100 (some r1), vI x2, vU, vU, vI x5, vU] [] mem).trans rfl
set_option maxRecDepth 100000 in
theorem q_Ta_passWord (d : Nat) (mem : jMem) : Ta_passWord (d + 1) mem = Ta_passWord_0 d mem := rfl
set_option maxRecDepth 100000 in
theorem q_Ta_passWord_0 (d : Nat) (mem : jMem) : Ta_passWord_0 d mem = if (jrI mem 8 0 2) < (jrI mem 8 0 1) then jix 400 (jrI mem 8 0 2) (if (jrI mem 37 0 (jrI mem 8 0 2)) < 97 then some (vU, mem) else jix 400 (jrI mem 8 0 2) (if 122 < (jrI mem 37 0 (jrI mem 8 0 2)) then some (vU, mem) else Ta_passWord_0 d (jwI mem 8 0 2 (jw32 ((jrI mem 8 0 2) + 1))))) else some (vU, mem) := (jfrom_eq jc70 (jSem d) [0] 27 0 [vR 8 (some 0)] [] mem).trans rfl
set_option maxRecDepth 100000 in
theorem q_Ta_tookWord (d : Nat) (r1 : Int) (mem : jMem) : Ta_tookWord (d + 1) r1 mem = jbnd (Ta_skip d mem) fun v1 mem2 => jbnd (Ta_find d r1 mem2) fun v3 mem4 => if (jasI v3) = (-1) then some (vI 0, mem4) else jbnd (Ta_passWord d mem4) fun v5 mem6 => some (vI 1, mem6) := Eq.trans (b := jAtC jc71 (jSem d) 0 [vR 8 (some 0), vR 100 (some r1)] [] mem) rfl ((jfrom_eq jc71 (jSem d) [] 11 0 [vR 8 (some 0), vR 100 (some r1)] [] mem).trans rfl)
set_option maxRecDepth 100000 in
theorem q_Ta_number (d : Nat) (x1 : Int) (x2 : Int) (mem : jMem) : Ta_number (d + 1) x1 x2 mem = if (jrI mem 8 0 3) = 0 then jbnd (Ta_skip d mem) fun v1 mem2 => Ta_number_21 d x1 x2 (jrI mem2 8 0 2) 0 mem2 else some (vI (-1), mem) := Eq.trans (b := jAtC jc72 (jSem d) 0 [vR 8 (some 0), vI x1, vI x2, vU, vU, vU] [] mem) rfl ((jfrom_eq jc72 (jSem d) [21, 103, 137] 11 0 [vR 8 (some 0), vI x1, vI x2, vU, vU, vU] [] mem).trans rfl)
set_option maxRecDepth 100000 in
theorem q_Ta_number_21 (d : Nat) (x1 : Int) (x2 : Int) (x3 : Int) (x4 : Int) (mem : jMem) : Ta_number_21 d x1 x2 x3 x4 mem = if (jrI mem 8 0 2) < (jrI mem 8 0 1) then jix 400 (jrI mem 8 0 2) (if (jrI mem 37 0 (jrI mem 8 0 2)) < 48 then Ta_number_103 d x1 x2 x3 x4 mem else jix 400 (jrI mem 8 0 2) (if 57 < (jrI mem 37 0 (jrI mem 8 0 2)) then Ta_number_103 d x1 x2 x3 x4 mem else if (jw32 ((jrI mem 8 0 2) - x3)) < 5 then jix 400 (jrI mem 8 0 2) (Ta_number_21 d x1 x2 x3 (jw32 ((jw32 ((jw32 (10 * x4)) + (jrI mem 37 0 (jrI mem 8 0 2)))) - 48)) (jwI mem 8 0 2 (jw32 ((jrI mem 8 0 2) + 1)))) else Ta_number_21 d x1 x2 x3 x4 (jwI mem 8 0 2 (jw32 ((jrI mem 8 0 2) + 1))))) else Ta_number_103 d x1 x2 x3 x4 mem := (jfrom_eq jc72 (jSem d) [21, 103, 137] 45 21 [vR 8 (some 0), vI x1, vI x2, vI x3, vI x4, vU] [] mem).trans rfl
set_option maxRecDepth 100000 in
theorem q_Ta_number_103 (d : Nat) (x1 : Int) (x2 : Int) (x3 : Int) (x4 : Int) (mem : jMem) : Ta_number_103 d x1 x2 x3 x4 mem = if 0 < (jw32 ((jrI mem 8 0 2) - x3)) then if 5 < (jw32 ((jrI mem 8 0 2) - x3)) then Ta_number_137 d x3 (jw32 ((jrI mem 8 0 2) - x3)) mem else if x4 < x1 then Ta_number_137 d x3 (jw32 ((jrI mem 8 0 2) - x3)) mem else if x2 < x4 then Ta_number_137 d x3 (jw32 ((jrI mem 8 0 2) - x3)) mem else some (vI x4, mem) else Ta_number_137 d x3 (jw32 ((jrI mem 8 0 2) - x3)) mem := (jfrom_eq jc72 (jSem d) [21, 103, 137] 18 103 [vR 8 (some 0), vI x1, vI x2, vI x3, vI x4, vU] [] mem).trans rfl
set_option maxRecDepth 100000 in
theorem q_Ta_number_137 (d : Nat) (x3 : Int) (x5 : Int) (mem : jMem) : Ta_number_137 d x3 x5 mem = if x5 = 0 then jbnd (Ta_blame d x3 0 mem) fun v1 mem2 => some (vI (-1), mem2) else jbnd (Ta_blame d x3 1 mem) fun v3 mem4 => some (vI (-1), mem4) := (jfrom_eq jc72 (jSem d) [21, 103, 137] 10 137 [vR 8 (some 0), vU, vU, vI x3, vU, vI x5] [] mem).trans rfl
set_option maxRecDepth 100000 in
theorem q_Wa_copy (d : Nat) (r0 : Int) (r1 : Int) (mem : jMem) : Wa_copy (d + 1) r0 r1 mem = some (vU, (jwC (jwC (jwC (jwC (jwC (jwC (jwI mem 9 r0 0 (jrI mem 9 r1 0)) 38 r1 0 38 r0 0 6) 39 r1 0 39 r0 0 6) 40 r1 0 40 r0 0 4) 41 r1 0 41 r0 0 4) 42 r1 0 42 r0 0 4) 43 r1 0 43 r0 0 4)) := Eq.trans (b := jAtC jc73 (jSem d) 0 [vR 9 (some r0), vR 9 (some r1)] [] mem) rfl ((jfrom_eq jc73 (jSem d) [] 53 0 [vR 9 (some r0), vR 9 (some r1)] [] mem).trans rfl)
set_option maxRecDepth 100000 in
theorem q_Wa_begin (d : Nat) (r0 : Int) (r1 : Int) (mem : jMem) : Wa_begin (d + 1) r0 r1 mem = Wa_begin_7 d r0 r1 0 (jwI mem 9 r0 0 0) := Eq.trans (b := jAtC jc74 (jSem d) 0 [vR 9 (some r0), vR 4 (some r1), vU] [] mem) rfl ((jfrom_eq jc74 (jSem d) [7, 45] 6 0 [vR 9 (some r0), vR 4 (some r1), vU] [] mem).trans rfl)
set_option maxRecDepth 100000 in
theorem q_Wa_begin_7 (d : Nat) (r0 : Int) (r1 : Int) (x2 : Int) (mem : jMem) : Wa_begin_7 d r0 r1 x2 mem = if x2 < 6 then jix 6 x2 (jix 6 x2 (jix 6 x2 (jix 6 x2 (Wa_begin_7 d r0 r1 (jw32 (x2 + 1)) (jwI (jwI mem 38 r0 x2 (jrI mem 23 r1 x2)) 39 r0 x2 (jrI mem 26 r1 x2)))))) else Wa_begin_45 d r0 r1 0 mem := (jfrom_eq jc74 (jSem d) [7, 45] 22 7 [vR 9 (some r0), vR 4 (some r1), vI x2] [] mem).trans rfl
set_option maxRecDepth 100000 in
theorem q_Wa_begin_45 (d : Nat) (r0 : Int) (r1 : Int) (x2 : Int) (mem : jMem) : Wa_begin_45 d r0 r1 x2 mem = if x2 < 4 then jix 4 x2 (jix 4 x2 (jix 4 x2 (jix 4 x2 (jix 4 x2 (jix 4 x2 (jix 4 x2 (Wa_begin_45 d r0 r1 (jw32 (x2 + 1)) (jwI (jwI (jwI (jwI mem 40 r0 x2 (jrI mem 27 r1 x2)) 41 r0 x2 (jrI mem 28 r1 x2)) 42 r0 x2 (jrI mem 29 r1 x2)) 43 r0 x2 (-1))))))))) else some (vU, mem) := (jfrom_eq jc74 (jSem d) [7, 45] 35 45 [vR 9 (some r0), vR 4 (some r1), vI x2] [] mem).trans rfl
set_option maxRecDepth 100000 in
theorem q_Wa_bitsAt (d : Nat) (r0 : Int) (x1 : Int) (x2 : Int) (mem : jMem) : Wa_bitsAt (d + 1) r0 x1 x2 mem = Wa_bitsAt_5 d r0 x1 x2 0 0 mem := Eq.trans (b := jAtC jc75 (jSem d) 0 [vR 9 (some r0), vI x1, vI x2, vU, vU] [] mem) rfl ((jfrom_eq jc75 (jSem d) [5] 5 0 [vR 9 (some r0), vI x1, vI x2, vU, vU] [] mem).trans rfl)
set_option maxRecDepth 100000 in
theorem q_Wa_bitsAt_5 (d : Nat) (r0 : Int) (x1 : Int) (x2 : Int) (x3 : Int) (x4 : Int) (mem : jMem) : Wa_bitsAt_5 d r0 x1 x2 x3 x4 mem = if x4 < x2 then if x4 < 6 then jix 6 x4 (if (jrI mem 38 r0 x4) = x1 then Wa_bitsAt_5 d r0 x1 x2 (jor x3 (jshl 1 x4)) (jw32 (x4 + 1)) mem else Wa_bitsAt_5 d r0 x1 x2 x3 (jw32 (x4 + 1)) mem) else some (vI x3, mem) else some (vI x3, mem) := (jfrom_eq jc75 (jSem d) [5] 21 5 [vR 9 (some r0), vI x1, vI x2, vI x3, vI x4] [] mem).trans rfl
set_option maxRecDepth 100000 in
theorem q_Wa_fullTraps (d : Nat) (r0 : Int) (x1 : Int) (mem : jMem) : Wa_fullTraps (d + 1) r0 x1 mem = Wa_fullTraps_4 d r0 x1 0 0 mem := Eq.trans (b := jAtC jc76 (jSem d) 0 [vR 9 (some r0), vI x1, vU, vU] [] mem) rfl ((jfrom_eq jc76 (jSem d) [4] 5 0 [vR 9 (some r0), vI x1, vU, vU] [] mem).trans rfl)
set_option maxRecDepth 100000 in
theorem q_Wa_fullTraps_4 (d : Nat) (r0 : Int) (x1 : Int) (x2 : Int) (x3 : Int) (mem : jMem) : Wa_fullTraps_4 d r0 x1 x2 x3 mem = if x3 < x1 then if x3 < 4 then jix 4 x3 (if (jrI mem 43 r0 x3) = (-1) then Wa_fullTraps_4 d r0 x1 x2 (jw32 (x3 + 1)) mem else Wa_fullTraps_4 d r0 x1 (jw32 (x2 + 1)) (jw32 (x3 + 1)) mem) else some (vI x2, mem) else some (vI x2, mem) := (jfrom_eq jc76 (jSem d) [4] 16 4 [vR 9 (some r0), vI x1, vI x2, vI x3] [] mem).trans rfl
set_option maxRecDepth 100000 in
theorem q_Wa_places (d : Nat) (r0 : Int) (x1 : Int) (mem : jMem) : Wa_places (d + 1) r0 x1 mem = Wa_places_5 d r0 x1 0 0 mem := Eq.trans (b := jAtC jc77 (jSem d) 0 [vR 9 (some r0), vI x1, vU, vU, vU] [] mem) rfl ((jfrom_eq jc77 (jSem d) [5] 5 0 [vR 9 (some r0), vI x1, vU, vU, vU] [] mem).trans rfl)
set_option maxRecDepth 100000 in
theorem q_Wa_places_5 (d : Nat) (r0 : Int) (x1 : Int) (y2 : Int) (x4 : Int) (mem : jMem) : Wa_places_5 d r0 x1 y2 x4 mem = if x4 < x1 then if x4 < 6 then jix 6 x4 (Wa_places_5 d r0 x1 (jw64 ((jw64 ((jw64 (y2 * 64)) + (jrI mem 38 r0 x4))) + 1)) (jw32 (x4 + 1)) mem) else some (vJ y2, mem) else some (vJ y2, mem) := (jfrom_eq jc77 (jSem d) [5] 21 5 [vR 9 (some r0), vI x1, vJ y2, vU, vI x4] [] mem).trans rfl
set_option maxRecDepth 100000 in
theorem q_E_feed (d : Nat) (x1 : Int) (x2 : Int) (x3 : Int) (x4 : Int) (x5 : Int) (mem : jMem) : E_feed (d + 1) x1 x2 x3 x4 x5 mem = if 400 < (jw32 ((jrI mem 8 0 1) + 20)) then some (vI (-1), mem) else jbnd (Ta_put d x1 mem) fun v1 mem2 => jbnd (Ta_put d x2 mem2) fun v3 mem4 => jbnd (Ta_put d x3 mem4) fun v5 mem6 => jbnd (Ta_put d x4 mem6) fun v7 mem8 => jbnd (Ta_put d x5 mem8) fun v9 mem10 => some (vI (jrI mem10 8 0 1), mem10) := Eq.trans (b := jAtC jc78 (jSem d) 0 [vR 10 (some 0), vI x1, vI x2, vI x3, vI x4, vI x5] [] mem) rfl ((jfrom_eq jc78 (jSem d) [] 31 0 [vR 10 (some 0), vI x1, vI x2, vI x3, vI x4, vI x5] [] mem).trans rfl)
set_option maxRecDepth 100000 in
theorem q_E_end (d : Nat) (x1 : Int) (mem : jMem) : E_end (d + 1) x1 mem = if x1 < 0 then some (vI (-1), mem) else if (jrI mem 8 0 1) < x1 then some (vI (-1), mem) else some (vI x1, (jwI mem 8 0 1 x1)) := Eq.trans (b := jAtC jc79 (jSem d) 0 [vR 10 (some 0), vI x1] [] mem) rfl ((jfrom_eq jc79 (jSem d) [] 13 0 [vR 10 (some 0), vI x1] [] mem).trans rfl)
set_option maxRecDepth 100000 in
theorem q_E_river (d : Nat) (mem : jMem) : E_river (d + 1) mem = jbnd (Ri_read d 5 mem) fun v1 mem2 => if (jasI v1) = 0 then some (vI (jw32 ((-2) - (jrI mem2 8 0 3))), (jwI mem2 8 0 1 0)) else jbnd (Ri_copy d 0 5 (jwI mem2 8 0 1 0)) fun v3 mem4 => jbnd (Wa_begin d 0 0 mem4) fun v5 mem6 => some (vI (jrI mem6 4 0 5), (jwI (jwI mem6 3 0 0 0) 0 0 2 0)) := Eq.trans (b := jAtC jc80 (jSem d) 0 [vR 10 (some 0), vU] [] mem) rfl ((jfrom_eq jc80 (jSem d) [] 39 0 [vR 10 (some 0), vU] [] mem).trans rfl)
set_option maxRecDepth 100000 in
theorem q_E_rule (d : Nat) (mem : jMem) : E_rule (d + 1) mem = if (jrI mem 10 0 2) < 6 then jix 6 (jrI mem 10 0 2) (jbnd (Ru_read d (jrI mem 10 0 2) mem) fun v1 mem2 => if (jasI v1) = 0 then some (vI (jw32 ((-2) - (jrI mem2 8 0 3))), (jwI mem2 8 0 1 0)) else some (vI (jw32 ((jw32 ((jrI mem2 10 0 2) + 1)) - 1)), (jwI (jwI mem2 8 0 1 0) 10 0 2 (jw32 ((jrI mem2 10 0 2) + 1))))) else some (vI (-1), mem) := Eq.trans (b := jAtC jc81 (jSem d) 0 [vR 10 (some 0), vU] [] mem) rfl ((jfrom_eq jc81 (jSem d) [] 30 0 [vR 10 (some 0), vU] [] mem).trans rfl)
set_option maxRecDepth 100000 in
theorem q_E_force (d : Nat) (x1 : Int) (mem : jMem) : E_force (d + 1) x1 mem = if x1 < (-1) then some (vI (-2), mem) else if x1 < (jrI mem 10 0 2) then some (vI (jrI mem 6 0 3), (jwI mem 6 0 3 x1)) else some (vI (-2), mem) := Eq.trans (b := jAtC jc82 (jSem d) 0 [vR 10 (some 0), vI x1, vU] [] mem) rfl ((jfrom_eq jc82 (jSem d) [] 17 0 [vR 10 (some 0), vI x1, vU] [] mem).trans rfl)
set_option maxRecDepth 100000 in
theorem q_E_memory (d : Nat) (x1 : Int) (x2 : Int) (mem : jMem) : E_memory (d + 1) x1 x2 mem = jbnd (E_isMemory d x1 mem) fun v1 mem2 => if (jasI v1) = 0 then some (vI (-2), mem2) else if x2 = 0 then jix 6 x1 (some (vI (jrI mem2 24 0 x1), mem2)) else if x2 = 1 then jix 6 x1 (some (vI (jrI mem2 25 0 x1), mem2)) else if x2 = 2 then jix 6 x1 (some (vI (jrI mem2 26 0 x1), mem2)) else if x2 = 3 then jix 6 x1 (some (vI (jrI mem2 38 0 x1), mem2)) else some (vI (-2), mem2) := Eq.trans (b := jAtC jc83 (jSem d) 0 [vR 10 (some 0), vI x1, vI x2] [] mem) rfl ((jfrom_eq jc83 (jSem d) [] 13 0 [vR 10 (some 0), vI x1, vI x2] [] mem).trans rfl)
set_option maxRecDepth 100000 in
theorem q_E_trap (d : Nat) (x1 : Int) (x2 : Int) (mem : jMem) : E_trap (d + 1) x1 x2 mem = jbnd (E_isTrap d x1 mem) fun v1 mem2 => if (jasI v1) = 0 then some (vI (-2), mem2) else if x2 = 0 then jix 4 x1 (some (vI (jrI mem2 40 0 x1), mem2)) else if x2 = 1 then jix 4 x1 (some (vI (jrI mem2 28 0 x1), mem2)) else if x2 = 2 then jix 4 x1 (some (vI (jrI mem2 42 0 x1), mem2)) else if x2 = 3 then jix 4 x1 (some (vI (jrI mem2 30 0 x1), mem2)) else if x2 = 4 then jix 4 x1 (some (vI (jrI mem2 43 0 x1), mem2)) else some (vI (-2), mem2) := Eq.trans (b := jAtC jc84 (jSem d) 0 [vR 10 (some 0), vI x1, vI x2] [] mem) rfl ((jfrom_eq jc84 (jSem d) [] 13 0 [vR 10 (some 0), vI x1, vI x2] [] mem).trans rfl)
set_option maxRecDepth 100000 in
theorem q_E_person (d : Nat) (x1 : Int) (mem : jMem) : E_person (d + 1) x1 mem = jbnd (E_isPerson d x1 mem) fun v1 mem2 => if (jasI v1) = 0 then some (vI (-1), mem2) else jbnd (Sc_bitsAt d 0 (jw32 (30 + x1)) mem2) fun v3 mem4 => some (vI (jasI v3), mem4) := Eq.trans (b := jAtC jc85 (jSem d) 0 [vR 10 (some 0), vI x1] [] mem) rfl ((jfrom_eq jc85 (jSem d) [] 12 0 [vR 10 (some 0), vI x1] [] mem).trans rfl)
set_option maxRecDepth 100000 in
theorem q_E_moon (d : Nat) (x1 : Int) (mem : jMem) : E_moon (d + 1) x1 mem = jbnd (Ri_round d 0 mem) fun v1 mem2 => jbnd (E_within d x1 0 (jw32 ((jasI v1) - 1)) mem2) fun v3 mem4 => if (jasI v3) = 0 then some (vI (-1), mem4) else jbnd (Ri_lightOf d 0 x1 mem4) fun v5 mem6 => some (vI (jasI v5), mem6) := Eq.trans (b := jAtC jc86 (jSem d) 0 [vR 10 (some 0), vI x1] [] mem) rfl ((jfrom_eq jc86 (jSem d) [] 17 0 [vR 10 (some 0), vI x1] [] mem).trans rfl)
set_option maxRecDepth 100000 in
theorem q_E_night (d : Nat) (mem : jMem) : E_night (d + 1) mem = if (jrI mem 4 0 0) = 0 then some (vI (-1), mem) else if (jrI mem 9 0 0) < 999 then jbnd (Ac_keep d 0 mem) fun v1 mem2 => jbnd (E_ruling d mem2) fun v3 mem4 => jbnd (Ri_lightOf d 0 (jrI mem4 9 0 0) mem4) fun v5 mem6 => jbnd (Sm_step d 0 0 0 (jasR v3) (jasI v5) mem6) fun v7 mem8 => some (vI (jasI v7), mem8) else some (vI (-1), mem) := Eq.trans (b := jAtC jc87 (jSem d) 0 [vR 10 (some 0)] [] mem) rfl ((jfrom_eq jc87 (jSem d) [] 37 0 [vR 10 (some 0)] [] mem).trans rfl)
set_option maxRecDepth 100000 in
theorem q_E_lift (d : Nat) (x1 : Int) (mem : jMem) : E_lift (d + 1) x1 mem = jbnd (E_isTrap d x1 mem) fun v1 mem2 => if (jasI v1) = 0 then some (vI (-1), mem2) else jix 4 x1 (jix 4 x1 (jbnd (E_isMemory d (jrI mem2 43 0 x1) mem2) fun v3 mem4 => if (jasI v3) = 0 then some (vI (-1), mem4) else jbnd (E_isPerson d (jrI mem2 30 0 x1) mem4) fun v5 mem6 => if (jasI v5) = 0 then some (vI (-1), mem6) else jix 6 (jrI mem2 43 0 x1) (jix 4 (jrI mem2 30 0 x1) (if (jrI mem6 22 0 (jrI mem2 30 0 x1)) < (jrI mem6 24 0 (jrI mem2 43 0 x1)) then some (vI (-1), mem6) else jbnd (Ac_keep d 0 mem6) fun v7 mem8 => jix 6 (jrI mem2 43 0 x1) (jix 4 x1 (some (vI (jrI mem2 43 0 x1), (jwI (jwI mem8 38 0 (jrI mem2 43 0 x1) (jw32 (30 + (jrI mem2 30 0 x1)))) 43 0 x1 (-1))))))))) := Eq.trans (b := jAtC jc88 (jSem d) 0 [vR 10 (some 0), vI x1, vU, vU] [] mem) rfl ((jfrom_eq jc88 (jSem d) [] 63 0 [vR 10 (some 0), vI x1, vU, vU] [] mem).trans rfl)
set_option maxRecDepth 100000 in
theorem q_E_sink (d : Nat) (x1 : Int) (x2 : Int) (x3 : Int) (mem : jMem) : E_sink (d + 1) x1 x2 x3 mem = jbnd (E_isEmptyTrap d x1 mem) fun v1 mem2 => if (jasI v1) = 0 then some (vI (-1), mem2) else jbnd (E_isPool d x2 mem2) fun v3 mem4 => if (jasI v3) = 0 then some (vI (-1), mem4) else jbnd (E_within d x3 0 7 mem4) fun v5 mem6 => if (jasI v5) = 0 then some (vI (-1), mem6) else jix 4 x1 (jix 4 x1 (if (jrI mem6 40 0 x1) = x2 then if (jrI mem6 42 0 x1) = x3 then some (vI (-1), mem6) else E_sink_70 d x1 x2 x3 (jrI mem6 40 0 x1) (jrI mem6 42 0 x1) mem6 else E_sink_70 d x1 x2 x3 (jrI mem6 40 0 x1) (jrI mem6 42 0 x1) mem6)) := Eq.trans (b := jAtC jc89 (jSem d) 0 [vR 10 (some 0), vI x1, vI x2, vI x3, vU, vU] [] mem) rfl ((jfrom_eq jc89 (jSem d) [70] 35 0 [vR 10 (some 0), vI x1, vI x2, vI x3, vU, vU] [] mem).trans rfl)
set_option maxRecDepth 100000 in
theorem q_E_sink_70 (d : Nat) (x1 : Int) (x2 : Int) (x3 : Int) (x4 : Int) (x5 : Int) (mem : jMem) : E_sink_70 d x1 x2 x3 x4 x5 mem = jbnd (Ac_keep d 0 mem) fun v1 mem2 => jix 4 x1 (jix 4 x1 (some (vI (jw32 ((jw32 (8 * x4)) + x5)), (jwI (jwI mem2 40 0 x1 x2) 42 0 x1 x3)))) := (jfrom_eq jc89 (jSem d) [70] 26 70 [vR 10 (some 0), vI x1, vI x2, vI x3, vI x4, vI x5] [] mem).trans rfl
set_option maxRecDepth 100000 in
theorem q_E_free (d : Nat) (x1 : Int) (x2 : Int) (mem : jMem) : E_free (d + 1) x1 x2 mem = jbnd (E_isHad d x1 mem) fun v1 mem2 => if (jasI v1) = 0 then some (vI (-1), mem2) else jbnd (E_isPool d x2 mem2) fun v3 mem4 => if (jasI v3) = 0 then some (vI (-1), mem4) else jbnd (Ac_keep d 0 mem4) fun v5 mem6 => jix 6 x1 (jix 6 x1 (some (vI (jw32 ((jrI mem6 38 0 x1) - 30)), (jwI mem6 38 0 x1 x2)))) := Eq.trans (b := jAtC jc90 (jSem d) 0 [vR 10 (some 0), vI x1, vI x2, vU] [] mem) rfl ((jfrom_eq jc90 (jSem d) [] 32 0 [vR 10 (some 0), vI x1, vI x2, vU] [] mem).trans rfl)
set_option maxRecDepth 100000 in
theorem q_E_give (d : Nat) (x1 : Int) (x2 : Int) (mem : jMem) : E_give (d + 1) x1 x2 mem = jbnd (E_isHad d x1 mem) fun v1 mem2 => if (jasI v1) = 0 then some (vI (-1), mem2) else jbnd (E_isPerson d x2 mem2) fun v3 mem4 => if (jasI v3) = 0 then some (vI (-1), mem4) else jix 6 x1 (if (jrI mem4 38 0 x1) = (jw32 (30 + x2)) then some (vI (-1), mem4) else jbnd (Ac_keep d 0 mem4) fun v5 mem6 => jix 6 x1 (jix 6 x1 (some (vI (jw32 ((jrI mem6 38 0 x1) - 30)), (jwI mem6 38 0 x1 (jw32 (30 + x2))))))) := Eq.trans (b := jAtC jc91 (jSem d) 0 [vR 10 (some 0), vI x1, vI x2, vU] [] mem) rfl ((jfrom_eq jc91 (jSem d) [] 44 0 [vR 10 (some 0), vI x1, vI x2, vU] [] mem).trans rfl)
set_option maxRecDepth 100000 in
theorem q_E_undo (d : Nat) (mem : jMem) : E_undo (d + 1) mem = jbnd (Ac_takeBack d 0 mem) fun v1 mem2 => some (vI (jasI v1), mem2) := Eq.trans (b := jAtC jc92 (jSem d) 0 [vR 10 (some 0)] [] mem) rfl ((jfrom_eq jc92 (jSem d) [] 7 0 [vR 10 (some 0)] [] mem).trans rfl)
set_option maxRecDepth 100000 in
theorem q_E_ahead (d : Nat) (x1 : Int) (x2 : Int) (mem : jMem) : E_ahead (d + 1) x1 x2 mem = jbnd (E_isMemory d x1 mem) fun v1 mem2 => if (jasI v1) = 0 then some (vI (-2), mem2) else jbnd (E_within d x2 0 100 mem2) fun v3 mem4 => if (jasI v3) = 0 then some (vI (-2), mem4) else jbnd (E_ruling d mem4) fun v5 mem6 => jbnd (As_after d 0 (jasR v5) x2 mem6) fun v7 mem8 => jsm (jasR v7) fun i9 => jix 6 x1 (some (vI (jrI mem8 38 i9 x1), mem8)) := Eq.trans (b := jAtC jc93 (jSem d) 0 [vR 10 (some 0), vI x1, vI x2] [] mem) rfl ((jfrom_eq jc93 (jSem d) [] 21 0 [vR 10 (some 0), vI x1, vI x2] [] mem).trans rfl)
set_option maxRecDepth 100000 in
theorem q_E_caught (d : Nat) (x1 : Int) (x2 : Int) (mem : jMem) : E_caught (d + 1) x1 x2 mem = jbnd (E_isFree d x1 mem) fun v1 mem2 => if (jasI v1) = 0 then some (vI (-1), mem2) else jbnd (E_within d x2 0 1 mem2) fun v3 mem4 => if (jasI v3) = 0 then some (vI (-1), mem4) else jbnd (E_ruling d mem4) fun v5 mem6 => jbnd (As_firstCatch d 0 (jasR v5) x1 x2 mem6) fun v7 mem8 => some (vI (jasI v7), mem8) := Eq.trans (b := jAtC jc94 (jSem d) 0 [vR 10 (some 0), vI x1, vI x2] [] mem) rfl ((jfrom_eq jc94 (jSem d) [] 19 0 [vR 10 (some 0), vI x1, vI x2] [] mem).trans rfl)
set_option maxRecDepth 100000 in
theorem q_E_atSea (d : Nat) (x1 : Int) (mem : jMem) : E_atSea (d + 1) x1 mem = if (jrI mem 4 0 0) = 0 then some (vI (-1), mem) else jbnd (E_within d x1 0 100 mem) fun v1 mem2 => if (jasI v1) = 0 then some (vI (-1), mem2) else jbnd (E_ruling d mem2) fun v3 mem4 => jbnd (As_after d 0 (jasR v3) x1 mem4) fun v5 mem6 => jsm (jasR v5) fun _ => jbnd (jSem d 75 [vR 9 (jasR v5), vI (-1), vI (jrI mem6 4 0 5)] mem6) fun v7 mem8 => some (vI (jasI v7), mem8) := Eq.trans (b := jAtC jc95 (jSem d) 0 [vR 10 (some 0), vI x1] [] mem) rfl ((jfrom_eq jc95 (jSem d) [] 25 0 [vR 10 (some 0), vI x1] [] mem).trans rfl)
set_option maxRecDepth 100000 in
theorem q_E_full (d : Nat) (mem : jMem) : E_full (d + 1) mem = if (jrI mem 4 0 0) = 0 then some (vI (-1), mem) else jbnd (E_ruling d mem) fun v1 mem2 => jbnd (As_firstFull d 0 (jasR v1) mem2) fun v3 mem4 => some (vI (jasI v3), mem4) := Eq.trans (b := jAtC jc96 (jSem d) 0 [vR 10 (some 0)] [] mem) rfl ((jfrom_eq jc96 (jSem d) [] 14 0 [vR 10 (some 0)] [] mem).trans rfl)
set_option maxRecDepth 100000 in
theorem q_E_bestSink (d : Nat) (x1 : Int) (x2 : Int) (x3 : Int) (mem : jMem) : E_bestSink (d + 1) x1 x2 x3 mem = jbnd (E_isEmptyTrap d x1 mem) fun v1 mem2 => if (jasI v1) = 0 then some (vI (-2), mem2) else jbnd (E_within d x2 1 40 mem2) fun v3 mem4 => if (jasI v3) = 0 then some (vI (-2), mem4) else jbnd (E_within d x3 0 2 mem4) fun v5 mem6 => if (jasI v5) = 0 then some (vI (-2), mem6) else jbnd (E_ruling d mem6) fun v7 mem8 => jbnd (As_bestPlace d 0 (jasR v7) x1 x2 x3 mem8) fun v9 mem10 => some (vI (jasI v9), mem10) := Eq.trans (b := jAtC jc97 (jSem d) 0 [vR 10 (some 0), vI x1, vI x2, vI x3] [] mem) rfl ((jfrom_eq jc97 (jSem d) [] 25 0 [vR 10 (some 0), vI x1, vI x2, vI x3] [] mem).trans rfl)
set_option maxRecDepth 100000 in
theorem q_E_lay (d : Nat) (x1 : Int) (x2 : Int) (x3 : Int) (x4 : Int) (mem : jMem) : E_lay (d + 1) x1 x2 x3 x4 mem = jbnd (E_isFree d x1 mem) fun v1 mem2 => if (jasI v1) = 0 then some (vI (-1), mem2) else jbnd (E_within d x2 1 40 mem2) fun v3 mem4 => if (jasI v3) = 0 then some (vI (-1), mem4) else jbnd (E_isPool d x3 mem4) fun v5 mem6 => if (jasI v5) = 0 then some (vI (-1), mem6) else jbnd (E_within d x4 0 1 mem6) fun v7 mem8 => if (jasI v7) = 0 then some (vI (-1), mem8) else jbnd (E_ruling d mem8) fun v9 mem10 => jbnd (As_poolsBefore d 0 (jasR v9) x1 x2 x3 mem10) fun v11 mem12 => if x4 = 0 then jbnd (J_bitCount d (jasI v11) mem12) fun v13 mem14 => some (vI (jasI v13), mem14) else some (vI (jasI v11), mem12) := Eq.trans (b := jAtC jc98 (jSem d) 0 [vR 10 (some 0), vI x1, vI x2, vI x3, vI x4, vU] [] mem) rfl ((jfrom_eq jc98 (jSem d) [] 35 0 [vR 10 (some 0), vI x1, vI x2, vI x3, vI x4, vU] [] mem).trans rfl)
set_option maxRecDepth 100000 in
theorem q_E_throats (d : Nat) (x1 : Int) (x2 : Int) (mem : jMem) : E_throats (d + 1) x1 x2 mem = jbnd (E_isEmptyTrap d x1 mem) fun v1 mem2 => if (jasI v1) = 0 then some (vI (-1), mem2) else jbnd (E_within d x2 1 40 mem2) fun v3 mem4 => if (jasI v3) = 0 then some (vI (-1), mem4) else jbnd (E_ruling d mem4) fun v5 mem6 => jbnd (As_leastThroat d 0 (jasR v5) x1 x2 mem6) fun v7 mem8 => some (vI (jasI v7), mem8) := Eq.trans (b := jAtC jc99 (jSem d) 0 [vR 10 (some 0), vI x1, vI x2] [] mem) rfl ((jfrom_eq jc99 (jSem d) [] 19 0 [vR 10 (some 0), vI x1, vI x2] [] mem).trans rfl)
set_option maxRecDepth 100000 in
theorem q_E_astray (d : Nat) (mem : jMem) : E_astray (d + 1) mem = if (jrI mem 4 0 0) = 0 then some (vI (-1), mem) else jbnd (Ha_strayed d 0 mem) fun v1 mem2 => some (vI (jasI v1), mem2) := Eq.trans (b := jAtC jc100 (jSem d) 0 [vR 10 (some 0)] [] mem) rfl ((jfrom_eq jc100 (jSem d) [] 10 0 [vR 10 (some 0)] [] mem).trans rfl)
set_option maxRecDepth 100000 in
theorem q_E_rings (d : Nat) (x1 : Int) (mem : jMem) : E_rings (d + 1) x1 mem = if (jrI mem 4 0 0) = 0 then some (vI (-1), mem) else jbnd (E_within d x1 0 1 mem) fun v1 mem2 => if (jasI v1) = 0 then some (vI (-1), mem2) else jbnd (Ha_ringed d 0 x1 mem2) fun v3 mem4 => some (vI (jasI v3), mem4) := Eq.trans (b := jAtC jc101 (jSem d) 0 [vR 10 (some 0), vI x1] [] mem) rfl ((jfrom_eq jc101 (jSem d) [] 15 0 [vR 10 (some 0), vI x1] [] mem).trans rfl)
set_option maxRecDepth 100000 in
theorem q_E_right (d : Nat) (x1 : Int) (mem : jMem) : E_right (d + 1) x1 mem = if (jrI mem 4 0 0) = 0 then some (vI (-1), mem) else jbnd (E_within d x1 0 2 mem) fun v1 mem2 => if (jasI v1) = 0 then some (vI (-1), mem2) else jbnd (Ha_strayed d 0 mem2) fun v3 mem4 => if x1 = 0 then jbnd (J_bitCount d (jasI v3) mem4) fun v5 mem6 => some (vI (jasI v5), mem6) else E_right_43 d x1 (jasI v3) 0 mem4 := Eq.trans (b := jAtC jc102 (jSem d) 0 [vR 10 (some 0), vI x1, vU, vU] [] mem) rfl ((jfrom_eq jc102 (jSem d) [43] 19 0 [vR 10 (some 0), vI x1, vU, vU] [] mem).trans rfl)
set_option maxRecDepth 100000 in
theorem q_E_right_43 (d : Nat) (x1 : Int) (x2 : Int) (x3 : Int) (mem : jMem) : E_right_43 d x1 x2 x3 mem = if x3 < (jrI mem 4 0 5) then if (jand (jshr x2 x3) 1) = 0 then E_right_43 d x1 x2 (jw32 (x3 + 1)) mem else if x1 = 1 then some (vI x3, mem) else jix 6 x3 (some (vI (jrI mem 26 0 x3), mem)) else some (vI (-2), mem) := (jfrom_eq jc102 (jSem d) [43] 22 43 [vR 10 (some 0), vI x1, vI x2, vI x3] [] mem).trans rfl
set_option maxRecDepth 100000 in
theorem q_E_of (d : Nat) (x1 : Int) (mem : jMem) : E_of (d + 1) x1 mem = jbnd (E_isMemory d x1 mem) fun v1 mem2 => if (jasI v1) = 0 then some (vI (-1), mem2) else jbnd (E_ruling d mem2) fun v3 mem4 => jbnd (Gu_owners d 0 (jasR v3) x1 mem4) fun v5 mem6 => some (vI (jasI v5), mem6) := Eq.trans (b := jAtC jc103 (jSem d) 0 [vR 10 (some 0), vI x1] [] mem) rfl ((jfrom_eq jc103 (jSem d) [] 14 0 [vR 10 (some 0), vI x1] [] mem).trans rfl)
set_option maxRecDepth 100000 in
theorem q_E_rests (d : Nat) (x1 : Int) (x2 : Int) (x3 : Int) (x4 : Int) (mem : jMem) : E_rests (d + 1) x1 x2 x3 x4 mem = if x1 = x2 then some (vI (-1), mem) else jbnd (E_isEmptyTrap d x1 mem) fun v1 mem2 => if (jasI v1) = 0 then some (vI (-1), mem2) else jbnd (E_isEmptyTrap d x2 mem2) fun v3 mem4 => if (jasI v3) = 0 then some (vI (-1), mem4) else jbnd (E_within d x3 1 20 mem4) fun v5 mem6 => if (jasI v5) = 0 then some (vI (-1), mem6) else jbnd (E_within d x4 0 2 mem6) fun v7 mem8 => if (jasI v7) = 0 then some (vI (-1), mem8) else jbnd (E_ruling d mem8) fun v9 mem10 => jbnd (As_steadyBaits d 0 (jasR v9) x1 x2 x3 x4 mem10) fun v11 mem12 => some (vI (jasI v11), mem12) := Eq.trans (b := jAtC jc104 (jSem d) 0 [vR 10 (some 0), vI x1, vI x2, vI x3, vI x4] [] mem) rfl ((jfrom_eq jc104 (jSem d) [] 33 0 [vR 10 (some 0), vI x1, vI x2, vI x3, vI x4] [] mem).trans rfl)
set_option maxRecDepth 100000 in
theorem q_E_cycle (d : Nat) (x1 : Int) (mem : jMem) : E_cycle (d + 1) x1 mem = if (jrI mem 4 0 0) = 0 then some (vI (-1), mem) else jbnd (E_within d x1 0 1 mem) fun v1 mem2 => if (jasI v1) = 0 then some (vI (-1), mem2) else jbnd (E_ruling d mem2) fun v3 mem4 => jbnd (As_firstRound d 0 (jasR v3) x1 mem4) fun v5 mem6 => some (vI (jasI v5), mem6) := Eq.trans (b := jAtC jc105 (jSem d) 0 [vR 10 (some 0), vI x1] [] mem) rfl ((jfrom_eq jc105 (jSem d) [] 19 0 [vR 10 (some 0), vI x1] [] mem).trans rfl)
set_option maxRecDepth 100000 in
theorem q_E_pence (d : Nat) (x1 : Int) (x2 : Int) (mem : jMem) : E_pence (d + 1) x1 x2 mem = jbnd (E_isPerson d x2 mem) fun v1 mem2 => if (jasI v1) = 0 then some (vI (-1), mem2) else jbnd (E_within d x1 0 9999 mem2) fun v3 mem4 => if (jasI v3) = 0 then some (vI (-1), mem4) else jbnd (Ha_share d 0 x1 x2 mem4) fun v5 mem6 => some (vI (jasI v5), mem6) := Eq.trans (b := jAtC jc106 (jSem d) 0 [vR 10 (some 0), vI x1, vI x2] [] mem) rfl ((jfrom_eq jc106 (jSem d) [] 15 0 [vR 10 (some 0), vI x1, vI x2] [] mem).trans rfl)
set_option maxRecDepth 100000 in
theorem q_E_note (d : Nat) (x1 : Int) (x2 : Int) (x3 : Int) (mem : jMem) : E_note (d + 1) x1 x2 x3 mem = if x1 = (-1) then some (vI 0, (jwI mem 3 0 0 0)) else jbnd (E_within d x1 0 60 mem) fun v1 mem2 => if (jasI v1) = 0 then some (vI (-2), mem2) else jbnd (E_isMemory d x2 mem2) fun v3 mem4 => if (jasI v3) = 0 then some (vI (-2), mem4) else if x3 = (-1) then E_note_52 d x1 x2 x3 mem4 else jbnd (E_isPool d x3 mem4) fun v5 mem6 => if (jasI v5) = 0 then some (vI (-2), mem6) else E_note_52 d x1 x2 x3 mem6 := Eq.trans (b := jAtC jc107 (jSem d) 0 [vR 10 (some 0), vI x1, vI x2, vI x3] [] mem) rfl ((jfrom_eq jc107 (jSem d) [52] 21 0 [vR 10 (some 0), vI x1, vI x2, vI x3] [] mem).trans rfl)
set_option maxRecDepth 100000 in
theorem q_E_note_52 (d : Nat) (x1 : Int) (x2 : Int) (x3 : Int) (mem : jMem) : E_note_52 d x1 x2 x3 mem = jbnd (No_add d 0 x1 x2 x3 mem) fun v1 mem2 => if (jasI v1) = 0 then some (vI (-2), mem2) else some (vI (jrI mem2 3 0 0), mem2) := (jfrom_eq jc107 (jSem d) [52] 14 52 [vR 10 (some 0), vI x1, vI x2, vI x3] [] mem).trans rfl
set_option maxRecDepth 100000 in
theorem q_E_ruled (d : Nat) (x1 : Int) (mem : jMem) : E_ruled (d + 1) x1 mem = if (jrI mem 4 0 0) = 0 then some (vI (-3), mem) else jbnd (E_within d x1 0 1 mem) fun v1 mem2 => if (jasI v1) = 0 then some (vI (-3), mem2) else jbnd (Gu_sieve d 0 (jrI mem2 10 0 2) 0 mem2) fun v3 mem4 => if x1 = 0 then some (vI (jasI v3), mem4) else if (jasI v3) = 0 then some (vI (-2), mem4) else jbnd (Gu_firstFitting d mem4) fun v5 mem6 => some (vI (jasI v5), mem6) := Eq.trans (b := jAtC jc108 (jSem d) 0 [vR 10 (some 0), vI x1, vU] [] mem) rfl ((jfrom_eq jc108 (jSem d) [] 29 0 [vR 10 (some 0), vI x1, vU] [] mem).trans rfl)
set_option maxRecDepth 100000 in
theorem q_E_look (d : Nat) (x1 : Int) (x2 : Int) (mem : jMem) : E_look (d + 1) x1 x2 mem = if (jrI mem 4 0 0) = 0 then some (vI (-1), mem) else jbnd (E_within d x1 0 60 mem) fun v1 mem2 => if (jasI v1) = 0 then some (vI (-1), mem2) else jbnd (E_within d x2 0 1 mem2) fun v3 mem4 => if (jasI v3) = 0 then some (vI (-1), mem4) else jbnd (Gu_sieve d 0 (jrI mem4 10 0 2) x1 mem4) fun v5 mem6 => if (jasI v5) = 0 then some (vI (-2), mem6) else if (jrI mem6 4 0 5) = 0 then some (vI (-2), mem6) else jbnd (Gu_bestParting d (jasI v5) (jrI mem6 4 0 5) x2 mem6) fun v7 mem8 => some (vI (jasI v7), mem8) := Eq.trans (b := jAtC jc109 (jSem d) 0 [vR 10 (some 0), vI x1, vI x2, vU] [] mem) rfl ((jfrom_eq jc109 (jSem d) [] 43 0 [vR 10 (some 0), vI x1, vI x2, vU] [] mem).trans rfl)
set_option maxRecDepth 100000 in
theorem q_E_seed (d : Nat) (x1 : Int) (mem : jMem) : E_seed (d + 1) x1 mem = if x1 < 0 then some (vI (-1), mem) else some (vI (jrI mem 6 0 4), (jwI mem 6 0 4 x1)) := Eq.trans (b := jAtC jc110 (jSem d) 0 [vR 10 (some 0), vI x1, vU] [] mem) rfl ((jfrom_eq jc110 (jSem d) [] 12 0 [vR 10 (some 0), vI x1, vU] [] mem).trans rfl)
set_option maxRecDepth 100000 in
theorem q_E_moons (d : Nat) (x1 : Int) (x2 : Int) (x3 : Int) (x4 : Int) (mem : jMem) : E_moons (d + 1) x1 x2 x3 x4 mem = if (jrI mem 4 0 0) = 0 then some (vI (-1), mem) else jbnd (E_within d x1 1 10 mem) fun v1 mem2 => if (jasI v1) = 0 then some (vI (-1), mem2) else jbnd (E_within d x2 1 60 mem2) fun v3 mem4 => if (jasI v3) = 0 then some (vI (-1), mem4) else jbnd (E_within d x3 0 100 mem4) fun v5 mem6 => if (jasI v5) = 0 then some (vI (-1), mem6) else jbnd (E_within d x4 0 1 mem6) fun v7 mem8 => if (jasI v7) = 0 then some (vI (-1), mem8) else jbnd (E_ruling d mem8) fun v9 mem10 => jbnd (As_drawnNights d 0 (jasR v9) x1 x2 x3 x4 mem10) fun v11 mem12 => some (vI (jasI v11), mem12) := Eq.trans (b := jAtC jc111 (jSem d) 0 [vR 10 (some 0), vI x1, vI x2, vI x3, vI x4] [] mem) rfl ((jfrom_eq jc111 (jSem d) [] 37 0 [vR 10 (some 0), vI x1, vI x2, vI x3, vI x4] [] mem).trans rfl)
set_option maxRecDepth 100000 in
theorem q_E_count (d : Nat) (x1 : Int) (mem : jMem) : E_count (d + 1) x1 mem = if x1 = 0 then some (vI (jrI mem 4 0 1), mem) else if x1 = 1 then some (vI (jrI mem 4 0 2), mem) else if x1 = 2 then jbnd (Ri_round d 0 mem) fun v1 mem2 => some (vI (jasI v1), mem2) else if x1 = 3 then some (vI (jrI mem 4 0 4), mem) else if x1 = 4 then some (vI (jrI mem 4 0 5), mem) else if x1 = 5 then some (vI (jrI mem 4 0 6), mem) else if x1 = 6 then some (vI (jrI mem 10 0 2), mem) else if x1 = 7 then some (vI (jrI mem 6 0 3), mem) else if x1 = 8 then some (vI (jrI mem 9 0 0), mem) else if x1 = 9 then jbnd (Sc_freeBits d 0 mem) fun v3 mem4 => some (vI (jasI v3), mem4) else if x1 = 10 then jbnd (Sc_bitsAt d 0 (-1) mem) fun v5 mem6 => some (vI (jasI v5), mem6) else if x1 = 11 then some (vI (jrI mem 3 0 0), mem) else if x1 = 12 then some (vI (jrI mem 0 0 2), mem) else if x1 = 13 then some (vI (jrI mem 6 0 4), mem) else if x1 = 14 then some (vI (jrI mem 8 0 1), mem) else some (vI (-1), mem) := Eq.trans (b := jAtC jc112 (jSem d) 0 [vR 10 (some 0), vI x1] [] mem) rfl ((jfrom_eq jc112 (jSem d) [] 7 0 [vR 10 (some 0), vI x1] [] mem).trans rfl)
set_option maxRecDepth 100000 in
theorem q_E_image (d : Nat) (x1 : Int) (mem : jMem) : E_image (d + 1) x1 mem = jbnd (E_within d x1 0 3 mem) fun v1 mem2 => if (jasI v1) = 0 then some (vI (-1), mem2) else jix 4 x1 (jbnd (Sc_copy d (x1 + 1) 0 mem2) fun v3 mem4 => jix 4 x1 (some (vI (jrI mem4 9 0 0), (jwI mem4 6 (x1 + 1) 5 1)))) := Eq.trans (b := jAtC jc113 (jSem d) 0 [vR 10 (some 0), vI x1] [] mem) rfl ((jfrom_eq jc113 (jSem d) [] 23 0 [vR 10 (some 0), vI x1] [] mem).trans rfl)
set_option maxRecDepth 100000 in
theorem q_E_back (d : Nat) (x1 : Int) (mem : jMem) : E_back (d + 1) x1 mem = jbnd (E_within d x1 0 3 mem) fun v1 mem2 => if (jasI v1) = 0 then some (vI (-1), mem2) else jix 4 x1 (if (jrI mem2 6 (x1 + 1) 5) = 0 then some (vI (-1), mem2) else jix 4 x1 (jbnd (Sc_copy d 0 (x1 + 1) mem2) fun v3 mem4 => some (vI (jrI mem4 9 0 0), (jwI mem4 0 0 2 0)))) := Eq.trans (b := jAtC jc114 (jSem d) 0 [vR 10 (some 0), vI x1] [] mem) rfl ((jfrom_eq jc114 (jSem d) [] 27 0 [vR 10 (some 0), vI x1] [] mem).trans rfl)
set_option maxRecDepth 100000 in
theorem q_E_within (d : Nat) (x0 : Int) (x1 : Int) (x2 : Int) (mem : jMem) : E_within (d + 1) x0 x1 x2 mem = if x0 < x1 then some (vI 0, mem) else if x2 < x0 then some (vI 0, mem) else some (vI 1, mem) := Eq.trans (b := jAtC jc115 (jSem d) 0 [vI x0, vI x1, vI x2] [] mem) rfl ((jfrom_eq jc115 (jSem d) [] 9 0 [vI x0, vI x1, vI x2] [] mem).trans rfl)
set_option maxRecDepth 100000 in
theorem q_E_isFreePlace (d : Nat) (x0 : Int) (mem : jMem) : E_isFreePlace (d + 1) x0 mem = jbnd (E_within d x0 0 11 mem) fun v1 mem2 => jbo (jasI v1) (some (vI (jasI v1), mem2)) := Eq.trans (b := jAtC jc116 (jSem d) 0 [vI x0] [] mem) rfl ((jfrom_eq jc116 (jSem d) [] 5 0 [vI x0] [] mem).trans rfl)
set_option maxRecDepth 100000 in
theorem q_E_isMemory (d : Nat) (x1 : Int) (mem : jMem) : E_isMemory (d + 1) x1 mem = jbnd (E_within d x1 0 (jw32 ((jrI mem 4 0 5) - 1)) mem) fun v1 mem2 => jbo (jasI v1) (some (vI (jasI v1), mem2)) := Eq.trans (b := jAtC jc117 (jSem d) 0 [vR 10 (some 0), vI x1] [] mem) rfl ((jfrom_eq jc117 (jSem d) [] 10 0 [vR 10 (some 0), vI x1] [] mem).trans rfl)
set_option maxRecDepth 100000 in
theorem q_E_isTrap (d : Nat) (x1 : Int) (mem : jMem) : E_isTrap (d + 1) x1 mem = jbnd (E_within d x1 0 (jw32 ((jrI mem 4 0 6) - 1)) mem) fun v1 mem2 => jbo (jasI v1) (some (vI (jasI v1), mem2)) := Eq.trans (b := jAtC jc118 (jSem d) 0 [vR 10 (some 0), vI x1] [] mem) rfl ((jfrom_eq jc118 (jSem d) [] 10 0 [vR 10 (some 0), vI x1] [] mem).trans rfl)
set_option maxRecDepth 100000 in
theorem q_E_isPerson (d : Nat) (x1 : Int) (mem : jMem) : E_isPerson (d + 1) x1 mem = jbnd (E_within d x1 0 (jw32 ((jrI mem 4 0 4) - 1)) mem) fun v1 mem2 => jbo (jasI v1) (some (vI (jasI v1), mem2)) := Eq.trans (b := jAtC jc119 (jSem d) 0 [vR 10 (some 0), vI x1] [] mem) rfl ((jfrom_eq jc119 (jSem d) [] 10 0 [vR 10 (some 0), vI x1] [] mem).trans rfl)
set_option maxRecDepth 100000 in
theorem q_E_isPool (d : Nat) (x1 : Int) (mem : jMem) : E_isPool (d + 1) x1 mem = jbnd (E_within d x1 0 (jw32 ((jrI mem 4 0 1) - 1)) mem) fun v1 mem2 => jbo (jasI v1) (some (vI (jasI v1), mem2)) := Eq.trans (b := jAtC jc120 (jSem d) 0 [vR 10 (some 0), vI x1] [] mem) rfl ((jfrom_eq jc120 (jSem d) [] 10 0 [vR 10 (some 0), vI x1] [] mem).trans rfl)
set_option maxRecDepth 100000 in
theorem q_E_isEmptyTrap (d : Nat) (x1 : Int) (mem : jMem) : E_isEmptyTrap (d + 1) x1 mem = jbnd (E_isTrap d x1 mem) fun v1 mem2 => if (jasI v1) = 0 then some (vI 0, mem2) else jix 4 x1 (if (jrI mem2 43 0 x1) = (-1) then some (vI 1, mem2) else some (vI 0, mem2)) := Eq.trans (b := jAtC jc121 (jSem d) 0 [vR 10 (some 0), vI x1] [] mem) rfl ((jfrom_eq jc121 (jSem d) [] 15 0 [vR 10 (some 0), vI x1] [] mem).trans rfl)
set_option maxRecDepth 100000 in
theorem q_E_isFree (d : Nat) (x1 : Int) (mem : jMem) : E_isFree (d + 1) x1 mem = jbnd (E_isMemory d x1 mem) fun v1 mem2 => if (jasI v1) = 0 then some (vI 0, mem2) else jix 6 x1 (jbnd (E_isFreePlace d (jrI mem2 38 0 x1) mem2) fun v3 mem4 => if (jasI v3) = 0 then some (vI 0, mem4) else some (vI 1, mem4)) := Eq.trans (b := jAtC jc122 (jSem d) 0 [vR 10 (some 0), vI x1] [] mem) rfl ((jfrom_eq jc122 (jSem d) [] 15 0 [vR 10 (some 0), vI x1] [] mem).trans rfl)
set_option maxRecDepth 100000 in
theorem q_E_isHad (d : Nat) (x1 : Int) (mem : jMem) : E_isHad (d + 1) x1 mem = jbnd (E_isMemory d x1 mem) fun v1 mem2 => if (jasI v1) = 0 then some (vI 0, mem2) else jix 6 x1 (if (jrI mem2 38 0 x1) < 30 then some (vI 0, mem2) else some (vI 1, mem2)) := Eq.trans (b := jAtC jc123 (jSem d) 0 [vR 10 (some 0), vI x1] [] mem) rfl ((jfrom_eq jc123 (jSem d) [] 15 0 [vR 10 (some 0), vI x1] [] mem).trans rfl)
set_option maxRecDepth 100000 in
theorem q_E_ruling (d : Nat) (mem : jMem) : E_ruling (d + 1) mem = jbnd (E_within d (jrI mem 6 0 3) 0 (jw32 ((jrI mem 10 0 2) - 1)) mem) fun v1 mem2 => if (jasI v1) = 0 then some (vR 5 none, mem2) else jix 6 (jrI mem2 6 0 3) (some (vR 5 (some (jrI mem2 6 0 3)), mem2)) := Eq.trans (b := jAtC jc124 (jSem d) 0 [vR 10 (some 0)] [] mem) rfl ((jfrom_eq jc124 (jSem d) [] 18 0 [vR 10 (some 0)] [] mem).trans rfl)
set_option maxRecDepth 100000 in
theorem q_J_bitCount (d : Nat) (x0 : Int) (mem : jMem) : J_bitCount (d + 1) x0 mem = some (vI (jand (jw32 ((jw32 ((jand (jw32 ((jw32 ((jand (jw32 (x0 - (jand (jushr x0 1) 1431655765))) 858993459) + (jand (jushr (jw32 (x0 - (jand (jushr x0 1) 1431655765))) 2) 858993459))) + (jushr (jw32 ((jand (jw32 (x0 - (jand (jushr x0 1) 1431655765))) 858993459) + (jand (jushr (jw32 (x0 - (jand (jushr x0 1) 1431655765))) 2) 858993459))) 4))) 252645135) + (jushr (jand (jw32 ((jw32 ((jand (jw32 (x0 - (jand (jushr x0 1) 1431655765))) 858993459) + (jand (jushr (jw32 (x0 - (jand (jushr x0 1) 1431655765))) 2) 858993459))) + (jushr (jw32 ((jand (jw32 (x0 - (jand (jushr x0 1) 1431655765))) 858993459) + (jand (jushr (jw32 (x0 - (jand (jushr x0 1) 1431655765))) 2) 858993459))) 4))) 252645135) 8))) + (jushr (jw32 ((jand (jw32 ((jw32 ((jand (jw32 (x0 - (jand (jushr x0 1) 1431655765))) 858993459) + (jand (jushr (jw32 (x0 - (jand (jushr x0 1) 1431655765))) 2) 858993459))) + (jushr (jw32 ((jand (jw32 (x0 - (jand (jushr x0 1) 1431655765))) 858993459) + (jand (jushr (jw32 (x0 - (jand (jushr x0 1) 1431655765))) 2) 858993459))) 4))) 252645135) + (jushr (jand (jw32 ((jw32 ((jand (jw32 (x0 - (jand (jushr x0 1) 1431655765))) 858993459) + (jand (jushr (jw32 (x0 - (jand (jushr x0 1) 1431655765))) 2) 858993459))) + (jushr (jw32 ((jand (jw32 (x0 - (jand (jushr x0 1) 1431655765))) 858993459) + (jand (jushr (jw32 (x0 - (jand (jushr x0 1) 1431655765))) 2) 858993459))) 4))) 252645135) 8))) 16))) 63), mem) := Eq.trans (b := jAtC jc245 (jSem d) 0 [vI x0] [] mem) rfl ((jfrom_eq jc245 (jSem d) [] 42 0 [vI x0] [] mem).trans rfl)
set_option maxRecDepth 100000 in
theorem q_J_max (d : Nat) (x0 : Int) (x1 : Int) (mem : jMem) : J_max (d + 1) x0 x1 mem = if x0 < x1 then some (vI x1, mem) else some (vI x0, mem) := Eq.trans (b := jAtC jc246 (jSem d) 0 [vI x0, vI x1] [] mem) rfl ((jfrom_eq jc246 (jSem d) [] 6 0 [vI x0, vI x1] [] mem).trans rfl)
set_option maxRecDepth 100000 in
theorem q_J_min (d : Nat) (x0 : Int) (x1 : Int) (mem : jMem) : J_min (d + 1) x0 x1 mem = if x1 < x0 then some (vI x1, mem) else some (vI x0, mem) := Eq.trans (b := jAtC jc247 (jSem d) 0 [vI x0, vI x1] [] mem) rfl ((jfrom_eq jc247 (jSem d) [] 6 0 [vI x0, vI x1] [] mem).trans rfl)
end
section
/-! The equations, each by unrolling (rfl) -/
set_option maxRecDepth 100000 in
theorem q_M_in (d : Nat) (y0 : Int) (y2 : Int) (y4 : Int) (mem : jMem) : M_in (d + 1) y0 y2 y4 mem = if (jlcmp y0 y2) < 0 then some (vI 0, mem) else if 0 < (jlcmp y0 y4) then some (vI 0, mem) else some (vI 1, mem) := Eq.trans (b := jAtC jc125 (jSem d) 0 [vJ y0, vU, vJ y2, vU, vJ y4, vU] [] mem) rfl ((jfrom_eq jc125 (jSem d) [] 11 0 [vJ y0, vU, vJ y2, vU, vJ y4, vU] [] mem).trans rfl)
set_option maxRecDepth 100000 in
theorem q_M_isOf (d : Nat) (x0 : Int) (x1 : Int) (mem : jMem) : M_isOf (d + 1) x0 x1 mem = if (jand (jshr x0 x1) 1) = 1 then some (vI 1, mem) else some (vI 0, mem) := Eq.trans (b := jAtC jc126 (jSem d) 0 [vI x0, vI x1] [] mem) rfl ((jfrom_eq jc126 (jSem d) [] 10 0 [vI x0, vI x1] [] mem).trans rfl)
set_option maxRecDepth 100000 in
theorem q_M_bits (d : Nat) (x0 : Int) (mem : jMem) : M_bits (d + 1) x0 mem = M_bits_4 d 0 x0 mem := Eq.trans (b := jAtC jc127 (jSem d) 0 [vI x0, vU, vU] [] mem) rfl ((jfrom_eq jc127 (jSem d) [4] 5 0 [vI x0, vU, vU] [] mem).trans rfl)
set_option maxRecDepth 100000 in
theorem q_M_bits_4 (d : Nat) (x1 : Int) (x2 : Int) (mem : jMem) : M_bits_4 d x1 x2 mem = if x2 = 0 then some (vI x1, mem) else M_bits_4 d (jw32 (x1 + 1)) (jand x2 (jw32 (x2 - 1))) mem := (jfrom_eq jc127 (jSem d) [4] 11 4 [vU, vI x1, vI x2] [] mem).trans rfl
set_option maxRecDepth 100000 in
theorem q_M_four (d : Nat) (x1 : Int) (mem : jMem) : M_four (d + 1) x1 mem = M_four_3 d x1 24 mem := Eq.trans (b := jAtC jc128 (jSem d) 0 [vR 11 (some 0), vI x1, vU] [] mem) rfl ((jfrom_eq jc128 (jSem d) [3] 3 0 [vR 11 (some 0), vI x1, vU] [] mem).trans rfl)
set_option maxRecDepth 100000 in
theorem q_M_four_3 (d : Nat) (x1 : Int) (x2 : Int) (mem : jMem) : M_four_3 d x1 x2 mem = if x2 < 0 then some (vU, mem) else jix 400 (jrI mem 11 0 1) (M_four_3 d x1 (jw32 (x2 + (-8))) (jwI (jwI mem 46 0 (jrI mem 11 0 1) (jw8 (jw8 (jshr x1 x2)))) 11 0 1 (jw32 ((jrI mem 11 0 1) + 1)))) := (jfrom_eq jc128 (jSem d) [3] 20 3 [vR 11 (some 0), vI x1, vI x2] [] mem).trans rfl
set_option maxRecDepth 100000 in
theorem q_M_feed (d : Nat) (x1 : Int) (x2 : Int) (x3 : Int) (x4 : Int) (x5 : Int) (mem : jMem) : M_feed (d + 1) x1 x2 x3 x4 x5 mem = if 400 < (jw32 ((jrI mem 11 0 1) + 20)) then some (vI (-1), mem) else jbnd (M_four d x1 mem) fun v1 mem2 => jbnd (M_four d x2 mem2) fun v3 mem4 => jbnd (M_four d x3 mem4) fun v5 mem6 => jbnd (M_four d x4 mem6) fun v7 mem8 => jbnd (M_four d x5 mem8) fun v9 mem10 => some (vI (jrI mem10 11 0 1), mem10) := Eq.trans (b := jAtC jc129 (jSem d) 0 [vR 11 (some 0), vI x1, vI x2, vI x3, vI x4, vI x5] [] mem) rfl ((jfrom_eq jc129 (jSem d) [] 24 0 [vR 11 (some 0), vI x1, vI x2, vI x3, vI x4, vI x5] [] mem).trans rfl)
set_option maxRecDepth 100000 in
theorem q_M_end (d : Nat) (x1 : Int) (mem : jMem) : M_end (d + 1) x1 mem = if x1 < 0 then some (vI (-1), mem) else if (jrI mem 11 0 1) < x1 then some (vI (-1), mem) else some (vI x1, (jwI mem 11 0 1 x1)) := Eq.trans (b := jAtC jc130 (jSem d) 0 [vR 11 (some 0), vI x1] [] mem) rfl ((jfrom_eq jc130 (jSem d) [] 11 0 [vR 11 (some 0), vI x1] [] mem).trans rfl)
set_option maxRecDepth 100000 in
theorem q_M_fails (d : Nat) (x1 : Int) (x2 : Int) (mem : jMem) : M_fails (d + 1) x1 x2 mem = if (jrI mem 11 0 9) = 0 then some (vI 0, (jwI mem 11 0 9 (jw32 ((jw32 (1 + (jw32 (8 * x2)))) + x1)))) else some (vI 0, mem) := Eq.trans (b := jAtC jc131 (jSem d) 0 [vR 11 (some 0), vI x1, vI x2] [] mem) rfl ((jfrom_eq jc131 (jSem d) [] 14 0 [vR 11 (some 0), vI x1, vI x2] [] mem).trans rfl)
set_option maxRecDepth 100000 in
theorem q_M_see (d : Nat) (mem : jMem) : M_see (d + 1) mem = M_see_0 d mem := rfl
set_option maxRecDepth 100000 in
theorem q_M_see_0 (d : Nat) (mem : jMem) : M_see_0 d mem = if (jrI mem 11 0 8) < (jrI mem 11 0 1) then jix 400 (jrI mem 11 0 8) (if (jrI mem 46 0 (jrI mem 11 0 8)) = 32 then M_see_0 d (jwI mem 11 0 8 (jw32 ((jrI mem 11 0 8) + 1))) else M_see_38 d mem) else M_see_38 d mem := (jfrom_eq jc132 (jSem d) [0, 38] 20 0 [vR 11 (some 0)] [] mem).trans rfl
set_option maxRecDepth 100000 in
theorem q_M_see_38 (d : Nat) (mem : jMem) : M_see_38 d mem = if (jrI mem 11 0 8) < (jrI mem 11 0 1) then jix 400 (jrI mem 11 0 8) (some (vI (jand (jrI mem 46 0 (jrI mem 11 0 8)) 255), mem)) else some (vI (-1), mem) := (jfrom_eq jc132 (jSem d) [0, 38] 14 38 [vR 11 (some 0)] [] mem).trans rfl
set_option maxRecDepth 100000 in
theorem q_M_isDigit (d : Nat) (x1 : Int) (mem : jMem) : M_isDigit (d + 1) x1 mem = if x1 < (jrI mem 11 0 1) then jix 400 x1 (if (jrI mem 46 0 x1) < 48 then some (vI 0, mem) else jix 400 x1 (if 57 < (jrI mem 46 0 x1) then some (vI 0, mem) else some (vI 1, mem))) else some (vI 0, mem) := Eq.trans (b := jAtC jc133 (jSem d) 0 [vR 11 (some 0), vI x1] [] mem) rfl ((jfrom_eq jc133 (jSem d) [] 19 0 [vR 11 (some 0), vI x1] [] mem).trans rfl)
set_option maxRecDepth 100000 in
theorem q_M_isLetter (d : Nat) (x1 : Int) (mem : jMem) : M_isLetter (d + 1) x1 mem = if x1 < (jrI mem 11 0 1) then jix 400 x1 (if (jrI mem 46 0 x1) < 97 then some (vI 0, mem) else jix 400 x1 (if 122 < (jrI mem 46 0 x1) then some (vI 0, mem) else some (vI 1, mem))) else some (vI 0, mem) := Eq.trans (b := jAtC jc134 (jSem d) 0 [vR 11 (some 0), vI x1] [] mem) rfl ((jfrom_eq jc134 (jSem d) [] 19 0 [vR 11 (some 0), vI x1] [] mem).trans rfl)
set_option maxRecDepth 100000 in
theorem q_M_isWord (d : Nat) (y1 : Int) (mem : jMem) : M_isWord (d + 1) y1 mem = jbnd (M_see d mem) fun v1 mem2 => M_isWord_10 d y1 0 0 mem2 := Eq.trans (b := jAtC jc135 (jSem d) 0 [vR 11 (some 0), vJ y1, vU, vU, vU, vU] [] mem) rfl ((jfrom_eq jc135 (jSem d) [10] 8 0 [vR 11 (some 0), vJ y1, vU, vU, vU, vU] [] mem).trans rfl)
set_option maxRecDepth 100000 in
theorem q_M_isWord_10 (d : Nat) (y1 : Int) (y3 : Int) (x5 : Int) (mem : jMem) : M_isWord_10 d y1 y3 x5 mem = jbnd (M_isLetter d (jw32 ((jrI mem 11 0 8) + x5)) mem) fun v1 mem2 => if (jasI v1) = 0 then if 0 < x5 then if x5 < 8 then if (jlcmp y3 y1) = 0 then some (vI 1, mem2) else some (vI 0, mem2) else some (vI 0, mem2) else some (vI 0, mem2) else if x5 < 8 then jix 400 (jw32 ((jrI mem2 11 0 8) + x5)) (M_isWord_10 d y1 (jlor (jlshl y3 8) (jrI mem2 46 0 (jw32 ((jrI mem2 11 0 8) + x5)))) (jw32 (x5 + 1)) mem2) else M_isWord_10 d y1 y3 (jw32 (x5 + 1)) mem2 := (jfrom_eq jc135 (jSem d) [10] 26 10 [vR 11 (some 0), vJ y1, vU, vJ y3, vU, vI x5] [] mem).trans rfl
set_option maxRecDepth 100000 in
theorem q_M_passWord (d : Nat) (mem : jMem) : M_passWord (d + 1) mem = M_passWord_0 d mem := rfl
set_option maxRecDepth 100000 in
theorem q_M_passWord_0 (d : Nat) (mem : jMem) : M_passWord_0 d mem = jbnd (M_isLetter d (jrI mem 11 0 8) mem) fun v1 mem2 => if (jasI v1) = 0 then some (vU, mem2) else M_passWord_0 d (jwI mem2 11 0 8 (jw32 ((jrI mem2 11 0 8) + 1))) := (jfrom_eq jc136 (jSem d) [0] 13 0 [vR 11 (some 0)] [] mem).trans rfl
set_option maxRecDepth 100000 in
theorem q_M_takesWord (d : Nat) (y1 : Int) (mem : jMem) : M_takesWord (d + 1) y1 mem = jbnd (M_isWord d y1 mem) fun v1 mem2 => if (jasI v1) = 0 then some (vI 0, mem2) else jbnd (M_passWord d mem2) fun v3 mem4 => some (vI 1, mem4) := Eq.trans (b := jAtC jc137 (jSem d) 0 [vR 11 (some 0), vJ y1, vU] [] mem) rfl ((jfrom_eq jc137 (jSem d) [] 8 0 [vR 11 (some 0), vJ y1, vU] [] mem).trans rfl)
set_option maxRecDepth 100000 in
theorem q_M_numberHere (d : Nat) (x1 : Int) (x2 : Int) (mem : jMem) : M_numberHere (d + 1) x1 x2 mem = jbnd (M_see d mem) fun v1 mem2 => jbnd (M_isDigit d (jrI mem2 11 0 8) mem2) fun v3 mem4 => if (jasI v3) = 0 then jbnd (M_fails d 0 (jrI mem4 11 0 8) mem4) fun v5 mem6 => jbo (jasI v5) (some (vI (jasI v5), mem6)) else M_numberHere_34 d x1 x2 (jrI mem4 11 0 8) 0 mem4 := Eq.trans (b := jAtC jc138 (jSem d) 0 [vR 11 (some 0), vI x1, vI x2, vU, vU] [] mem) rfl ((jfrom_eq jc138 (jSem d) [34, 117] 14 0 [vR 11 (some 0), vI x1, vI x2, vU, vU] [] mem).trans rfl)
set_option maxRecDepth 100000 in
theorem q_M_numberHere_34 (d : Nat) (x1 : Int) (x2 : Int) (x3 : Int) (x4 : Int) (mem : jMem) : M_numberHere_34 d x1 x2 x3 x4 mem = jbnd (M_isDigit d (jrI mem 11 0 8) mem) fun v1 mem2 => if (jasI v1) = 0 then if 5 < (jw32 ((jrI mem2 11 0 8) - x3)) then M_numberHere_117 d x3 (jwI mem2 11 0 10 x4) else jbnd (M_in d x4 x1 x2 (jwI mem2 11 0 10 x4)) fun v3 mem4 => if (jasI v3) = 0 then M_numberHere_117 d x3 mem4 else some (vI 1, mem4) else if (jw32 ((jrI mem2 11 0 8) - x3)) < 5 then jix 400 (jrI mem2 11 0 8) (M_numberHere_34 d x1 x2 x3 (jw32 ((jw32 ((jw32 (10 * x4)) + (jrI mem2 46 0 (jrI mem2 11 0 8)))) - 48)) (jwI mem2 11 0 8 (jw32 ((jrI mem2 11 0 8) + 1)))) else M_numberHere_34 d x1 x2 x3 x4 (jwI mem2 11 0 8 (jw32 ((jrI mem2 11 0 8) + 1))) := (jfrom_eq jc138 (jSem d) [34, 117] 31 34 [vR 11 (some 0), vI x1, vI x2, vI x3, vI x4] [] mem).trans rfl
set_option maxRecDepth 100000 in
theorem q_M_numberHere_117 (d : Nat) (x3 : Int) (mem : jMem) : M_numberHere_117 d x3 mem = jbnd (M_fails d 1 x3 mem) fun v1 mem2 => if (jasI v1) = 0 then some (vI 0, mem2) else some (vI 1, mem2) := (jfrom_eq jc138 (jSem d) [34, 117] 8 117 [vR 11 (some 0), vU, vU, vI x3, vU] [] mem).trans rfl
set_option maxRecDepth 100000 in
theorem q_M_wordHere (d : Nat) (mem : jMem) : M_wordHere (d + 1) mem = jbnd (M_isWord d 120282395144825 mem) fun v1 mem2 => if (jasI v1) = 0 then jbnd (M_isWord d 1886351212 mem2) fun v3 mem4 => if (jasI v3) = 0 then jbnd (M_isWord d 1718775661 mem4) fun v5 mem6 => if (jasI v5) = 0 then jbnd (M_isWord d 1936292453 mem6) fun v7 mem8 => if (jasI v7) = 0 then jbnd (M_isWord d 495756602476 mem8) fun v9 mem10 => if (jasI v9) = 0 then jbnd (M_isWord d 1650551156 mem10) fun v11 mem12 => if (jasI v11) = 0 then jbnd (M_isWord d 500135194739 mem12) fun v13 mem14 => if (jasI v13) = 0 then jbnd (M_isWord d 2003399784 mem14) fun v15 mem16 => if (jasI v15) = 0 then jbnd (M_isWord d 465624852596 mem16) fun v17 mem18 => if (jasI v17) = 0 then jbnd (M_isWord d 1852143732 mem18) fun v19 mem20 => if (jasI v19) = 0 then jbnd (M_isWord d 512853242725 mem20) fun v21 mem22 => if (jasI v21) = 0 then jbnd (M_isWord d 474214787188 mem22) fun v23 mem24 => if (jasI v23) = 0 then some (vI (-1), mem24) else some (vI 11, mem24) else some (vI 10, mem22) else some (vI 9, mem20) else some (vI 8, mem18) else some (vI 7, mem16) else some (vI 6, mem14) else some (vI 5, mem12) else some (vI 4, mem10) else some (vI 3, mem8) else some (vI 2, mem6) else some (vI 1, mem4) else some (vI 0, mem2) := Eq.trans (b := jAtC jc139 (jSem d) 0 [vR 11 (some 0)] [] mem) rfl ((jfrom_eq jc139 (jSem d) [] 51 0 [vR 11 (some 0)] [] mem).trans rfl)
set_option maxRecDepth 100000 in
theorem q_M_puts (d : Nat) (x1 : Int) (x2 : Int) (mem : jMem) : M_puts (d + 1) x1 x2 mem = jix 7 (jrI mem 11 0 11) (jix 2400 (jw32 ((jw32 (400 * (jrI mem 11 0 11))) + (jrI mem 48 0 (jrI mem 11 0 11)))) (jix 7 (jrI mem 11 0 11) (jix 7 (jrI mem 11 0 11) (some (vU, (jwI (jwI mem 47 0 (jw32 ((jw32 (400 * (jrI mem 11 0 11))) + (jrI mem 48 0 (jrI mem 11 0 11)))) (jw32 (x1 + (jw32 (16 * x2))))) 48 0 (jrI mem 11 0 11) (jw32 ((jrI mem 48 0 (jrI mem 11 0 11)) + 1)))))))) := Eq.trans (b := jAtC jc140 (jSem d) 0 [vR 11 (some 0), vI x1, vI x2] [] mem) rfl ((jfrom_eq jc140 (jSem d) [] 28 0 [vR 11 (some 0), vI x1, vI x2] [] mem).trans rfl)
set_option maxRecDepth 100000 in
theorem q_M_makes (d : Nat) (x1 : Int) (mem : jMem) : M_makes (d + 1) x1 mem = if (jrI mem 11 0 12) = 60 then jbnd (M_fails d 3 x1 mem) fun v1 mem2 => jbo (jasI v1) (some (vI (jasI v1), mem2)) else some (vI 1, (jwI mem 11 0 12 (jw32 ((jrI mem 11 0 12) + 1)))) := Eq.trans (b := jAtC jc141 (jSem d) 0 [vR 11 (some 0), vI x1] [] mem) rfl ((jfrom_eq jc141 (jSem d) [] 12 0 [vR 11 (some 0), vI x1] [] mem).trans rfl)
set_option maxRecDepth 100000 in
theorem q_M_opens (d : Nat) (x1 : Int) (mem : jMem) : M_opens (d + 1) x1 mem = if (jrI mem 11 0 13) = 10 then jbnd (M_fails d 2 (jrI mem 11 0 8) mem) fun v1 mem2 => jbo (jasI v1) (some (vI (jasI v1), mem2)) else jix 400 (jrI mem 11 0 16) (some (vI 1, (jwI (jwI (jwI mem 11 0 13 (jw32 ((jrI mem 11 0 13) + 1))) 52 0 (jrI mem 11 0 16) x1) 11 0 16 (jw32 ((jrI mem 11 0 16) + 1))))) := Eq.trans (b := jAtC jc142 (jSem d) 0 [vR 11 (some 0), vI x1] [] mem) rfl ((jfrom_eq jc142 (jSem d) [] 24 0 [vR 11 (some 0), vI x1] [] mem).trans rfl)
set_option maxRecDepth 100000 in
theorem q_M_strength (d : Nat) (x0 : Int) (mem : jMem) : M_strength (d + 1) x0 mem = if x0 = 13 then some (vI 1, mem) else if x0 = 12 then some (vI 2, mem) else if x0 = 11 then some (vI 3, mem) else some (vI 0, mem) := Eq.trans (b := jAtC jc143 (jSem d) 0 [vI x0] [] mem) rfl ((jfrom_eq jc143 (jSem d) [] 12 0 [vI x0] [] mem).trans rfl)
set_option maxRecDepth 100000 in
theorem q_M_layDown (d : Nat) (x1 : Int) (mem : jMem) : M_layDown (d + 1) x1 mem = M_layDown_0 d x1 mem := rfl
set_option maxRecDepth 100000 in
theorem q_M_layDown_0 (d : Nat) (x1 : Int) (mem : jMem) : M_layDown_0 d x1 mem = if 0 < (jrI mem 11 0 16) then jix 400 (jw32 ((jrI mem 11 0 16) - 1)) (jbnd (M_strength d (jrI mem 52 0 (jw32 ((jrI mem 11 0 16) - 1))) mem) fun v1 mem2 => if (jasI v1) < x1 then some (vU, mem2) else jix 400 (jw32 ((jrI mem2 11 0 16) - 1)) (jbnd (M_puts d (jrI mem2 52 0 (jw32 ((jrI mem2 11 0 16) - 1))) 0 (jwI mem2 11 0 16 (jw32 ((jrI mem2 11 0 16) - 1)))) fun v3 mem4 => jix 400 (jrI mem4 11 0 16) (if (jrI mem4 52 0 (jrI mem4 11 0 16)) = 11 then M_layDown_0 d x1 (jwI mem4 11 0 13 (jw32 ((jrI mem4 11 0 13) - 1))) else M_layDown_0 d x1 mem4))) else some (vU, mem) := (jfrom_eq jc144 (jSem d) [0] 42 0 [vR 11 (some 0), vI x1] [] mem).trans rfl
set_option maxRecDepth 100000 in
theorem q_M_value (d : Nat) (mem : jMem) : M_value (d + 1) mem = jbnd (M_see d mem) fun v1 mem2 => jbnd (M_isDigit d (jrI mem2 11 0 8) mem2) fun v3 mem4 => if (jasI v3) = 0 then jbnd (M_wordHere d mem4) fun v5 mem6 => if (jasI v5) < 0 then jbnd (M_fails d 0 (jrI mem2 11 0 8) mem6) fun v7 mem8 => jbo (jasI v7) (some (vI (jasI v7), mem8)) else jbnd (M_makes d (jrI mem2 11 0 8) mem6) fun v9 mem10 => if (jasI v9) = 0 then some (vI 0, mem10) else jbnd (M_passWord d mem10) fun v11 mem12 => jbnd (M_puts d 1 (jasI v5) mem12) fun v13 mem14 => some (vI 1, mem14) else jbnd (M_numberHere d 0 99999 mem4) fun v15 mem16 => if (jasI v15) = 0 then some (vI 0, mem16) else jbnd (M_makes d (jrI mem2 11 0 8) mem16) fun v17 mem18 => if (jasI v17) = 0 then some (vI 0, mem18) else jbnd (M_puts d 0 (jrI mem18 11 0 10) mem18) fun v19 mem20 => some (vI 1, mem20) := Eq.trans (b := jAtC jc145 (jSem d) 0 [vR 11 (some 0), vU, vU] [] mem) rfl ((jfrom_eq jc145 (jSem d) [] 28 0 [vR 11 (some 0), vU, vU] [] mem).trans rfl)
set_option maxRecDepth 100000 in
theorem q_M_term (d : Nat) (mem : jMem) : M_term (d + 1) mem = jbnd (M_value d mem) fun v1 mem2 => if (jasI v1) = 0 then some (vI 0, mem2) else M_term_9 d mem2 := Eq.trans (b := jAtC jc146 (jSem d) 0 [vR 11 (some 0), vU] [] mem) rfl ((jfrom_eq jc146 (jSem d) [9, 36, 74] 5 0 [vR 11 (some 0), vU] [] mem).trans rfl)
set_option maxRecDepth 100000 in
theorem q_M_term_9 (d : Nat) (mem : jMem) : M_term_9 d mem = jbnd (M_see d mem) fun v1 mem2 => if (jasI v1) = 42 then M_term_36 d mem2 else jbnd (M_see d mem2) fun v3 mem4 => if (jasI v3) = 47 then M_term_36 d mem4 else jbnd (M_see d mem4) fun v5 mem6 => if (jasI v5) = 37 then M_term_36 d mem6 else some (vI 1, mem6) := (jfrom_eq jc146 (jSem d) [9, 36, 74] 14 9 [vR 11 (some 0), vU] [] mem).trans rfl
set_option maxRecDepth 100000 in
theorem q_M_term_36 (d : Nat) (mem : jMem) : M_term_36 d mem = jix 400 (jrI mem 11 0 8) (if (jrI mem 46 0 (jrI mem 11 0 8)) = 42 then M_term_74 d 4 mem else jix 400 (jrI mem 11 0 8) (if (jrI mem 46 0 (jrI mem 11 0 8)) = 47 then M_term_74 d 5 mem else M_term_74 d 14 mem)) := (jfrom_eq jc146 (jSem d) [9, 36, 74] 17 36 [vR 11 (some 0), vU] [] mem).trans rfl
set_option maxRecDepth 100000 in
theorem q_M_term_74 (d : Nat) (s0 : Int) (mem : jMem) : M_term_74 d s0 mem = jbnd (M_value d (jwI mem 11 0 8 (jw32 ((jrI mem 11 0 8) + 1)))) fun v1 mem2 => if (jasI v1) = 0 then some (vI 0, mem2) else jbnd (M_puts d s0 0 mem2) fun v3 mem4 => M_term_9 d mem4 := (jfrom_eq jc146 (jSem d) [9, 36, 74] 16 74 [vR 11 (some 0), vU] [vI s0] mem).trans rfl
set_option maxRecDepth 100000 in
theorem q_M_sum (d : Nat) (mem : jMem) : M_sum (d + 1) mem = jbnd (M_term d mem) fun v1 mem2 => if (jasI v1) = 0 then some (vI 0, mem2) else M_sum_9 d mem2 := Eq.trans (b := jAtC jc147 (jSem d) 0 [vR 11 (some 0), vU] [] mem) rfl ((jfrom_eq jc147 (jSem d) [9, 27, 46] 5 0 [vR 11 (some 0), vU] [] mem).trans rfl)
set_option maxRecDepth 100000 in
theorem q_M_sum_9 (d : Nat) (mem : jMem) : M_sum_9 d mem = jbnd (M_see d mem) fun v1 mem2 => if (jasI v1) = 43 then M_sum_27 d mem2 else jbnd (M_see d mem2) fun v3 mem4 => if (jasI v3) = 45 then M_sum_27 d mem4 else some (vI 1, mem4) := (jfrom_eq jc147 (jSem d) [9, 27, 46] 10 9 [vR 11 (some 0), vU] [] mem).trans rfl
set_option maxRecDepth 100000 in
theorem q_M_sum_27 (d : Nat) (mem : jMem) : M_sum_27 d mem = jix 400 (jrI mem 11 0 8) (if (jrI mem 46 0 (jrI mem 11 0 8)) = 43 then M_sum_46 d 2 mem else M_sum_46 d 3 mem) := (jfrom_eq jc147 (jSem d) [9, 27, 46] 10 27 [vR 11 (some 0), vU] [] mem).trans rfl
set_option maxRecDepth 100000 in
theorem q_M_sum_46 (d : Nat) (s0 : Int) (mem : jMem) : M_sum_46 d s0 mem = jbnd (M_term d (jwI mem 11 0 8 (jw32 ((jrI mem 11 0 8) + 1)))) fun v1 mem2 => if (jasI v1) = 0 then some (vI 0, mem2) else jbnd (M_puts d s0 0 mem2) fun v3 mem4 => M_sum_9 d mem4 := (jfrom_eq jc147 (jSem d) [9, 27, 46] 16 46 [vR 11 (some 0), vU] [vI s0] mem).trans rfl
set_option maxRecDepth 100000 in
theorem q_M_compare (d : Nat) (mem : jMem) : M_compare (d + 1) mem = jbnd (M_sum d mem) fun v1 mem2 => if (jasI v1) = 0 then some (vI 0, mem2) else jbnd (M_see d mem2) fun v3 mem4 => if (jasI v3) = 60 then M_compare_44 d (jasI v3) (jrI mem4 11 0 8) mem4 else if (jasI v3) = 61 then M_compare_44 d (jasI v3) (jrI mem4 11 0 8) mem4 else if (jasI v3) = 62 then M_compare_44 d (jasI v3) (jrI mem4 11 0 8) mem4 else jbnd (M_fails d 0 (jrI mem4 11 0 8) mem4) fun v5 mem6 => jbo (jasI v5) (some (vI (jasI v5), mem6)) := Eq.trans (b := jAtC jc148 (jSem d) 0 [vR 11 (some 0), vU, vU, vU, vU] [] mem) rfl ((jfrom_eq jc148 (jSem d) [44, 90, 105, 152] 23 0 [vR 11 (some 0), vU, vU, vU, vU] [] mem).trans rfl)
set_option maxRecDepth 100000 in
theorem q_M_compare_44 (d : Nat) (x1 : Int) (x2 : Int) (mem : jMem) : M_compare_44 d x1 x2 mem = if x1 = 61 then M_compare_90 d x1 x2 0 (jwI mem 11 0 8 (jw32 ((jrI mem 11 0 8) + 1))) else if (jw32 ((jrI mem 11 0 8) + 1)) < (jrI mem 11 0 1) then jix 400 (jw32 ((jrI mem 11 0 8) + 1)) (if (jrI mem 46 0 (jw32 ((jrI mem 11 0 8) + 1))) = 61 then M_compare_90 d x1 x2 1 (jwI mem 11 0 8 (jw32 ((jrI mem 11 0 8) + 1))) else M_compare_90 d x1 x2 0 (jwI mem 11 0 8 (jw32 ((jrI mem 11 0 8) + 1)))) else M_compare_90 d x1 x2 0 (jwI mem 11 0 8 (jw32 ((jrI mem 11 0 8) + 1))) := (jfrom_eq jc148 (jSem d) [44, 90, 105, 152] 24 44 [vR 11 (some 0), vI x1, vI x2, vU, vU] [] mem).trans rfl
set_option maxRecDepth 100000 in
theorem q_M_compare_90 (d : Nat) (x1 : Int) (x2 : Int) (s0 : Int) (mem : jMem) : M_compare_90 d x1 x2 s0 mem = if s0 = 0 then M_compare_105 d x1 x2 s0 mem else M_compare_105 d x1 x2 s0 (jwI mem 11 0 8 (jw32 ((jrI mem 11 0 8) + 1))) := (jfrom_eq jc148 (jSem d) [44, 90, 105, 152] 10 90 [vR 11 (some 0), vI x1, vI x2, vU, vU] [vI s0] mem).trans rfl
set_option maxRecDepth 100000 in
theorem q_M_compare_105 (d : Nat) (x1 : Int) (x2 : Int) (x3 : Int) (mem : jMem) : M_compare_105 d x1 x2 x3 mem = jbnd (M_makes d x2 mem) fun v1 mem2 => if (jasI v1) = 0 then some (vI 0, mem2) else if x1 = 60 then if x3 = 0 then M_compare_152 d 0 mem2 else M_compare_152 d 1 mem2 else if x1 = 61 then M_compare_152 d 2 mem2 else if x3 = 0 then M_compare_152 d 4 mem2 else M_compare_152 d 3 mem2 := (jfrom_eq jc148 (jSem d) [44, 90, 105, 152] 15 105 [vR 11 (some 0), vI x1, vI x2, vI x3, vU] [] mem).trans rfl
set_option maxRecDepth 100000 in
theorem q_M_compare_152 (d : Nat) (s0 : Int) (mem : jMem) : M_compare_152 d s0 mem = jbnd (M_sum d mem) fun v1 mem2 => if (jasI v1) = 0 then some (vI 0, mem2) else jbnd (M_puts d (jw32 (6 + s0)) 0 mem2) fun v3 mem4 => some (vI 1, mem4) := (jfrom_eq jc148 (jSem d) [44, 90, 105, 152] 12 152 [vR 11 (some 0), vU, vU, vU, vU] [vI s0] mem).trans rfl
set_option maxRecDepth 100000 in
theorem q_M_fact (d : Nat) (mem : jMem) : M_fact (d + 1) mem = M_fact_2 d 1 mem := Eq.trans (b := jAtC jc149 (jSem d) 0 [vR 11 (some 0), vU, vU] [] mem) rfl ((jfrom_eq jc149 (jSem d) [2] 3 0 [vR 11 (some 0), vU, vU] [] mem).trans rfl)
set_option maxRecDepth 100000 in
theorem q_M_fact_2 (d : Nat) (x1 : Int) (mem : jMem) : M_fact_2 d x1 mem = if x1 = 0 then jbnd (M_compare d mem) fun v1 mem2 => jbo (jasI v1) (some (vI (jasI v1), mem2)) else jbnd (M_see d mem) fun v3 mem4 => jbnd (M_isWord d 7237492 mem4) fun v5 mem6 => if (jasI v5) = 0 then if (jasI v3) = 91 then jbnd (M_opens d 91 mem6) fun v7 mem8 => if (jasI v7) = 0 then some (vI 0, mem8) else M_fact_2 d 1 (jwI mem8 11 0 8 (jw32 ((jrI mem8 11 0 8) + 1))) else M_fact_2 d 0 mem6 else jbnd (M_opens d 11 mem6) fun v9 mem10 => if (jasI v9) = 0 then some (vI 0, mem10) else jbnd (M_passWord d mem10) fun v11 mem12 => M_fact_2 d 1 mem12 := (jfrom_eq jc149 (jSem d) [2] 28 2 [vR 11 (some 0), vI x1, vU] [] mem).trans rfl
set_option maxRecDepth 100000 in
theorem q_M_isInside (d : Nat) (mem : jMem) : M_isInside (d + 1) mem = M_isInside_2 d 0 mem := Eq.trans (b := jAtC jc150 (jSem d) 0 [vR 11 (some 0), vU] [] mem) rfl ((jfrom_eq jc150 (jSem d) [2] 3 0 [vR 11 (some 0), vU] [] mem).trans rfl)
set_option maxRecDepth 100000 in
theorem q_M_isInside_2 (d : Nat) (x1 : Int) (mem : jMem) : M_isInside_2 d x1 mem = if x1 < (jrI mem 11 0 16) then jix 400 x1 (if (jrI mem 52 0 x1) = 91 then some (vI 1, mem) else M_isInside_2 d (jw32 (x1 + 1)) mem) else some (vI 0, mem) := (jfrom_eq jc150 (jSem d) [2] 13 2 [vR 11 (some 0), vI x1] [] mem).trans rfl
set_option maxRecDepth 100000 in
theorem q_M_closes (d : Nat) (mem : jMem) : M_closes (d + 1) mem = jbnd (M_layDown d 3 mem) fun v1 mem2 => M_closes_5 d mem2 := Eq.trans (b := jAtC jc151 (jSem d) 0 [vR 11 (some 0)] [] mem) rfl ((jfrom_eq jc151 (jSem d) [5] 4 0 [vR 11 (some 0)] [] mem).trans rfl)
set_option maxRecDepth 100000 in
theorem q_M_closes_5 (d : Nat) (mem : jMem) : M_closes_5 d mem = jbnd (M_see d mem) fun v1 mem2 => if (jasI v1) = 93 then jbnd (M_isInside d mem2) fun v3 mem4 => if (jasI v3) = 0 then some (vU, mem4) else jbnd (M_layDown d 1 mem4) fun v5 mem6 => jbnd (M_layDown d 3 (jwI (jwI (jwI mem6 11 0 16 (jw32 ((jrI mem6 11 0 16) - 1))) 11 0 13 (jw32 ((jrI mem6 11 0 13) - 1))) 11 0 8 (jw32 ((jrI mem6 11 0 8) + 1)))) fun v7 mem8 => M_closes_5 d mem8 else some (vU, mem2) := (jfrom_eq jc151 (jSem d) [5] 33 5 [vR 11 (some 0)] [] mem).trans rfl
set_option maxRecDepth 100000 in
theorem q_M_tested (d : Nat) (mem : jMem) : M_tested (d + 1) mem = M_tested_12 d 1 (jwI (jwI mem 11 0 16 0) 11 0 13 0) := Eq.trans (b := jAtC jc152 (jSem d) 0 [vR 11 (some 0), vU, vU] [] mem) rfl ((jfrom_eq jc152 (jSem d) [12, 54, 76] 9 0 [vR 11 (some 0), vU, vU] [] mem).trans rfl)
set_option maxRecDepth 100000 in
theorem q_M_tested_12 (d : Nat) (x1 : Int) (mem : jMem) : M_tested_12 d x1 mem = if x1 = 0 then jbnd (M_isInside d mem) fun v1 mem2 => if (jasI v1) = 0 then jbnd (M_layDown d 1 mem2) fun v3 mem4 => some (vI 1, mem4) else jbnd (M_see d mem2) fun v5 mem6 => jbnd (M_fails d 0 (jrI mem6 11 0 8) mem6) fun v7 mem8 => jbo (jasI v7) (some (vI (jasI v7), mem8)) else jbnd (M_fact d mem) fun v9 mem10 => if (jasI v9) = 0 then some (vI 0, mem10) else jbnd (M_closes d mem10) fun v11 mem12 => jbnd (M_isWord d 6385252 mem12) fun v13 mem14 => if (jasI v13) = 0 then jbnd (M_isWord d 28530 mem14) fun v15 mem16 => if (jasI v15) = 0 then M_tested_54 d 0 mem16 else M_tested_54 d 1 mem16 else M_tested_54 d 1 mem14 := (jfrom_eq jc152 (jSem d) [12, 54, 76] 18 12 [vR 11 (some 0), vI x1, vU] [] mem).trans rfl
set_option maxRecDepth 100000 in
theorem q_M_tested_54 (d : Nat) (s0 : Int) (mem : jMem) : M_tested_54 d s0 mem = if s0 = 0 then M_tested_12 d s0 mem else jbnd (M_isWord d 6385252 mem) fun v1 mem2 => if (jasI v1) = 0 then M_tested_76 d s0 13 mem2 else M_tested_76 d s0 12 mem2 := (jfrom_eq jc152 (jSem d) [12, 54, 76] 10 54 [vR 11 (some 0), vU, vU] [vI s0] mem).trans rfl
set_option maxRecDepth 100000 in
theorem q_M_tested_76 (d : Nat) (x1 : Int) (s0 : Int) (mem : jMem) : M_tested_76 d x1 s0 mem = jbnd (M_passWord d mem) fun v1 mem2 => jbnd (M_strength d s0 mem2) fun v3 mem4 => jbnd (M_layDown d (jasI v3) mem4) fun v5 mem6 => jix 400 (jrI mem6 11 0 16) (M_tested_12 d x1 (jwI (jwI mem6 52 0 (jrI mem6 11 0 16) s0) 11 0 16 (jw32 ((jrI mem6 11 0 16) + 1)))) := (jfrom_eq jc152 (jSem d) [12, 54, 76] 21 76 [vR 11 (some 0), vI x1, vU] [vI s0] mem).trans rfl
set_option maxRecDepth 100000 in
theorem q_M_isGoHere (d : Nat) (mem : jMem) : M_isGoHere (d + 1) mem = jbnd (M_passWord d mem) fun v1 mem2 => jix 6 (jrI mem2 11 0 11) (jix 7 (jrI mem2 11 0 11) (jix 288 (jw32 ((jw32 (48 * (jrI mem2 11 0 11))) + (jw32 (4 * (jrI mem2 50 0 (jrI mem2 11 0 11)))))) (jbnd (M_sum d (jwI mem2 49 0 (jw32 ((jw32 (48 * (jrI mem2 11 0 11))) + (jw32 (4 * (jrI mem2 50 0 (jrI mem2 11 0 11)))))) (jrI mem2 48 0 (jrI mem2 11 0 11)))) fun v3 mem4 => if (jasI v3) = 0 then some (vI 0, mem4) else jix 7 (jrI mem4 11 0 11) (jix 288 (jw32 ((jw32 ((jw32 (48 * (jrI mem2 11 0 11))) + (jw32 (4 * (jrI mem2 50 0 (jrI mem2 11 0 11)))))) + 1)) (jix 288 (jw32 ((jw32 ((jw32 (48 * (jrI mem2 11 0 11))) + (jw32 (4 * (jrI mem2 50 0 (jrI mem2 11 0 11)))))) + 2)) (jbnd (M_takesWord d 26982 (jwI (jwI mem4 49 0 (jw32 ((jw32 ((jw32 (48 * (jrI mem2 11 0 11))) + (jw32 (4 * (jrI mem2 50 0 (jrI mem2 11 0 11)))))) + 1)) (jrI mem4 48 0 (jrI mem4 11 0 11))) 49 0 (jw32 ((jw32 ((jw32 (48 * (jrI mem2 11 0 11))) + (jw32 (4 * (jrI mem2 50 0 (jrI mem2 11 0 11)))))) + 2)) (-1))) fun v5 mem6 => if (jasI v5) = 0 then M_isGoHere_110 d (jw32 ((jw32 (48 * (jrI mem2 11 0 11))) + (jw32 (4 * (jrI mem2 50 0 (jrI mem2 11 0 11)))))) mem6 else jix 7 (jrI mem6 11 0 11) (jix 288 (jw32 ((jw32 ((jw32 (48 * (jrI mem2 11 0 11))) + (jw32 (4 * (jrI mem2 50 0 (jrI mem2 11 0 11)))))) + 2)) (jbnd (M_tested d (jwI mem6 49 0 (jw32 ((jw32 ((jw32 (48 * (jrI mem2 11 0 11))) + (jw32 (4 * (jrI mem2 50 0 (jrI mem2 11 0 11)))))) + 2)) (jrI mem6 48 0 (jrI mem6 11 0 11)))) fun v7 mem8 => if (jasI v7) = 0 then some (vI 0, mem8) else M_isGoHere_110 d (jw32 ((jw32 (48 * (jrI mem2 11 0 11))) + (jw32 (4 * (jrI mem2 50 0 (jrI mem2 11 0 11)))))) mem8)))))))) := Eq.trans (b := jAtC jc153 (jSem d) 0 [vR 11 (some 0), vU] [] mem) rfl ((jfrom_eq jc153 (jSem d) [110] 65 0 [vR 11 (some 0), vU] [] mem).trans rfl)
set_option maxRecDepth 100000 in
theorem q_M_isGoHere_110 (d : Nat) (x1 : Int) (mem : jMem) : M_isGoHere_110 d x1 mem = jix 7 (jrI mem 11 0 11) (jix 288 (jw32 (x1 + 3)) (jix 6 (jrI mem 11 0 11) (jix 6 (jrI mem 11 0 11) (some (vI 1, (jwI (jwI mem 49 0 (jw32 (x1 + 3)) (jrI mem 48 0 (jrI mem 11 0 11))) 50 0 (jrI mem 11 0 11) (jw32 ((jrI mem 50 0 (jrI mem 11 0 11)) + 1)))))))) := (jfrom_eq jc153 (jSem d) [110] 22 110 [vR 11 (some 0), vI x1] [] mem).trans rfl
set_option maxRecDepth 100000 in
theorem q_M_cellHere (d : Nat) (x1 : Int) (x2 : Int) (x3 : Int) (mem : jMem) : M_cellHere (d + 1) x1 x2 x3 mem = jbnd (M_numberHere d x2 x3 mem) fun v1 mem2 => if (jasI v1) = 0 then some (vI 0, mem2) else jix 81 x1 (some (vI 1, (jwI mem2 51 0 x1 (jrI mem2 11 0 10)))) := Eq.trans (b := jAtC jc154 (jSem d) 0 [vR 11 (some 0), vI x1, vI x2, vI x3] [] mem) rfl ((jfrom_eq jc154 (jSem d) [] 13 0 [vR 11 (some 0), vI x1, vI x2, vI x3] [] mem).trans rfl)
set_option maxRecDepth 100000 in
theorem q_M_isRiverHere (d : Nat) (x1 : Int) (mem : jMem) : M_isRiverHere (d + 1) x1 mem = if 0 < (jrI mem 51 0 0) then jbnd (M_fails d 4 x1 mem) fun v1 mem2 => jbo (jasI v1) (some (vI (jasI v1), mem2)) else jbnd (M_passWord d mem) fun v3 mem4 => jbnd (M_cellHere d 1 2 12 mem4) fun v5 mem6 => if (jasI v5) = 0 then some (vI 0, mem6) else jbnd (M_cellHere d 2 1 9 mem6) fun v7 mem8 => if (jasI v7) = 0 then some (vI 0, mem8) else some (vI 1, (jwI mem8 51 0 0 1)) := Eq.trans (b := jAtC jc155 (jSem d) 0 [vR 11 (some 0), vI x1] [] mem) rfl ((jfrom_eq jc155 (jSem d) [] 26 0 [vR 11 (some 0), vI x1] [] mem).trans rfl)
set_option maxRecDepth 100000 in
theorem q_M_isMoonHere (d : Nat) (x1 : Int) (mem : jMem) : M_isMoonHere (d + 1) x1 mem = if (jrI mem 51 0 3) = 12 then jbnd (M_fails d 4 x1 mem) fun v1 mem2 => jbo (jasI v1) (some (vI (jasI v1), mem2)) else jbnd (M_passWord d mem) fun v3 mem4 => jbnd (M_cellHere d (jw32 (55 + (jrI mem4 51 0 3))) 0 9 mem4) fun v5 mem6 => if (jasI v5) = 0 then some (vI 0, mem6) else some (vI 1, (jwI mem6 51 0 3 (jw32 ((jrI mem6 51 0 3) + 1)))) := Eq.trans (b := jAtC jc156 (jSem d) 0 [vR 11 (some 0), vI x1] [] mem) rfl ((jfrom_eq jc156 (jSem d) [] 29 0 [vR 11 (some 0), vI x1] [] mem).trans rfl)
set_option maxRecDepth 100000 in
theorem q_M_isPersonHere (d : Nat) (x1 : Int) (mem : jMem) : M_isPersonHere (d + 1) x1 mem = if (jrI mem 51 0 4) = 4 then jbnd (M_fails d 4 x1 mem) fun v1 mem2 => jbo (jasI v1) (some (vI (jasI v1), mem2)) else jbnd (M_passWord d mem) fun v3 mem4 => jbnd (M_cellHere d (jw32 (51 + (jrI mem4 51 0 4))) 1 9 mem4) fun v5 mem6 => if (jasI v5) = 0 then some (vI 0, mem6) else some (vI 1, (jwI mem6 51 0 4 (jw32 ((jrI mem6 51 0 4) + 1)))) := Eq.trans (b := jAtC jc157 (jSem d) 0 [vR 11 (some 0), vI x1] [] mem) rfl ((jfrom_eq jc157 (jSem d) [] 29 0 [vR 11 (some 0), vI x1] [] mem).trans rfl)
set_option maxRecDepth 100000 in
theorem q_M_isMemoryHere (d : Nat) (x1 : Int) (mem : jMem) : M_isMemoryHere (d + 1) x1 mem = if (jrI mem 51 0 5) = 6 then jbnd (M_fails d 4 x1 mem) fun v1 mem2 => jbo (jasI v1) (some (vI (jasI v1), mem2)) else jbnd (M_passWord d mem) fun v3 mem4 => jbnd (M_cellHere d (jw32 (67 + (jrI mem4 51 0 5))) 0 (jw32 ((jrI mem4 51 0 1) - 1)) mem4) fun v5 mem6 => if (jasI v5) = 0 then some (vI 0, mem6) else jbnd (M_cellHere d (jw32 (33 + (jrI mem4 51 0 5))) 1 9 mem6) fun v7 mem8 => if (jasI v7) = 0 then some (vI 0, mem8) else jbnd (M_cellHere d (jw32 (39 + (jrI mem4 51 0 5))) 0 7 mem8) fun v9 mem10 => if (jasI v9) = 0 then some (vI 0, mem10) else jbnd (M_cellHere d (jw32 (45 + (jrI mem4 51 0 5))) 0 (jw32 ((jrI mem10 51 0 4) - 1)) mem10) fun v11 mem12 => if (jasI v11) = 0 then some (vI 0, mem12) else some (vI 1, (jwI mem12 51 0 5 (jw32 ((jrI mem12 51 0 5) + 1)))) := Eq.trans (b := jAtC jc158 (jSem d) 0 [vR 11 (some 0), vI x1, vU] [] mem) rfl ((jfrom_eq jc158 (jSem d) [] 65 0 [vR 11 (some 0), vI x1, vU] [] mem).trans rfl)
set_option maxRecDepth 100000 in
theorem q_M_isTrapHere (d : Nat) (x1 : Int) (mem : jMem) : M_isTrapHere (d + 1) x1 mem = if (jrI mem 51 0 6) = 4 then jbnd (M_fails d 4 x1 mem) fun v1 mem2 => jbo (jasI v1) (some (vI (jasI v1), mem2)) else jbnd (M_passWord d mem) fun v3 mem4 => jbnd (M_cellHere d (jw32 (73 + (jw32 (2 * (jrI mem4 51 0 6))))) 0 (jw32 ((jrI mem4 51 0 1) - 1)) mem4) fun v5 mem6 => if (jasI v5) = 0 then some (vI 0, mem6) else jbnd (M_cellHere d (jw32 (25 + (jrI mem4 51 0 6))) 1 9 mem6) fun v7 mem8 => if (jasI v7) = 0 then some (vI 0, mem8) else jbnd (M_cellHere d (jw32 ((jw32 (73 + (jw32 (2 * (jrI mem4 51 0 6))))) + 1)) 0 7 mem8) fun v9 mem10 => if (jasI v9) = 0 then some (vI 0, mem10) else jbnd (M_cellHere d (jw32 (29 + (jrI mem4 51 0 6))) 0 (jw32 ((jrI mem10 51 0 4) - 1)) mem10) fun v11 mem12 => if (jasI v11) = 0 then some (vI 0, mem12) else some (vI 1, (jwI mem12 51 0 6 (jw32 ((jrI mem12 51 0 6) + 1)))) := Eq.trans (b := jAtC jc159 (jSem d) 0 [vR 11 (some 0), vI x1, vU] [] mem) rfl ((jfrom_eq jc159 (jSem d) [] 71 0 [vR 11 (some 0), vI x1, vU] [] mem).trans rfl)
set_option maxRecDepth 100000 in
theorem q_M_riverLineHere (d : Nat) (x1 : Int) (mem : jMem) : M_riverLineHere (d + 1) x1 mem = jbnd (M_isWord d 491395638642 mem) fun v1 mem2 => if (jasI v1) = 0 then if (jrI mem2 51 0 0) = 0 then jbnd (M_fails d 4 x1 mem2) fun v3 mem4 => jbo (jasI v3) (some (vI (jasI v3), mem4)) else jbnd (M_isWord d 1836019566 mem2) fun v5 mem6 => if (jasI v5) = 0 then jbnd (M_isWord d 123581014175598 mem6) fun v7 mem8 => if (jasI v7) = 0 then jbnd (M_isWord d 120282395144825 mem8) fun v9 mem10 => if (jasI v9) = 0 then jbnd (M_isTrapHere d x1 mem10) fun v11 mem12 => jbo (jasI v11) (some (vI (jasI v11), mem12)) else jbnd (M_isMemoryHere d x1 mem10) fun v13 mem14 => jbo (jasI v13) (some (vI (jasI v13), mem14)) else jbnd (M_isPersonHere d x1 mem8) fun v15 mem16 => jbo (jasI v15) (some (vI (jasI v15), mem16)) else jbnd (M_isMoonHere d x1 mem6) fun v17 mem18 => jbo (jasI v17) (some (vI (jasI v17), mem18)) else jbnd (M_isRiverHere d x1 mem2) fun v19 mem20 => jbo (jasI v19) (some (vI (jasI v19), mem20)) := Eq.trans (b := jAtC jc160 (jSem d) 0 [vR 11 (some 0), vI x1] [] mem) rfl ((jfrom_eq jc160 (jSem d) [] 26 0 [vR 11 (some 0), vI x1] [] mem).trans rfl)
set_option maxRecDepth 100000 in
theorem q_M_isRiverWord (d : Nat) (mem : jMem) : M_isRiverWord (d + 1) mem = jbnd (M_isWord d 491395638642 mem) fun v1 mem2 => if (jasI v1) = 0 then jbnd (M_isWord d 1836019566 mem2) fun v3 mem4 => if (jasI v3) = 0 then jbnd (M_isWord d 123581014175598 mem4) fun v5 mem6 => if (jasI v5) = 0 then jbnd (M_isWord d 120282395144825 mem6) fun v7 mem8 => if (jasI v7) = 0 then jbnd (M_isWord d 1953653104 mem8) fun v9 mem10 => if (jasI v9) = 0 then some (vI 0, mem10) else some (vI 1, mem10) else some (vI 1, mem8) else some (vI 1, mem6) else some (vI 1, mem4) else some (vI 1, mem2) := Eq.trans (b := jAtC jc161 (jSem d) 0 [vR 11 (some 0)] [] mem) rfl ((jfrom_eq jc161 (jSem d) [] 23 0 [vR 11 (some 0)] [] mem).trans rfl)
set_option maxRecDepth 100000 in
theorem q_M_clauseHere (d : Nat) (mem : jMem) : M_clauseHere (d + 1) mem = jbnd (M_see d mem) fun v1 mem2 => if (jrI mem2 11 0 11) = 6 then M_clauseHere_24 d (jrI mem2 11 0 8) 1 mem2 else M_clauseHere_24 d (jrI mem2 11 0 8) 0 mem2 := Eq.trans (b := jAtC jc162 (jSem d) 0 [vR 11 (some 0), vU, vU] [] mem) rfl ((jfrom_eq jc162 (jSem d) [24, 71] 13 0 [vR 11 (some 0), vU, vU] [] mem).trans rfl)
set_option maxRecDepth 100000 in
theorem q_M_clauseHere_24 (d : Nat) (x1 : Int) (s0 : Int) (mem : jMem) : M_clauseHere_24 d x1 s0 mem = if s0 = 0 then jbnd (M_isWord d 26479 mem) fun v1 mem2 => if (jasI v1) = 0 then jbnd (M_fails d 0 x1 mem2) fun v3 mem4 => jbo (jasI v3) (some (vI (jasI v3), mem4)) else if s0 = 0 then M_clauseHere_71 d x1 s0 (jrI mem2 11 0 14) 12 mem2 else M_clauseHere_71 d x1 s0 (jrI mem2 11 0 14) 40 mem2 else jbnd (M_isRiverWord d mem) fun v5 mem6 => if (jasI v5) = 0 then jbnd (M_fails d 0 x1 mem6) fun v7 mem8 => jbo (jasI v7) (some (vI (jasI v7), mem8)) else if s0 = 0 then M_clauseHere_71 d x1 s0 (jrI mem6 11 0 14) 12 mem6 else M_clauseHere_71 d x1 s0 (jrI mem6 11 0 14) 40 mem6 := (jfrom_eq jc162 (jSem d) [24, 71] 14 24 [vR 11 (some 0), vI x1, vU] [vI s0] mem).trans rfl
set_option maxRecDepth 100000 in
theorem q_M_clauseHere_71 (d : Nat) (x1 : Int) (x2 : Int) (s0 : Int) (s1 : Int) (mem : jMem) : M_clauseHere_71 d x1 x2 s0 s1 mem = if s0 = s1 then jbnd (M_fails d 4 x1 mem) fun v1 mem2 => jbo (jasI v1) (some (vI (jasI v1), mem2)) else if x2 = 0 then jbnd (M_isGoHere d (jwI mem 11 0 14 (jw32 ((jrI mem 11 0 14) + 1)))) fun v3 mem4 => jbo (jasI v3) (some (vI (jasI v3), mem4)) else jbnd (M_riverLineHere d x1 (jwI mem 11 0 14 (jw32 ((jrI mem 11 0 14) + 1)))) fun v5 mem6 => jbo (jasI v5) (some (vI (jasI v5), mem6)) := (jfrom_eq jc162 (jSem d) [24, 71] 14 71 [vR 11 (some 0), vI x1, vI x2] [vI s1, vI s0] mem).trans rfl
set_option maxRecDepth 100000 in
theorem q_M_readsAll (d : Nat) (mem : jMem) : M_readsAll (d + 1) mem = jix 7 (jrI mem 11 0 11) (jbnd (M_clauseHere d (jwI (jwI (jwI (jwI (jwI mem 48 0 (jrI mem 11 0 11) 0) 11 0 14 0) 11 0 8 0) 11 0 9 0) 11 0 12 0)) fun v1 mem2 => M_readsAll_35 d (jasI v1) mem2) := Eq.trans (b := jAtC jc163 (jSem d) 0 [vR 11 (some 0), vU] [] mem) rfl ((jfrom_eq jc163 (jSem d) [35, 66, 88] 22 0 [vR 11 (some 0), vU] [] mem).trans rfl)
set_option maxRecDepth 100000 in
theorem q_M_readsAll_35 (d : Nat) (x1 : Int) (mem : jMem) : M_readsAll_35 d x1 mem = if x1 = 0 then M_readsAll_66 d x1 mem else jbnd (M_see d mem) fun v1 mem2 => if (jasI v1) = 59 then jbnd (M_clauseHere d (jwI mem2 11 0 8 (jw32 ((jrI mem2 11 0 8) + 1)))) fun v3 mem4 => M_readsAll_35 d (jasI v3) mem4 else M_readsAll_66 d x1 mem2 := (jfrom_eq jc163 (jSem d) [35, 66, 88] 17 35 [vR 11 (some 0), vI x1] [] mem).trans rfl
set_option maxRecDepth 100000 in
theorem q_M_readsAll_66 (d : Nat) (x1 : Int) (mem : jMem) : M_readsAll_66 d x1 mem = if x1 = 0 then M_readsAll_88 d mem else jbnd (M_see d mem) fun v1 mem2 => if (jasI v1) = (-1) then M_readsAll_88 d mem2 else jbnd (M_fails d 0 (jrI mem2 11 0 8) mem2) fun v3 mem4 => M_readsAll_88 d mem4 := (jfrom_eq jc163 (jSem d) [35, 66, 88] 13 66 [vR 11 (some 0), vI x1] [] mem).trans rfl
set_option maxRecDepth 100000 in
theorem q_M_readsAll_88 (d : Nat) (mem : jMem) : M_readsAll_88 d mem = if (jrI mem 11 0 9) = 0 then some (vI 1, (jwI mem 11 0 1 0)) else some (vI 0, (jwI mem 11 0 1 0)) := (jfrom_eq jc163 (jSem d) [35, 66, 88] 9 88 [vR 11 (some 0), vU] [] mem).trans rfl
set_option maxRecDepth 100000 in
theorem q_M_rule (d : Nat) (mem : jMem) : M_rule (d + 1) mem = if (jrI mem 11 0 2) = 6 then some (vI (-1), mem) else jix 6 (jrI mem 11 0 2) (jbnd (M_readsAll d (jwI (jwI mem 11 0 11 (jrI mem 11 0 2)) 50 0 (jrI mem 11 0 2) 0)) fun v1 mem2 => if (jasI v1) = 0 then some (vI (jw32 ((-2) - (jrI mem2 11 0 9))), mem2) else some (vI (jw32 ((jw32 ((jrI mem2 11 0 2) + 1)) - 1)), (jwI mem2 11 0 2 (jw32 ((jrI mem2 11 0 2) + 1))))) := Eq.trans (b := jAtC jc164 (jSem d) 0 [vR 11 (some 0)] [] mem) rfl ((jfrom_eq jc164 (jSem d) [] 28 0 [vR 11 (some 0)] [] mem).trans rfl)
set_option maxRecDepth 100000 in
theorem q_M_river (d : Nat) (mem : jMem) : M_river (d + 1) mem = M_river_8 d 0 (jwI mem 11 0 11 6) := Eq.trans (b := jAtC jc165 (jSem d) 0 [vR 11 (some 0), vU] [] mem) rfl ((jfrom_eq jc165 (jSem d) [8, 44] 6 0 [vR 11 (some 0), vU] [] mem).trans rfl)
set_option maxRecDepth 100000 in
theorem q_M_river_8 (d : Nat) (x1 : Int) (mem : jMem) : M_river_8 d x1 mem = if x1 < 81 then jix 81 x1 (M_river_8 d (jw32 (x1 + 1)) (jwI mem 51 0 x1 0)) else jbnd (M_readsAll d mem) fun v1 mem2 => if (jasI v1) = 0 then some (vI (jw32 ((-2) - (jrI mem2 11 0 9))), mem2) else M_river_44 d 0 mem2 := (jfrom_eq jc165 (jSem d) [8, 44] 11 8 [vR 11 (some 0), vI x1] [] mem).trans rfl
set_option maxRecDepth 100000 in
theorem q_M_river_44 (d : Nat) (x1 : Int) (mem : jMem) : M_river_44 d x1 mem = if x1 < 112 then if x1 < 81 then jix 81 x1 (jix 112 x1 (M_river_44 d (jw32 (x1 + 1)) (jwI mem 55 0 x1 (jrI mem 51 0 x1)))) else jix 112 x1 (M_river_44 d (jw32 (x1 + 1)) (jwI mem 55 0 x1 0)) else jbnd (M_begins d mem) fun v1 mem2 => some (vI (jrI mem2 55 0 5), (jwI mem2 11 0 26 0)) := (jfrom_eq jc165 (jSem d) [8, 44] 18 44 [vR 11 (some 0), vI x1] [] mem).trans rfl
set_option maxRecDepth 100000 in
theorem q_M_isRule (d : Nat) (x1 : Int) (mem : jMem) : M_isRule (d + 1) x1 mem = if x1 < 0 then some (vI 0, mem) else if x1 < (jrI mem 11 0 2) then some (vI 1, mem) else some (vI 0, mem) := Eq.trans (b := jAtC jc166 (jSem d) 0 [vR 11 (some 0), vI x1] [] mem) rfl ((jfrom_eq jc166 (jSem d) [] 9 0 [vR 11 (some 0), vI x1] [] mem).trans rfl)
set_option maxRecDepth 100000 in
theorem q_M_push (d : Nat) (y1 : Int) (mem : jMem) : M_push (d + 1) y1 mem = jix 64 (jrI mem 11 0 18) (some (vU, (jwI (jwJ mem 53 0 (jrI mem 11 0 18) y1) 11 0 18 (jw32 ((jrI mem 11 0 18) + 1))))) := Eq.trans (b := jAtC jc167 (jSem d) 0 [vR 11 (some 0), vJ y1, vU] [] mem) rfl ((jfrom_eq jc167 (jSem d) [] 13 0 [vR 11 (some 0), vJ y1, vU] [] mem).trans rfl)
set_option maxRecDepth 100000 in
theorem q_M_pop (d : Nat) (mem : jMem) : M_pop (d + 1) mem = jix 64 (jw32 ((jrI mem 11 0 18) - 1)) (some (vJ (jrJ mem 53 0 (jw32 ((jrI mem 11 0 18) - 1))), (jwI mem 11 0 18 (jw32 ((jrI mem 11 0 18) - 1))))) := Eq.trans (b := jAtC jc168 (jSem d) 0 [vR 11 (some 0)] [] mem) rfl ((jfrom_eq jc168 (jSem d) [] 12 0 [vR 11 (some 0)] [] mem).trans rfl)
set_option maxRecDepth 100000 in
theorem q_M_one (d : Nat) (x0 : Int) (y1 : Int) (y3 : Int) (mem : jMem) : M_one (d + 1) x0 y1 y3 mem = if x0 = 2 then some (vJ (jw64 (y1 + y3)), mem) else if x0 = 3 then some (vJ (jw64 (y1 - y3)), mem) else if x0 = 4 then some (vJ (jw64 (y1 * y3)), mem) else if x0 = 5 then if (jlcmp y3 0) = 0 then some (vJ 0, mem) else jnz y3 (some (vJ (jw64 (y1.tdiv y3)), mem)) else if x0 = 6 then if (jlcmp y1 y3) < 0 then some (vJ 1, mem) else some (vJ 0, mem) else if x0 = 7 then if 0 < (jlcmp y1 y3) then some (vJ 0, mem) else some (vJ 1, mem) else if x0 = 8 then if (jlcmp y1 y3) = 0 then some (vJ 1, mem) else some (vJ 0, mem) else if x0 = 9 then if (jlcmp y1 y3) < 0 then some (vJ 0, mem) else some (vJ 1, mem) else if x0 = 10 then if 0 < (jlcmp y1 y3) then some (vJ 1, mem) else some (vJ 0, mem) else if x0 = 11 then some (vJ (jlor y1 y3), mem) else if x0 = 12 then some (vJ (jland y1 y3), mem) else if x0 = 13 then some (vJ (jlor y1 y3), mem) else if x0 = 14 then if (jlcmp y3 0) = 0 then some (vJ 0, mem) else jnz y3 (some (vJ (y1.tmod y3), mem)) else some (vJ (jlor y1 y3), mem) := Eq.trans (b := jAtC jc169 (jSem d) 0 [vI x0, vJ y1, vU, vJ y3, vU] [] mem) rfl ((jfrom_eq jc169 (jSem d) [] 10 0 [vI x0, vJ y1, vU, vJ y3, vU] [] mem).trans rfl)
set_option maxRecDepth 100000 in
theorem q_M_reckons (d : Nat) (x1 : Int) (x2 : Int) (x3 : Int) (mem : jMem) : M_reckons (d + 1) x1 x2 x3 mem = M_reckons_8 d x1 x3 x2 (jwI mem 11 0 18 0) := Eq.trans (b := jAtC jc170 (jSem d) 0 [vR 11 (some 0), vI x1, vI x2, vI x3, vU, vU, vU, vU, vU, vU, vU] [] mem) rfl ((jfrom_eq jc170 (jSem d) [8] 6 0 [vR 11 (some 0), vI x1, vI x2, vI x3, vU, vU, vU, vU, vU, vU, vU] [] mem).trans rfl)
set_option maxRecDepth 100000 in
theorem q_M_reckons_8 (d : Nat) (x1 : Int) (x3 : Int) (x4 : Int) (mem : jMem) : M_reckons_8 d x1 x3 x4 mem = if x4 < x3 then jix 2400 (jw32 ((jw32 (400 * x1)) + x4)) (jix 2400 (jw32 ((jw32 (400 * x1)) + x4)) (if (jand (jrI mem 47 0 (jw32 ((jw32 (400 * x1)) + x4))) 15) = 0 then jbnd (M_push d (jshr (jrI mem 47 0 (jw32 ((jw32 (400 * x1)) + x4))) 4) mem) fun v1 mem2 => M_reckons_8 d x1 x3 (jw32 (x4 + 1)) mem2 else if (jand (jrI mem 47 0 (jw32 ((jw32 (400 * x1)) + x4))) 15) = 1 then jix 12 (jshr (jrI mem 47 0 (jw32 ((jw32 (400 * x1)) + x4))) 4) (jbnd (M_push d (jrJ mem 54 0 (jshr (jrI mem 47 0 (jw32 ((jw32 (400 * x1)) + x4))) 4)) mem) fun v3 mem4 => M_reckons_8 d x1 x3 (jw32 (x4 + 1)) mem4) else if (jand (jrI mem 47 0 (jw32 ((jw32 (400 * x1)) + x4))) 15) = 11 then jbnd (M_pop d mem) fun v5 mem6 => jbnd (M_push d (jw64 (1 - (jasJ v5))) mem6) fun v7 mem8 => M_reckons_8 d x1 x3 (jw32 (x4 + 1)) mem8 else jbnd (M_pop d mem) fun v9 mem10 => jbnd (M_pop d mem10) fun v11 mem12 => jbnd (M_one d (jand (jrI mem 47 0 (jw32 ((jw32 (400 * x1)) + x4))) 15) (jasJ v11) (jasJ v9) mem12) fun v13 mem14 => jbnd (M_push d (jasJ v13) mem14) fun v15 mem16 => M_reckons_8 d x1 x3 (jw32 (x4 + 1)) mem16)) else jbnd (M_pop d mem) fun v17 mem18 => some (vJ (jasJ v17), mem18) := (jfrom_eq jc170 (jSem d) [8] 48 8 [vR 11 (some 0), vI x1, vU, vI x3, vI x4, vU, vU, vU, vU, vU, vU] [] mem).trans rfl
set_option maxRecDepth 100000 in
theorem q_M_isRiver (d : Nat) (mem : jMem) : M_isRiver (d + 1) mem = if (jrI mem 55 0 0) = 1 then some (vI 1, mem) else some (vI 0, mem) := Eq.trans (b := jAtC jc171 (jSem d) 0 [vR 11 (some 0)] [] mem) rfl ((jfrom_eq jc171 (jSem d) [] 9 0 [vR 11 (some 0)] [] mem).trans rfl)
set_option maxRecDepth 100000 in
theorem q_M_rounds (d : Nat) (mem : jMem) : M_rounds (d + 1) mem = jbnd (M_isRiver d mem) fun v1 mem2 => if (jasI v1) = 0 then some (vI 0, mem2) else if (jrI mem2 55 0 3) = 0 then some (vI 1, mem2) else some (vI (jrI mem2 55 0 3), mem2) := Eq.trans (b := jAtC jc172 (jSem d) 0 [vR 11 (some 0)] [] mem) rfl ((jfrom_eq jc172 (jSem d) [] 13 0 [vR 11 (some 0)] [] mem).trans rfl)
set_option maxRecDepth 100000 in
theorem q_M_isPool (d : Nat) (x1 : Int) (mem : jMem) : M_isPool (d + 1) x1 mem = if x1 < 0 then some (vI 0, mem) else if x1 < (jrI mem 55 0 1) then some (vI 1, mem) else some (vI 0, mem) := Eq.trans (b := jAtC jc173 (jSem d) 0 [vR 11 (some 0), vI x1] [] mem) rfl ((jfrom_eq jc173 (jSem d) [] 11 0 [vR 11 (some 0), vI x1] [] mem).trans rfl)
set_option maxRecDepth 100000 in
theorem q_M_isPerson (d : Nat) (x1 : Int) (mem : jMem) : M_isPerson (d + 1) x1 mem = if x1 < 0 then some (vI 0, mem) else if x1 < (jrI mem 55 0 4) then some (vI 1, mem) else some (vI 0, mem) := Eq.trans (b := jAtC jc174 (jSem d) 0 [vR 11 (some 0), vI x1] [] mem) rfl ((jfrom_eq jc174 (jSem d) [] 11 0 [vR 11 (some 0), vI x1] [] mem).trans rfl)
set_option maxRecDepth 100000 in
theorem q_M_isMemory (d : Nat) (x1 : Int) (mem : jMem) : M_isMemory (d + 1) x1 mem = if x1 < 0 then some (vI 0, mem) else if x1 < (jrI mem 55 0 5) then some (vI 1, mem) else some (vI 0, mem) := Eq.trans (b := jAtC jc175 (jSem d) 0 [vR 11 (some 0), vI x1] [] mem) rfl ((jfrom_eq jc175 (jSem d) [] 11 0 [vR 11 (some 0), vI x1] [] mem).trans rfl)
set_option maxRecDepth 100000 in
theorem q_M_isTrap (d : Nat) (x1 : Int) (mem : jMem) : M_isTrap (d + 1) x1 mem = if x1 < 0 then some (vI 0, mem) else if x1 < (jrI mem 55 0 6) then some (vI 1, mem) else some (vI 0, mem) := Eq.trans (b := jAtC jc176 (jSem d) 0 [vR 11 (some 0), vI x1] [] mem) rfl ((jfrom_eq jc176 (jSem d) [] 11 0 [vR 11 (some 0), vI x1] [] mem).trans rfl)
set_option maxRecDepth 100000 in
theorem q_M_isFree (d : Nat) (x1 : Int) (mem : jMem) : M_isFree (d + 1) x1 mem = jbnd (M_isMemory d x1 mem) fun v1 mem2 => if (jasI v1) = 0 then some (vI 0, mem2) else jix 112 (jw32 (11 + x1)) (jbnd (M_in d (jrI mem2 55 0 (jw32 (11 + x1))) 0 19 mem2) fun v3 mem4 => if (jasI v3) = 0 then some (vI 0, mem4) else some (vI 1, mem4)) := Eq.trans (b := jAtC jc177 (jSem d) 0 [vR 11 (some 0), vI x1] [] mem) rfl ((jfrom_eq jc177 (jSem d) [] 18 0 [vR 11 (some 0), vI x1] [] mem).trans rfl)
set_option maxRecDepth 100000 in
theorem q_M_isHad (d : Nat) (x1 : Int) (mem : jMem) : M_isHad (d + 1) x1 mem = jbnd (M_isMemory d x1 mem) fun v1 mem2 => if (jasI v1) = 0 then some (vI 0, mem2) else jix 112 (jw32 (11 + x1)) (if (jrI mem2 55 0 (jw32 (11 + x1))) < 30 then some (vI 0, mem2) else some (vI 1, mem2)) := Eq.trans (b := jAtC jc178 (jSem d) 0 [vR 11 (some 0), vI x1] [] mem) rfl ((jfrom_eq jc178 (jSem d) [] 15 0 [vR 11 (some 0), vI x1] [] mem).trans rfl)
set_option maxRecDepth 100000 in
theorem q_M_poolOf (d : Nat) (x1 : Int) (mem : jMem) : M_poolOf (d + 1) x1 mem = jix 112 (jw32 (17 + (jw32 (2 * x1)))) (some (vI (jrI mem 55 0 (jw32 (17 + (jw32 (2 * x1))))), mem)) := Eq.trans (b := jAtC jc179 (jSem d) 0 [vR 11 (some 0), vI x1] [] mem) rfl ((jfrom_eq jc179 (jSem d) [] 9 0 [vR 11 (some 0), vI x1] [] mem).trans rfl)
set_option maxRecDepth 100000 in
theorem q_M_baitOf (d : Nat) (x1 : Int) (mem : jMem) : M_baitOf (d + 1) x1 mem = jix 112 (jw32 ((jw32 (17 + (jw32 (2 * x1)))) + 1)) (some (vI (jrI mem 55 0 (jw32 ((jw32 (17 + (jw32 (2 * x1)))) + 1))), mem)) := Eq.trans (b := jAtC jc180 (jSem d) 0 [vR 11 (some 0), vI x1] [] mem) rfl ((jfrom_eq jc180 (jSem d) [] 11 0 [vR 11 (some 0), vI x1] [] mem).trans rfl)
set_option maxRecDepth 100000 in
theorem q_M_memoryIn (d : Nat) (x1 : Int) (mem : jMem) : M_memoryIn (d + 1) x1 mem = M_memoryIn_2 d x1 0 mem := Eq.trans (b := jAtC jc181 (jSem d) 0 [vR 11 (some 0), vI x1, vU] [] mem) rfl ((jfrom_eq jc181 (jSem d) [2] 3 0 [vR 11 (some 0), vI x1, vU] [] mem).trans rfl)
set_option maxRecDepth 100000 in
theorem q_M_memoryIn_2 (d : Nat) (x1 : Int) (x2 : Int) (mem : jMem) : M_memoryIn_2 d x1 x2 mem = if x2 < (jrI mem 55 0 5) then jix 112 (jw32 (11 + x2)) (if (jrI mem 55 0 (jw32 (11 + x2))) = (jw32 (20 + x1)) then some (vI x2, mem) else M_memoryIn_2 d x1 (jw32 (x2 + 1)) mem) else some (vI (-1), mem) := (jfrom_eq jc181 (jSem d) [2] 19 2 [vR 11 (some 0), vI x1, vI x2] [] mem).trans rfl
set_option maxRecDepth 100000 in
theorem q_M_isEmptyTrap (d : Nat) (x1 : Int) (mem : jMem) : M_isEmptyTrap (d + 1) x1 mem = jbnd (M_isTrap d x1 mem) fun v1 mem2 => if (jasI v1) = 0 then some (vI 0, mem2) else jbnd (M_memoryIn d x1 mem2) fun v3 mem4 => if (jasI v3) < 0 then some (vI 1, mem4) else some (vI 0, mem4) := Eq.trans (b := jAtC jc182 (jSem d) 0 [vR 11 (some 0), vI x1] [] mem) rfl ((jfrom_eq jc182 (jSem d) [] 11 0 [vR 11 (some 0), vI x1] [] mem).trans rfl)
set_option maxRecDepth 100000 in
theorem q_M_onesThat (d : Nat) (x1 : Int) (x2 : Int) (mem : jMem) : M_onesThat (d + 1) x1 x2 mem = M_onesThat_5 d x1 x2 0 0 mem := Eq.trans (b := jAtC jc183 (jSem d) 0 [vR 11 (some 0), vI x1, vI x2, vU, vU] [] mem) rfl ((jfrom_eq jc183 (jSem d) [5] 5 0 [vR 11 (some 0), vI x1, vI x2, vU, vU] [] mem).trans rfl)
set_option maxRecDepth 100000 in
theorem q_M_onesThat_5 (d : Nat) (x1 : Int) (x2 : Int) (x3 : Int) (x4 : Int) (mem : jMem) : M_onesThat_5 d x1 x2 x3 x4 mem = if x4 < (jrI mem 55 0 5) then jix 112 (jw32 (11 + x4)) (jbnd (M_in d (jrI mem 55 0 (jw32 (11 + x4))) x1 x2 mem) fun v1 mem2 => if (jasI v1) = 0 then M_onesThat_5 d x1 x2 (jor x3 0) (jw32 (x4 + 1)) mem2 else M_onesThat_5 d x1 x2 (jor x3 (jshl 1 x4)) (jw32 (x4 + 1)) mem2) else some (vI x3, mem) := (jfrom_eq jc183 (jSem d) [5] 29 5 [vR 11 (some 0), vI x1, vI x2, vI x3, vI x4] [] mem).trans rfl
set_option maxRecDepth 100000 in
theorem q_M_lightOn (d : Nat) (x1 : Int) (mem : jMem) : M_lightOn (d + 1) x1 mem = jbnd (M_rounds d mem) fun v1 mem2 => jnz (jasI v1) (jix 112 (jw32 (55 + (x1.tmod (jasI v1)))) (some (vI (jrI mem2 55 0 (jw32 (55 + (x1.tmod (jasI v1))))), mem2))) := Eq.trans (b := jAtC jc184 (jSem d) 0 [vR 11 (some 0), vI x1] [] mem) rfl ((jfrom_eq jc184 (jSem d) [] 10 0 [vR 11 (some 0), vI x1] [] mem).trans rfl)
set_option maxRecDepth 100000 in
theorem q_M_begins (d : Nat) (mem : jMem) : M_begins (d + 1) mem = M_begins_10 d 0 (jwI mem 55 0 10 0) := Eq.trans (b := jAtC jc185 (jSem d) 0 [vR 11 (some 0), vU] [] mem) rfl ((jfrom_eq jc185 (jSem d) [10, 42] 8 0 [vR 11 (some 0), vU] [] mem).trans rfl)
set_option maxRecDepth 100000 in
theorem q_M_begins_10 (d : Nat) (x1 : Int) (mem : jMem) : M_begins_10 d x1 mem = if x1 < 6 then jix 112 (jw32 (67 + x1)) (jix 112 (jw32 (11 + x1)) (M_begins_10 d (jw32 (x1 + 1)) (jwI mem 55 0 (jw32 (11 + x1)) (jrI mem 55 0 (jw32 (67 + x1)))))) else M_begins_42 d 0 mem := (jfrom_eq jc185 (jSem d) [10, 42] 18 10 [vR 11 (some 0), vI x1] [] mem).trans rfl
set_option maxRecDepth 100000 in
theorem q_M_begins_42 (d : Nat) (x1 : Int) (mem : jMem) : M_begins_42 d x1 mem = if x1 < 8 then jix 112 (jw32 (73 + x1)) (jix 112 (jw32 (17 + x1)) (M_begins_42 d (jw32 (x1 + 1)) (jwI mem 55 0 (jw32 (17 + x1)) (jrI mem 55 0 (jw32 (73 + x1)))))) else some (vU, mem) := (jfrom_eq jc185 (jSem d) [10, 42] 18 42 [vR 11 (some 0), vI x1] [] mem).trans rfl
set_option maxRecDepth 100000 in
theorem q_M_force (d : Nat) (x1 : Int) (mem : jMem) : M_force (d + 1) x1 mem = if x1 = (-1) then M_force_16 d x1 mem else jbnd (M_isRule d x1 mem) fun v1 mem2 => if (jasI v1) = 0 then some (vI (-2), mem2) else M_force_16 d x1 mem2 := Eq.trans (b := jAtC jc186 (jSem d) 0 [vR 11 (some 0), vI x1, vU] [] mem) rfl ((jfrom_eq jc186 (jSem d) [16] 9 0 [vR 11 (some 0), vI x1, vU] [] mem).trans rfl)
set_option maxRecDepth 100000 in
theorem q_M_force_16 (d : Nat) (x1 : Int) (mem : jMem) : M_force_16 d x1 mem = some (vI (jrI mem 11 0 21), (jwI mem 11 0 21 x1)) := (jfrom_eq jc186 (jSem d) [16] 8 16 [vR 11 (some 0), vI x1, vU] [] mem).trans rfl
set_option maxRecDepth 100000 in
theorem q_M_memory (d : Nat) (x1 : Int) (x2 : Int) (mem : jMem) : M_memory (d + 1) x1 x2 mem = jbnd (M_isMemory d x1 mem) fun v1 mem2 => if (jasI v1) = 0 then some (vI (-2), mem2) else jbnd (M_in d x2 0 3 mem2) fun v3 mem4 => if (jasI v3) = 0 then some (vI (-2), mem4) else if x2 = 0 then jix 112 (jw32 (33 + x1)) (some (vI (jrI mem4 55 0 (jw32 (33 + x1))), mem4)) else if x2 = 1 then jix 112 (jw32 (39 + x1)) (some (vI (jrI mem4 55 0 (jw32 (39 + x1))), mem4)) else if x2 = 2 then jix 112 (jw32 (45 + x1)) (some (vI (jrI mem4 55 0 (jw32 (45 + x1))), mem4)) else jix 112 (jw32 (11 + x1)) (some (vI (jrI mem4 55 0 (jw32 (11 + x1))), mem4)) := Eq.trans (b := jAtC jc187 (jSem d) 0 [vR 11 (some 0), vI x1, vI x2] [] mem) rfl ((jfrom_eq jc187 (jSem d) [] 26 0 [vR 11 (some 0), vI x1, vI x2] [] mem).trans rfl)
set_option maxRecDepth 100000 in
theorem q_M_trap (d : Nat) (x1 : Int) (x2 : Int) (mem : jMem) : M_trap (d + 1) x1 x2 mem = jbnd (M_isTrap d x1 mem) fun v1 mem2 => if (jasI v1) = 0 then some (vI (-2), mem2) else if x2 = 0 then jbnd (M_poolOf d x1 mem2) fun v3 mem4 => some (vI (jasI v3), mem4) else if x2 = 1 then jix 112 (jw32 (25 + x1)) (some (vI (jrI mem2 55 0 (jw32 (25 + x1))), mem2)) else if x2 = 2 then jbnd (M_baitOf d x1 mem2) fun v5 mem6 => some (vI (jasI v5), mem6) else if x2 = 3 then jix 112 (jw32 (29 + x1)) (some (vI (jrI mem2 55 0 (jw32 (29 + x1))), mem2)) else if x2 = 4 then jbnd (M_memoryIn d x1 mem2) fun v7 mem8 => some (vI (jasI v7), mem8) else some (vI (-2), mem2) := Eq.trans (b := jAtC jc188 (jSem d) 0 [vR 11 (some 0), vI x1, vI x2] [] mem) rfl ((jfrom_eq jc188 (jSem d) [] 13 0 [vR 11 (some 0), vI x1, vI x2] [] mem).trans rfl)
set_option maxRecDepth 100000 in
theorem q_M_person (d : Nat) (x1 : Int) (mem : jMem) : M_person (d + 1) x1 mem = jbnd (M_isPerson d x1 mem) fun v1 mem2 => if (jasI v1) = 0 then some (vI (-1), mem2) else jbnd (M_onesThat d (jw32 (30 + x1)) (jw32 (30 + x1)) mem2) fun v3 mem4 => some (vI (jasI v3), mem4) := Eq.trans (b := jAtC jc189 (jSem d) 0 [vR 11 (some 0), vI x1] [] mem) rfl ((jfrom_eq jc189 (jSem d) [] 14 0 [vR 11 (some 0), vI x1] [] mem).trans rfl)
set_option maxRecDepth 100000 in
theorem q_M_moon (d : Nat) (x1 : Int) (mem : jMem) : M_moon (d + 1) x1 mem = if x1 < 0 then some (vI (-1), mem) else jbnd (M_rounds d mem) fun v1 mem2 => if x1 < (jasI v1) then jix 112 (jw32 (55 + x1)) (some (vI (jrI mem2 55 0 (jw32 (55 + x1))), mem2)) else some (vI (-1), mem2) := Eq.trans (b := jAtC jc190 (jSem d) 0 [vR 11 (some 0), vI x1] [] mem) rfl ((jfrom_eq jc190 (jSem d) [] 14 0 [vR 11 (some 0), vI x1] [] mem).trans rfl)
set_option maxRecDepth 100000 in
theorem q_M_summedBy (d : Nat) (x1 : Int) (mem : jMem) : M_summedBy (d + 1) x1 mem = M_summedBy_2 d x1 0 mem := Eq.trans (b := jAtC jc191 (jSem d) 0 [vR 11 (some 0), vI x1, vU, vU] [] mem) rfl ((jfrom_eq jc191 (jSem d) [2, 58] 3 0 [vR 11 (some 0), vI x1, vU, vU] [] mem).trans rfl)
set_option maxRecDepth 100000 in
theorem q_M_summedBy_2 (d : Nat) (x1 : Int) (x2 : Int) (mem : jMem) : M_summedBy_2 d x1 x2 mem = jix 6 x1 (if x2 < (jrI mem 50 0 x1) then jix 288 (jw32 ((jw32 ((jw32 (48 * x1)) + (jw32 (4 * x2)))) + 2)) (if (jrI mem 49 0 (jw32 ((jw32 ((jw32 (48 * x1)) + (jw32 (4 * x2)))) + 2))) < 0 then M_summedBy_58 d x1 (jw32 ((jw32 (48 * x1)) + (jw32 (4 * x2)))) mem else jix 288 (jw32 ((jw32 ((jw32 (48 * x1)) + (jw32 (4 * x2)))) + 2)) (jix 288 (jw32 ((jw32 ((jw32 (48 * x1)) + (jw32 (4 * x2)))) + 3)) (jbnd (M_reckons d x1 (jrI mem 49 0 (jw32 ((jw32 ((jw32 (48 * x1)) + (jw32 (4 * x2)))) + 2))) (jrI mem 49 0 (jw32 ((jw32 ((jw32 (48 * x1)) + (jw32 (4 * x2)))) + 3))) mem) fun v1 mem2 => if (jlcmp (jasJ v1) 1) = 0 then M_summedBy_58 d x1 (jw32 ((jw32 (48 * x1)) + (jw32 (4 * x2)))) mem2 else M_summedBy_2 d x1 (jw32 (x2 + 1)) mem2))) else some (vJ 0, mem)) := (jfrom_eq jc191 (jSem d) [2, 58] 42 2 [vR 11 (some 0), vI x1, vI x2, vU] [] mem).trans rfl
set_option maxRecDepth 100000 in
theorem q_M_summedBy_58 (d : Nat) (x1 : Int) (x3 : Int) (mem : jMem) : M_summedBy_58 d x1 x3 mem = jix 288 x3 (jix 288 (jw32 (x3 + 1)) (jbnd (M_reckons d x1 (jrI mem 49 0 x3) (jrI mem 49 0 (jw32 (x3 + 1))) mem) fun v1 mem2 => some (vJ (jasJ v1), mem2))) := (jfrom_eq jc191 (jSem d) [2, 58] 14 58 [vR 11 (some 0), vI x1, vU, vI x3] [] mem).trans rfl
set_option maxRecDepth 100000 in
theorem q_M_sumOf (d : Nat) (x1 : Int) (x2 : Int) (mem : jMem) : M_sumOf (d + 1) x1 x2 mem = M_sumOf_8 d x1 x2 0 0 0 mem := Eq.trans (b := jAtC jc192 (jSem d) 0 [vR 11 (some 0), vI x1, vI x2, vU, vU, vU, vU] [] mem) rfl ((jfrom_eq jc192 (jSem d) [8, 83, 255] 7 0 [vR 11 (some 0), vI x1, vI x2, vU, vU, vU, vU] [] mem).trans rfl)
set_option maxRecDepth 100000 in
theorem q_M_sumOf_8 (d : Nat) (x1 : Int) (x2 : Int) (x3 : Int) (x4 : Int) (x5 : Int) (mem : jMem) : M_sumOf_8 d x1 x2 x3 x4 x5 mem = if x5 < (jrI mem 55 0 6) then jbnd (M_poolOf d x5 mem) fun v1 mem2 => if (jasI v1) = x2 then jbnd (M_memoryIn d x5 mem2) fun v3 mem4 => if (jasI v3) < 0 then jbnd (M_baitOf d x5 mem4) fun v5 mem6 => jix 112 (jw32 (39 + x1)) (if (jasI v5) = (jrI mem6 55 0 (jw32 (39 + x1))) then M_sumOf_8 d x1 x2 (jw32 (x3 + 1)) (jw32 (x4 + 1)) (jw32 (x5 + 1)) mem6 else M_sumOf_8 d x1 x2 (jw32 (x3 + 0)) (jw32 (x4 + 1)) (jw32 (x5 + 1)) mem6) else M_sumOf_8 d x1 x2 (jw32 (x3 + 0)) (jw32 (x4 + 1)) (jw32 (x5 + 1)) mem4 else M_sumOf_8 d x1 x2 x3 x4 (jw32 (x5 + 1)) mem2 else M_sumOf_83 d x1 x2 x3 x4 0 0 mem := (jfrom_eq jc192 (jSem d) [8, 83, 255] 34 8 [vR 11 (some 0), vI x1, vI x2, vI x3, vI x4, vI x5, vU] [] mem).trans rfl
set_option maxRecDepth 100000 in
theorem q_M_sumOf_83 (d : Nat) (x1 : Int) (x2 : Int) (x3 : Int) (x4 : Int) (x5 : Int) (x6 : Int) (mem : jMem) : M_sumOf_83 d x1 x2 x3 x4 x5 x6 mem = if x6 < (jrI mem 55 0 5) then if x6 = x1 then M_sumOf_83 d x1 x2 x3 x4 (jw32 (x5 + 0)) (jw32 (x6 + 1)) mem else jix 112 (jw32 (11 + x6)) (if (jrI mem 55 0 (jw32 (11 + x6))) = x2 then M_sumOf_83 d x1 x2 x3 x4 (jw32 (x5 + 1)) (jw32 (x6 + 1)) mem else M_sumOf_83 d x1 x2 x3 x4 (jw32 (x5 + 0)) (jw32 (x6 + 1)) mem) else jix 112 (jw32 (11 + x1)) (jix 112 (jw32 (33 + x1)) (jix 112 (jw32 (39 + x1)) (if (jrI mem 11 0 23) < 0 then jbnd (M_lightOn d (jrI mem 55 0 10) (jwJ (jwJ (jwJ (jwJ (jwJ (jwJ (jwJ (jwJ mem 54 0 0 x1) 54 0 1 x2) 54 0 2 (jrI mem 55 0 (jw32 (11 + x1)))) 54 0 3 (jrI mem 55 0 (jw32 (33 + x1)))) 54 0 4 (jrI mem 55 0 (jw32 (39 + x1)))) 54 0 5 x3) 54 0 6 x4) 54 0 7 x5)) fun v1 mem2 => M_sumOf_255 d x1 8 (jasI v1) mem2 else M_sumOf_255 d x1 8 (jrI mem 11 0 23) (jwJ (jwJ (jwJ (jwJ (jwJ (jwJ (jwJ (jwJ mem 54 0 0 x1) 54 0 1 x2) 54 0 2 (jrI mem 55 0 (jw32 (11 + x1)))) 54 0 3 (jrI mem 55 0 (jw32 (33 + x1)))) 54 0 4 (jrI mem 55 0 (jw32 (39 + x1)))) 54 0 5 x3) 54 0 6 x4) 54 0 7 x5)))) := (jfrom_eq jc192 (jSem d) [8, 83, 255] 83 83 [vR 11 (some 0), vI x1, vI x2, vI x3, vI x4, vI x5, vI x6] [] mem).trans rfl
set_option maxRecDepth 100000 in
theorem q_M_sumOf_255 (d : Nat) (x1 : Int) (s1 : Int) (z2 : Int) (mem : jMem) : M_sumOf_255 d x1 s1 z2 mem = jix 12 s1 (jbnd (M_lightOn d (jw32 ((jrI mem 55 0 10) + 1)) (jwJ mem 54 0 s1 z2)) fun v1 mem2 => jix 112 (jw32 (45 + x1)) (jbnd (M_summedBy d (jrI mem2 11 0 21) (jwJ (jwJ (jwJ mem2 54 0 9 (jasI v1)) 54 0 10 (jrI mem2 55 0 (jw32 (45 + x1)))) 54 0 11 (jrI mem2 55 0 10))) fun v3 mem4 => some (vJ (jasJ v3), mem4))) := (jfrom_eq jc192 (jSem d) [8, 83, 255] 39 255 [vR 11 (some 0), vI x1, vU, vU, vU, vU, vU] [vJ z2, vI s1, vR 54 (some 0)] mem).trans rfl
set_option maxRecDepth 100000 in
theorem q_M_choice (d : Nat) (x1 : Int) (mem : jMem) : M_choice (d + 1) x1 mem = jix 112 (jw32 (11 + x1)) (if (jrI mem 11 0 21) < 0 then jbnd (M_isPool d (jw32 ((jrI mem 55 0 (jw32 (11 + x1))) + 1)) mem) fun v1 mem2 => if (jasI v1) = 0 then some (vI (jrI mem 55 0 (jw32 (11 + x1))), mem2) else some (vI (jw32 ((jrI mem 55 0 (jw32 (11 + x1))) + 1)), mem2) else M_choice_45 d x1 (jrI mem 55 0 (jw32 (11 + x1))) (jrI mem 55 0 (jw32 (11 + x1))) 0 (jw32 ((jrI mem 55 0 (jw32 (11 + x1))) - 1)) mem) := Eq.trans (b := jAtC jc193 (jSem d) 0 [vR 11 (some 0), vI x1, vU, vU, vU, vU, vU, vU, vU] [] mem) rfl ((jfrom_eq jc193 (jSem d) [45] 21 0 [vR 11 (some 0), vI x1, vU, vU, vU, vU, vU, vU, vU] [] mem).trans rfl)
set_option maxRecDepth 100000 in
theorem q_M_choice_45 (d : Nat) (x1 : Int) (x2 : Int) (x3 : Int) (y4 : Int) (x6 : Int) (mem : jMem) : M_choice_45 d x1 x2 x3 y4 x6 mem = if (jw32 (x2 + 1)) < x6 then some (vI x3, mem) else jbnd (M_isPool d x6 mem) fun v1 mem2 => if (jasI v1) = 0 then M_choice_45 d x1 x2 x3 y4 (jw32 (x6 + 1)) mem2 else jbnd (M_sumOf d x1 x6 mem2) fun v3 mem4 => if 0 < (jlcmp (jasJ v3) y4) then M_choice_45 d x1 x2 x6 (jasJ v3) (jw32 (x6 + 1)) mem4 else M_choice_45 d x1 x2 x3 y4 (jw32 (x6 + 1)) mem4 := (jfrom_eq jc193 (jSem d) [45] 25 45 [vR 11 (some 0), vI x1, vI x2, vI x3, vJ y4, vU, vI x6, vU, vU] [] mem).trans rfl
set_option maxRecDepth 100000 in
theorem q_M_swim (d : Nat) (mem : jMem) : M_swim (d + 1) mem = M_swim_11 d (jw32 ((jrI mem 55 0 1) - 1)) 0 mem := Eq.trans (b := jAtC jc194 (jSem d) 0 [vR 11 (some 0), vU, vU, vU] [] mem) rfl ((jfrom_eq jc194 (jSem d) [11, 48, 115] 10 0 [vR 11 (some 0), vU, vU, vU] [] mem).trans rfl)
set_option maxRecDepth 100000 in
theorem q_M_swim_11 (d : Nat) (x1 : Int) (x2 : Int) (mem : jMem) : M_swim_11 d x1 x2 mem = if x2 < (jrI mem 55 0 5) then jbnd (M_isFree d x2 mem) fun v1 mem2 => if (jasI v1) = 0 then M_swim_11 d x1 (jw32 (x2 + 1)) mem2 else jbnd (M_choice d x2 mem2) fun v3 mem4 => jix 6 x2 (M_swim_11 d x1 (jw32 (x2 + 1)) (jwI mem4 56 0 x2 (jasI v3))) else M_swim_48 d x1 0 mem := (jfrom_eq jc194 (jSem d) [11, 48, 115] 20 11 [vR 11 (some 0), vI x1, vI x2, vU] [] mem).trans rfl
set_option maxRecDepth 100000 in
theorem q_M_swim_48 (d : Nat) (x1 : Int) (x2 : Int) (mem : jMem) : M_swim_48 d x1 x2 mem = if x2 < (jrI mem 55 0 5) then jbnd (M_isFree d x2 mem) fun v1 mem2 => if (jasI v1) = 0 then M_swim_48 d x1 (jw32 (x2 + 1)) mem2 else jix 112 (jw32 (11 + x2)) (if (jrI mem2 55 0 (jw32 (11 + x2))) = x1 then jix 6 x2 (if (jrI mem2 56 0 x2) = x1 then jix 112 (jw32 (33 + x2)) (if (jrI mem2 55 0 (jw32 (33 + x2))) < (jrI mem2 55 0 2) then M_swim_115 d x1 x2 0 mem2 else M_swim_115 d x1 x2 1 mem2) else M_swim_115 d x1 x2 0 mem2) else M_swim_115 d x1 x2 0 mem2) else some (vU, mem) := (jfrom_eq jc194 (jSem d) [11, 48, 115] 38 48 [vR 11 (some 0), vI x1, vI x2, vU] [] mem).trans rfl
set_option maxRecDepth 100000 in
theorem q_M_swim_115 (d : Nat) (x1 : Int) (x2 : Int) (s0 : Int) (mem : jMem) : M_swim_115 d x1 x2 s0 mem = if s0 = 0 then jix 6 x2 (jix 112 (jw32 (11 + x2)) (M_swim_48 d x1 (jw32 (x2 + 1)) (jwI mem 55 0 (jw32 (11 + x2)) (jrI mem 56 0 x2)))) else jix 112 (jw32 (11 + x2)) (M_swim_48 d x1 (jw32 (x2 + 1)) (jwI mem 55 0 (jw32 (11 + x2)) (-1))) := (jfrom_eq jc194 (jSem d) [11, 48, 115] 16 115 [vR 11 (some 0), vI x1, vI x2, vU] [vI s0] mem).trans rfl
set_option maxRecDepth 100000 in
theorem q_M_fitsIn (d : Nat) (x1 : Int) (x2 : Int) (mem : jMem) : M_fitsIn (d + 1) x1 x2 mem = jix 112 (jw32 (11 + x1)) (jbnd (M_poolOf d x2 mem) fun v1 mem2 => if (jrI mem 55 0 (jw32 (11 + x1))) = (jasI v1) then jix 112 (jw32 (39 + x1)) (jbnd (M_baitOf d x2 mem2) fun v3 mem4 => if (jrI mem2 55 0 (jw32 (39 + x1))) = (jasI v3) then jix 112 (jw32 (33 + x1)) (jix 112 (jw32 (25 + x2)) (if (jrI mem4 55 0 (jw32 (25 + x2))) < (jrI mem4 55 0 (jw32 (33 + x1))) then some (vI 0, mem4) else some (vI 1, mem4))) else some (vI 0, mem4)) else some (vI 0, mem2)) := Eq.trans (b := jAtC jc195 (jSem d) 0 [vR 11 (some 0), vI x1, vI x2] [] mem) rfl ((jfrom_eq jc195 (jSem d) [] 36 0 [vR 11 (some 0), vI x1, vI x2] [] mem).trans rfl)
set_option maxRecDepth 100000 in
theorem q_M_catches (d : Nat) (x1 : Int) (mem : jMem) : M_catches (d + 1) x1 mem = M_catches_2 d x1 0 mem := Eq.trans (b := jAtC jc196 (jSem d) 0 [vR 11 (some 0), vI x1, vU] [] mem) rfl ((jfrom_eq jc196 (jSem d) [2] 3 0 [vR 11 (some 0), vI x1, vU] [] mem).trans rfl)
set_option maxRecDepth 100000 in
theorem q_M_catches_2 (d : Nat) (x1 : Int) (x2 : Int) (mem : jMem) : M_catches_2 d x1 x2 mem = if x2 < (jrI mem 55 0 5) then jbnd (M_fitsIn d x2 x1 mem) fun v1 mem2 => if (jasI v1) = 0 then M_catches_2 d x1 (jw32 (x2 + 1)) mem2 else jix 112 (jw32 (11 + x2)) (some (vI (jshl 1 x2), (jwI mem2 55 0 (jw32 (11 + x2)) (jw32 (20 + x1))))) else some (vI 0, mem) := (jfrom_eq jc196 (jSem d) [2] 24 2 [vR 11 (some 0), vI x1, vI x2] [] mem).trans rfl
set_option maxRecDepth 100000 in
theorem q_M_passes (d : Nat) (mem : jMem) : M_passes (d + 1) mem = jbnd (M_swim d mem) fun v1 mem2 => M_passes_8 d 0 0 mem2 := Eq.trans (b := jAtC jc197 (jSem d) 0 [vR 11 (some 0), vU, vU] [] mem) rfl ((jfrom_eq jc197 (jSem d) [8] 7 0 [vR 11 (some 0), vU, vU] [] mem).trans rfl)
set_option maxRecDepth 100000 in
theorem q_M_passes_8 (d : Nat) (x1 : Int) (x2 : Int) (mem : jMem) : M_passes_8 d x1 x2 mem = if x2 < (jrI mem 55 0 6) then jbnd (M_memoryIn d x2 mem) fun v1 mem2 => if (jasI v1) < 0 then jbnd (M_catches d x2 mem2) fun v3 mem4 => M_passes_8 d (jor x1 (jasI v3)) (jw32 (x2 + 1)) mem4 else M_passes_8 d x1 (jw32 (x2 + 1)) mem2 else some (vI x1, (jwI (jwI mem 11 0 23 (-1)) 55 0 10 (jw32 ((jrI mem 55 0 10) + 1)))) := (jfrom_eq jc197 (jSem d) [8] 19 8 [vR 11 (some 0), vI x1, vI x2] [] mem).trans rfl
set_option maxRecDepth 100000 in
theorem q_M_passesAll (d : Nat) (x1 : Int) (mem : jMem) : M_passesAll (d + 1) x1 mem = M_passesAll_2 d x1 0 mem := Eq.trans (b := jAtC jc198 (jSem d) 0 [vR 11 (some 0), vI x1, vU] [] mem) rfl ((jfrom_eq jc198 (jSem d) [2] 3 0 [vR 11 (some 0), vI x1, vU] [] mem).trans rfl)
set_option maxRecDepth 100000 in
theorem q_M_passesAll_2 (d : Nat) (x1 : Int) (x2 : Int) (mem : jMem) : M_passesAll_2 d x1 x2 mem = if x2 < x1 then jbnd (M_passes d mem) fun v1 mem2 => M_passesAll_2 d x1 (jw32 (x2 + 1)) mem2 else some (vU, mem) := (jfrom_eq jc198 (jSem d) [2] 9 2 [vR 11 (some 0), vI x1, vI x2] [] mem).trans rfl
set_option maxRecDepth 100000 in
theorem q_M_keepsAct (d : Nat) (mem : jMem) : M_keepsAct (d + 1) mem = if (jrI mem 11 0 26) = 20 then M_keepsAct_12 d 15 mem else M_keepsAct_52 d 0 mem := Eq.trans (b := jAtC jc199 (jSem d) 0 [vR 11 (some 0), vU] [] mem) rfl ((jfrom_eq jc199 (jSem d) [12, 52] 7 0 [vR 11 (some 0), vU] [] mem).trans rfl)
set_option maxRecDepth 100000 in
theorem q_M_keepsAct_12 (d : Nat) (x1 : Int) (mem : jMem) : M_keepsAct_12 d x1 mem = if x1 < 300 then jix 300 x1 (jix 300 (jw32 (x1 - 15)) (M_keepsAct_12 d (jw32 (x1 + 1)) (jwI mem 57 0 (jw32 (x1 - 15)) (jrI mem 57 0 x1)))) else M_keepsAct_52 d 0 (jwI mem 11 0 26 (jw32 ((jrI mem 11 0 26) - 1))) := (jfrom_eq jc199 (jSem d) [12, 52] 16 12 [vR 11 (some 0), vI x1] [] mem).trans rfl
set_option maxRecDepth 100000 in
theorem q_M_keepsAct_52 (d : Nat) (x1 : Int) (mem : jMem) : M_keepsAct_52 d x1 mem = if x1 < 15 then jix 112 (jw32 (10 + x1)) (jix 300 (jw32 ((jw32 (15 * (jrI mem 11 0 26))) + x1)) (M_keepsAct_52 d (jw32 (x1 + 1)) (jwI mem 57 0 (jw32 ((jw32 (15 * (jrI mem 11 0 26))) + x1)) (jrI mem 55 0 (jw32 (10 + x1)))))) else some (vU, (jwI mem 11 0 26 (jw32 ((jrI mem 11 0 26) + 1)))) := (jfrom_eq jc199 (jSem d) [12, 52] 21 52 [vR 11 (some 0), vI x1] [] mem).trans rfl
set_option maxRecDepth 100000 in
theorem q_M_undo (d : Nat) (mem : jMem) : M_undo (d + 1) mem = if (jrI mem 11 0 26) = 0 then some (vI (-1), mem) else M_undo_21 d 0 (jwI mem 11 0 26 (jw32 ((jrI mem 11 0 26) - 1))) := Eq.trans (b := jAtC jc200 (jSem d) 0 [vR 11 (some 0), vU] [] mem) rfl ((jfrom_eq jc200 (jSem d) [21] 12 0 [vR 11 (some 0), vU] [] mem).trans rfl)
set_option maxRecDepth 100000 in
theorem q_M_undo_21 (d : Nat) (x1 : Int) (mem : jMem) : M_undo_21 d x1 mem = if x1 < 15 then jix 300 (jw32 ((jw32 (15 * (jrI mem 11 0 26))) + x1)) (jix 112 (jw32 (10 + x1)) (M_undo_21 d (jw32 (x1 + 1)) (jwI mem 55 0 (jw32 (10 + x1)) (jrI mem 57 0 (jw32 ((jw32 (15 * (jrI mem 11 0 26))) + x1)))))) else some (vI (jrI mem 11 0 26), mem) := (jfrom_eq jc200 (jSem d) [21] 21 21 [vR 11 (some 0), vI x1] [] mem).trans rfl
set_option maxRecDepth 100000 in
theorem q_M_night (d : Nat) (mem : jMem) : M_night (d + 1) mem = jbnd (M_isRiver d mem) fun v1 mem2 => if (jasI v1) = 0 then some (vI (-1), mem2) else if (jrI mem2 55 0 10) = 999 then some (vI (-1), mem2) else jbnd (M_keepsAct d mem2) fun v3 mem4 => jbnd (M_passes d mem4) fun v5 mem6 => some (vI (jasI v5), mem6) := Eq.trans (b := jAtC jc201 (jSem d) 0 [vR 11 (some 0)] [] mem) rfl ((jfrom_eq jc201 (jSem d) [] 14 0 [vR 11 (some 0)] [] mem).trans rfl)
set_option maxRecDepth 100000 in
theorem q_M_lift (d : Nat) (x1 : Int) (mem : jMem) : M_lift (d + 1) x1 mem = jbnd (M_isTrap d x1 mem) fun v1 mem2 => if (jasI v1) = 0 then some (vI (-1), mem2) else jbnd (M_memoryIn d x1 mem2) fun v3 mem4 => if (jasI v3) < 0 then some (vI (-1), mem4) else jbnd (M_memoryIn d x1 mem4) fun v5 mem6 => jix 112 (jw32 (33 + (jasI v5))) (jix 112 (jw32 (29 + x1)) (jix 112 (jw32 (51 + (jrI mem6 55 0 (jw32 (29 + x1))))) (if (jrI mem6 55 0 (jw32 (51 + (jrI mem6 55 0 (jw32 (29 + x1)))))) < (jrI mem6 55 0 (jw32 (33 + (jasI v5)))) then some (vI (-1), mem6) else jbnd (M_keepsAct d mem6) fun v7 mem8 => jix 112 (jw32 (29 + x1)) (jix 112 (jw32 (11 + (jasI v5))) (some (vI (jasI v5), (jwI mem8 55 0 (jw32 (11 + (jasI v5))) (jw32 (30 + (jrI mem8 55 0 (jw32 (29 + x1)))))))))))) := Eq.trans (b := jAtC jc202 (jSem d) 0 [vR 11 (some 0), vI x1, vU] [] mem) rfl ((jfrom_eq jc202 (jSem d) [] 48 0 [vR 11 (some 0), vI x1, vU] [] mem).trans rfl)
set_option maxRecDepth 100000 in
theorem q_M_sink (d : Nat) (x1 : Int) (x2 : Int) (x3 : Int) (mem : jMem) : M_sink (d + 1) x1 x2 x3 mem = jbnd (M_isEmptyTrap d x1 mem) fun v1 mem2 => if (jasI v1) = 0 then some (vI (-1), mem2) else jbnd (M_isPool d x2 mem2) fun v3 mem4 => if (jasI v3) = 0 then some (vI (-1), mem4) else jbnd (M_in d x3 0 7 mem4) fun v5 mem6 => if (jasI v5) = 0 then some (vI (-1), mem6) else jbnd (M_poolOf d x1 mem6) fun v7 mem8 => if (jasI v7) = x2 then jbnd (M_baitOf d x1 mem8) fun v9 mem10 => if (jasI v9) = x3 then some (vI (-1), mem10) else M_sink_48 d x1 x2 x3 mem10 else M_sink_48 d x1 x2 x3 mem8 := Eq.trans (b := jAtC jc203 (jSem d) 0 [vR 11 (some 0), vI x1, vI x2, vI x3, vU] [] mem) rfl ((jfrom_eq jc203 (jSem d) [48] 26 0 [vR 11 (some 0), vI x1, vI x2, vI x3, vU] [] mem).trans rfl)
set_option maxRecDepth 100000 in
theorem q_M_sink_48 (d : Nat) (x1 : Int) (x2 : Int) (x3 : Int) (mem : jMem) : M_sink_48 d x1 x2 x3 mem = jbnd (M_keepsAct d mem) fun v1 mem2 => jbnd (M_poolOf d x1 mem2) fun v3 mem4 => jbnd (M_baitOf d x1 mem4) fun v5 mem6 => jix 112 (jw32 (17 + (jw32 (2 * x1)))) (jix 112 (jw32 ((jw32 (17 + (jw32 (2 * x1)))) + 1)) (some (vI (jw32 ((jw32 (8 * (jasI v3))) + (jasI v5))), (jwI (jwI mem6 55 0 (jw32 (17 + (jw32 (2 * x1)))) x2) 55 0 (jw32 ((jw32 (17 + (jw32 (2 * x1)))) + 1)) x3)))) := (jfrom_eq jc203 (jSem d) [48] 34 48 [vR 11 (some 0), vI x1, vI x2, vI x3, vU] [] mem).trans rfl
set_option maxRecDepth 100000 in
theorem q_M_free (d : Nat) (x1 : Int) (x2 : Int) (mem : jMem) : M_free (d + 1) x1 x2 mem = jbnd (M_isHad d x1 mem) fun v1 mem2 => if (jasI v1) = 0 then some (vI (-1), mem2) else jbnd (M_isPool d x2 mem2) fun v3 mem4 => if (jasI v3) = 0 then some (vI (-1), mem4) else jbnd (M_keepsAct d mem4) fun v5 mem6 => jix 112 (jw32 (11 + x1)) (jix 112 (jw32 (11 + x1)) (some (vI (jw32 ((jrI mem6 55 0 (jw32 (11 + x1))) - 30)), (jwI mem6 55 0 (jw32 (11 + x1)) x2)))) := Eq.trans (b := jAtC jc204 (jSem d) 0 [vR 11 (some 0), vI x1, vI x2, vU] [] mem) rfl ((jfrom_eq jc204 (jSem d) [] 28 0 [vR 11 (some 0), vI x1, vI x2, vU] [] mem).trans rfl)
set_option maxRecDepth 100000 in
theorem q_M_give (d : Nat) (x1 : Int) (x2 : Int) (mem : jMem) : M_give (d + 1) x1 x2 mem = jbnd (M_isHad d x1 mem) fun v1 mem2 => if (jasI v1) = 0 then some (vI (-1), mem2) else jbnd (M_isPerson d x2 mem2) fun v3 mem4 => if (jasI v3) = 0 then some (vI (-1), mem4) else jix 112 (jw32 (11 + x1)) (if (jrI mem4 55 0 (jw32 (11 + x1))) = (jw32 (30 + x2)) then some (vI (-1), mem4) else jbnd (M_keepsAct d mem4) fun v5 mem6 => jix 112 (jw32 (11 + x1)) (jix 112 (jw32 (11 + x1)) (some (vI (jw32 ((jrI mem6 55 0 (jw32 (11 + x1))) - 30)), (jwI mem6 55 0 (jw32 (11 + x1)) (jw32 (30 + x2))))))) := Eq.trans (b := jAtC jc205 (jSem d) 0 [vR 11 (some 0), vI x1, vI x2, vU] [] mem) rfl ((jfrom_eq jc205 (jSem d) [] 40 0 [vR 11 (some 0), vI x1, vI x2, vU] [] mem).trans rfl)
set_option maxRecDepth 100000 in
theorem q_M_keeps (d : Nat) (mem : jMem) : M_keeps (d + 1) mem = M_keeps_2 d 0 mem := Eq.trans (b := jAtC jc206 (jSem d) 0 [vR 11 (some 0), vU] [] mem) rfl ((jfrom_eq jc206 (jSem d) [2] 3 0 [vR 11 (some 0), vU] [] mem).trans rfl)
set_option maxRecDepth 100000 in
theorem q_M_keeps_2 (d : Nat) (x1 : Int) (mem : jMem) : M_keeps_2 d x1 mem = if x1 < 15 then jix 112 (jw32 (10 + x1)) (jix 15 x1 (M_keeps_2 d (jw32 (x1 + 1)) (jwI mem 58 0 x1 (jrI mem 55 0 (jw32 (10 + x1)))))) else some (vU, mem) := (jfrom_eq jc206 (jSem d) [2] 16 2 [vR 11 (some 0), vI x1] [] mem).trans rfl
set_option maxRecDepth 100000 in
theorem q_M_laysBack (d : Nat) (mem : jMem) : M_laysBack (d + 1) mem = M_laysBack_2 d 0 mem := Eq.trans (b := jAtC jc207 (jSem d) 0 [vR 11 (some 0), vU] [] mem) rfl ((jfrom_eq jc207 (jSem d) [2] 3 0 [vR 11 (some 0), vU] [] mem).trans rfl)
set_option maxRecDepth 100000 in
theorem q_M_laysBack_2 (d : Nat) (x1 : Int) (mem : jMem) : M_laysBack_2 d x1 mem = if x1 < 15 then jix 15 x1 (jix 112 (jw32 (10 + x1)) (M_laysBack_2 d (jw32 (x1 + 1)) (jwI mem 55 0 (jw32 (10 + x1)) (jrI mem 58 0 x1)))) else some (vU, mem) := (jfrom_eq jc207 (jSem d) [2] 16 2 [vR 11 (some 0), vI x1] [] mem).trans rfl
set_option maxRecDepth 100000 in
theorem q_M_ahead (d : Nat) (x1 : Int) (x2 : Int) (mem : jMem) : M_ahead (d + 1) x1 x2 mem = jbnd (M_isMemory d x1 mem) fun v1 mem2 => if (jasI v1) = 0 then some (vI (-2), mem2) else jbnd (M_in d x2 0 100 mem2) fun v3 mem4 => if (jasI v3) = 0 then some (vI (-2), mem4) else jbnd (M_keeps d mem4) fun v5 mem6 => jbnd (M_passesAll d x2 mem6) fun v7 mem8 => jix 112 (jw32 (11 + x1)) (jbnd (M_laysBack d mem8) fun v9 mem10 => some (vI (jrI mem8 55 0 (jw32 (11 + x1))), mem10)) := Eq.trans (b := jAtC jc208 (jSem d) 0 [vR 11 (some 0), vI x1, vI x2, vU] [] mem) rfl ((jfrom_eq jc208 (jSem d) [] 26 0 [vR 11 (some 0), vI x1, vI x2, vU] [] mem).trans rfl)
set_option maxRecDepth 100000 in
theorem q_M_caught (d : Nat) (x1 : Int) (x2 : Int) (mem : jMem) : M_caught (d + 1) x1 x2 mem = jbnd (M_isFree d x1 mem) fun v1 mem2 => if (jasI v1) = 0 then some (vI (-1), mem2) else jbnd (M_in d x2 0 1 mem2) fun v3 mem4 => if (jasI v3) = 0 then some (vI (-1), mem4) else jbnd (M_keeps d mem4) fun v5 mem6 => M_caught_30 d x1 x2 (-2) 0 mem6 := Eq.trans (b := jAtC jc209 (jSem d) 0 [vR 11 (some 0), vI x1, vI x2, vU, vU] [] mem) rfl ((jfrom_eq jc209 (jSem d) [30] 17 0 [vR 11 (some 0), vI x1, vI x2, vU, vU] [] mem).trans rfl)
set_option maxRecDepth 100000 in
theorem q_M_caught_30 (d : Nat) (x1 : Int) (x2 : Int) (x3 : Int) (x4 : Int) (mem : jMem) : M_caught_30 d x1 x2 x3 x4 mem = if x4 < 200 then if x3 < 0 then jbnd (M_passes d mem) fun v1 mem2 => jbnd (M_isOf d (jasI v1) x1 mem2) fun v3 mem4 => if (jasI v3) = 0 then M_caught_30 d x1 x2 x3 (jw32 (x4 + 1)) mem4 else if x2 = 0 then M_caught_30 d x1 x2 (jw32 ((jrI mem4 55 0 10) - 1)) (jw32 (x4 + 1)) mem4 else jix 112 (jw32 (11 + x1)) (M_caught_30 d x1 x2 (jw32 ((jrI mem4 55 0 (jw32 (11 + x1))) - 20)) (jw32 (x4 + 1)) mem4) else jbnd (M_laysBack d mem) fun v5 mem6 => some (vI x3, mem6) else jbnd (M_laysBack d mem) fun v7 mem8 => some (vI x3, mem8) := (jfrom_eq jc209 (jSem d) [30] 24 30 [vR 11 (some 0), vI x1, vI x2, vI x3, vI x4] [] mem).trans rfl
set_option maxRecDepth 100000 in
theorem q_M_atSea (d : Nat) (x1 : Int) (mem : jMem) : M_atSea (d + 1) x1 mem = jbnd (M_isRiver d mem) fun v1 mem2 => if (jasI v1) = 0 then some (vI (-1), mem2) else jbnd (M_in d x1 0 100 mem2) fun v3 mem4 => if (jasI v3) = 0 then some (vI (-1), mem4) else jbnd (M_keeps d mem4) fun v5 mem6 => jbnd (M_passesAll d x1 mem6) fun v7 mem8 => jbnd (M_onesThat d (-1) (-1) mem8) fun v9 mem10 => jbnd (M_laysBack d mem10) fun v11 mem12 => some (vI (jasI v9), mem12) := Eq.trans (b := jAtC jc210 (jSem d) 0 [vR 11 (some 0), vI x1, vU] [] mem) rfl ((jfrom_eq jc210 (jSem d) [] 23 0 [vR 11 (some 0), vI x1, vU] [] mem).trans rfl)
set_option maxRecDepth 100000 in
theorem q_M_trapped (d : Nat) (mem : jMem) : M_trapped (d + 1) mem = jbnd (M_onesThat d 20 23 mem) fun v1 mem2 => jbnd (M_bits d (jasI v1) mem2) fun v3 mem4 => some (vI (jasI v3), mem4) := Eq.trans (b := jAtC jc211 (jSem d) 0 [vR 11 (some 0)] [] mem) rfl ((jfrom_eq jc211 (jSem d) [] 6 0 [vR 11 (some 0)] [] mem).trans rfl)
set_option maxRecDepth 100000 in
theorem q_M_full (d : Nat) (mem : jMem) : M_full (d + 1) mem = jbnd (M_isRiver d mem) fun v1 mem2 => if (jasI v1) = 0 then some (vI (-1), mem2) else jbnd (M_keeps d mem2) fun v3 mem4 => M_full_18 d (-2) 0 mem4 := Eq.trans (b := jAtC jc212 (jSem d) 0 [vR 11 (some 0), vU, vU] [] mem) rfl ((jfrom_eq jc212 (jSem d) [18] 10 0 [vR 11 (some 0), vU, vU] [] mem).trans rfl)
set_option maxRecDepth 100000 in
theorem q_M_full_18 (d : Nat) (x1 : Int) (x2 : Int) (mem : jMem) : M_full_18 d x1 x2 mem = if x2 < 200 then if x1 < 0 then jbnd (M_passes d mem) fun v1 mem2 => jbnd (M_trapped d mem2) fun v3 mem4 => if (jasI v3) = (jrI mem4 55 0 6) then M_full_18 d (jw32 ((jrI mem4 55 0 10) - 1)) (jw32 (x2 + 1)) mem4 else M_full_18 d x1 (jw32 (x2 + 1)) mem4 else jbnd (M_laysBack d mem) fun v5 mem6 => some (vI x1, mem6) else jbnd (M_laysBack d mem) fun v7 mem8 => some (vI x1, mem8) := (jfrom_eq jc212 (jSem d) [18] 25 18 [vR 11 (some 0), vI x1, vI x2] [] mem).trans rfl
set_option maxRecDepth 100000 in
theorem q_M_trappedIn (d : Nat) (x1 : Int) (mem : jMem) : M_trappedIn (d + 1) x1 mem = jbnd (M_passesAll d x1 mem) fun v1 mem2 => jbnd (M_trapped d mem2) fun v3 mem4 => jbnd (M_laysBack d mem4) fun v5 mem6 => some (vI (jasI v3), mem6) := Eq.trans (b := jAtC jc213 (jSem d) 0 [vR 11 (some 0), vI x1, vU] [] mem) rfl ((jfrom_eq jc213 (jSem d) [] 10 0 [vR 11 (some 0), vI x1, vU] [] mem).trans rfl)
set_option maxRecDepth 100000 in
theorem q_M_bestSink (d : Nat) (x1 : Int) (x2 : Int) (x3 : Int) (mem : jMem) : M_bestSink (d + 1) x1 x2 x3 mem = jbnd (M_isEmptyTrap d x1 mem) fun v1 mem2 => if (jasI v1) = 0 then some (vI (-2), mem2) else jbnd (M_in d x2 1 40 mem2) fun v3 mem4 => if (jasI v3) = 0 then some (vI (-2), mem4) else jbnd (M_in d x3 0 2 mem4) fun v5 mem6 => if (jasI v5) = 0 then some (vI (-2), mem6) else jbnd (M_keeps d mem6) fun v7 mem8 => jbnd (M_trappedIn d x2 mem8) fun v9 mem10 => M_bestSink_52 d x1 x2 x3 (-1) (jasI v9) 0 mem10 := Eq.trans (b := jAtC jc214 (jSem d) 0 [vR 11 (some 0), vI x1, vI x2, vI x3, vU, vU, vU, vU] [] mem) rfl ((jfrom_eq jc214 (jSem d) [52] 27 0 [vR 11 (some 0), vI x1, vI x2, vI x3, vU, vU, vU, vU] [] mem).trans rfl)
set_option maxRecDepth 100000 in
theorem q_M_bestSink_52 (d : Nat) (x1 : Int) (x2 : Int) (x3 : Int) (x4 : Int) (x5 : Int) (x6 : Int) (mem : jMem) : M_bestSink_52 d x1 x2 x3 x4 x5 x6 mem = if x6 < (jw32 (8 * (jrI mem 55 0 1))) then jix 112 (jw32 (17 + (jw32 (2 * x1)))) (jix 112 (jw32 ((jw32 (17 + (jw32 (2 * x1)))) + 1)) (jbnd (M_trappedIn d x2 (jwI (jwI mem 55 0 (jw32 (17 + (jw32 (2 * x1)))) (jw32 (x6.tdiv 8))) 55 0 (jw32 ((jw32 (17 + (jw32 (2 * x1)))) + 1)) (x6.tmod 8))) fun v1 mem2 => if x5 < (jasI v1) then M_bestSink_52 d x1 x2 x3 x6 (jasI v1) (jw32 (x6 + 1)) mem2 else M_bestSink_52 d x1 x2 x3 x4 x5 (jw32 (x6 + 1)) mem2)) else if x3 = 0 then some (vI x5, mem) else if x4 < 0 then some (vI (-1), mem) else if x3 = 1 then some (vI (jw32 (x4.tdiv 8)), mem) else some (vI (x4.tmod 8), mem) := (jfrom_eq jc214 (jSem d) [52] 46 52 [vR 11 (some 0), vI x1, vI x2, vI x3, vI x4, vI x5, vI x6, vU] [] mem).trans rfl
set_option maxRecDepth 100000 in
theorem q_M_lay (d : Nat) (x1 : Int) (x2 : Int) (x3 : Int) (x4 : Int) (mem : jMem) : M_lay (d + 1) x1 x2 x3 x4 mem = jbnd (M_isFree d x1 mem) fun v1 mem2 => if (jasI v1) = 0 then some (vI (-1), mem2) else jbnd (M_in d x2 1 40 mem2) fun v3 mem4 => if (jasI v3) = 0 then some (vI (-1), mem4) else jbnd (M_isPool d x3 mem4) fun v5 mem6 => if (jasI v5) = 0 then some (vI (-1), mem6) else jbnd (M_in d x4 0 1 mem6) fun v7 mem8 => if (jasI v7) = 0 then some (vI (-1), mem8) else jbnd (M_keeps d mem8) fun v9 mem10 => M_lay_51 d x1 x2 x3 x4 0 0 mem10 := Eq.trans (b := jAtC jc215 (jSem d) 0 [vR 11 (some 0), vI x1, vI x2, vI x3, vI x4, vU, vU] [] mem) rfl ((jfrom_eq jc215 (jSem d) [51] 27 0 [vR 11 (some 0), vI x1, vI x2, vI x3, vI x4, vU, vU] [] mem).trans rfl)
set_option maxRecDepth 100000 in
theorem q_M_lay_51 (d : Nat) (x1 : Int) (x2 : Int) (x3 : Int) (x4 : Int) (x5 : Int) (x6 : Int) (mem : jMem) : M_lay_51 d x1 x2 x3 x4 x5 x6 mem = if x6 < (jrI mem 55 0 1) then jix 112 (jw32 (11 + x1)) (jbnd (M_passesAll d x2 (jwI mem 55 0 (jw32 (11 + x1)) x6)) fun v1 mem2 => jix 112 (jw32 (11 + x1)) (if (jrI mem2 55 0 (jw32 (11 + x1))) = x3 then jbnd (M_laysBack d mem2) fun v3 mem4 => M_lay_51 d x1 x2 x3 x4 (jor x5 (jshl 1 x6)) (jw32 (x6 + 1)) mem4 else jbnd (M_laysBack d mem2) fun v5 mem6 => M_lay_51 d x1 x2 x3 x4 x5 (jw32 (x6 + 1)) mem6)) else if x4 = 0 then jbnd (M_bits d x5 mem) fun v7 mem8 => some (vI (jasI v7), mem8) else some (vI x5, mem) := (jfrom_eq jc215 (jSem d) [51] 35 51 [vR 11 (some 0), vI x1, vI x2, vI x3, vI x4, vI x5, vI x6] [] mem).trans rfl
set_option maxRecDepth 100000 in
theorem q_M_throats (d : Nat) (x1 : Int) (x2 : Int) (mem : jMem) : M_throats (d + 1) x1 x2 mem = jbnd (M_isEmptyTrap d x1 mem) fun v1 mem2 => if (jasI v1) = 0 then some (vI (-1), mem2) else jbnd (M_in d x2 1 40 mem2) fun v3 mem4 => if (jasI v3) = 0 then some (vI (-1), mem4) else jix 112 (jw32 (25 + x1)) (jbnd (M_keeps d mem4) fun v5 mem6 => M_throats_43 d x1 x2 (jrI mem4 55 0 (jw32 (25 + x1))) (-2) 1 mem6) := Eq.trans (b := jAtC jc216 (jSem d) 0 [vR 11 (some 0), vI x1, vI x2, vU, vU, vU] [] mem) rfl ((jfrom_eq jc216 (jSem d) [43, 93] 24 0 [vR 11 (some 0), vI x1, vI x2, vU, vU, vU] [] mem).trans rfl)
set_option maxRecDepth 100000 in
theorem q_M_throats_43 (d : Nat) (x1 : Int) (x2 : Int) (x3 : Int) (x4 : Int) (x5 : Int) (mem : jMem) : M_throats_43 d x1 x2 x3 x4 x5 mem = if 9 < x5 then M_throats_93 d x1 x3 x4 mem else if x4 < 0 then jix 112 (jw32 (25 + x1)) (jbnd (M_passesAll d x2 (jwI mem 55 0 (jw32 (25 + x1)) x5)) fun v1 mem2 => jbnd (M_memoryIn d x1 mem2) fun v3 mem4 => if (jasI v3) < 0 then jbnd (M_laysBack d mem4) fun v5 mem6 => M_throats_43 d x1 x2 x3 x4 (jw32 (x5 + 1)) mem6 else jbnd (M_laysBack d mem4) fun v7 mem8 => M_throats_43 d x1 x2 x3 x5 (jw32 (x5 + 1)) mem8) else M_throats_93 d x1 x3 x4 mem := (jfrom_eq jc216 (jSem d) [43, 93] 26 43 [vR 11 (some 0), vI x1, vI x2, vI x3, vI x4, vI x5] [] mem).trans rfl
set_option maxRecDepth 100000 in
theorem q_M_throats_93 (d : Nat) (x1 : Int) (x3 : Int) (x4 : Int) (mem : jMem) : M_throats_93 d x1 x3 x4 mem = jix 112 (jw32 (25 + x1)) (some (vI x4, (jwI mem 55 0 (jw32 (25 + x1)) x3))) := (jfrom_eq jc216 (jSem d) [43, 93] 9 93 [vR 11 (some 0), vI x1, vU, vI x3, vI x4, vU] [] mem).trans rfl
set_option maxRecDepth 100000 in
theorem q_M_isAstray (d : Nat) (x1 : Int) (mem : jMem) : M_isAstray (d + 1) x1 mem = jbnd (M_isHad d x1 mem) fun v1 mem2 => if (jasI v1) = 0 then some (vI 0, mem2) else jix 112 (jw32 (11 + x1)) (jix 112 (jw32 (45 + x1)) (if (jrI mem2 55 0 (jw32 (11 + x1))) = (jw32 (30 + (jrI mem2 55 0 (jw32 (45 + x1))))) then some (vI 0, mem2) else some (vI 1, mem2))) := Eq.trans (b := jAtC jc217 (jSem d) 0 [vR 11 (some 0), vI x1] [] mem) rfl ((jfrom_eq jc217 (jSem d) [] 22 0 [vR 11 (some 0), vI x1] [] mem).trans rfl)
set_option maxRecDepth 100000 in
theorem q_M_astray (d : Nat) (mem : jMem) : M_astray (d + 1) mem = jbnd (M_isRiver d mem) fun v1 mem2 => if (jasI v1) = 0 then some (vI (-1), mem2) else M_astray_13 d 0 0 mem2 := Eq.trans (b := jAtC jc218 (jSem d) 0 [vR 11 (some 0), vU, vU] [] mem) rfl ((jfrom_eq jc218 (jSem d) [13] 8 0 [vR 11 (some 0), vU, vU] [] mem).trans rfl)
set_option maxRecDepth 100000 in
theorem q_M_astray_13 (d : Nat) (x1 : Int) (x2 : Int) (mem : jMem) : M_astray_13 d x1 x2 mem = if x2 < (jrI mem 55 0 5) then jbnd (M_isAstray d x2 mem) fun v1 mem2 => if (jasI v1) = 0 then M_astray_13 d (jor x1 0) (jw32 (x2 + 1)) mem2 else M_astray_13 d (jor x1 (jshl 1 x2)) (jw32 (x2 + 1)) mem2 else some (vI x1, mem) := (jfrom_eq jc218 (jSem d) [13] 20 13 [vR 11 (some 0), vI x1, vI x2] [] mem).trans rfl
set_option maxRecDepth 100000 in
theorem q_M_isLinked (d : Nat) (x1 : Int) (x2 : Int) (mem : jMem) : M_isLinked (d + 1) x1 x2 mem = M_isLinked_8 d x1 x2 0 0 0 mem := Eq.trans (b := jAtC jc219 (jSem d) 0 [vR 11 (some 0), vI x1, vI x2, vU, vU, vU, vU] [] mem) rfl ((jfrom_eq jc219 (jSem d) [8, 78] 7 0 [vR 11 (some 0), vI x1, vI x2, vU, vU, vU, vU] [] mem).trans rfl)
set_option maxRecDepth 100000 in
theorem q_M_isLinked_8 (d : Nat) (x1 : Int) (x2 : Int) (x3 : Int) (x4 : Int) (x5 : Int) (mem : jMem) : M_isLinked_8 d x1 x2 x3 x4 x5 mem = if x5 < (jrI mem 55 0 5) then jbnd (M_isAstray d x5 mem) fun v1 mem2 => if (jasI v1) = 0 then M_isLinked_8 d x1 x2 x3 x4 (jw32 (x5 + 1)) mem2 else jix 112 (jw32 (11 + x5)) (if x3 = 0 then if (jw32 ((jrI mem2 55 0 (jw32 (11 + x5))) - 30)) = x1 then jix 112 (jw32 (45 + x5)) (jbnd (M_isOf d x2 (jrI mem2 55 0 (jw32 (45 + x5))) mem2) fun v3 mem4 => if (jasI v3) = 0 then M_isLinked_78 d x1 x2 x4 x5 (jw32 ((jrI mem2 55 0 (jw32 (11 + x5))) - 30)) 0 mem4 else M_isLinked_78 d x1 x2 x4 x5 (jw32 ((jrI mem2 55 0 (jw32 (11 + x5))) - 30)) 1 mem4) else M_isLinked_78 d x1 x2 x4 x5 (jw32 ((jrI mem2 55 0 (jw32 (11 + x5))) - 30)) 0 mem2 else M_isLinked_78 d x1 x2 x4 x5 (jw32 ((jrI mem2 55 0 (jw32 (11 + x5))) - 30)) 1 mem2) else if x3 = 0 then some (vI 0, mem) else if x4 = 0 then some (vI 0, mem) else some (vI 1, mem) := (jfrom_eq jc219 (jSem d) [8, 78] 36 8 [vR 11 (some 0), vI x1, vI x2, vI x3, vI x4, vI x5, vU] [] mem).trans rfl
set_option maxRecDepth 100000 in
theorem q_M_isLinked_78 (d : Nat) (x1 : Int) (x2 : Int) (x4 : Int) (x5 : Int) (x6 : Int) (s0 : Int) (mem : jMem) : M_isLinked_78 d x1 x2 x4 x5 x6 s0 mem = if x4 = 0 then jix 112 (jw32 (45 + x5)) (if (jrI mem 55 0 (jw32 (45 + x5))) = x1 then jbnd (M_isOf d x2 x6 mem) fun v1 mem2 => if (jasI v1) = 0 then M_isLinked_8 d x1 x2 s0 0 (jw32 (x5 + 1)) mem2 else M_isLinked_8 d x1 x2 s0 1 (jw32 (x5 + 1)) mem2 else M_isLinked_8 d x1 x2 s0 0 (jw32 (x5 + 1)) mem) else M_isLinked_8 d x1 x2 s0 1 (jw32 (x5 + 1)) mem := (jfrom_eq jc219 (jSem d) [8, 78] 21 78 [vR 11 (some 0), vI x1, vI x2, vU, vI x4, vI x5, vI x6] [vI s0] mem).trans rfl
set_option maxRecDepth 100000 in
theorem q_M_isRing (d : Nat) (x1 : Int) (mem : jMem) : M_isRing (d + 1) x1 mem = M_isRing_2 d x1 0 mem := Eq.trans (b := jAtC jc220 (jSem d) 0 [vR 11 (some 0), vI x1, vU] [] mem) rfl ((jfrom_eq jc220 (jSem d) [2] 3 0 [vR 11 (some 0), vI x1, vU] [] mem).trans rfl)
set_option maxRecDepth 100000 in
theorem q_M_isRing_2 (d : Nat) (x1 : Int) (x2 : Int) (mem : jMem) : M_isRing_2 d x1 x2 mem = if x2 < (jrI mem 55 0 4) then jbnd (M_isOf d x1 x2 mem) fun v1 mem2 => if (jasI v1) = 0 then M_isRing_2 d x1 (jw32 (x2 + 1)) mem2 else jbnd (M_isLinked d x2 x1 mem2) fun v3 mem4 => if (jasI v3) = 0 then some (vI 0, mem4) else M_isRing_2 d x1 (jw32 (x2 + 1)) mem4 else jbnd (M_bits d x1 mem) fun v5 mem6 => if 1 < (jasI v5) then some (vI 1, mem6) else some (vI 0, mem6) := (jfrom_eq jc220 (jSem d) [2] 18 2 [vR 11 (some 0), vI x1, vI x2] [] mem).trans rfl
set_option maxRecDepth 100000 in
theorem q_M_rings (d : Nat) (x1 : Int) (mem : jMem) : M_rings (d + 1) x1 mem = jbnd (M_isRiver d mem) fun v1 mem2 => if (jasI v1) = 0 then some (vI (-1), mem2) else jbnd (M_in d x1 0 1 mem2) fun v3 mem4 => if (jasI v3) = 0 then some (vI (-1), mem4) else M_rings_26 d x1 0 0 1 mem4 := Eq.trans (b := jAtC jc221 (jSem d) 0 [vR 11 (some 0), vI x1, vU, vU, vU] [] mem) rfl ((jfrom_eq jc221 (jSem d) [26] 16 0 [vR 11 (some 0), vI x1, vU, vU, vU] [] mem).trans rfl)
set_option maxRecDepth 100000 in
theorem q_M_rings_26 (d : Nat) (x1 : Int) (x2 : Int) (x3 : Int) (x4 : Int) (mem : jMem) : M_rings_26 d x1 x2 x3 x4 mem = if x4 < (jshl 1 (jrI mem 55 0 4)) then jbnd (M_isRing d x4 mem) fun v1 mem2 => if (jasI v1) = 0 then M_rings_26 d x1 x2 x3 (jw32 (x4 + 1)) mem2 else jbnd (M_bits d x4 mem2) fun v3 mem4 => jbnd (M_bits d x3 mem4) fun v5 mem6 => if (jasI v5) < (jasI v3) then M_rings_26 d x1 (jw32 (x2 + 1)) x4 (jw32 (x4 + 1)) mem6 else M_rings_26 d x1 (jw32 (x2 + 1)) x3 (jw32 (x4 + 1)) mem6 else if x1 = 0 then some (vI x2, mem) else some (vI x3, mem) := (jfrom_eq jc221 (jSem d) [26] 23 26 [vR 11 (some 0), vI x1, vI x2, vI x3, vI x4] [] mem).trans rfl
set_option maxRecDepth 100000 in
theorem q_M_right (d : Nat) (x1 : Int) (mem : jMem) : M_right (d + 1) x1 mem = jbnd (M_isRiver d mem) fun v1 mem2 => if (jasI v1) = 0 then some (vI (-1), mem2) else jbnd (M_in d x1 0 2 mem2) fun v3 mem4 => if (jasI v3) = 0 then some (vI (-1), mem4) else M_right_36 d x1 (-2) 0 (jw32 ((jrI mem4 55 0 5) - 1)) mem4 := Eq.trans (b := jAtC jc222 (jSem d) 0 [vR 11 (some 0), vI x1, vU, vU, vU] [] mem) rfl ((jfrom_eq jc222 (jSem d) [36] 21 0 [vR 11 (some 0), vI x1, vU, vU, vU] [] mem).trans rfl)
set_option maxRecDepth 100000 in
theorem q_M_right_36 (d : Nat) (x1 : Int) (x2 : Int) (x3 : Int) (x4 : Int) (mem : jMem) : M_right_36 d x1 x2 x3 x4 mem = if x4 < 0 then if x1 = 0 then some (vI x3, mem) else if x1 = 1 then some (vI x2, mem) else if x2 < 0 then some (vI x2, mem) else jix 112 (jw32 (45 + x2)) (some (vI (jrI mem 55 0 (jw32 (45 + x2))), mem)) else jbnd (M_isAstray d x4 mem) fun v1 mem2 => if (jasI v1) = 0 then M_right_36 d x1 x2 x3 (jw32 (x4 + (-1))) mem2 else M_right_36 d x1 x4 (jw32 (x3 + 1)) (jw32 (x4 + (-1))) mem2 := (jfrom_eq jc222 (jSem d) [36] 16 36 [vR 11 (some 0), vI x1, vI x2, vI x3, vI x4] [] mem).trans rfl
set_option maxRecDepth 100000 in
theorem q_M_isRest (d : Nat) (x1 : Int) (x2 : Int) (mem : jMem) : M_isRest (d + 1) x1 x2 mem = M_isRest_2 d x1 x2 0 mem := Eq.trans (b := jAtC jc223 (jSem d) 0 [vR 11 (some 0), vI x1, vI x2, vU] [] mem) rfl ((jfrom_eq jc223 (jSem d) [2] 3 0 [vR 11 (some 0), vI x1, vI x2, vU] [] mem).trans rfl)
set_option maxRecDepth 100000 in
theorem q_M_isRest_2 (d : Nat) (x1 : Int) (x2 : Int) (x3 : Int) (mem : jMem) : M_isRest_2 d x1 x2 x3 mem = if x3 < 8 then jix 128 (jw32 (2 * (jw32 ((jw32 (8 * x3)) + x2)))) (jix 128 (jw32 (2 * (jw32 ((jw32 (8 * x1)) + x2)))) (if (jrI mem 59 0 (jw32 (2 * (jw32 ((jw32 (8 * x1)) + x2))))) < (jrI mem 59 0 (jw32 (2 * (jw32 ((jw32 (8 * x3)) + x2))))) then some (vI 0, mem) else jix 128 (jw32 ((jw32 (2 * (jw32 ((jw32 (8 * x1)) + x3)))) + 1)) (jix 128 (jw32 ((jw32 (2 * (jw32 ((jw32 (8 * x1)) + x2)))) + 1)) (if (jrI mem 59 0 (jw32 ((jw32 (2 * (jw32 ((jw32 (8 * x1)) + x2)))) + 1))) < (jrI mem 59 0 (jw32 ((jw32 (2 * (jw32 ((jw32 (8 * x1)) + x3)))) + 1))) then some (vI 0, mem) else M_isRest_2 d x1 x2 (jw32 (x3 + 1)) mem)))) else some (vI 1, mem) := (jfrom_eq jc223 (jSem d) [2] 52 2 [vR 11 (some 0), vI x1, vI x2, vI x3] [] mem).trans rfl
set_option maxRecDepth 100000 in
theorem q_M_sizeIn (d : Nat) (x1 : Int) (mem : jMem) : M_sizeIn (d + 1) x1 mem = jbnd (M_memoryIn d x1 mem) fun v1 mem2 => if (jasI v1) < 0 then some (vI 0, mem2) else jbnd (M_memoryIn d x1 mem2) fun v3 mem4 => jix 112 (jw32 (33 + (jasI v3))) (some (vI (jrI mem4 55 0 (jw32 (33 + (jasI v3)))), mem4)) := Eq.trans (b := jAtC jc224 (jSem d) 0 [vR 11 (some 0), vI x1] [] mem) rfl ((jfrom_eq jc224 (jSem d) [] 13 0 [vR 11 (some 0), vI x1] [] mem).trans rfl)
set_option maxRecDepth 100000 in
theorem q_M_rests (d : Nat) (x1 : Int) (x2 : Int) (x3 : Int) (x4 : Int) (mem : jMem) : M_rests (d + 1) x1 x2 x3 x4 mem = jbnd (M_isEmptyTrap d x1 mem) fun v1 mem2 => if (jasI v1) = 0 then some (vI (-1), mem2) else jbnd (M_isEmptyTrap d x2 mem2) fun v3 mem4 => if (jasI v3) = 0 then some (vI (-1), mem4) else if x1 = x2 then some (vI (-1), mem4) else jbnd (M_in d x3 1 20 mem4) fun v5 mem6 => if (jasI v5) = 0 then some (vI (-1), mem6) else jbnd (M_in d x4 0 2 mem6) fun v7 mem8 => if (jasI v7) = 0 then some (vI (-1), mem8) else jbnd (M_keeps d mem8) fun v9 mem10 => M_rests_55 d x1 x2 x3 x4 0 mem10 := Eq.trans (b := jAtC jc225 (jSem d) 0 [vR 11 (some 0), vI x1, vI x2, vI x3, vI x4, vU, vU, vU] [] mem) rfl ((jfrom_eq jc225 (jSem d) [55, 153] 28 0 [vR 11 (some 0), vI x1, vI x2, vI x3, vI x4, vU, vU, vU] [] mem).trans rfl)
set_option maxRecDepth 100000 in
theorem q_M_rests_55 (d : Nat) (x1 : Int) (x2 : Int) (x3 : Int) (x4 : Int) (x5 : Int) (mem : jMem) : M_rests_55 d x1 x2 x3 x4 x5 mem = if x5 < 64 then jix 112 (jw32 ((jw32 (17 + (jw32 (2 * x1)))) + 1)) (jix 112 (jw32 ((jw32 (17 + (jw32 (2 * x2)))) + 1)) (jbnd (M_passesAll d x3 (jwI (jwI mem 55 0 (jw32 ((jw32 (17 + (jw32 (2 * x1)))) + 1)) (jw32 (x5.tdiv 8))) 55 0 (jw32 ((jw32 (17 + (jw32 (2 * x2)))) + 1)) (x5.tmod 8))) fun v1 mem2 => jbnd (M_sizeIn d x1 mem2) fun v3 mem4 => jix 128 (jw32 (2 * x5)) (jbnd (M_sizeIn d x2 (jwI mem4 59 0 (jw32 (2 * x5)) (jasI v3))) fun v5 mem6 => jix 128 (jw32 ((jw32 (2 * x5)) + 1)) (jbnd (M_laysBack d (jwI mem6 59 0 (jw32 ((jw32 (2 * x5)) + 1)) (jasI v5))) fun v7 mem8 => M_rests_55 d x1 x2 x3 x4 (jw32 (x5 + 1)) mem8)))) else M_rests_153 d x4 0 (-1) 63 mem := (jfrom_eq jc225 (jSem d) [55, 153] 57 55 [vR 11 (some 0), vI x1, vI x2, vI x3, vI x4, vI x5, vU, vU] [] mem).trans rfl
set_option maxRecDepth 100000 in
theorem q_M_rests_153 (d : Nat) (x4 : Int) (x5 : Int) (x6 : Int) (x7 : Int) (mem : jMem) : M_rests_153 d x4 x5 x6 x7 mem = if x7 < 0 then if x4 = 0 then some (vI x5, mem) else if x6 < 0 then some (vI (-2), mem) else if x4 = 1 then some (vI (jw32 (x6.tdiv 8)), mem) else some (vI (x6.tmod 8), mem) else jbnd (M_isRest d (jw32 (x7.tdiv 8)) (x7.tmod 8) mem) fun v1 mem2 => if (jasI v1) = 0 then M_rests_153 d x4 x5 x6 (jw32 (x7 + (-1))) mem2 else M_rests_153 d x4 (jw32 (x5 + 1)) x7 (jw32 (x7 + (-1))) mem2 := (jfrom_eq jc225 (jSem d) [55, 153] 17 153 [vR 11 (some 0), vU, vU, vU, vI x4, vI x5, vI x6, vI x7] [] mem).trans rfl
set_option maxRecDepth 100000 in
theorem q_M_areAlike (d : Nat) (x1 : Int) (x2 : Int) (mem : jMem) : M_areAlike (d + 1) x1 x2 mem = jbnd (M_rounds d mem) fun v1 mem2 => jnz (jasI v1) (if ((jw32 (x2 - x1)).tmod (jasI v1)) = 0 then M_areAlike_15 d x1 x2 0 mem2 else some (vI 0, mem2)) := Eq.trans (b := jAtC jc226 (jSem d) 0 [vR 11 (some 0), vI x1, vI x2, vU] [] mem) rfl ((jfrom_eq jc226 (jSem d) [15] 10 0 [vR 11 (some 0), vI x1, vI x2, vU] [] mem).trans rfl)
set_option maxRecDepth 100000 in
theorem q_M_areAlike_15 (d : Nat) (x1 : Int) (x2 : Int) (x3 : Int) (mem : jMem) : M_areAlike_15 d x1 x2 x3 mem = if x3 < (jrI mem 55 0 5) then jix 366 (jw32 ((jw32 (6 * x1)) + x3)) (jix 366 (jw32 ((jw32 (6 * x2)) + x3)) (if (jrI mem 60 0 (jw32 ((jw32 (6 * x1)) + x3))) = (jrI mem 60 0 (jw32 ((jw32 (6 * x2)) + x3))) then M_areAlike_15 d x1 x2 (jw32 (x3 + 1)) mem else some (vI 0, mem))) else some (vI 1, mem) := (jfrom_eq jc226 (jSem d) [15] 26 15 [vR 11 (some 0), vI x1, vI x2, vI x3] [] mem).trans rfl
set_option maxRecDepth 100000 in
theorem q_M_cycle (d : Nat) (x1 : Int) (mem : jMem) : M_cycle (d + 1) x1 mem = jbnd (M_isRiver d mem) fun v1 mem2 => if (jasI v1) = 0 then some (vI (-1), mem2) else jbnd (M_in d x1 0 1 mem2) fun v3 mem4 => if (jasI v3) = 0 then some (vI (-1), mem4) else jbnd (M_keeps d mem4) fun v5 mem6 => M_cycle_25 d x1 0 mem6 := Eq.trans (b := jAtC jc227 (jSem d) 0 [vR 11 (some 0), vI x1, vU, vU] [] mem) rfl ((jfrom_eq jc227 (jSem d) [25, 33, 86, 96] 14 0 [vR 11 (some 0), vI x1, vU, vU] [] mem).trans rfl)
set_option maxRecDepth 100000 in
theorem q_M_cycle_25 (d : Nat) (x1 : Int) (x2 : Int) (mem : jMem) : M_cycle_25 d x1 x2 mem = if 60 < x2 then jbnd (M_laysBack d mem) fun v1 mem2 => M_cycle_86 d x1 0 mem2 else M_cycle_33 d x1 x2 0 mem := (jfrom_eq jc227 (jSem d) [25, 33, 86, 96] 8 25 [vR 11 (some 0), vI x1, vI x2, vU] [] mem).trans rfl
set_option maxRecDepth 100000 in
theorem q_M_cycle_33 (d : Nat) (x1 : Int) (x2 : Int) (x3 : Int) (mem : jMem) : M_cycle_33 d x1 x2 x3 mem = if x3 < (jrI mem 55 0 5) then jix 112 (jw32 (11 + x3)) (jix 366 (jw32 ((jw32 (6 * x2)) + x3)) (M_cycle_33 d x1 x2 (jw32 (x3 + 1)) (jwI mem 60 0 (jw32 ((jw32 (6 * x2)) + x3)) (jrI mem 55 0 (jw32 (11 + x3)))))) else jbnd (M_passes d mem) fun v1 mem2 => M_cycle_25 d x1 (jw32 (x2 + 1)) mem2 := (jfrom_eq jc227 (jSem d) [25, 33, 86, 96] 23 33 [vR 11 (some 0), vI x1, vI x2, vI x3] [] mem).trans rfl
set_option maxRecDepth 100000 in
theorem q_M_cycle_86 (d : Nat) (x1 : Int) (x2 : Int) (mem : jMem) : M_cycle_86 d x1 x2 mem = if x2 < 60 then M_cycle_96 d x1 x2 (jw32 (x2 + 1)) mem else some (vI (-2), mem) := (jfrom_eq jc227 (jSem d) [25, 33, 86, 96] 8 86 [vR 11 (some 0), vI x1, vI x2, vU] [] mem).trans rfl
set_option maxRecDepth 100000 in
theorem q_M_cycle_96 (d : Nat) (x1 : Int) (x2 : Int) (x3 : Int) (mem : jMem) : M_cycle_96 d x1 x2 x3 mem = if 60 < x3 then M_cycle_86 d x1 (jw32 (x2 + 1)) mem else jbnd (M_areAlike d x2 x3 mem) fun v1 mem2 => if (jasI v1) = 0 then M_cycle_96 d x1 x2 (jw32 (x3 + 1)) mem2 else if x1 = 0 then some (vI (jw32 ((jrI mem2 55 0 10) + x2)), mem2) else some (vI (jw32 (x3 - x2)), mem2) := (jfrom_eq jc227 (jSem d) [25, 33, 86, 96] 18 96 [vR 11 (some 0), vI x1, vI x2, vI x3] [] mem).trans rfl
set_option maxRecDepth 100000 in
theorem q_M_sizesOf (d : Nat) (x1 : Int) (mem : jMem) : M_sizesOf (d + 1) x1 mem = M_sizesOf_4 d x1 0 0 mem := Eq.trans (b := jAtC jc228 (jSem d) 0 [vR 11 (some 0), vI x1, vU, vU] [] mem) rfl ((jfrom_eq jc228 (jSem d) [4] 5 0 [vR 11 (some 0), vI x1, vU, vU] [] mem).trans rfl)
set_option maxRecDepth 100000 in
theorem q_M_sizesOf_4 (d : Nat) (x1 : Int) (x2 : Int) (x3 : Int) (mem : jMem) : M_sizesOf_4 d x1 x2 x3 mem = if x3 < (jrI mem 55 0 5) then jix 112 (jw32 (11 + x3)) (if (jrI mem 55 0 (jw32 (11 + x3))) = (jw32 (30 + x1)) then jix 112 (jw32 (33 + x3)) (M_sizesOf_4 d x1 (jw32 (x2 + (jrI mem 55 0 (jw32 (33 + x3))))) (jw32 (x3 + 1)) mem) else M_sizesOf_4 d x1 (jw32 (x2 + 0)) (jw32 (x3 + 1)) mem) else some (vI x2, mem) := (jfrom_eq jc228 (jSem d) [4] 29 4 [vR 11 (some 0), vI x1, vI x2, vI x3] [] mem).trans rfl
set_option maxRecDepth 100000 in
theorem q_M_pence (d : Nat) (x1 : Int) (x2 : Int) (mem : jMem) : M_pence (d + 1) x1 x2 mem = jbnd (M_isPerson d x2 mem) fun v1 mem2 => if (jasI v1) = 0 then some (vI (-1), mem2) else jbnd (M_in d x1 0 9999 mem2) fun v3 mem4 => if (jasI v3) = 0 then some (vI (-1), mem4) else M_pence_27 d x1 x2 0 0 mem4 := Eq.trans (b := jAtC jc229 (jSem d) 0 [vR 11 (some 0), vI x1, vI x2, vU, vU, vU, vU, vU, vU] [] mem) rfl ((jfrom_eq jc229 (jSem d) [27, 77] 15 0 [vR 11 (some 0), vI x1, vI x2, vU, vU, vU, vU, vU, vU] [] mem).trans rfl)
set_option maxRecDepth 100000 in
theorem q_M_pence_27 (d : Nat) (x1 : Int) (x2 : Int) (x3 : Int) (x4 : Int) (mem : jMem) : M_pence_27 d x1 x2 x3 x4 mem = if x4 < (jrI mem 55 0 4) then jbnd (M_sizesOf d x4 mem) fun v1 mem2 => M_pence_27 d x1 x2 (jw32 (x3 + (jasI v1))) (jw32 (x4 + 1)) mem2 else if x3 = 0 then some (vI 0, mem) else jbnd (M_sizesOf d x2 mem) fun v3 mem4 => M_pence_77 d x1 x2 x3 (jw32 (x1 * (jasI v3))) x1 0 0 mem4 := (jfrom_eq jc229 (jSem d) [27, 77] 21 27 [vR 11 (some 0), vI x1, vI x2, vI x3, vI x4, vU, vU, vU, vU] [] mem).trans rfl
set_option maxRecDepth 100000 in
theorem q_M_pence_77 (d : Nat) (x1 : Int) (x2 : Int) (x3 : Int) (x4 : Int) (x5 : Int) (x6 : Int) (x7 : Int) (mem : jMem) : M_pence_77 d x1 x2 x3 x4 x5 x6 x7 mem = if x7 < (jrI mem 55 0 4) then jbnd (M_sizesOf d x7 mem) fun v1 mem2 => jnz x3 (jnz x3 (jnz x3 (if (x4.tmod x3) < ((jw32 (x1 * (jasI v1))).tmod x3) then M_pence_77 d x1 x2 x3 x4 (jw32 (x5 - (jw32 ((jw32 (x1 * (jasI v1))).tdiv x3)))) (jw32 (x6 + 1)) (jw32 (x7 + 1)) mem2 else jnz x3 (jnz x3 (if ((jw32 (x1 * (jasI v1))).tmod x3) = (x4.tmod x3) then if x7 < x2 then M_pence_77 d x1 x2 x3 x4 (jw32 (x5 - (jw32 ((jw32 (x1 * (jasI v1))).tdiv x3)))) (jw32 (x6 + 1)) (jw32 (x7 + 1)) mem2 else M_pence_77 d x1 x2 x3 x4 (jw32 (x5 - (jw32 ((jw32 (x1 * (jasI v1))).tdiv x3)))) (jw32 (x6 + 0)) (jw32 (x7 + 1)) mem2 else M_pence_77 d x1 x2 x3 x4 (jw32 (x5 - (jw32 ((jw32 (x1 * (jasI v1))).tdiv x3)))) (jw32 (x6 + 0)) (jw32 (x7 + 1)) mem2))))) else jnz x3 (if x6 < x5 then some (vI (jw32 ((jw32 (x4.tdiv x3)) + 1)), mem) else some (vI (jw32 ((jw32 (x4.tdiv x3)) + 0)), mem)) := (jfrom_eq jc229 (jSem d) [27, 77] 43 77 [vR 11 (some 0), vI x1, vI x2, vI x3, vI x4, vI x5, vI x6, vI x7, vU] [] mem).trans rfl
set_option maxRecDepth 100000 in
theorem q_M_note (d : Nat) (x1 : Int) (x2 : Int) (x3 : Int) (mem : jMem) : M_note (d + 1) x1 x2 x3 mem = if x1 = (-1) then some (vI 0, (jwI mem 55 0 111 0)) else jbnd (M_in d x1 0 60 mem) fun v1 mem2 => if (jasI v1) = 0 then some (vI (-2), mem2) else jbnd (M_isMemory d x2 mem2) fun v3 mem4 => if (jasI v3) = 0 then some (vI (-2), mem4) else if x3 = (-1) then M_note_48 d x1 x2 x3 mem4 else jbnd (M_isPool d x3 mem4) fun v5 mem6 => if (jasI v5) = 0 then some (vI (-2), mem6) else M_note_48 d x1 x2 x3 mem6 := Eq.trans (b := jAtC jc230 (jSem d) 0 [vR 11 (some 0), vI x1, vI x2, vI x3, vU] [] mem) rfl ((jfrom_eq jc230 (jSem d) [48] 22 0 [vR 11 (some 0), vI x1, vI x2, vI x3, vU] [] mem).trans rfl)
set_option maxRecDepth 100000 in
theorem q_M_note_48 (d : Nat) (x1 : Int) (x2 : Int) (x3 : Int) (mem : jMem) : M_note_48 d x1 x2 x3 mem = if (jrI mem 55 0 111) = 10 then some (vI (-2), mem) else jix 112 (jw32 (81 + (jw32 (3 * (jrI mem 55 0 111))))) (jix 112 (jw32 ((jw32 (81 + (jw32 (3 * (jrI mem 55 0 111))))) + 1)) (jix 112 (jw32 ((jw32 (81 + (jw32 (3 * (jrI mem 55 0 111))))) + 2)) (some (vI (jw32 ((jrI (jwI (jwI (jwI mem 55 0 (jw32 (81 + (jw32 (3 * (jrI mem 55 0 111))))) x1) 55 0 (jw32 ((jw32 (81 + (jw32 (3 * (jrI mem 55 0 111))))) + 1)) x2) 55 0 (jw32 ((jw32 (81 + (jw32 (3 * (jrI mem 55 0 111))))) + 2)) x3) 55 0 111) + 1)), (jwI (jwI (jwI (jwI mem 55 0 (jw32 (81 + (jw32 (3 * (jrI mem 55 0 111))))) x1) 55 0 (jw32 ((jw32 (81 + (jw32 (3 * (jrI mem 55 0 111))))) + 1)) x2) 55 0 (jw32 ((jw32 (81 + (jw32 (3 * (jrI mem 55 0 111))))) + 2)) x3) 55 0 111 (jw32 ((jrI (jwI (jwI (jwI mem 55 0 (jw32 (81 + (jw32 (3 * (jrI mem 55 0 111))))) x1) 55 0 (jw32 ((jw32 (81 + (jw32 (3 * (jrI mem 55 0 111))))) + 1)) x2) 55 0 (jw32 ((jw32 (81 + (jw32 (3 * (jrI mem 55 0 111))))) + 2)) x3) 55 0 111) + 1))))))) := (jfrom_eq jc230 (jSem d) [48] 47 48 [vR 11 (some 0), vI x1, vI x2, vI x3, vU] [] mem).trans rfl
set_option maxRecDepth 100000 in
theorem q_M_freeIn (d : Nat) (x1 : Int) (mem : jMem) : M_freeIn (d + 1) x1 mem = jbnd (M_isFree d x1 mem) fun v1 mem2 => if (jasI v1) = 0 then some (vI (-1), mem2) else jix 112 (jw32 (11 + x1)) (some (vI (jrI mem2 55 0 (jw32 (11 + x1))), mem2)) := Eq.trans (b := jAtC jc231 (jSem d) 0 [vR 11 (some 0), vI x1] [] mem) rfl ((jfrom_eq jc231 (jSem d) [] 12 0 [vR 11 (some 0), vI x1] [] mem).trans rfl)
set_option maxRecDepth 100000 in
theorem q_M_areNotesSo (d : Nat) (x1 : Int) (mem : jMem) : M_areNotesSo (d + 1) x1 mem = M_areNotesSo_2 d x1 0 mem := Eq.trans (b := jAtC jc232 (jSem d) 0 [vR 11 (some 0), vI x1, vU] [] mem) rfl ((jfrom_eq jc232 (jSem d) [2] 3 0 [vR 11 (some 0), vI x1, vU] [] mem).trans rfl)
set_option maxRecDepth 100000 in
theorem q_M_areNotesSo_2 (d : Nat) (x1 : Int) (x2 : Int) (mem : jMem) : M_areNotesSo_2 d x1 x2 mem = if x2 < (jw32 (3 * (jrI mem 55 0 111))) then jix 112 (jw32 (81 + x2)) (if (jrI mem 55 0 (jw32 (81 + x2))) = x1 then jix 112 (jw32 ((jw32 (81 + x2)) + 1)) (jbnd (M_freeIn d (jrI mem 55 0 (jw32 ((jw32 (81 + x2)) + 1))) mem) fun v1 mem2 => jix 112 (jw32 ((jw32 (81 + x2)) + 2)) (if (jasI v1) = (jrI mem2 55 0 (jw32 ((jw32 (81 + x2)) + 2))) then M_areNotesSo_2 d x1 (jw32 (x2 + 3)) mem2 else some (vI 0, mem2))) else M_areNotesSo_2 d x1 (jw32 (x2 + 3)) mem) else some (vI 1, mem) := (jfrom_eq jc232 (jSem d) [2] 38 2 [vR 11 (some 0), vI x1, vI x2] [] mem).trans rfl
set_option maxRecDepth 100000 in
theorem q_M_areAllSo (d : Nat) (x1 : Int) (x2 : Int) (mem : jMem) : M_areAllSo (d + 1) x1 x2 mem = M_areAllSo_5 d x1 x2 1 0 mem := Eq.trans (b := jAtC jc233 (jSem d) 0 [vR 11 (some 0), vI x1, vI x2, vU, vU, vU] [] mem) rfl ((jfrom_eq jc233 (jSem d) [5, 34] 5 0 [vR 11 (some 0), vI x1, vI x2, vU, vU, vU] [] mem).trans rfl)
set_option maxRecDepth 100000 in
theorem q_M_areAllSo_5 (d : Nat) (x1 : Int) (x2 : Int) (x3 : Int) (x4 : Int) (mem : jMem) : M_areAllSo_5 d x1 x2 x3 x4 mem = if 60 < x4 then jbo x3 (some (vI x3, mem)) else if x3 = 0 then M_areAllSo_34 d x1 x2 0 x4 0 mem else jbnd (M_areNotesSo d x4 mem) fun v1 mem2 => if (jasI v1) = 0 then M_areAllSo_34 d x1 x2 0 x4 0 mem2 else M_areAllSo_34 d x1 x2 1 x4 0 mem2 := (jfrom_eq jc233 (jSem d) [5, 34] 15 5 [vR 11 (some 0), vI x1, vI x2, vI x3, vI x4, vU] [] mem).trans rfl
set_option maxRecDepth 100000 in
theorem q_M_areAllSo_34 (d : Nat) (x1 : Int) (x2 : Int) (x3 : Int) (x4 : Int) (x5 : Int) (mem : jMem) : M_areAllSo_34 d x1 x2 x3 x4 x5 mem = if x5 < (jrI mem 55 0 5) then if x4 = x2 then jbnd (M_freeIn d x5 mem) fun v1 mem2 => jix 42 (jw32 ((jw32 (6 * x1)) + x5)) (M_areAllSo_34 d x1 x2 x3 x4 (jw32 (x5 + 1)) (jwI mem2 62 0 (jw32 ((jw32 (6 * x1)) + x5)) (jasI v1))) else jbnd (M_passes d mem) fun v3 mem4 => M_areAllSo_5 d x1 x2 x3 (jw32 (x4 + 1)) mem4 else jbnd (M_passes d mem) fun v5 mem6 => M_areAllSo_5 d x1 x2 x3 (jw32 (x4 + 1)) mem6 := (jfrom_eq jc233 (jSem d) [5, 34] 23 34 [vR 11 (some 0), vI x1, vI x2, vI x3, vI x4, vI x5] [] mem).trans rfl
set_option maxRecDepth 100000 in
theorem q_M_of (d : Nat) (x1 : Int) (mem : jMem) : M_of (d + 1) x1 mem = jbnd (M_isMemory d x1 mem) fun v1 mem2 => if (jasI v1) = 0 then some (vI (-1), mem2) else jix 112 (jw32 (45 + x1)) (jbnd (M_keeps d mem2) fun v3 mem4 => M_of_29 d x1 (jrI mem2 55 0 (jw32 (45 + x1))) 0 0 mem4) := Eq.trans (b := jAtC jc234 (jSem d) 0 [vR 11 (some 0), vI x1, vU, vU, vU] [] mem) rfl ((jfrom_eq jc234 (jSem d) [29] 18 0 [vR 11 (some 0), vI x1, vU, vU, vU] [] mem).trans rfl)
set_option maxRecDepth 100000 in
theorem q_M_of_29 (d : Nat) (x1 : Int) (x2 : Int) (x3 : Int) (x4 : Int) (mem : jMem) : M_of_29 d x1 x2 x3 x4 mem = if x4 < (jrI mem 55 0 4) then jix 112 (jw32 (45 + x1)) (jbnd (M_begins d (jwI mem 55 0 (jw32 (45 + x1)) x4)) fun v1 mem2 => jbnd (M_areAllSo d 0 (-1) mem2) fun v3 mem4 => if (jasI v3) = 0 then M_of_29 d x1 x2 x3 (jw32 (x4 + 1)) mem4 else M_of_29 d x1 x2 (jor x3 (jshl 1 x4)) (jw32 (x4 + 1)) mem4) else jix 112 (jw32 (45 + x1)) (jbnd (M_laysBack d (jwI mem 55 0 (jw32 (45 + x1)) x2)) fun v5 mem6 => some (vI x3, mem6)) := (jfrom_eq jc234 (jSem d) [29] 29 29 [vR 11 (some 0), vI x1, vI x2, vI x3, vI x4] [] mem).trans rfl
set_option maxRecDepth 100000 in
theorem q_M_fillsFits (d : Nat) (x1 : Int) (mem : jMem) : M_fillsFits (d + 1) x1 mem = jbnd (M_keeps d mem) fun v1 mem2 => M_fillsFits_11 d x1 (jrI mem 11 0 21) 0 mem2 := Eq.trans (b := jAtC jc235 (jSem d) 0 [vR 11 (some 0), vI x1, vU, vU] [] mem) rfl ((jfrom_eq jc235 (jSem d) [11] 8 0 [vR 11 (some 0), vI x1, vU, vU] [] mem).trans rfl)
set_option maxRecDepth 100000 in
theorem q_M_fillsFits_11 (d : Nat) (x1 : Int) (x2 : Int) (x3 : Int) (mem : jMem) : M_fillsFits_11 d x1 x2 x3 mem = if (jrI mem 11 0 2) < x3 then jbnd (M_laysBack d (jwI mem 11 0 21 x2)) fun v1 mem2 => some (vU, mem2) else jbnd (M_begins d (jwI mem 11 0 21 (jw32 (x3 - 1)))) fun v3 mem4 => jbnd (M_areAllSo d x3 x1 mem4) fun v5 mem6 => jix 7 x3 (jbo (jasI v5) (M_fillsFits_11 d x1 x2 (jw32 (x3 + 1)) (jwI mem6 61 0 x3 (jasI v5)))) := (jfrom_eq jc235 (jSem d) [11] 22 11 [vR 11 (some 0), vI x1, vI x2, vI x3] [] mem).trans rfl
set_option maxRecDepth 100000 in
theorem q_M_ruled (d : Nat) (x1 : Int) (mem : jMem) : M_ruled (d + 1) x1 mem = jbnd (M_isRiver d mem) fun v1 mem2 => if (jasI v1) = 0 then some (vI (-3), mem2) else jbnd (M_in d x1 0 1 mem2) fun v3 mem4 => if (jasI v3) = 0 then some (vI (-3), mem4) else jbnd (M_fillsFits d 0 mem4) fun v5 mem6 => M_ruled_36 d x1 0 (-2) (jrI mem6 11 0 2) mem6 := Eq.trans (b := jAtC jc236 (jSem d) 0 [vR 11 (some 0), vI x1, vU, vU, vU] [] mem) rfl ((jfrom_eq jc236 (jSem d) [36] 20 0 [vR 11 (some 0), vI x1, vU, vU, vU] [] mem).trans rfl)
set_option maxRecDepth 100000 in
theorem q_M_ruled_36 (d : Nat) (x1 : Int) (x2 : Int) (x3 : Int) (x4 : Int) (mem : jMem) : M_ruled_36 d x1 x2 x3 x4 mem = if x4 < 0 then if x1 = 0 then some (vI x2, mem) else some (vI x3, mem) else jix 7 x4 (if (jrI mem 61 0 x4) = 0 then M_ruled_36 d x1 x2 x3 (jw32 (x4 + (-1))) mem else M_ruled_36 d x1 (jw32 (x2 + 1)) (jw32 (x4 - 1)) (jw32 (x4 + (-1))) mem) := (jfrom_eq jc236 (jSem d) [36] 15 36 [vR 11 (some 0), vI x1, vI x2, vI x3, vI x4] [] mem).trans rfl
set_option maxRecDepth 100000 in
theorem q_M_alikeAt (d : Nat) (x1 : Int) (mem : jMem) : M_alikeAt (d + 1) x1 mem = M_alikeAt_4 d x1 0 0 mem := Eq.trans (b := jAtC jc237 (jSem d) 0 [vR 11 (some 0), vI x1, vU, vU, vU, vU] [] mem) rfl ((jfrom_eq jc237 (jSem d) [4, 18, 88] 5 0 [vR 11 (some 0), vI x1, vU, vU, vU, vU] [] mem).trans rfl)
set_option maxRecDepth 100000 in
theorem q_M_alikeAt_4 (d : Nat) (x1 : Int) (x2 : Int) (x3 : Int) (mem : jMem) : M_alikeAt_4 d x1 x2 x3 mem = if (jrI mem 11 0 2) < x3 then some (vI x2, mem) else M_alikeAt_18 d x1 x2 x3 0 0 mem := (jfrom_eq jc237 (jSem d) [4, 18, 88] 9 4 [vR 11 (some 0), vI x1, vI x2, vI x3, vU, vU] [] mem).trans rfl
set_option maxRecDepth 100000 in
theorem q_M_alikeAt_18 (d : Nat) (x1 : Int) (x2 : Int) (x3 : Int) (x4 : Int) (x5 : Int) (mem : jMem) : M_alikeAt_18 d x1 x2 x3 x4 x5 mem = if (jrI mem 11 0 2) < x5 then M_alikeAt_88 d x1 x2 x3 x4 mem else jix 7 x3 (if (jrI mem 61 0 x3) = 0 then M_alikeAt_88 d x1 x2 x3 x4 mem else jix 7 x5 (if (jrI mem 61 0 x5) = 0 then M_alikeAt_18 d x1 x2 x3 (jw32 (x4 + 0)) (jw32 (x5 + 1)) mem else jix 42 (jw32 ((jw32 (6 * x3)) + x1)) (jix 42 (jw32 ((jw32 (6 * x5)) + x1)) (if (jrI mem 62 0 (jw32 ((jw32 (6 * x3)) + x1))) = (jrI mem 62 0 (jw32 ((jw32 (6 * x5)) + x1))) then M_alikeAt_18 d x1 x2 x3 (jw32 (x4 + 1)) (jw32 (x5 + 1)) mem else M_alikeAt_18 d x1 x2 x3 (jw32 (x4 + 0)) (jw32 (x5 + 1)) mem)))) := (jfrom_eq jc237 (jSem d) [4, 18, 88] 39 18 [vR 11 (some 0), vI x1, vI x2, vI x3, vI x4, vI x5] [] mem).trans rfl
set_option maxRecDepth 100000 in
theorem q_M_alikeAt_88 (d : Nat) (x1 : Int) (x2 : Int) (x3 : Int) (x4 : Int) (mem : jMem) : M_alikeAt_88 d x1 x2 x3 x4 mem = if x2 < x4 then M_alikeAt_4 d x1 x4 (jw32 (x3 + 1)) mem else M_alikeAt_4 d x1 x2 (jw32 (x3 + 1)) mem := (jfrom_eq jc237 (jSem d) [4, 18, 88] 9 88 [vR 11 (some 0), vI x1, vI x2, vI x3, vI x4, vU] [] mem).trans rfl
set_option maxRecDepth 100000 in
theorem q_M_look (d : Nat) (x1 : Int) (x2 : Int) (mem : jMem) : M_look (d + 1) x1 x2 mem = jbnd (M_isRiver d mem) fun v1 mem2 => if (jasI v1) = 0 then some (vI (-1), mem2) else jbnd (M_in d x1 0 60 mem2) fun v3 mem4 => if (jasI v3) = 0 then some (vI (-1), mem4) else jbnd (M_in d x2 0 1 mem4) fun v5 mem6 => if (jasI v5) = 0 then some (vI (-1), mem6) else jbnd (M_fillsFits d x1 mem6) fun v7 mem8 => M_look_46 d x2 (-2) (-2) 0 mem8 := Eq.trans (b := jAtC jc238 (jSem d) 0 [vR 11 (some 0), vI x1, vI x2, vU, vU, vU, vU] [] mem) rfl ((jfrom_eq jc238 (jSem d) [46] 25 0 [vR 11 (some 0), vI x1, vI x2, vU, vU, vU, vU] [] mem).trans rfl)
set_option maxRecDepth 100000 in
theorem q_M_look_46 (d : Nat) (x2 : Int) (x3 : Int) (x4 : Int) (x5 : Int) (mem : jMem) : M_look_46 d x2 x3 x4 x5 mem = if x5 < (jrI mem 55 0 5) then jbnd (M_alikeAt d x5 mem) fun v1 mem2 => if (jasI v1) = 0 then M_look_46 d x2 x3 x4 (jw32 (x5 + 1)) mem2 else if x3 < 0 then M_look_46 d x2 x5 (jasI v1) (jw32 (x5 + 1)) mem2 else if (jasI v1) < x4 then M_look_46 d x2 x5 (jasI v1) (jw32 (x5 + 1)) mem2 else M_look_46 d x2 x3 x4 (jw32 (x5 + 1)) mem2 else if x2 = 0 then some (vI x3, mem) else some (vI x4, mem) := (jfrom_eq jc238 (jSem d) [46] 24 46 [vR 11 (some 0), vU, vI x2, vI x3, vI x4, vI x5, vU] [] mem).trans rfl
set_option maxRecDepth 100000 in
theorem q_M_seed (d : Nat) (x1 : Int) (mem : jMem) : M_seed (d + 1) x1 mem = if x1 < 0 then some (vI (-1), mem) else some (vI (jrI mem 11 0 22), (jwI mem 11 0 22 x1)) := Eq.trans (b := jAtC jc239 (jSem d) 0 [vR 11 (some 0), vI x1, vU] [] mem) rfl ((jfrom_eq jc239 (jSem d) [] 10 0 [vR 11 (some 0), vI x1, vU] [] mem).trans rfl)
set_option maxRecDepth 100000 in
theorem q_M_draw (d : Nat) (x1 : Int) (mem : jMem) : M_draw (d + 1) x1 mem = jnz x1 (some (vI (jw32 ((jw64 (((jw64 ((jw64 ((jrJ mem 11 0 32) * 1103515245)) + 12345)).tmod 2147483648).tdiv 65536)).tmod x1)), (jwJ mem 11 0 32 ((jw64 ((jw64 ((jrJ mem 11 0 32) * 1103515245)) + 12345)).tmod 2147483648)))) := Eq.trans (b := jAtC jc240 (jSem d) 0 [vR 11 (some 0), vI x1] [] mem) rfl ((jfrom_eq jc240 (jSem d) [] 19 0 [vR 11 (some 0), vI x1] [] mem).trans rfl)
set_option maxRecDepth 100000 in
theorem q_M_moons (d : Nat) (x1 : Int) (x2 : Int) (x3 : Int) (x4 : Int) (mem : jMem) : M_moons (d + 1) x1 x2 x3 x4 mem = jbnd (M_isRiver d mem) fun v1 mem2 => if (jasI v1) = 0 then some (vI (-1), mem2) else jbnd (M_in d x1 1 10 mem2) fun v3 mem4 => if (jasI v3) = 0 then some (vI (-1), mem4) else jbnd (M_in d x2 1 60 mem4) fun v5 mem6 => if (jasI v5) = 0 then some (vI (-1), mem6) else jbnd (M_in d x3 0 100 mem6) fun v7 mem8 => if (jasI v7) = 0 then some (vI (-1), mem8) else jbnd (M_in d x4 0 1 mem8) fun v9 mem10 => if (jasI v9) = 0 then some (vI (-1), mem10) else jbnd (M_keeps d (jwJ mem10 11 0 32 (jrI mem10 11 0 22))) fun v11 mem12 => M_moons_78 d x1 x2 x3 x4 0 0 0 mem12 := Eq.trans (b := jAtC jc241 (jSem d) 0 [vR 11 (some 0), vI x1, vI x2, vI x3, vI x4, vU, vU, vU, vU] [] mem) rfl ((jfrom_eq jc241 (jSem d) [78, 87] 41 0 [vR 11 (some 0), vI x1, vI x2, vI x3, vI x4, vU, vU, vU, vU] [] mem).trans rfl)
set_option maxRecDepth 100000 in
theorem q_M_moons_78 (d : Nat) (x1 : Int) (x2 : Int) (x3 : Int) (x4 : Int) (x5 : Int) (x6 : Int) (x7 : Int) (mem : jMem) : M_moons_78 d x1 x2 x3 x4 x5 x6 x7 mem = if x7 < x1 then M_moons_87 d x1 x2 x3 x4 x5 x6 x7 0 mem else if x4 = 0 then some (vI x5, mem) else some (vI x6, mem) := (jfrom_eq jc241 (jSem d) [78, 87] 8 78 [vR 11 (some 0), vI x1, vI x2, vI x3, vI x4, vI x5, vI x6, vI x7, vU] [] mem).trans rfl
set_option maxRecDepth 100000 in
theorem q_M_moons_87 (d : Nat) (x1 : Int) (x2 : Int) (x3 : Int) (x4 : Int) (x5 : Int) (x6 : Int) (x7 : Int) (x8 : Int) (mem : jMem) : M_moons_87 d x1 x2 x3 x4 x5 x6 x7 x8 mem = if x8 < x2 then jbnd (M_draw d 100 mem) fun v1 mem2 => if (jasI v1) < x3 then jbnd (M_draw d 10 mem2) fun v3 mem4 => jbnd (M_passes d (jwI mem4 11 0 23 (jasI v3))) fun v5 mem6 => M_moons_87 d x1 x2 x3 x4 x5 x6 x7 (jw32 (x8 + 1)) mem6 else jbnd (M_passes d mem2) fun v7 mem8 => M_moons_87 d x1 x2 x3 x4 x5 x6 x7 (jw32 (x8 + 1)) mem8 else jbnd (M_trapped d mem) fun v9 mem10 => jbnd (M_onesThat d (-1) (-1) mem10) fun v11 mem12 => jbnd (M_bits d (jasI v11) mem12) fun v13 mem14 => jbnd (M_laysBack d mem14) fun v15 mem16 => M_moons_78 d x1 x2 x3 x4 (jw32 (x5 + (jasI v9))) (jw32 (x6 + (jasI v13))) (jw32 (x7 + 1)) mem16 := (jfrom_eq jc241 (jSem d) [78, 87] 21 87 [vR 11 (some 0), vI x1, vI x2, vI x3, vI x4, vI x5, vI x6, vI x7, vI x8] [] mem).trans rfl
set_option maxRecDepth 100000 in
theorem q_M_count (d : Nat) (x1 : Int) (mem : jMem) : M_count (d + 1) x1 mem = if x1 = 0 then jix 112 (jw32 (x1 + 1)) (some (vI (jrI mem 55 0 (jw32 (x1 + 1))), mem)) else if x1 = 1 then jix 112 (jw32 (x1 + 1)) (some (vI (jrI mem 55 0 (jw32 (x1 + 1))), mem)) else if x1 = 2 then jbnd (M_rounds d mem) fun v1 mem2 => some (vI (jasI v1), mem2) else if x1 = 3 then jix 112 (jw32 (x1 + 1)) (some (vI (jrI mem 55 0 (jw32 (x1 + 1))), mem)) else if x1 = 4 then jix 112 (jw32 (x1 + 1)) (some (vI (jrI mem 55 0 (jw32 (x1 + 1))), mem)) else if x1 = 5 then jix 112 (jw32 (x1 + 1)) (some (vI (jrI mem 55 0 (jw32 (x1 + 1))), mem)) else if x1 = 6 then some (vI (jrI mem 11 0 2), mem) else if x1 = 7 then some (vI (jrI mem 11 0 21), mem) else if x1 = 8 then some (vI (jrI mem 55 0 10), mem) else if x1 = 9 then jbnd (M_onesThat d 0 19 mem) fun v3 mem4 => some (vI (jasI v3), mem4) else if x1 = 10 then jbnd (M_onesThat d (-1) (-1) mem) fun v5 mem6 => some (vI (jasI v5), mem6) else if x1 = 11 then some (vI (jrI mem 55 0 111), mem) else if x1 = 12 then some (vI (jrI mem 11 0 26), mem) else if x1 = 13 then some (vI (jrI mem 11 0 22), mem) else if x1 = 14 then some (vI (jrI mem 11 0 1), mem) else some (vI (-1), mem) := Eq.trans (b := jAtC jc242 (jSem d) 0 [vR 11 (some 0), vI x1] [] mem) rfl ((jfrom_eq jc242 (jSem d) [] 9 0 [vR 11 (some 0), vI x1] [] mem).trans rfl)
set_option maxRecDepth 100000 in
theorem q_M_image (d : Nat) (x1 : Int) (mem : jMem) : M_image (d + 1) x1 mem = jbnd (M_in d x1 0 3 mem) fun v1 mem2 => if (jasI v1) = 0 then some (vI (-1), mem2) else jix 4 x1 (jix 4 x1 (jix 4 x1 (M_image_43 d x1 0 (jwI (jwI (jwI mem2 66 0 x1 1) 64 0 x1 (jrI mem2 11 0 21)) 65 0 x1 (jrI mem2 11 0 22))))) := Eq.trans (b := jAtC jc243 (jSem d) 0 [vR 11 (some 0), vI x1, vU] [] mem) rfl ((jfrom_eq jc243 (jSem d) [43] 26 0 [vR 11 (some 0), vI x1, vU] [] mem).trans rfl)
set_option maxRecDepth 100000 in
theorem q_M_image_43 (d : Nat) (x1 : Int) (x2 : Int) (mem : jMem) : M_image_43 d x1 x2 mem = if x2 < 112 then jix 112 x2 (jix 448 (jw32 ((jw32 (112 * x1)) + x2)) (M_image_43 d x1 (jw32 (x2 + 1)) (jwI mem 63 0 (jw32 ((jw32 (112 * x1)) + x2)) (jrI mem 55 0 x2)))) else some (vI (jrI mem 55 0 10), mem) := (jfrom_eq jc243 (jSem d) [43] 18 43 [vR 11 (some 0), vI x1, vI x2] [] mem).trans rfl
set_option maxRecDepth 100000 in
theorem q_M_back (d : Nat) (x1 : Int) (mem : jMem) : M_back (d + 1) x1 mem = jbnd (M_in d x1 0 3 mem) fun v1 mem2 => if (jasI v1) = 0 then some (vI (-1), mem2) else jix 4 x1 (if (jrI mem2 66 0 x1) = 0 then some (vI (-1), mem2) else jix 4 x1 (jix 4 x1 (M_back_50 d x1 0 (jwI (jwI (jwI mem2 11 0 21 (jrI mem2 64 0 x1)) 11 0 22 (jrI mem2 65 0 x1)) 11 0 26 0)))) := Eq.trans (b := jAtC jc244 (jSem d) 0 [vR 11 (some 0), vI x1, vU] [] mem) rfl ((jfrom_eq jc244 (jSem d) [50] 29 0 [vR 11 (some 0), vI x1, vU] [] mem).trans rfl)
set_option maxRecDepth 100000 in
theorem q_M_back_50 (d : Nat) (x1 : Int) (x2 : Int) (mem : jMem) : M_back_50 d x1 x2 mem = if x2 < 112 then jix 448 (jw32 ((jw32 (112 * x1)) + x2)) (jix 112 x2 (M_back_50 d x1 (jw32 (x2 + 1)) (jwI mem 55 0 x2 (jrI mem 63 0 (jw32 ((jw32 (112 * x1)) + x2)))))) else some (vI (jrI mem 55 0 10), mem) := (jfrom_eq jc244 (jSem d) [50] 18 50 [vR 11 (some 0), vI x1, vI x2] [] mem).trans rfl
end
section
-- ===== PART A: goes FIRST, ahead of the names: the tables' words, and 'selects' of the private methods out of them =====
/-- a private method of a class that the tables say can be made, by its rows of tables_1 -/
def lw_okq (q : MethodName × Nat) : Prop := (q.1.cls ≠ "java/lang/invoke/MethodHandle" ∧ q.1.cls ≠ "java/lang/invoke/VarHandle") ∧ Cond.instantiable q.1.cls q.2 ∈ tables_1 ∧ Cond.privateMethod q.1 ∈ tables_1 ∧ Cond.instanceMethod q.1 ∈ tables_1
theorem lw_p0 : lw_okq (⟨"EelThroat$River", "hasNoRoom", "(I)Z"⟩, 17) := ⟨⟨by decide +kernel, by decide +kernel⟩, List.mem_of_getElem? (i := 64) (by decide +kernel), List.mem_of_getElem? (i := 520) (by decide +kernel), List.mem_of_getElem? (i := 521) (by decide +kernel)⟩
theorem lw_p1 : lw_okq (⟨"EelThroat$River", "readClause", "(LEelThroat$Tape;I)V"⟩, 17) := ⟨⟨by decide +kernel, by decide +kernel⟩, List.mem_of_getElem? (i := 64) (by decide +kernel), List.mem_of_getElem? (i := 528) (by decide +kernel), List.mem_of_getElem? (i := 529) (by decide +kernel)⟩
theorem lw_p2 : lw_okq (⟨"EelThroat$Rule", "readSum", "(LEelThroat$Tape;)Z"⟩, 5) := ⟨⟨by decide +kernel, by decide +kernel⟩, List.mem_of_getElem? (i := 378) (by decide +kernel), List.mem_of_getElem? (i := 575) (by decide +kernel), List.mem_of_getElem? (i := 576) (by decide +kernel)⟩
theorem lw_p3 : lw_okq (⟨"EelThroat$Rule", "readValue", "(LEelThroat$Tape;)Z"⟩, 5) := ⟨⟨by decide +kernel, by decide +kernel⟩, List.mem_of_getElem? (i := 378) (by decide +kernel), List.mem_of_getElem? (i := 579) (by decide +kernel), List.mem_of_getElem? (i := 580) (by decide +kernel)⟩
theorem lw_p4 : lw_okq (⟨"EelThroat$Rule", "emit", "(II)V"⟩, 5) := ⟨⟨by decide +kernel, by decide +kernel⟩, List.mem_of_getElem? (i := 378) (by decide +kernel), List.mem_of_getElem? (i := 589) (by decide +kernel), List.mem_of_getElem? (i := 590) (by decide +kernel)⟩
theorem lw_p5 : lw_okq (⟨"EelThroat$Rule", "hasUnit", "(LEelThroat$Tape;I)Z"⟩, 5) := ⟨⟨by decide +kernel, by decide +kernel⟩, List.mem_of_getElem? (i := 378) (by decide +kernel), List.mem_of_getElem? (i := 593) (by decide +kernel), List.mem_of_getElem? (i := 594) (by decide +kernel)⟩
theorem lw_p6 : lw_okq (⟨"EelThroat$Rule", "emitSign", "(I)V"⟩, 5) := ⟨⟨by decide +kernel, by decide +kernel⟩, List.mem_of_getElem? (i := 378) (by decide +kernel), List.mem_of_getElem? (i := 600) (by decide +kernel), List.mem_of_getElem? (i := 601) (by decide +kernel)⟩
theorem lw_p7 : lw_okq (⟨"EelThroat$Rule", "readTest", "(LEelThroat$Tape;I)Z"⟩, 5) := ⟨⟨by decide +kernel, by decide +kernel⟩, List.mem_of_getElem? (i := 378) (by decide +kernel), List.mem_of_getElem? (i := 611) (by decide +kernel), List.mem_of_getElem? (i := 612) (by decide +kernel)⟩
theorem lw_p8 : lw_okq (⟨"EelThroat$Rule", "readPart", "(LEelThroat$Tape;I)Z"⟩, 5) := ⟨⟨by decide +kernel, by decide +kernel⟩, List.mem_of_getElem? (i := 378) (by decide +kernel), List.mem_of_getElem? (i := 615) (by decide +kernel), List.mem_of_getElem? (i := 616) (by decide +kernel)⟩
theorem lw_p9 : lw_okq (⟨"EelThroat$Rule", "readFact", "(LEelThroat$Tape;I)Z"⟩, 5) := ⟨⟨by decide +kernel, by decide +kernel⟩, List.mem_of_getElem? (i := 378) (by decide +kernel), List.mem_of_getElem? (i := 619) (by decide +kernel), List.mem_of_getElem? (i := 620) (by decide +kernel)⟩
theorem lw_p10 : lw_okq (⟨"EelThroat$Rule", "readComparison", "(LEelThroat$Tape;)Z"⟩, 5) := ⟨⟨by decide +kernel, by decide +kernel⟩, List.mem_of_getElem? (i := 378) (by decide +kernel), List.mem_of_getElem? (i := 624) (by decide +kernel), List.mem_of_getElem? (i := 625) (by decide +kernel)⟩
theorem lw_p11 : lw_okq (⟨"EelThroat", "isMemory", "(I)Z"⟩, 10) := ⟨⟨by decide +kernel, by decide +kernel⟩, List.mem_of_getElem? (i := 22) (by decide +kernel), List.mem_of_getElem? (i := 642) (by decide +kernel), List.mem_of_getElem? (i := 643) (by decide +kernel)⟩
theorem lw_p12 : lw_okq (⟨"EelThroat", "isTrap", "(I)Z"⟩, 10) := ⟨⟨by decide +kernel, by decide +kernel⟩, List.mem_of_getElem? (i := 22) (by decide +kernel), List.mem_of_getElem? (i := 653) (by decide +kernel), List.mem_of_getElem? (i := 654) (by decide +kernel)⟩
theorem lw_p13 : lw_okq (⟨"EelThroat", "isPerson", "(I)Z"⟩, 10) := ⟨⟨by decide +kernel, by decide +kernel⟩, List.mem_of_getElem? (i := 22) (by decide +kernel), List.mem_of_getElem? (i := 661) (by decide +kernel), List.mem_of_getElem? (i := 662) (by decide +kernel)⟩
theorem lw_p14 : lw_okq (⟨"EelThroat", "ruling", "()LEelThroat$Rule;"⟩, 10) := ⟨⟨by decide +kernel, by decide +kernel⟩, List.mem_of_getElem? (i := 22) (by decide +kernel), List.mem_of_getElem? (i := 704) (by decide +kernel), List.mem_of_getElem? (i := 705) (by decide +kernel)⟩
theorem lw_p15 : lw_okq (⟨"EelThroat$Stream", "countPools", "()V"⟩, 12) := ⟨⟨by decide +kernel, by decide +kernel⟩, List.mem_of_getElem? (i := 283) (by decide +kernel), List.mem_of_getElem? (i := 713) (by decide +kernel), List.mem_of_getElem? (i := 714) (by decide +kernel)⟩
def lw_privs_1 : List (MethodName × Nat) := [(⟨"EelThroat$River", "hasNoRoom", "(I)Z"⟩, 17), (⟨"EelThroat$River", "readClause", "(LEelThroat$Tape;I)V"⟩, 17), (⟨"EelThroat$Rule", "readSum", "(LEelThroat$Tape;)Z"⟩, 5), (⟨"EelThroat$Rule", "readValue", "(LEelThroat$Tape;)Z"⟩, 5), (⟨"EelThroat$Rule", "emit", "(II)V"⟩, 5), (⟨"EelThroat$Rule", "hasUnit", "(LEelThroat$Tape;I)Z"⟩, 5), (⟨"EelThroat$Rule", "emitSign", "(I)V"⟩, 5), (⟨"EelThroat$Rule", "readTest", "(LEelThroat$Tape;I)Z"⟩, 5), (⟨"EelThroat$Rule", "readPart", "(LEelThroat$Tape;I)Z"⟩, 5), (⟨"EelThroat$Rule", "readFact", "(LEelThroat$Tape;I)Z"⟩, 5), (⟨"EelThroat$Rule", "readComparison", "(LEelThroat$Tape;)Z"⟩, 5), (⟨"EelThroat", "isMemory", "(I)Z"⟩, 10), (⟨"EelThroat", "isTrap", "(I)Z"⟩, 10), (⟨"EelThroat", "isPerson", "(I)Z"⟩, 10), (⟨"EelThroat", "ruling", "()LEelThroat$Rule;"⟩, 10), (⟨"EelThroat$Stream", "countPools", "()V"⟩, 12)]
theorem lw_r1 : ∀ q ∈ lw_privs_1, lw_okq q := List.forall_mem_cons.mpr ⟨lw_p0, List.forall_mem_cons.mpr ⟨lw_p1, List.forall_mem_cons.mpr ⟨lw_p2, List.forall_mem_cons.mpr ⟨lw_p3, List.forall_mem_cons.mpr ⟨lw_p4, List.forall_mem_cons.mpr ⟨lw_p5, List.forall_mem_cons.mpr ⟨lw_p6, List.forall_mem_cons.mpr ⟨lw_p7, List.forall_mem_cons.mpr ⟨lw_p8, List.forall_mem_cons.mpr ⟨lw_p9, List.forall_mem_cons.mpr ⟨lw_p10, List.forall_mem_cons.mpr ⟨lw_p11, List.forall_mem_cons.mpr ⟨lw_p12, List.forall_mem_cons.mpr ⟨lw_p13, List.forall_mem_cons.mpr ⟨lw_p14, List.forall_mem_cons.mpr ⟨lw_p15, fun _ h => absurd h List.not_mem_nil⟩⟩⟩⟩⟩⟩⟩⟩⟩⟩⟩⟩⟩⟩⟩⟩
theorem lw_p16 : lw_okq (⟨"EelThroat$Stream", "goalOf", "(I)I"⟩, 12) := ⟨⟨by decide +kernel, by decide +kernel⟩, List.mem_of_getElem? (i := 283) (by decide +kernel), List.mem_of_getElem? (i := 720) (by decide +kernel), List.mem_of_getElem? (i := 721) (by decide +kernel)⟩
theorem lw_p17 : lw_okq (⟨"EelThroat$Stream", "worthOfPool", "()J"⟩, 12) := ⟨⟨by decide +kernel, by decide +kernel⟩, List.mem_of_getElem? (i := 283) (by decide +kernel), List.mem_of_getElem? (i := 726) (by decide +kernel), List.mem_of_getElem? (i := 727) (by decide +kernel)⟩
theorem lw_p18 : lw_okq (⟨"EelThroat$Stream", "wordValue", "(I)I"⟩, 12) := ⟨⟨by decide +kernel, by decide +kernel⟩, List.mem_of_getElem? (i := 283) (by decide +kernel), List.mem_of_getElem? (i := 730) (by decide +kernel), List.mem_of_getElem? (i := 731) (by decide +kernel)⟩
theorem lw_p19 : lw_okq (⟨"EelThroat$Stream", "goesToSea", "(I)Z"⟩, 12) := ⟨⟨by decide +kernel, by decide +kernel⟩, List.mem_of_getElem? (i := 283) (by decide +kernel), List.mem_of_getElem? (i := 737) (by decide +kernel), List.mem_of_getElem? (i := 738) (by decide +kernel)⟩
theorem lw_p20 : lw_okq (⟨"EelThroat$Stream", "fillTraps", "()I"⟩, 12) := ⟨⟨by decide +kernel, by decide +kernel⟩, List.mem_of_getElem? (i := 283) (by decide +kernel), List.mem_of_getElem? (i := 741) (by decide +kernel), List.mem_of_getElem? (i := 742) (by decide +kernel)⟩
theorem lw_p21 : lw_okq (⟨"EelThroat", "isEmptyTrap", "(I)Z"⟩, 10) := ⟨⟨by decide +kernel, by decide +kernel⟩, List.mem_of_getElem? (i := 22) (by decide +kernel), List.mem_of_getElem? (i := 753) (by decide +kernel), List.mem_of_getElem? (i := 754) (by decide +kernel)⟩
theorem lw_p22 : lw_okq (⟨"EelThroat", "isPool", "(I)Z"⟩, 10) := ⟨⟨by decide +kernel, by decide +kernel⟩, List.mem_of_getElem? (i := 22) (by decide +kernel), List.mem_of_getElem? (i := 757) (by decide +kernel), List.mem_of_getElem? (i := 758) (by decide +kernel)⟩
theorem lw_p23 : lw_okq (⟨"EelThroat", "isHad", "(I)Z"⟩, 10) := ⟨⟨by decide +kernel, by decide +kernel⟩, List.mem_of_getElem? (i := 22) (by decide +kernel), List.mem_of_getElem? (i := 765) (by decide +kernel), List.mem_of_getElem? (i := 766) (by decide +kernel)⟩
theorem lw_p24 : lw_okq (⟨"EelThroat", "isFree", "(I)Z"⟩, 10) := ⟨⟨by decide +kernel, by decide +kernel⟩, List.mem_of_getElem? (i := 22) (by decide +kernel), List.mem_of_getElem? (i := 803) (by decide +kernel), List.mem_of_getElem? (i := 804) (by decide +kernel)⟩
theorem lw_p25 : lw_okq (⟨"EelThroat$Guessing", "fits", "(LEelThroat$Scene;LEelThroat$Rule;II)Z"⟩, 4) := ⟨⟨by decide +kernel, by decide +kernel⟩, List.mem_of_getElem? (i := 356) (by decide +kernel), List.mem_of_getElem? (i := 897) (by decide +kernel), List.mem_of_getElem? (i := 898) (by decide +kernel)⟩
theorem lw_p26 : lw_okq (⟨"EelThroat$Asking", "sizeIn", "(LEelThroat$River;I)I"⟩, 6) := ⟨⟨by decide +kernel, by decide +kernel⟩, List.mem_of_getElem? (i := 327) (by decide +kernel), List.mem_of_getElem? (i := 925) (by decide +kernel), List.mem_of_getElem? (i := 926) (by decide +kernel)⟩
theorem lw_p27 : lw_okq (⟨"EelThroat$Asking", "isSteady", "(I)Z"⟩, 6) := ⟨⟨by decide +kernel, by decide +kernel⟩, List.mem_of_getElem? (i := 327) (by decide +kernel), List.mem_of_getElem? (i := 929) (by decide +kernel), List.mem_of_getElem? (i := 930) (by decide +kernel)⟩
theorem lw_p28 : lw_okq (⟨"EelThroat$Guessing", "mostAlike", "(II)I"⟩, 4) := ⟨⟨by decide +kernel, by decide +kernel⟩, List.mem_of_getElem? (i := 356) (by decide +kernel), List.mem_of_getElem? (i := 986) (by decide +kernel), List.mem_of_getElem? (i := 987) (by decide +kernel)⟩
theorem lw_p29 : lw_okq (⟨"EelThroat$Asking", "draw", "()I"⟩, 6) := ⟨⟨by decide +kernel, by decide +kernel⟩, List.mem_of_getElem? (i := 327) (by decide +kernel), List.mem_of_getElem? (i := 1003) (by decide +kernel), List.mem_of_getElem? (i := 1004) (by decide +kernel)⟩
theorem lw_p30 : lw_okq (⟨"EelThroatModel", "four", "(I)V"⟩, 37) := ⟨⟨by decide +kernel, by decide +kernel⟩, List.mem_of_getElem? (i := 1042) (by decide +kernel), List.mem_of_getElem? (i := 1165) (by decide +kernel), List.mem_of_getElem? (i := 1166) (by decide +kernel)⟩
theorem lw_p31 : lw_okq (⟨"EelThroatModel", "readsAll", "()Z"⟩, 37) := ⟨⟨by decide +kernel, by decide +kernel⟩, List.mem_of_getElem? (i := 1042) (by decide +kernel), List.mem_of_getElem? (i := 1177) (by decide +kernel), List.mem_of_getElem? (i := 1178) (by decide +kernel)⟩
def lw_privs_2 : List (MethodName × Nat) := [(⟨"EelThroat$Stream", "goalOf", "(I)I"⟩, 12), (⟨"EelThroat$Stream", "worthOfPool", "()J"⟩, 12), (⟨"EelThroat$Stream", "wordValue", "(I)I"⟩, 12), (⟨"EelThroat$Stream", "goesToSea", "(I)Z"⟩, 12), (⟨"EelThroat$Stream", "fillTraps", "()I"⟩, 12), (⟨"EelThroat", "isEmptyTrap", "(I)Z"⟩, 10), (⟨"EelThroat", "isPool", "(I)Z"⟩, 10), (⟨"EelThroat", "isHad", "(I)Z"⟩, 10), (⟨"EelThroat", "isFree", "(I)Z"⟩, 10), (⟨"EelThroat$Guessing", "fits", "(LEelThroat$Scene;LEelThroat$Rule;II)Z"⟩, 4), (⟨"EelThroat$Asking", "sizeIn", "(LEelThroat$River;I)I"⟩, 6), (⟨"EelThroat$Asking", "isSteady", "(I)Z"⟩, 6), (⟨"EelThroat$Guessing", "mostAlike", "(II)I"⟩, 4), (⟨"EelThroat$Asking", "draw", "()I"⟩, 6), (⟨"EelThroatModel", "four", "(I)V"⟩, 37), (⟨"EelThroatModel", "readsAll", "()Z"⟩, 37)]
theorem lw_r2 : ∀ q ∈ lw_privs_2, lw_okq q := List.forall_mem_cons.mpr ⟨lw_p16, List.forall_mem_cons.mpr ⟨lw_p17, List.forall_mem_cons.mpr ⟨lw_p18, List.forall_mem_cons.mpr ⟨lw_p19, List.forall_mem_cons.mpr ⟨lw_p20, List.forall_mem_cons.mpr ⟨lw_p21, List.forall_mem_cons.mpr ⟨lw_p22, List.forall_mem_cons.mpr ⟨lw_p23, List.forall_mem_cons.mpr ⟨lw_p24, List.forall_mem_cons.mpr ⟨lw_p25, List.forall_mem_cons.mpr ⟨lw_p26, List.forall_mem_cons.mpr ⟨lw_p27, List.forall_mem_cons.mpr ⟨lw_p28, List.forall_mem_cons.mpr ⟨lw_p29, List.forall_mem_cons.mpr ⟨lw_p30, List.forall_mem_cons.mpr ⟨lw_p31, fun _ h => absurd h List.not_mem_nil⟩⟩⟩⟩⟩⟩⟩⟩⟩⟩⟩⟩⟩⟩⟩⟩
theorem lw_p32 : lw_okq (⟨"EelThroatModel", "clauseHere", "()Z"⟩, 37) := ⟨⟨by decide +kernel, by decide +kernel⟩, List.mem_of_getElem? (i := 1042) (by decide +kernel), List.mem_of_getElem? (i := 1181) (by decide +kernel), List.mem_of_getElem? (i := 1182) (by decide +kernel)⟩
theorem lw_p33 : lw_okq (⟨"EelThroatModel", "see", "()I"⟩, 37) := ⟨⟨by decide +kernel, by decide +kernel⟩, List.mem_of_getElem? (i := 1042) (by decide +kernel), List.mem_of_getElem? (i := 1185) (by decide +kernel), List.mem_of_getElem? (i := 1186) (by decide +kernel)⟩
theorem lw_p34 : lw_okq (⟨"EelThroatModel", "isRiverWord", "()Z"⟩, 37) := ⟨⟨by decide +kernel, by decide +kernel⟩, List.mem_of_getElem? (i := 1042) (by decide +kernel), List.mem_of_getElem? (i := 1189) (by decide +kernel), List.mem_of_getElem? (i := 1190) (by decide +kernel)⟩
theorem lw_p35 : lw_okq (⟨"EelThroatModel", "isWord", "(J)Z"⟩, 37) := ⟨⟨by decide +kernel, by decide +kernel⟩, List.mem_of_getElem? (i := 1042) (by decide +kernel), List.mem_of_getElem? (i := 1194) (by decide +kernel), List.mem_of_getElem? (i := 1195) (by decide +kernel)⟩
theorem lw_p36 : lw_okq (⟨"EelThroatModel", "isLetter", "(I)Z"⟩, 37) := ⟨⟨by decide +kernel, by decide +kernel⟩, List.mem_of_getElem? (i := 1042) (by decide +kernel), List.mem_of_getElem? (i := 1198) (by decide +kernel), List.mem_of_getElem? (i := 1199) (by decide +kernel)⟩
theorem lw_p37 : lw_okq (⟨"EelThroatModel", "fails", "(II)Z"⟩, 37) := ⟨⟨by decide +kernel, by decide +kernel⟩, List.mem_of_getElem? (i := 1042) (by decide +kernel), List.mem_of_getElem? (i := 1207) (by decide +kernel), List.mem_of_getElem? (i := 1208) (by decide +kernel)⟩
theorem lw_p38 : lw_okq (⟨"EelThroatModel", "riverLineHere", "(I)Z"⟩, 37) := ⟨⟨by decide +kernel, by decide +kernel⟩, List.mem_of_getElem? (i := 1042) (by decide +kernel), List.mem_of_getElem? (i := 1211) (by decide +kernel), List.mem_of_getElem? (i := 1212) (by decide +kernel)⟩
theorem lw_p39 : lw_okq (⟨"EelThroatModel", "isRiverHere", "(I)Z"⟩, 37) := ⟨⟨by decide +kernel, by decide +kernel⟩, List.mem_of_getElem? (i := 1042) (by decide +kernel), List.mem_of_getElem? (i := 1215) (by decide +kernel), List.mem_of_getElem? (i := 1216) (by decide +kernel)⟩
theorem lw_p40 : lw_okq (⟨"EelThroatModel", "passWord", "()V"⟩, 37) := ⟨⟨by decide +kernel, by decide +kernel⟩, List.mem_of_getElem? (i := 1042) (by decide +kernel), List.mem_of_getElem? (i := 1219) (by decide +kernel), List.mem_of_getElem? (i := 1220) (by decide +kernel)⟩
theorem lw_p41 : lw_okq (⟨"EelThroatModel", "cellHere", "(III)Z"⟩, 37) := ⟨⟨by decide +kernel, by decide +kernel⟩, List.mem_of_getElem? (i := 1042) (by decide +kernel), List.mem_of_getElem? (i := 1223) (by decide +kernel), List.mem_of_getElem? (i := 1224) (by decide +kernel)⟩
theorem lw_p42 : lw_okq (⟨"EelThroatModel", "numberHere", "(II)Z"⟩, 37) := ⟨⟨by decide +kernel, by decide +kernel⟩, List.mem_of_getElem? (i := 1042) (by decide +kernel), List.mem_of_getElem? (i := 1227) (by decide +kernel), List.mem_of_getElem? (i := 1228) (by decide +kernel)⟩
theorem lw_p43 : lw_okq (⟨"EelThroatModel", "isDigit", "(I)Z"⟩, 37) := ⟨⟨by decide +kernel, by decide +kernel⟩, List.mem_of_getElem? (i := 1042) (by decide +kernel), List.mem_of_getElem? (i := 1231) (by decide +kernel), List.mem_of_getElem? (i := 1232) (by decide +kernel)⟩
theorem lw_p44 : lw_okq (⟨"EelThroatModel", "isMoonHere", "(I)Z"⟩, 37) := ⟨⟨by decide +kernel, by decide +kernel⟩, List.mem_of_getElem? (i := 1042) (by decide +kernel), List.mem_of_getElem? (i := 1238) (by decide +kernel), List.mem_of_getElem? (i := 1239) (by decide +kernel)⟩
theorem lw_p45 : lw_okq (⟨"EelThroatModel", "isPersonHere", "(I)Z"⟩, 37) := ⟨⟨by decide +kernel, by decide +kernel⟩, List.mem_of_getElem? (i := 1042) (by decide +kernel), List.mem_of_getElem? (i := 1242) (by decide +kernel), List.mem_of_getElem? (i := 1243) (by decide +kernel)⟩
theorem lw_p46 : lw_okq (⟨"EelThroatModel", "isMemoryHere", "(I)Z"⟩, 37) := ⟨⟨by decide +kernel, by decide +kernel⟩, List.mem_of_getElem? (i := 1042) (by decide +kernel), List.mem_of_getElem? (i := 1246) (by decide +kernel), List.mem_of_getElem? (i := 1247) (by decide +kernel)⟩
theorem lw_p47 : lw_okq (⟨"EelThroatModel", "isTrapHere", "(I)Z"⟩, 37) := ⟨⟨by decide +kernel, by decide +kernel⟩, List.mem_of_getElem? (i := 1042) (by decide +kernel), List.mem_of_getElem? (i := 1250) (by decide +kernel), List.mem_of_getElem? (i := 1251) (by decide +kernel)⟩
def lw_privs_3 : List (MethodName × Nat) := [(⟨"EelThroatModel", "clauseHere", "()Z"⟩, 37), (⟨"EelThroatModel", "see", "()I"⟩, 37), (⟨"EelThroatModel", "isRiverWord", "()Z"⟩, 37), (⟨"EelThroatModel", "isWord", "(J)Z"⟩, 37), (⟨"EelThroatModel", "isLetter", "(I)Z"⟩, 37), (⟨"EelThroatModel", "fails", "(II)Z"⟩, 37), (⟨"EelThroatModel", "riverLineHere", "(I)Z"⟩, 37), (⟨"EelThroatModel", "isRiverHere", "(I)Z"⟩, 37), (⟨"EelThroatModel", "passWord", "()V"⟩, 37), (⟨"EelThroatModel", "cellHere", "(III)Z"⟩, 37), (⟨"EelThroatModel", "numberHere", "(II)Z"⟩, 37), (⟨"EelThroatModel", "isDigit", "(I)Z"⟩, 37), (⟨"EelThroatModel", "isMoonHere", "(I)Z"⟩, 37), (⟨"EelThroatModel", "isPersonHere", "(I)Z"⟩, 37), (⟨"EelThroatModel", "isMemoryHere", "(I)Z"⟩, 37), (⟨"EelThroatModel", "isTrapHere", "(I)Z"⟩, 37)]
theorem lw_r3 : ∀ q ∈ lw_privs_3, lw_okq q := List.forall_mem_cons.mpr ⟨lw_p32, List.forall_mem_cons.mpr ⟨lw_p33, List.forall_mem_cons.mpr ⟨lw_p34, List.forall_mem_cons.mpr ⟨lw_p35, List.forall_mem_cons.mpr ⟨lw_p36, List.forall_mem_cons.mpr ⟨lw_p37, List.forall_mem_cons.mpr ⟨lw_p38, List.forall_mem_cons.mpr ⟨lw_p39, List.forall_mem_cons.mpr ⟨lw_p40, List.forall_mem_cons.mpr ⟨lw_p41, List.forall_mem_cons.mpr ⟨lw_p42, List.forall_mem_cons.mpr ⟨lw_p43, List.forall_mem_cons.mpr ⟨lw_p44, List.forall_mem_cons.mpr ⟨lw_p45, List.forall_mem_cons.mpr ⟨lw_p46, List.forall_mem_cons.mpr ⟨lw_p47, fun _ h => absurd h List.not_mem_nil⟩⟩⟩⟩⟩⟩⟩⟩⟩⟩⟩⟩⟩⟩⟩⟩
theorem lw_p48 : lw_okq (⟨"EelThroatModel", "isGoHere", "()Z"⟩, 37) := ⟨⟨by decide +kernel, by decide +kernel⟩, List.mem_of_getElem? (i := 1042) (by decide +kernel), List.mem_of_getElem? (i := 1254) (by decide +kernel), List.mem_of_getElem? (i := 1255) (by decide +kernel)⟩
theorem lw_p49 : lw_okq (⟨"EelThroatModel", "sum", "()Z"⟩, 37) := ⟨⟨by decide +kernel, by decide +kernel⟩, List.mem_of_getElem? (i := 1042) (by decide +kernel), List.mem_of_getElem? (i := 1258) (by decide +kernel), List.mem_of_getElem? (i := 1259) (by decide +kernel)⟩
theorem lw_p50 : lw_okq (⟨"EelThroatModel", "term", "()Z"⟩, 37) := ⟨⟨by decide +kernel, by decide +kernel⟩, List.mem_of_getElem? (i := 1042) (by decide +kernel), List.mem_of_getElem? (i := 1262) (by decide +kernel), List.mem_of_getElem? (i := 1263) (by decide +kernel)⟩
theorem lw_p51 : lw_okq (⟨"EelThroatModel", "value", "()Z"⟩, 37) := ⟨⟨by decide +kernel, by decide +kernel⟩, List.mem_of_getElem? (i := 1042) (by decide +kernel), List.mem_of_getElem? (i := 1266) (by decide +kernel), List.mem_of_getElem? (i := 1267) (by decide +kernel)⟩
theorem lw_p52 : lw_okq (⟨"EelThroatModel", "makes", "(I)Z"⟩, 37) := ⟨⟨by decide +kernel, by decide +kernel⟩, List.mem_of_getElem? (i := 1042) (by decide +kernel), List.mem_of_getElem? (i := 1271) (by decide +kernel), List.mem_of_getElem? (i := 1272) (by decide +kernel)⟩
theorem lw_p53 : lw_okq (⟨"EelThroatModel", "puts", "(II)V"⟩, 37) := ⟨⟨by decide +kernel, by decide +kernel⟩, List.mem_of_getElem? (i := 1042) (by decide +kernel), List.mem_of_getElem? (i := 1275) (by decide +kernel), List.mem_of_getElem? (i := 1276) (by decide +kernel)⟩
theorem lw_p54 : lw_okq (⟨"EelThroatModel", "wordHere", "()I"⟩, 37) := ⟨⟨by decide +kernel, by decide +kernel⟩, List.mem_of_getElem? (i := 1042) (by decide +kernel), List.mem_of_getElem? (i := 1279) (by decide +kernel), List.mem_of_getElem? (i := 1280) (by decide +kernel)⟩
theorem lw_p55 : lw_okq (⟨"EelThroatModel", "takesWord", "(J)Z"⟩, 37) := ⟨⟨by decide +kernel, by decide +kernel⟩, List.mem_of_getElem? (i := 1042) (by decide +kernel), List.mem_of_getElem? (i := 1295) (by decide +kernel), List.mem_of_getElem? (i := 1296) (by decide +kernel)⟩
theorem lw_p56 : lw_okq (⟨"EelThroatModel", "tested", "()Z"⟩, 37) := ⟨⟨by decide +kernel, by decide +kernel⟩, List.mem_of_getElem? (i := 1042) (by decide +kernel), List.mem_of_getElem? (i := 1299) (by decide +kernel), List.mem_of_getElem? (i := 1300) (by decide +kernel)⟩
theorem lw_p57 : lw_okq (⟨"EelThroatModel", "fact", "()Z"⟩, 37) := ⟨⟨by decide +kernel, by decide +kernel⟩, List.mem_of_getElem? (i := 1042) (by decide +kernel), List.mem_of_getElem? (i := 1303) (by decide +kernel), List.mem_of_getElem? (i := 1304) (by decide +kernel)⟩
theorem lw_p58 : lw_okq (⟨"EelThroatModel", "opens", "(I)Z"⟩, 37) := ⟨⟨by decide +kernel, by decide +kernel⟩, List.mem_of_getElem? (i := 1042) (by decide +kernel), List.mem_of_getElem? (i := 1308) (by decide +kernel), List.mem_of_getElem? (i := 1309) (by decide +kernel)⟩
theorem lw_p59 : lw_okq (⟨"EelThroatModel", "compare", "()Z"⟩, 37) := ⟨⟨by decide +kernel, by decide +kernel⟩, List.mem_of_getElem? (i := 1042) (by decide +kernel), List.mem_of_getElem? (i := 1312) (by decide +kernel), List.mem_of_getElem? (i := 1313) (by decide +kernel)⟩
theorem lw_p60 : lw_okq (⟨"EelThroatModel", "closes", "()V"⟩, 37) := ⟨⟨by decide +kernel, by decide +kernel⟩, List.mem_of_getElem? (i := 1042) (by decide +kernel), List.mem_of_getElem? (i := 1316) (by decide +kernel), List.mem_of_getElem? (i := 1317) (by decide +kernel)⟩
theorem lw_p61 : lw_okq (⟨"EelThroatModel", "layDown", "(I)V"⟩, 37) := ⟨⟨by decide +kernel, by decide +kernel⟩, List.mem_of_getElem? (i := 1042) (by decide +kernel), List.mem_of_getElem? (i := 1320) (by decide +kernel), List.mem_of_getElem? (i := 1321) (by decide +kernel)⟩
theorem lw_p62 : lw_okq (⟨"EelThroatModel", "isInside", "()Z"⟩, 37) := ⟨⟨by decide +kernel, by decide +kernel⟩, List.mem_of_getElem? (i := 1042) (by decide +kernel), List.mem_of_getElem? (i := 1327) (by decide +kernel), List.mem_of_getElem? (i := 1328) (by decide +kernel)⟩
theorem lw_p63 : lw_okq (⟨"EelThroatModel", "begins", "()V"⟩, 37) := ⟨⟨by decide +kernel, by decide +kernel⟩, List.mem_of_getElem? (i := 1042) (by decide +kernel), List.mem_of_getElem? (i := 1337) (by decide +kernel), List.mem_of_getElem? (i := 1338) (by decide +kernel)⟩
def lw_privs_4 : List (MethodName × Nat) := [(⟨"EelThroatModel", "isGoHere", "()Z"⟩, 37), (⟨"EelThroatModel", "sum", "()Z"⟩, 37), (⟨"EelThroatModel", "term", "()Z"⟩, 37), (⟨"EelThroatModel", "value", "()Z"⟩, 37), (⟨"EelThroatModel", "makes", "(I)Z"⟩, 37), (⟨"EelThroatModel", "puts", "(II)V"⟩, 37), (⟨"EelThroatModel", "wordHere", "()I"⟩, 37), (⟨"EelThroatModel", "takesWord", "(J)Z"⟩, 37), (⟨"EelThroatModel", "tested", "()Z"⟩, 37), (⟨"EelThroatModel", "fact", "()Z"⟩, 37), (⟨"EelThroatModel", "opens", "(I)Z"⟩, 37), (⟨"EelThroatModel", "compare", "()Z"⟩, 37), (⟨"EelThroatModel", "closes", "()V"⟩, 37), (⟨"EelThroatModel", "layDown", "(I)V"⟩, 37), (⟨"EelThroatModel", "isInside", "()Z"⟩, 37), (⟨"EelThroatModel", "begins", "()V"⟩, 37)]
theorem lw_r4 : ∀ q ∈ lw_privs_4, lw_okq q := List.forall_mem_cons.mpr ⟨lw_p48, List.forall_mem_cons.mpr ⟨lw_p49, List.forall_mem_cons.mpr ⟨lw_p50, List.forall_mem_cons.mpr ⟨lw_p51, List.forall_mem_cons.mpr ⟨lw_p52, List.forall_mem_cons.mpr ⟨lw_p53, List.forall_mem_cons.mpr ⟨lw_p54, List.forall_mem_cons.mpr ⟨lw_p55, List.forall_mem_cons.mpr ⟨lw_p56, List.forall_mem_cons.mpr ⟨lw_p57, List.forall_mem_cons.mpr ⟨lw_p58, List.forall_mem_cons.mpr ⟨lw_p59, List.forall_mem_cons.mpr ⟨lw_p60, List.forall_mem_cons.mpr ⟨lw_p61, List.forall_mem_cons.mpr ⟨lw_p62, List.forall_mem_cons.mpr ⟨lw_p63, fun _ h => absurd h List.not_mem_nil⟩⟩⟩⟩⟩⟩⟩⟩⟩⟩⟩⟩⟩⟩⟩⟩
theorem lw_p64 : lw_okq (⟨"EelThroatModel", "isRule", "(I)Z"⟩, 37) := ⟨⟨by decide +kernel, by decide +kernel⟩, List.mem_of_getElem? (i := 1042) (by decide +kernel), List.mem_of_getElem? (i := 1345) (by decide +kernel), List.mem_of_getElem? (i := 1346) (by decide +kernel)⟩
theorem lw_p65 : lw_okq (⟨"EelThroatModel", "isMemory", "(I)Z"⟩, 37) := ⟨⟨by decide +kernel, by decide +kernel⟩, List.mem_of_getElem? (i := 1042) (by decide +kernel), List.mem_of_getElem? (i := 1353) (by decide +kernel), List.mem_of_getElem? (i := 1354) (by decide +kernel)⟩
theorem lw_p66 : lw_okq (⟨"EelThroatModel", "isTrap", "(I)Z"⟩, 37) := ⟨⟨by decide +kernel, by decide +kernel⟩, List.mem_of_getElem? (i := 1042) (by decide +kernel), List.mem_of_getElem? (i := 1362) (by decide +kernel), List.mem_of_getElem? (i := 1363) (by decide +kernel)⟩
theorem lw_p67 : lw_okq (⟨"EelThroatModel", "poolOf", "(I)I"⟩, 37) := ⟨⟨by decide +kernel, by decide +kernel⟩, List.mem_of_getElem? (i := 1042) (by decide +kernel), List.mem_of_getElem? (i := 1366) (by decide +kernel), List.mem_of_getElem? (i := 1367) (by decide +kernel)⟩
theorem lw_p68 : lw_okq (⟨"EelThroatModel", "baitOf", "(I)I"⟩, 37) := ⟨⟨by decide +kernel, by decide +kernel⟩, List.mem_of_getElem? (i := 1042) (by decide +kernel), List.mem_of_getElem? (i := 1370) (by decide +kernel), List.mem_of_getElem? (i := 1371) (by decide +kernel)⟩
theorem lw_p69 : lw_okq (⟨"EelThroatModel", "memoryIn", "(I)I"⟩, 37) := ⟨⟨by decide +kernel, by decide +kernel⟩, List.mem_of_getElem? (i := 1042) (by decide +kernel), List.mem_of_getElem? (i := 1374) (by decide +kernel), List.mem_of_getElem? (i := 1375) (by decide +kernel)⟩
theorem lw_p70 : lw_okq (⟨"EelThroatModel", "isPerson", "(I)Z"⟩, 37) := ⟨⟨by decide +kernel, by decide +kernel⟩, List.mem_of_getElem? (i := 1042) (by decide +kernel), List.mem_of_getElem? (i := 1382) (by decide +kernel), List.mem_of_getElem? (i := 1383) (by decide +kernel)⟩
theorem lw_p71 : lw_okq (⟨"EelThroatModel", "onesThat", "(II)I"⟩, 37) := ⟨⟨by decide +kernel, by decide +kernel⟩, List.mem_of_getElem? (i := 1042) (by decide +kernel), List.mem_of_getElem? (i := 1386) (by decide +kernel), List.mem_of_getElem? (i := 1387) (by decide +kernel)⟩
theorem lw_p72 : lw_okq (⟨"EelThroatModel", "rounds", "()I"⟩, 37) := ⟨⟨by decide +kernel, by decide +kernel⟩, List.mem_of_getElem? (i := 1042) (by decide +kernel), List.mem_of_getElem? (i := 1394) (by decide +kernel), List.mem_of_getElem? (i := 1395) (by decide +kernel)⟩
theorem lw_p73 : lw_okq (⟨"EelThroatModel", "isRiver", "()Z"⟩, 37) := ⟨⟨by decide +kernel, by decide +kernel⟩, List.mem_of_getElem? (i := 1042) (by decide +kernel), List.mem_of_getElem? (i := 1398) (by decide +kernel), List.mem_of_getElem? (i := 1399) (by decide +kernel)⟩
theorem lw_p74 : lw_okq (⟨"EelThroatModel", "keepsAct", "()V"⟩, 37) := ⟨⟨by decide +kernel, by decide +kernel⟩, List.mem_of_getElem? (i := 1042) (by decide +kernel), List.mem_of_getElem? (i := 1410) (by decide +kernel), List.mem_of_getElem? (i := 1411) (by decide +kernel)⟩
theorem lw_p75 : lw_okq (⟨"EelThroatModel", "passes", "()I"⟩, 37) := ⟨⟨by decide +kernel, by decide +kernel⟩, List.mem_of_getElem? (i := 1042) (by decide +kernel), List.mem_of_getElem? (i := 1414) (by decide +kernel), List.mem_of_getElem? (i := 1415) (by decide +kernel)⟩
theorem lw_p76 : lw_okq (⟨"EelThroatModel", "swim", "()V"⟩, 37) := ⟨⟨by decide +kernel, by decide +kernel⟩, List.mem_of_getElem? (i := 1042) (by decide +kernel), List.mem_of_getElem? (i := 1418) (by decide +kernel), List.mem_of_getElem? (i := 1419) (by decide +kernel)⟩
theorem lw_p77 : lw_okq (⟨"EelThroatModel", "isFree", "(I)Z"⟩, 37) := ⟨⟨by decide +kernel, by decide +kernel⟩, List.mem_of_getElem? (i := 1042) (by decide +kernel), List.mem_of_getElem? (i := 1422) (by decide +kernel), List.mem_of_getElem? (i := 1423) (by decide +kernel)⟩
theorem lw_p78 : lw_okq (⟨"EelThroatModel", "choice", "(I)I"⟩, 37) := ⟨⟨by decide +kernel, by decide +kernel⟩, List.mem_of_getElem? (i := 1042) (by decide +kernel), List.mem_of_getElem? (i := 1427) (by decide +kernel), List.mem_of_getElem? (i := 1428) (by decide +kernel)⟩
theorem lw_p79 : lw_okq (⟨"EelThroatModel", "isPool", "(I)Z"⟩, 37) := ⟨⟨by decide +kernel, by decide +kernel⟩, List.mem_of_getElem? (i := 1042) (by decide +kernel), List.mem_of_getElem? (i := 1431) (by decide +kernel), List.mem_of_getElem? (i := 1432) (by decide +kernel)⟩
def lw_privs_5 : List (MethodName × Nat) := [(⟨"EelThroatModel", "isRule", "(I)Z"⟩, 37), (⟨"EelThroatModel", "isMemory", "(I)Z"⟩, 37), (⟨"EelThroatModel", "isTrap", "(I)Z"⟩, 37), (⟨"EelThroatModel", "poolOf", "(I)I"⟩, 37), (⟨"EelThroatModel", "baitOf", "(I)I"⟩, 37), (⟨"EelThroatModel", "memoryIn", "(I)I"⟩, 37), (⟨"EelThroatModel", "isPerson", "(I)Z"⟩, 37), (⟨"EelThroatModel", "onesThat", "(II)I"⟩, 37), (⟨"EelThroatModel", "rounds", "()I"⟩, 37), (⟨"EelThroatModel", "isRiver", "()Z"⟩, 37), (⟨"EelThroatModel", "keepsAct", "()V"⟩, 37), (⟨"EelThroatModel", "passes", "()I"⟩, 37), (⟨"EelThroatModel", "swim", "()V"⟩, 37), (⟨"EelThroatModel", "isFree", "(I)Z"⟩, 37), (⟨"EelThroatModel", "choice", "(I)I"⟩, 37), (⟨"EelThroatModel", "isPool", "(I)Z"⟩, 37)]
theorem lw_r5 : ∀ q ∈ lw_privs_5, lw_okq q := List.forall_mem_cons.mpr ⟨lw_p64, List.forall_mem_cons.mpr ⟨lw_p65, List.forall_mem_cons.mpr ⟨lw_p66, List.forall_mem_cons.mpr ⟨lw_p67, List.forall_mem_cons.mpr ⟨lw_p68, List.forall_mem_cons.mpr ⟨lw_p69, List.forall_mem_cons.mpr ⟨lw_p70, List.forall_mem_cons.mpr ⟨lw_p71, List.forall_mem_cons.mpr ⟨lw_p72, List.forall_mem_cons.mpr ⟨lw_p73, List.forall_mem_cons.mpr ⟨lw_p74, List.forall_mem_cons.mpr ⟨lw_p75, List.forall_mem_cons.mpr ⟨lw_p76, List.forall_mem_cons.mpr ⟨lw_p77, List.forall_mem_cons.mpr ⟨lw_p78, List.forall_mem_cons.mpr ⟨lw_p79, fun _ h => absurd h List.not_mem_nil⟩⟩⟩⟩⟩⟩⟩⟩⟩⟩⟩⟩⟩⟩⟩⟩
theorem lw_p80 : lw_okq (⟨"EelThroatModel", "sumOf", "(II)J"⟩, 37) := ⟨⟨by decide +kernel, by decide +kernel⟩, List.mem_of_getElem? (i := 1042) (by decide +kernel), List.mem_of_getElem? (i := 1435) (by decide +kernel), List.mem_of_getElem? (i := 1436) (by decide +kernel)⟩
theorem lw_p81 : lw_okq (⟨"EelThroatModel", "lightOn", "(I)I"⟩, 37) := ⟨⟨by decide +kernel, by decide +kernel⟩, List.mem_of_getElem? (i := 1042) (by decide +kernel), List.mem_of_getElem? (i := 1439) (by decide +kernel), List.mem_of_getElem? (i := 1440) (by decide +kernel)⟩
theorem lw_p82 : lw_okq (⟨"EelThroatModel", "summedBy", "(I)J"⟩, 37) := ⟨⟨by decide +kernel, by decide +kernel⟩, List.mem_of_getElem? (i := 1042) (by decide +kernel), List.mem_of_getElem? (i := 1443) (by decide +kernel), List.mem_of_getElem? (i := 1444) (by decide +kernel)⟩
theorem lw_p83 : lw_okq (⟨"EelThroatModel", "reckons", "(III)J"⟩, 37) := ⟨⟨by decide +kernel, by decide +kernel⟩, List.mem_of_getElem? (i := 1042) (by decide +kernel), List.mem_of_getElem? (i := 1447) (by decide +kernel), List.mem_of_getElem? (i := 1448) (by decide +kernel)⟩
theorem lw_p84 : lw_okq (⟨"EelThroatModel", "push", "(J)V"⟩, 37) := ⟨⟨by decide +kernel, by decide +kernel⟩, List.mem_of_getElem? (i := 1042) (by decide +kernel), List.mem_of_getElem? (i := 1451) (by decide +kernel), List.mem_of_getElem? (i := 1452) (by decide +kernel)⟩
theorem lw_p85 : lw_okq (⟨"EelThroatModel", "pop", "()J"⟩, 37) := ⟨⟨by decide +kernel, by decide +kernel⟩, List.mem_of_getElem? (i := 1042) (by decide +kernel), List.mem_of_getElem? (i := 1455) (by decide +kernel), List.mem_of_getElem? (i := 1456) (by decide +kernel)⟩
theorem lw_p86 : lw_okq (⟨"EelThroatModel", "catches", "(I)I"⟩, 37) := ⟨⟨by decide +kernel, by decide +kernel⟩, List.mem_of_getElem? (i := 1042) (by decide +kernel), List.mem_of_getElem? (i := 1462) (by decide +kernel), List.mem_of_getElem? (i := 1463) (by decide +kernel)⟩
theorem lw_p87 : lw_okq (⟨"EelThroatModel", "fitsIn", "(II)Z"⟩, 37) := ⟨⟨by decide +kernel, by decide +kernel⟩, List.mem_of_getElem? (i := 1042) (by decide +kernel), List.mem_of_getElem? (i := 1466) (by decide +kernel), List.mem_of_getElem? (i := 1467) (by decide +kernel)⟩
theorem lw_p88 : lw_okq (⟨"EelThroatModel", "isEmptyTrap", "(I)Z"⟩, 37) := ⟨⟨by decide +kernel, by decide +kernel⟩, List.mem_of_getElem? (i := 1042) (by decide +kernel), List.mem_of_getElem? (i := 1478) (by decide +kernel), List.mem_of_getElem? (i := 1479) (by decide +kernel)⟩
theorem lw_p89 : lw_okq (⟨"EelThroatModel", "isHad", "(I)Z"⟩, 37) := ⟨⟨by decide +kernel, by decide +kernel⟩, List.mem_of_getElem? (i := 1042) (by decide +kernel), List.mem_of_getElem? (i := 1487) (by decide +kernel), List.mem_of_getElem? (i := 1488) (by decide +kernel)⟩
theorem lw_p90 : lw_okq (⟨"EelThroatModel", "keeps", "()V"⟩, 37) := ⟨⟨by decide +kernel, by decide +kernel⟩, List.mem_of_getElem? (i := 1042) (by decide +kernel), List.mem_of_getElem? (i := 1500) (by decide +kernel), List.mem_of_getElem? (i := 1501) (by decide +kernel)⟩
theorem lw_p91 : lw_okq (⟨"EelThroatModel", "passesAll", "(I)V"⟩, 37) := ⟨⟨by decide +kernel, by decide +kernel⟩, List.mem_of_getElem? (i := 1042) (by decide +kernel), List.mem_of_getElem? (i := 1504) (by decide +kernel), List.mem_of_getElem? (i := 1505) (by decide +kernel)⟩
theorem lw_p92 : lw_okq (⟨"EelThroatModel", "laysBack", "()V"⟩, 37) := ⟨⟨by decide +kernel, by decide +kernel⟩, List.mem_of_getElem? (i := 1042) (by decide +kernel), List.mem_of_getElem? (i := 1508) (by decide +kernel), List.mem_of_getElem? (i := 1509) (by decide +kernel)⟩
theorem lw_p93 : lw_okq (⟨"EelThroatModel", "trapped", "()I"⟩, 37) := ⟨⟨by decide +kernel, by decide +kernel⟩, List.mem_of_getElem? (i := 1042) (by decide +kernel), List.mem_of_getElem? (i := 1527) (by decide +kernel), List.mem_of_getElem? (i := 1528) (by decide +kernel)⟩
theorem lw_p94 : lw_okq (⟨"EelThroatModel", "trappedIn", "(I)I"⟩, 37) := ⟨⟨by decide +kernel, by decide +kernel⟩, List.mem_of_getElem? (i := 1042) (by decide +kernel), List.mem_of_getElem? (i := 1540) (by decide +kernel), List.mem_of_getElem? (i := 1541) (by decide +kernel)⟩
theorem lw_p95 : lw_okq (⟨"EelThroatModel", "isAstray", "(I)Z"⟩, 37) := ⟨⟨by decide +kernel, by decide +kernel⟩, List.mem_of_getElem? (i := 1042) (by decide +kernel), List.mem_of_getElem? (i := 1556) (by decide +kernel), List.mem_of_getElem? (i := 1557) (by decide +kernel)⟩
def lw_privs_6 : List (MethodName × Nat) := [(⟨"EelThroatModel", "sumOf", "(II)J"⟩, 37), (⟨"EelThroatModel", "lightOn", "(I)I"⟩, 37), (⟨"EelThroatModel", "summedBy", "(I)J"⟩, 37), (⟨"EelThroatModel", "reckons", "(III)J"⟩, 37), (⟨"EelThroatModel", "push", "(J)V"⟩, 37), (⟨"EelThroatModel", "pop", "()J"⟩, 37), (⟨"EelThroatModel", "catches", "(I)I"⟩, 37), (⟨"EelThroatModel", "fitsIn", "(II)Z"⟩, 37), (⟨"EelThroatModel", "isEmptyTrap", "(I)Z"⟩, 37), (⟨"EelThroatModel", "isHad", "(I)Z"⟩, 37), (⟨"EelThroatModel", "keeps", "()V"⟩, 37), (⟨"EelThroatModel", "passesAll", "(I)V"⟩, 37), (⟨"EelThroatModel", "laysBack", "()V"⟩, 37), (⟨"EelThroatModel", "trapped", "()I"⟩, 37), (⟨"EelThroatModel", "trappedIn", "(I)I"⟩, 37), (⟨"EelThroatModel", "isAstray", "(I)Z"⟩, 37)]
theorem lw_r6 : ∀ q ∈ lw_privs_6, lw_okq q := List.forall_mem_cons.mpr ⟨lw_p80, List.forall_mem_cons.mpr ⟨lw_p81, List.forall_mem_cons.mpr ⟨lw_p82, List.forall_mem_cons.mpr ⟨lw_p83, List.forall_mem_cons.mpr ⟨lw_p84, List.forall_mem_cons.mpr ⟨lw_p85, List.forall_mem_cons.mpr ⟨lw_p86, List.forall_mem_cons.mpr ⟨lw_p87, List.forall_mem_cons.mpr ⟨lw_p88, List.forall_mem_cons.mpr ⟨lw_p89, List.forall_mem_cons.mpr ⟨lw_p90, List.forall_mem_cons.mpr ⟨lw_p91, List.forall_mem_cons.mpr ⟨lw_p92, List.forall_mem_cons.mpr ⟨lw_p93, List.forall_mem_cons.mpr ⟨lw_p94, List.forall_mem_cons.mpr ⟨lw_p95, fun _ h => absurd h List.not_mem_nil⟩⟩⟩⟩⟩⟩⟩⟩⟩⟩⟩⟩⟩⟩⟩⟩
theorem lw_p96 : lw_okq (⟨"EelThroatModel", "isRing", "(I)Z"⟩, 37) := ⟨⟨by decide +kernel, by decide +kernel⟩, List.mem_of_getElem? (i := 1042) (by decide +kernel), List.mem_of_getElem? (i := 1564) (by decide +kernel), List.mem_of_getElem? (i := 1565) (by decide +kernel)⟩
theorem lw_p97 : lw_okq (⟨"EelThroatModel", "isLinked", "(II)Z"⟩, 37) := ⟨⟨by decide +kernel, by decide +kernel⟩, List.mem_of_getElem? (i := 1042) (by decide +kernel), List.mem_of_getElem? (i := 1568) (by decide +kernel), List.mem_of_getElem? (i := 1569) (by decide +kernel)⟩
theorem lw_p98 : lw_okq (⟨"EelThroatModel", "sizeIn", "(I)I"⟩, 37) := ⟨⟨by decide +kernel, by decide +kernel⟩, List.mem_of_getElem? (i := 1042) (by decide +kernel), List.mem_of_getElem? (i := 1581) (by decide +kernel), List.mem_of_getElem? (i := 1582) (by decide +kernel)⟩
theorem lw_p99 : lw_okq (⟨"EelThroatModel", "isRest", "(II)Z"⟩, 37) := ⟨⟨by decide +kernel, by decide +kernel⟩, List.mem_of_getElem? (i := 1042) (by decide +kernel), List.mem_of_getElem? (i := 1585) (by decide +kernel), List.mem_of_getElem? (i := 1586) (by decide +kernel)⟩
theorem lw_p100 : lw_okq (⟨"EelThroatModel", "areAlike", "(II)Z"⟩, 37) := ⟨⟨by decide +kernel, by decide +kernel⟩, List.mem_of_getElem? (i := 1042) (by decide +kernel), List.mem_of_getElem? (i := 1593) (by decide +kernel), List.mem_of_getElem? (i := 1594) (by decide +kernel)⟩
theorem lw_p101 : lw_okq (⟨"EelThroatModel", "sizesOf", "(I)I"⟩, 37) := ⟨⟨by decide +kernel, by decide +kernel⟩, List.mem_of_getElem? (i := 1042) (by decide +kernel), List.mem_of_getElem? (i := 1602) (by decide +kernel), List.mem_of_getElem? (i := 1603) (by decide +kernel)⟩
theorem lw_p102 : lw_okq (⟨"EelThroatModel", "areAllSo", "(II)Z"⟩, 37) := ⟨⟨by decide +kernel, by decide +kernel⟩, List.mem_of_getElem? (i := 1042) (by decide +kernel), List.mem_of_getElem? (i := 1615) (by decide +kernel), List.mem_of_getElem? (i := 1616) (by decide +kernel)⟩
theorem lw_p103 : lw_okq (⟨"EelThroatModel", "areNotesSo", "(I)Z"⟩, 37) := ⟨⟨by decide +kernel, by decide +kernel⟩, List.mem_of_getElem? (i := 1042) (by decide +kernel), List.mem_of_getElem? (i := 1619) (by decide +kernel), List.mem_of_getElem? (i := 1620) (by decide +kernel)⟩
theorem lw_p104 : lw_okq (⟨"EelThroatModel", "freeIn", "(I)I"⟩, 37) := ⟨⟨by decide +kernel, by decide +kernel⟩, List.mem_of_getElem? (i := 1042) (by decide +kernel), List.mem_of_getElem? (i := 1623) (by decide +kernel), List.mem_of_getElem? (i := 1624) (by decide +kernel)⟩
theorem lw_p105 : lw_okq (⟨"EelThroatModel", "fillsFits", "(I)V"⟩, 37) := ⟨⟨by decide +kernel, by decide +kernel⟩, List.mem_of_getElem? (i := 1042) (by decide +kernel), List.mem_of_getElem? (i := 1631) (by decide +kernel), List.mem_of_getElem? (i := 1632) (by decide +kernel)⟩
theorem lw_p106 : lw_okq (⟨"EelThroatModel", "alikeAt", "(I)I"⟩, 37) := ⟨⟨by decide +kernel, by decide +kernel⟩, List.mem_of_getElem? (i := 1042) (by decide +kernel), List.mem_of_getElem? (i := 1639) (by decide +kernel), List.mem_of_getElem? (i := 1640) (by decide +kernel)⟩
theorem lw_p107 : lw_okq (⟨"EelThroatModel", "draw", "(I)I"⟩, 37) := ⟨⟨by decide +kernel, by decide +kernel⟩, List.mem_of_getElem? (i := 1042) (by decide +kernel), List.mem_of_getElem? (i := 1652) (by decide +kernel), List.mem_of_getElem? (i := 1653) (by decide +kernel)⟩
def lw_privs_7 : List (MethodName × Nat) := [(⟨"EelThroatModel", "isRing", "(I)Z"⟩, 37), (⟨"EelThroatModel", "isLinked", "(II)Z"⟩, 37), (⟨"EelThroatModel", "sizeIn", "(I)I"⟩, 37), (⟨"EelThroatModel", "isRest", "(II)Z"⟩, 37), (⟨"EelThroatModel", "areAlike", "(II)Z"⟩, 37), (⟨"EelThroatModel", "sizesOf", "(I)I"⟩, 37), (⟨"EelThroatModel", "areAllSo", "(II)Z"⟩, 37), (⟨"EelThroatModel", "areNotesSo", "(I)Z"⟩, 37), (⟨"EelThroatModel", "freeIn", "(I)I"⟩, 37), (⟨"EelThroatModel", "fillsFits", "(I)V"⟩, 37), (⟨"EelThroatModel", "alikeAt", "(I)I"⟩, 37), (⟨"EelThroatModel", "draw", "(I)I"⟩, 37)]
theorem lw_r7 : ∀ q ∈ lw_privs_7, lw_okq q := List.forall_mem_cons.mpr ⟨lw_p96, List.forall_mem_cons.mpr ⟨lw_p97, List.forall_mem_cons.mpr ⟨lw_p98, List.forall_mem_cons.mpr ⟨lw_p99, List.forall_mem_cons.mpr ⟨lw_p100, List.forall_mem_cons.mpr ⟨lw_p101, List.forall_mem_cons.mpr ⟨lw_p102, List.forall_mem_cons.mpr ⟨lw_p103, List.forall_mem_cons.mpr ⟨lw_p104, List.forall_mem_cons.mpr ⟨lw_p105, List.forall_mem_cons.mpr ⟨lw_p106, List.forall_mem_cons.mpr ⟨lw_p107, fun _ h => absurd h List.not_mem_nil⟩⟩⟩⟩⟩⟩⟩⟩⟩⟩⟩⟩
def lw_privs : List (MethodName × Nat) := lw_privs_1 ++ (lw_privs_2 ++ (lw_privs_3 ++ (lw_privs_4 ++ (lw_privs_5 ++ (lw_privs_6 ++ (lw_privs_7))))))
def lw_tbl : List Cond := k2_sels lw_privs ++ tables_1
theorem lw_privs_ok : ∀ q ∈ lw_privs, lw_okq q := by
  show ∀ q ∈ lw_privs_1 ++ (lw_privs_2 ++ (lw_privs_3 ++ (lw_privs_4 ++ (lw_privs_5 ++ (lw_privs_6 ++ (lw_privs_7)))))), lw_okq q
  exact List.forall_mem_append.mpr ⟨lw_r1, List.forall_mem_append.mpr ⟨lw_r2, List.forall_mem_append.mpr ⟨lw_r3, List.forall_mem_append.mpr ⟨lw_r4, List.forall_mem_append.mpr ⟨lw_r5, List.forall_mem_append.mpr ⟨lw_r6, lw_r7⟩⟩⟩⟩⟩⟩
-- ===== end of PART A; then your names; then what follows =====
end
section
/-! Names of classes, fields and methods (out of the claim's printed names) -/
def RX0 : String := "EelThroat$Acts"
def TX0 : u_T := fun k => match k with
  | 0 => ("EelThroat$Acts", "before", "[LEelThroat$Water;", true)
  | 1 => ("EelThroat$Acts", "next", "I", false)
  | _ => ("EelThroat$Acts", "size", "I", false)
def tyX0 : Nat → FieldType := fun k => match k with
  | 0 => .array (.object "EelThroat$Water")
  | 1 => .int
  | _ => .int
abbrev wsX00 : List Cond := u_ws RX0 TX0 3
theorem nmX0 : ∀ a, a < 3 → ∀ b, b < 3 → a ≠ b → (TX0 a).2.1 ≠ (TX0 b).2.1 := by decide +kernel
theorem tyX0_ok : ∀ k, k < 3 → parseFieldDescriptor (TX0 k).2.2.1 = some (tyX0 k) := by decide +kernel
abbrev cX0_init : ByteArray := prog_2_method_1_code
def yX0_init : MethodName := ⟨RX0, "<init>", "()V"⟩
abbrev cX0_keep : ByteArray := prog_2_method_2_code
def yX0_keep : MethodName := ⟨RX0, "keep", "(LEelThroat$Water;)V"⟩
abbrev cX0_takeBack : ByteArray := prog_2_method_3_code
def yX0_takeBack : MethodName := ⟨RX0, "takeBack", "(LEelThroat$Water;)I"⟩
def RX1 : String := "EelThroat$Asking"
def TX1 : u_T := fun k => match k with
  | 0 => ("EelThroat$Asking", "stream", "LEelThroat$Stream;", true)
  | 1 => ("EelThroat$Asking", "trial", "LEelThroat$Water;", true)
  | 2 => ("EelThroat$Asking", "places", "[J", true)
  | 3 => ("EelThroat$Asking", "oneHas", "[I", true)
  | 4 => ("EelThroat$Asking", "otherHas", "[I", true)
  | _ => ("EelThroat$Asking", "x", "J", false)
def tyX1 : Nat → FieldType := fun k => match k with
  | 0 => .object "EelThroat$Stream"
  | 1 => .object "EelThroat$Water"
  | 2 => .array .long
  | 3 => .array .int
  | 4 => .array .int
  | _ => .long
abbrev wsX10 : List Cond := u_ws RX1 TX1 6
theorem nmX1 : ∀ a, a < 6 → ∀ b, b < 6 → a ≠ b → (TX1 a).2.1 ≠ (TX1 b).2.1 := by decide +kernel
theorem tyX1_ok : ∀ k, k < 6 → parseFieldDescriptor (TX1 k).2.2.1 = some (tyX1 k) := by decide +kernel
abbrev cX1_init : ByteArray := prog_3_method_1_code
def yX1_init : MethodName := ⟨RX1, "<init>", "()V"⟩
abbrev cX1_after : ByteArray := prog_3_method_2_code
def yX1_after : MethodName := ⟨RX1, "after", "(LEelThroat$Scene;LEelThroat$Rule;I)LEelThroat$Water;"⟩
abbrev cX1_firstCatch : ByteArray := prog_3_method_3_code
def yX1_firstCatch : MethodName := ⟨RX1, "firstCatch", "(LEelThroat$Scene;LEelThroat$Rule;II)I"⟩
abbrev cX1_firstFull : ByteArray := prog_3_method_4_code
def yX1_firstFull : MethodName := ⟨RX1, "firstFull", "(LEelThroat$Scene;LEelThroat$Rule;)I"⟩
abbrev cX1_bestPlace : ByteArray := prog_3_method_5_code
def yX1_bestPlace : MethodName := ⟨RX1, "bestPlace", "(LEelThroat$Scene;LEelThroat$Rule;III)I"⟩
abbrev cX1_smellsOfFree : ByteArray := prog_3_method_6_code
def yX1_smellsOfFree : MethodName := ⟨RX1, "smellsOfFree", "(LEelThroat$Scene;)I"⟩
abbrev cX1_poolsBefore : ByteArray := prog_3_method_7_code
def yX1_poolsBefore : MethodName := ⟨RX1, "poolsBefore", "(LEelThroat$Scene;LEelThroat$Rule;III)I"⟩
abbrev cX1_leastThroat : ByteArray := prog_3_method_8_code
def yX1_leastThroat : MethodName := ⟨RX1, "leastThroat", "(LEelThroat$Scene;LEelThroat$Rule;II)I"⟩
abbrev cX1_steadyBaits : ByteArray := prog_3_method_9_code
def yX1_steadyBaits : MethodName := ⟨RX1, "steadyBaits", "(LEelThroat$Scene;LEelThroat$Rule;IIII)I"⟩
abbrev cX1_sizeIn : ByteArray := prog_3_method_10_code
def yX1_sizeIn : MethodName := ⟨RX1, "sizeIn", "(LEelThroat$River;I)I"⟩
abbrev cX1_isSteady : ByteArray := prog_3_method_11_code
def yX1_isSteady : MethodName := ⟨RX1, "isSteady", "(I)Z"⟩
abbrev cX1_firstRound : ByteArray := prog_3_method_12_code
def yX1_firstRound : MethodName := ⟨RX1, "firstRound", "(LEelThroat$Scene;LEelThroat$Rule;I)I"⟩
abbrev cX1_drawnNights : ByteArray := prog_3_method_13_code
def yX1_drawnNights : MethodName := ⟨RX1, "drawnNights", "(LEelThroat$Scene;LEelThroat$Rule;IIII)I"⟩
abbrev cX1_draw : ByteArray := prog_3_method_14_code
def yX1_draw : MethodName := ⟨RX1, "draw", "()I"⟩
def RX2 : String := "EelThroat$Guessing"
def TX2 : u_T := fun k => match k with
  | 0 => ("EelThroat$Guessing", "stream", "LEelThroat$Stream;", true)
  | 1 => ("EelThroat$Guessing", "trial", "LEelThroat$Water;", true)
  | 2 => ("EelThroat$Guessing", "fitting", "[I", true)
  | _ => ("EelThroat$Guessing", "seen", "[I", true)
def tyX2 : Nat → FieldType := fun k => match k with
  | 0 => .object "EelThroat$Stream"
  | 1 => .object "EelThroat$Water"
  | 2 => .array .int
  | _ => .array .int
abbrev wsX20 : List Cond := u_ws RX2 TX2 4
theorem nmX2 : ∀ a, a < 4 → ∀ b, b < 4 → a ≠ b → (TX2 a).2.1 ≠ (TX2 b).2.1 := by decide +kernel
theorem tyX2_ok : ∀ k, k < 4 → parseFieldDescriptor (TX2 k).2.2.1 = some (tyX2 k) := by decide +kernel
abbrev cX2_init : ByteArray := prog_4_method_1_code
def yX2_init : MethodName := ⟨RX2, "<init>", "()V"⟩
abbrev cX2_owners : ByteArray := prog_4_method_2_code
def yX2_owners : MethodName := ⟨RX2, "owners", "(LEelThroat$Scene;LEelThroat$Rule;I)I"⟩
abbrev cX2_sieve : ByteArray := prog_4_method_3_code
def yX2_sieve : MethodName := ⟨RX2, "sieve", "(LEelThroat$Scene;[LEelThroat$Rule;II)I"⟩
abbrev cX2_firstFitting : ByteArray := prog_4_method_4_code
def yX2_firstFitting : MethodName := ⟨RX2, "firstFitting", "()I"⟩
abbrev cX2_fits : ByteArray := prog_4_method_5_code
def yX2_fits : MethodName := ⟨RX2, "fits", "(LEelThroat$Scene;LEelThroat$Rule;II)Z"⟩
abbrev cX2_bestParting : ByteArray := prog_4_method_6_code
def yX2_bestParting : MethodName := ⟨RX2, "bestParting", "(III)I"⟩
abbrev cX2_mostAlike : ByteArray := prog_4_method_7_code
def yX2_mostAlike : MethodName := ⟨RX2, "mostAlike", "(II)I"⟩
def RX3 : String := "EelThroat$Hands"
def TX3 : u_T := fun k => match k with
  | _ => ("", "", "", false)
def tyX3 : Nat → FieldType := fun k => match k with
  | _ => .int
abbrev wsX30 : List Cond := u_ws RX3 TX3 0
theorem nmX3 : ∀ a, a < 0 → ∀ b, b < 0 → a ≠ b → (TX3 a).2.1 ≠ (TX3 b).2.1 := by decide +kernel
theorem tyX3_ok : ∀ k, k < 0 → parseFieldDescriptor (TX3 k).2.2.1 = some (tyX3 k) := by decide +kernel
abbrev cX3_strayed : ByteArray := prog_5_method_2_code
def yX3_strayed : MethodName := ⟨RX3, "strayed", "(LEelThroat$Scene;)I"⟩
abbrev cX3_ringed : ByteArray := prog_5_method_3_code
def yX3_ringed : MethodName := ⟨RX3, "ringed", "(LEelThroat$Scene;I)I"⟩
abbrev cX3_isRing : ByteArray := prog_5_method_4_code
def yX3_isRing : MethodName := ⟨RX3, "isRing", "(LEelThroat$Scene;I)Z"⟩
abbrev cX3_share : ByteArray := prog_5_method_5_code
def yX3_share : MethodName := ⟨RX3, "share", "(LEelThroat$Scene;II)I"⟩
abbrev cX3_sizesOf : ByteArray := prog_5_method_6_code
def yX3_sizesOf : MethodName := ⟨RX3, "sizesOf", "(LEelThroat$Scene;I)I"⟩
def RX4 : String := "EelThroat$Notes"
def TX4 : u_T := fun k => match k with
  | 0 => ("EelThroat$Notes", "size", "I", false)
  | 1 => ("EelThroat$Notes", "when", "[I", true)
  | 2 => ("EelThroat$Notes", "memory", "[I", true)
  | _ => ("EelThroat$Notes", "pool", "[I", true)
def tyX4 : Nat → FieldType := fun k => match k with
  | 0 => .int
  | 1 => .array .int
  | 2 => .array .int
  | _ => .array .int
abbrev wsX40 : List Cond := u_ws RX4 TX4 4
theorem nmX4 : ∀ a, a < 4 → ∀ b, b < 4 → a ≠ b → (TX4 a).2.1 ≠ (TX4 b).2.1 := by decide +kernel
theorem tyX4_ok : ∀ k, k < 4 → parseFieldDescriptor (TX4 k).2.2.1 = some (tyX4 k) := by decide +kernel
abbrev cX4_init : ByteArray := prog_6_method_1_code
def yX4_init : MethodName := ⟨RX4, "<init>", "()V"⟩
abbrev cX4_add : ByteArray := prog_6_method_2_code
def yX4_add : MethodName := ⟨RX4, "add", "(III)Z"⟩
abbrev cX4_copy : ByteArray := prog_6_method_3_code
def yX4_copy : MethodName := ⟨RX4, "copy", "(LEelThroat$Notes;)V"⟩
abbrev cX4_lastNight : ByteArray := prog_6_method_4_code
def yX4_lastNight : MethodName := ⟨RX4, "lastNight", "()I"⟩
abbrev cX4_hold : ByteArray := prog_6_method_5_code
def yX4_hold : MethodName := ⟨RX4, "hold", "(LEelThroat$Water;)Z"⟩
abbrev cX4_poolOrNone : ByteArray := prog_6_method_6_code
def yX4_poolOrNone : MethodName := ⟨RX4, "poolOrNone", "(I)I"⟩
def RX5 : String := "EelThroat$River"
def TX5 : u_T := fun k => match k with
  | 0 => ("EelThroat$River", "told", "Z", false)
  | 1 => ("EelThroat$River", "pools", "I", false)
  | 2 => ("EelThroat$River", "big", "I", false)
  | 3 => ("EelThroat$River", "moons", "I", false)
  | 4 => ("EelThroat$River", "people", "I", false)
  | 5 => ("EelThroat$River", "memories", "I", false)
  | 6 => ("EelThroat$River", "traps", "I", false)
  | 7 => ("EelThroat$River", "light", "[I", true)
  | 8 => ("EelThroat$River", "strong", "[I", true)
  | 9 => ("EelThroat$River", "pool", "[I", true)
  | 10 => ("EelThroat$River", "size", "[I", true)
  | 11 => ("EelThroat$River", "smell", "[I", true)
  | 12 => ("EelThroat$River", "whose", "[I", true)
  | 13 => ("EelThroat$River", "sunk", "[I", true)
  | 14 => ("EelThroat$River", "throat", "[I", true)
  | 15 => ("EelThroat$River", "bait", "[I", true)
  | _ => ("EelThroat$River", "keeper", "[I", true)
def tyX5 : Nat → FieldType := fun k => match k with
  | 0 => .boolean
  | 1 => .int
  | 2 => .int
  | 3 => .int
  | 4 => .int
  | 5 => .int
  | 6 => .int
  | 7 => .array .int
  | 8 => .array .int
  | 9 => .array .int
  | 10 => .array .int
  | 11 => .array .int
  | 12 => .array .int
  | 13 => .array .int
  | 14 => .array .int
  | 15 => .array .int
  | _ => .array .int
abbrev wsX50 : List Cond := u_ws RX5 TX5 17
theorem nmX5 : ∀ a, a < 17 → ∀ b, b < 17 → a ≠ b → (TX5 a).2.1 ≠ (TX5 b).2.1 := by decide +kernel
theorem tyX5_ok : ∀ k, k < 17 → parseFieldDescriptor (TX5 k).2.2.1 = some (tyX5 k) := by decide +kernel
abbrev cX5_init : ByteArray := prog_7_method_1_code
def yX5_init : MethodName := ⟨RX5, "<init>", "()V"⟩
abbrev cX5_copy : ByteArray := prog_7_method_2_code
def yX5_copy : MethodName := ⟨RX5, "copy", "(LEelThroat$River;)V"⟩
abbrev cX5_round : ByteArray := prog_7_method_3_code
def yX5_round : MethodName := ⟨RX5, "round", "()I"⟩
abbrev cX5_lightOf : ByteArray := prog_7_method_4_code
def yX5_lightOf : MethodName := ⟨RX5, "lightOf", "(I)I"⟩
abbrev cX5_read : ByteArray := prog_7_method_5_code
def yX5_read : MethodName := ⟨RX5, "read", "(LEelThroat$Tape;)Z"⟩
abbrev cX5_hasNoRoom : ByteArray := prog_7_method_6_code
def yX5_hasNoRoom : MethodName := ⟨RX5, "hasNoRoom", "(I)Z"⟩
abbrev cX5_readClause : ByteArray := prog_7_method_7_code
def yX5_readClause : MethodName := ⟨RX5, "readClause", "(LEelThroat$Tape;I)V"⟩
def RX6 : String := "EelThroat$Rule"
def TX6 : u_T := fun k => match k with
  | 0 => ("EelThroat$Rule", "code", "[I", true)
  | 1 => ("EelThroat$Rule", "given", "[I", true)
  | 2 => ("EelThroat$Rule", "length", "I", false)
  | 3 => ("EelThroat$Rule", "timed", "Z", false)
  | _ => ("EelThroat$Rule", "units", "I", false)
def tyX6 : Nat → FieldType := fun k => match k with
  | 0 => .array .int
  | 1 => .array .int
  | 2 => .int
  | 3 => .boolean
  | _ => .int
abbrev wsX60 : List Cond := u_ws RX6 TX6 5
theorem nmX6 : ∀ a, a < 5 → ∀ b, b < 5 → a ≠ b → (TX6 a).2.1 ≠ (TX6 b).2.1 := by decide +kernel
theorem tyX6_ok : ∀ k, k < 5 → parseFieldDescriptor (TX6 k).2.2.1 = some (tyX6 k) := by decide +kernel
abbrev cX6_init : ByteArray := prog_8_method_1_code
def yX6_init : MethodName := ⟨RX6, "<init>", "()V"⟩
abbrev cX6_read : ByteArray := prog_8_method_2_code
def yX6_read : MethodName := ⟨RX6, "read", "(LEelThroat$Tape;)Z"⟩
abbrev cX6_emit : ByteArray := prog_8_method_3_code
def yX6_emit : MethodName := ⟨RX6, "emit", "(II)V"⟩
abbrev cX6_readTest : ByteArray := prog_8_method_4_code
def yX6_readTest : MethodName := ⟨RX6, "readTest", "(LEelThroat$Tape;I)Z"⟩
abbrev cX6_readPart : ByteArray := prog_8_method_5_code
def yX6_readPart : MethodName := ⟨RX6, "readPart", "(LEelThroat$Tape;I)Z"⟩
abbrev cX6_readFact : ByteArray := prog_8_method_6_code
def yX6_readFact : MethodName := ⟨RX6, "readFact", "(LEelThroat$Tape;I)Z"⟩
abbrev cX6_readComparison : ByteArray := prog_8_method_7_code
def yX6_readComparison : MethodName := ⟨RX6, "readComparison", "(LEelThroat$Tape;)Z"⟩
abbrev cX6_readSign : ByteArray := prog_8_method_8_code
def yX6_readSign : MethodName := ⟨RX6, "readSign", "(LEelThroat$Tape;)I"⟩
abbrev cX6_readSum : ByteArray := prog_8_method_9_code
def yX6_readSum : MethodName := ⟨RX6, "readSum", "(LEelThroat$Tape;)Z"⟩
abbrev cX6_emitSign : ByteArray := prog_8_method_10_code
def yX6_emitSign : MethodName := ⟨RX6, "emitSign", "(I)V"⟩
abbrev cX6_readValue : ByteArray := prog_8_method_11_code
def yX6_readValue : MethodName := ⟨RX6, "readValue", "(LEelThroat$Tape;)Z"⟩
abbrev cX6_hasUnit : ByteArray := prog_8_method_12_code
def yX6_hasUnit : MethodName := ⟨RX6, "hasUnit", "(LEelThroat$Tape;I)Z"⟩
def RX7 : String := "EelThroat$Scene"
def TX7 : u_T := fun k => match k with
  | 0 => ("EelThroat$Scene", "river", "LEelThroat$River;", true)
  | 1 => ("EelThroat$Scene", "water", "LEelThroat$Water;", true)
  | 2 => ("EelThroat$Scene", "notes", "LEelThroat$Notes;", true)
  | 3 => ("EelThroat$Scene", "inForce", "I", false)
  | 4 => ("EelThroat$Scene", "x", "I", false)
  | _ => ("EelThroat$Scene", "made", "Z", false)
def tyX7 : Nat → FieldType := fun k => match k with
  | 0 => .object "EelThroat$River"
  | 1 => .object "EelThroat$Water"
  | 2 => .object "EelThroat$Notes"
  | 3 => .int
  | 4 => .int
  | _ => .boolean
abbrev wsX70 : List Cond := u_ws RX7 TX7 6
theorem nmX7 : ∀ a, a < 6 → ∀ b, b < 6 → a ≠ b → (TX7 a).2.1 ≠ (TX7 b).2.1 := by decide +kernel
theorem tyX7_ok : ∀ k, k < 6 → parseFieldDescriptor (TX7 k).2.2.1 = some (tyX7 k) := by decide +kernel
abbrev cX7_init : ByteArray := prog_9_method_1_code
def yX7_init : MethodName := ⟨RX7, "<init>", "()V"⟩
abbrev cX7_copy : ByteArray := prog_9_method_2_code
def yX7_copy : MethodName := ⟨RX7, "copy", "(LEelThroat$Scene;)V"⟩
abbrev cX7_bitsAt : ByteArray := prog_9_method_3_code
def yX7_bitsAt : MethodName := ⟨RX7, "bitsAt", "(I)I"⟩
abbrev cX7_freeBits : ByteArray := prog_9_method_4_code
def yX7_freeBits : MethodName := ⟨RX7, "freeBits", "()I"⟩
def RX8 : String := "EelThroat$Stream"
def TX8 : u_T := fun k => match k with
  | 0 => ("EelThroat$Stream", "stack", "[J", true)
  | 1 => ("EelThroat$Stream", "goal", "[I", true)
  | 2 => ("EelThroat$Stream", "crowd", "[I", true)
  | 3 => ("EelThroat$Stream", "trapsIn", "[I", true)
  | 4 => ("EelThroat$Stream", "river", "LEelThroat$River;", false)
  | 5 => ("EelThroat$Stream", "water", "LEelThroat$Water;", false)
  | 6 => ("EelThroat$Stream", "rule", "LEelThroat$Rule;", false)
  | 7 => ("EelThroat$Stream", "light", "I", false)
  | 8 => ("EelThroat$Stream", "nextLight", "I", false)
  | 9 => ("EelThroat$Stream", "self", "I", false)
  | 10 => ("EelThroat$Stream", "pool", "I", false)
  | _ => ("EelThroat$Stream", "moved", "Z", false)
def tyX8 : Nat → FieldType := fun k => match k with
  | 0 => .array .long
  | 1 => .array .int
  | 2 => .array .int
  | 3 => .array .int
  | 4 => .object "EelThroat$River"
  | 5 => .object "EelThroat$Water"
  | 6 => .object "EelThroat$Rule"
  | 7 => .int
  | 8 => .int
  | 9 => .int
  | 10 => .int
  | _ => .boolean
abbrev wsX80 : List Cond := u_ws RX8 TX8 12
theorem nmX8 : ∀ a, a < 12 → ∀ b, b < 12 → a ≠ b → (TX8 a).2.1 ≠ (TX8 b).2.1 := by decide +kernel
theorem tyX8_ok : ∀ k, k < 12 → parseFieldDescriptor (TX8 k).2.2.1 = some (tyX8 k) := by decide +kernel
abbrev cX8_init : ByteArray := prog_10_method_1_code
def yX8_init : MethodName := ⟨RX8, "<init>", "()V"⟩
abbrev cX8_pass : ByteArray := prog_10_method_2_code
def yX8_pass : MethodName := ⟨RX8, "pass", "(LEelThroat$River;LEelThroat$Water;LEelThroat$Rule;I)V"⟩
abbrev cX8_isStill : ByteArray := prog_10_method_3_code
def yX8_isStill : MethodName := ⟨RX8, "isStill", "()Z"⟩
abbrev cX8_step : ByteArray := prog_10_method_4_code
def yX8_step : MethodName := ⟨RX8, "step", "(LEelThroat$River;LEelThroat$Water;LEelThroat$Rule;I)I"⟩
abbrev cX8_countPools : ByteArray := prog_10_method_5_code
def yX8_countPools : MethodName := ⟨RX8, "countPools", "()V"⟩
abbrev cX8_goalOf : ByteArray := prog_10_method_6_code
def yX8_goalOf : MethodName := ⟨RX8, "goalOf", "(I)I"⟩
abbrev cX8_goesToSea : ByteArray := prog_10_method_7_code
def yX8_goesToSea : MethodName := ⟨RX8, "goesToSea", "(I)Z"⟩
abbrev cX8_fillTraps : ByteArray := prog_10_method_8_code
def yX8_fillTraps : MethodName := ⟨RX8, "fillTraps", "()I"⟩
abbrev cX8_worthOfPool : ByteArray := prog_10_method_9_code
def yX8_worthOfPool : MethodName := ⟨RX8, "worthOfPool", "()J"⟩
abbrev cX8_join : ByteArray := prog_10_method_10_code
def yX8_join : MethodName := ⟨RX8, "join", "(IJJ)J"⟩
abbrev cX8_wordValue : ByteArray := prog_10_method_11_code
def yX8_wordValue : MethodName := ⟨RX8, "wordValue", "(I)I"⟩
def RX9 : String := "EelThroat$Tape"
def TX9 : u_T := fun k => match k with
  | 0 => ("EelThroat$Tape", "bytes", "[B", true)
  | 1 => ("EelThroat$Tape", "size", "I", false)
  | 2 => ("EelThroat$Tape", "at", "I", false)
  | _ => ("EelThroat$Tape", "flaw", "I", false)
def tyX9 : Nat → FieldType := fun k => match k with
  | 0 => .array .byte
  | 1 => .int
  | 2 => .int
  | _ => .int
abbrev wsX90 : List Cond := u_ws RX9 TX9 4
theorem nmX9 : ∀ a, a < 4 → ∀ b, b < 4 → a ≠ b → (TX9 a).2.1 ≠ (TX9 b).2.1 := by decide +kernel
theorem tyX9_ok : ∀ k, k < 4 → parseFieldDescriptor (TX9 k).2.2.1 = some (tyX9 k) := by decide +kernel
abbrev cX9_init : ByteArray := prog_11_method_1_code
def yX9_init : MethodName := ⟨RX9, "<init>", "()V"⟩
abbrev cX9_put : ByteArray := prog_11_method_2_code
def yX9_put : MethodName := ⟨RX9, "put", "(I)V"⟩
abbrev cX9_rewind : ByteArray := prog_11_method_3_code
def yX9_rewind : MethodName := ⟨RX9, "rewind", "()V"⟩
abbrev cX9_blame : ByteArray := prog_11_method_4_code
def yX9_blame : MethodName := ⟨RX9, "blame", "(II)Z"⟩
abbrev cX9_peek : ByteArray := prog_11_method_5_code
def yX9_peek : MethodName := ⟨RX9, "peek", "()I"⟩
abbrev cX9_onDigit : ByteArray := prog_11_method_6_code
def yX9_onDigit : MethodName := ⟨RX9, "onDigit", "()Z"⟩
abbrev cX9_skip : ByteArray := prog_11_method_7_code
def yX9_skip : MethodName := ⟨RX9, "skip", "()V"⟩
abbrev cX9_over : ByteArray := prog_11_method_8_code
def yX9_over : MethodName := ⟨RX9, "over", "()Z"⟩
abbrev cX9_took : ByteArray := prog_11_method_9_code
def yX9_took : MethodName := ⟨RX9, "took", "(I)Z"⟩
abbrev cX9_find : ByteArray := prog_11_method_10_code
def yX9_find : MethodName := ⟨RX9, "find", "(Ljava/lang/String;)I"⟩
abbrev cX9_passWord : ByteArray := prog_11_method_11_code
def yX9_passWord : MethodName := ⟨RX9, "passWord", "()V"⟩
abbrev cX9_tookWord : ByteArray := prog_11_method_12_code
def yX9_tookWord : MethodName := ⟨RX9, "tookWord", "(Ljava/lang/String;)Z"⟩
abbrev cX9_number : ByteArray := prog_11_method_13_code
def yX9_number : MethodName := ⟨RX9, "number", "(II)I"⟩
def RX10 : String := "EelThroat$Water"
def TX10 : u_T := fun k => match k with
  | 0 => ("EelThroat$Water", "night", "I", false)
  | 1 => ("EelThroat$Water", "place", "[I", true)
  | 2 => ("EelThroat$Water", "whose", "[I", true)
  | 3 => ("EelThroat$Water", "sunk", "[I", true)
  | 4 => ("EelThroat$Water", "throat", "[I", true)
  | 5 => ("EelThroat$Water", "bait", "[I", true)
  | _ => ("EelThroat$Water", "inside", "[I", true)
def tyX10 : Nat → FieldType := fun k => match k with
  | 0 => .int
  | 1 => .array .int
  | 2 => .array .int
  | 3 => .array .int
  | 4 => .array .int
  | 5 => .array .int
  | _ => .array .int
abbrev wsX100 : List Cond := u_ws RX10 TX10 7
theorem nmX10 : ∀ a, a < 7 → ∀ b, b < 7 → a ≠ b → (TX10 a).2.1 ≠ (TX10 b).2.1 := by decide +kernel
theorem tyX10_ok : ∀ k, k < 7 → parseFieldDescriptor (TX10 k).2.2.1 = some (tyX10 k) := by decide +kernel
abbrev cX10_init : ByteArray := prog_12_method_1_code
def yX10_init : MethodName := ⟨RX10, "<init>", "()V"⟩
abbrev cX10_copy : ByteArray := prog_12_method_2_code
def yX10_copy : MethodName := ⟨RX10, "copy", "(LEelThroat$Water;)V"⟩
abbrev cX10_begin : ByteArray := prog_12_method_3_code
def yX10_begin : MethodName := ⟨RX10, "begin", "(LEelThroat$River;)V"⟩
abbrev cX10_bitsAt : ByteArray := prog_12_method_4_code
def yX10_bitsAt : MethodName := ⟨RX10, "bitsAt", "(II)I"⟩
abbrev cX10_fullTraps : ByteArray := prog_12_method_5_code
def yX10_fullTraps : MethodName := ⟨RX10, "fullTraps", "(I)I"⟩
abbrev cX10_places : ByteArray := prog_12_method_6_code
def yX10_places : MethodName := ⟨RX10, "places", "(I)J"⟩
def RX11 : String := "EelThroat"
def TX11 : u_T := fun k => match k with
  | 0 => ("EelThroat", "tape", "LEelThroat$Tape;", true)
  | 1 => ("EelThroat", "rules", "[LEelThroat$Rule;", true)
  | 2 => ("EelThroat", "ruleCount", "I", false)
  | 3 => ("EelThroat", "now", "LEelThroat$Scene;", true)
  | 4 => ("EelThroat", "images", "[LEelThroat$Scene;", true)
  | 5 => ("EelThroat", "draft", "LEelThroat$River;", true)
  | 6 => ("EelThroat", "acts", "LEelThroat$Acts;", true)
  | 7 => ("EelThroat", "stream", "LEelThroat$Stream;", true)
  | 8 => ("EelThroat", "asking", "LEelThroat$Asking;", true)
  | _ => ("EelThroat", "guessing", "LEelThroat$Guessing;", true)
def tyX11 : Nat → FieldType := fun k => match k with
  | 0 => .object "EelThroat$Tape"
  | 1 => .array (.object "EelThroat$Rule")
  | 2 => .int
  | 3 => .object "EelThroat$Scene"
  | 4 => .array (.object "EelThroat$Scene")
  | 5 => .object "EelThroat$River"
  | 6 => .object "EelThroat$Acts"
  | 7 => .object "EelThroat$Stream"
  | 8 => .object "EelThroat$Asking"
  | _ => .object "EelThroat$Guessing"
abbrev wsX110 : List Cond := u_ws RX11 TX11 10
theorem nmX11 : ∀ a, a < 10 → ∀ b, b < 10 → a ≠ b → (TX11 a).2.1 ≠ (TX11 b).2.1 := by decide +kernel
theorem tyX11_ok : ∀ k, k < 10 → parseFieldDescriptor (TX11 k).2.2.1 = some (tyX11 k) := by decide +kernel
abbrev cX11_init : ByteArray := prog_1_method_1_code
def yX11_init : MethodName := ⟨RX11, "<init>", "()V"⟩
abbrev cX11_feed : ByteArray := prog_1_method_2_code
def yX11_feed : MethodName := ⟨RX11, "feed", "(IIIII)I"⟩
abbrev cX11_end : ByteArray := prog_1_method_3_code
def yX11_end : MethodName := ⟨RX11, "end", "(I)I"⟩
abbrev cX11_river : ByteArray := prog_1_method_4_code
def yX11_river : MethodName := ⟨RX11, "river", "()I"⟩
abbrev cX11_rule : ByteArray := prog_1_method_5_code
def yX11_rule : MethodName := ⟨RX11, "rule", "()I"⟩
abbrev cX11_force : ByteArray := prog_1_method_6_code
def yX11_force : MethodName := ⟨RX11, "force", "(I)I"⟩
abbrev cX11_memory : ByteArray := prog_1_method_7_code
def yX11_memory : MethodName := ⟨RX11, "memory", "(II)I"⟩
abbrev cX11_trap : ByteArray := prog_1_method_8_code
def yX11_trap : MethodName := ⟨RX11, "trap", "(II)I"⟩
abbrev cX11_person : ByteArray := prog_1_method_9_code
def yX11_person : MethodName := ⟨RX11, "person", "(I)I"⟩
abbrev cX11_moon : ByteArray := prog_1_method_10_code
def yX11_moon : MethodName := ⟨RX11, "moon", "(I)I"⟩
abbrev cX11_night : ByteArray := prog_1_method_11_code
def yX11_night : MethodName := ⟨RX11, "night", "()I"⟩
abbrev cX11_lift : ByteArray := prog_1_method_12_code
def yX11_lift : MethodName := ⟨RX11, "lift", "(I)I"⟩
abbrev cX11_sink : ByteArray := prog_1_method_13_code
def yX11_sink : MethodName := ⟨RX11, "sink", "(III)I"⟩
abbrev cX11_free : ByteArray := prog_1_method_14_code
def yX11_free : MethodName := ⟨RX11, "free", "(II)I"⟩
abbrev cX11_give : ByteArray := prog_1_method_15_code
def yX11_give : MethodName := ⟨RX11, "give", "(II)I"⟩
abbrev cX11_undo : ByteArray := prog_1_method_16_code
def yX11_undo : MethodName := ⟨RX11, "undo", "()I"⟩
abbrev cX11_ahead : ByteArray := prog_1_method_17_code
def yX11_ahead : MethodName := ⟨RX11, "ahead", "(II)I"⟩
abbrev cX11_caught : ByteArray := prog_1_method_18_code
def yX11_caught : MethodName := ⟨RX11, "caught", "(II)I"⟩
abbrev cX11_atSea : ByteArray := prog_1_method_19_code
def yX11_atSea : MethodName := ⟨RX11, "atSea", "(I)I"⟩
abbrev cX11_full : ByteArray := prog_1_method_20_code
def yX11_full : MethodName := ⟨RX11, "full", "()I"⟩
abbrev cX11_bestSink : ByteArray := prog_1_method_21_code
def yX11_bestSink : MethodName := ⟨RX11, "bestSink", "(III)I"⟩
abbrev cX11_lay : ByteArray := prog_1_method_22_code
def yX11_lay : MethodName := ⟨RX11, "lay", "(IIII)I"⟩
abbrev cX11_throats : ByteArray := prog_1_method_23_code
def yX11_throats : MethodName := ⟨RX11, "throats", "(II)I"⟩
abbrev cX11_astray : ByteArray := prog_1_method_24_code
def yX11_astray : MethodName := ⟨RX11, "astray", "()I"⟩
abbrev cX11_rings : ByteArray := prog_1_method_25_code
def yX11_rings : MethodName := ⟨RX11, "rings", "(I)I"⟩
abbrev cX11_right : ByteArray := prog_1_method_26_code
def yX11_right : MethodName := ⟨RX11, "right", "(I)I"⟩
abbrev cX11_of : ByteArray := prog_1_method_27_code
def yX11_of : MethodName := ⟨RX11, "of", "(I)I"⟩
abbrev cX11_rests : ByteArray := prog_1_method_28_code
def yX11_rests : MethodName := ⟨RX11, "rests", "(IIII)I"⟩
abbrev cX11_cycle : ByteArray := prog_1_method_29_code
def yX11_cycle : MethodName := ⟨RX11, "cycle", "(I)I"⟩
abbrev cX11_pence : ByteArray := prog_1_method_30_code
def yX11_pence : MethodName := ⟨RX11, "pence", "(II)I"⟩
abbrev cX11_note : ByteArray := prog_1_method_31_code
def yX11_note : MethodName := ⟨RX11, "note", "(III)I"⟩
abbrev cX11_ruled : ByteArray := prog_1_method_32_code
def yX11_ruled : MethodName := ⟨RX11, "ruled", "(I)I"⟩
abbrev cX11_look : ByteArray := prog_1_method_33_code
def yX11_look : MethodName := ⟨RX11, "look", "(II)I"⟩
abbrev cX11_seed : ByteArray := prog_1_method_34_code
def yX11_seed : MethodName := ⟨RX11, "seed", "(I)I"⟩
abbrev cX11_moons : ByteArray := prog_1_method_35_code
def yX11_moons : MethodName := ⟨RX11, "moons", "(IIII)I"⟩
abbrev cX11_count : ByteArray := prog_1_method_36_code
def yX11_count : MethodName := ⟨RX11, "count", "(I)I"⟩
abbrev cX11_image : ByteArray := prog_1_method_37_code
def yX11_image : MethodName := ⟨RX11, "image", "(I)I"⟩
abbrev cX11_back : ByteArray := prog_1_method_38_code
def yX11_back : MethodName := ⟨RX11, "back", "(I)I"⟩
abbrev cX11_within : ByteArray := prog_1_method_39_code
def yX11_within : MethodName := ⟨RX11, "within", "(III)Z"⟩
abbrev cX11_isFreePlace : ByteArray := prog_1_method_40_code
def yX11_isFreePlace : MethodName := ⟨RX11, "isFreePlace", "(I)Z"⟩
abbrev cX11_isMemory : ByteArray := prog_1_method_41_code
def yX11_isMemory : MethodName := ⟨RX11, "isMemory", "(I)Z"⟩
abbrev cX11_isTrap : ByteArray := prog_1_method_42_code
def yX11_isTrap : MethodName := ⟨RX11, "isTrap", "(I)Z"⟩
abbrev cX11_isPerson : ByteArray := prog_1_method_43_code
def yX11_isPerson : MethodName := ⟨RX11, "isPerson", "(I)Z"⟩
abbrev cX11_isPool : ByteArray := prog_1_method_44_code
def yX11_isPool : MethodName := ⟨RX11, "isPool", "(I)Z"⟩
abbrev cX11_isEmptyTrap : ByteArray := prog_1_method_45_code
def yX11_isEmptyTrap : MethodName := ⟨RX11, "isEmptyTrap", "(I)Z"⟩
abbrev cX11_isFree : ByteArray := prog_1_method_46_code
def yX11_isFree : MethodName := ⟨RX11, "isFree", "(I)Z"⟩
abbrev cX11_isHad : ByteArray := prog_1_method_47_code
def yX11_isHad : MethodName := ⟨RX11, "isHad", "(I)Z"⟩
abbrev cX11_ruling : ByteArray := prog_1_method_48_code
def yX11_ruling : MethodName := ⟨RX11, "ruling", "()LEelThroat$Rule;"⟩
def RX12 : String := "EelThroatModel"
def TX12 : u_T := fun k => match k with
  | 0 => ("EelThroatModel", "tape", "[B", true)
  | 1 => ("EelThroatModel", "taped", "I", false)
  | 2 => ("EelThroatModel", "rules", "I", false)
  | 3 => ("EelThroatModel", "sign", "[I", true)
  | 4 => ("EelThroatModel", "length", "[I", true)
  | 5 => ("EelThroatModel", "clause", "[I", true)
  | 6 => ("EelThroatModel", "clauses", "[I", true)
  | 7 => ("EelThroatModel", "read", "[I", true)
  | 8 => ("EelThroatModel", "next", "I", false)
  | 9 => ("EelThroatModel", "wrong", "I", false)
  | 10 => ("EelThroatModel", "number", "I", false)
  | 11 => ("EelThroatModel", "text", "I", false)
  | 12 => ("EelThroatModel", "made", "I", false)
  | 13 => ("EelThroatModel", "deep", "I", false)
  | 14 => ("EelThroatModel", "lines", "I", false)
  | 15 => ("EelThroatModel", "open", "[I", true)
  | 16 => ("EelThroatModel", "opened", "I", false)
  | 17 => ("EelThroatModel", "stack", "[J", true)
  | 18 => ("EelThroatModel", "top", "I", false)
  | 19 => ("EelThroatModel", "word", "[J", true)
  | 20 => ("EelThroatModel", "said", "[I", true)
  | 21 => ("EelThroatModel", "force", "I", false)
  | 22 => ("EelThroatModel", "x", "I", false)
  | 23 => ("EelThroatModel", "lightAlone", "I", false)
  | 24 => ("EelThroatModel", "goesTo", "[I", true)
  | 25 => ("EelThroatModel", "wasSaid", "[I", true)
  | 26 => ("EelThroatModel", "undone", "I", false)
  | 27 => ("EelThroatModel", "kept", "[I", true)
  | 28 => ("EelThroatModel", "hasBy", "[I", true)
  | 29 => ("EelThroatModel", "whereThen", "[I", true)
  | 30 => ("EelThroatModel", "isFit", "[Z", true)
  | 31 => ("EelThroatModel", "poolThen", "[I", true)
  | 32 => ("EelThroatModel", "drawX", "J", false)
  | 33 => ("EelThroatModel", "images", "[I", true)
  | 34 => ("EelThroatModel", "imageForce", "[I", true)
  | 35 => ("EelThroatModel", "imageX", "[I", true)
  | _ => ("EelThroatModel", "isMade", "[Z", true)
def tyX12 : Nat → FieldType := fun k => match k with
  | 0 => .array .byte
  | 1 => .int
  | 2 => .int
  | 3 => .array .int
  | 4 => .array .int
  | 5 => .array .int
  | 6 => .array .int
  | 7 => .array .int
  | 8 => .int
  | 9 => .int
  | 10 => .int
  | 11 => .int
  | 12 => .int
  | 13 => .int
  | 14 => .int
  | 15 => .array .int
  | 16 => .int
  | 17 => .array .long
  | 18 => .int
  | 19 => .array .long
  | 20 => .array .int
  | 21 => .int
  | 22 => .int
  | 23 => .int
  | 24 => .array .int
  | 25 => .array .int
  | 26 => .int
  | 27 => .array .int
  | 28 => .array .int
  | 29 => .array .int
  | 30 => .array .boolean
  | 31 => .array .int
  | 32 => .long
  | 33 => .array .int
  | 34 => .array .int
  | 35 => .array .int
  | _ => .array .boolean
abbrev wsX120 : List Cond := u_ws RX12 TX12 37
theorem nmX12 : ∀ a, a < 37 → ∀ b, b < 37 → a ≠ b → (TX12 a).2.1 ≠ (TX12 b).2.1 := by decide +kernel
theorem tyX12_ok : ∀ k, k < 37 → parseFieldDescriptor (TX12 k).2.2.1 = some (tyX12 k) := by decide +kernel
abbrev cX12_init : ByteArray := prog_14_method_1_code
def yX12_init : MethodName := ⟨RX12, "<init>", "()V"⟩
abbrev cX12_in : ByteArray := prog_14_method_2_code
def yX12_in : MethodName := ⟨RX12, "in", "(JJJ)Z"⟩
abbrev cX12_isOf : ByteArray := prog_14_method_3_code
def yX12_isOf : MethodName := ⟨RX12, "isOf", "(II)Z"⟩
abbrev cX12_bits : ByteArray := prog_14_method_4_code
def yX12_bits : MethodName := ⟨RX12, "bits", "(I)I"⟩
abbrev cX12_four : ByteArray := prog_14_method_5_code
def yX12_four : MethodName := ⟨RX12, "four", "(I)V"⟩
abbrev cX12_feed : ByteArray := prog_14_method_6_code
def yX12_feed : MethodName := ⟨RX12, "feed", "(IIIII)I"⟩
abbrev cX12_end : ByteArray := prog_14_method_7_code
def yX12_end : MethodName := ⟨RX12, "end", "(I)I"⟩
abbrev cX12_fails : ByteArray := prog_14_method_8_code
def yX12_fails : MethodName := ⟨RX12, "fails", "(II)Z"⟩
abbrev cX12_see : ByteArray := prog_14_method_9_code
def yX12_see : MethodName := ⟨RX12, "see", "()I"⟩
abbrev cX12_isDigit : ByteArray := prog_14_method_10_code
def yX12_isDigit : MethodName := ⟨RX12, "isDigit", "(I)Z"⟩
abbrev cX12_isLetter : ByteArray := prog_14_method_11_code
def yX12_isLetter : MethodName := ⟨RX12, "isLetter", "(I)Z"⟩
abbrev cX12_isWord : ByteArray := prog_14_method_12_code
def yX12_isWord : MethodName := ⟨RX12, "isWord", "(J)Z"⟩
abbrev cX12_passWord : ByteArray := prog_14_method_13_code
def yX12_passWord : MethodName := ⟨RX12, "passWord", "()V"⟩
abbrev cX12_takesWord : ByteArray := prog_14_method_14_code
def yX12_takesWord : MethodName := ⟨RX12, "takesWord", "(J)Z"⟩
abbrev cX12_numberHere : ByteArray := prog_14_method_15_code
def yX12_numberHere : MethodName := ⟨RX12, "numberHere", "(II)Z"⟩
abbrev cX12_wordHere : ByteArray := prog_14_method_16_code
def yX12_wordHere : MethodName := ⟨RX12, "wordHere", "()I"⟩
abbrev cX12_puts : ByteArray := prog_14_method_17_code
def yX12_puts : MethodName := ⟨RX12, "puts", "(II)V"⟩
abbrev cX12_makes : ByteArray := prog_14_method_18_code
def yX12_makes : MethodName := ⟨RX12, "makes", "(I)Z"⟩
abbrev cX12_opens : ByteArray := prog_14_method_19_code
def yX12_opens : MethodName := ⟨RX12, "opens", "(I)Z"⟩
abbrev cX12_strength : ByteArray := prog_14_method_20_code
def yX12_strength : MethodName := ⟨RX12, "strength", "(I)I"⟩
abbrev cX12_layDown : ByteArray := prog_14_method_21_code
def yX12_layDown : MethodName := ⟨RX12, "layDown", "(I)V"⟩
abbrev cX12_value : ByteArray := prog_14_method_22_code
def yX12_value : MethodName := ⟨RX12, "value", "()Z"⟩
abbrev cX12_term : ByteArray := prog_14_method_23_code
def yX12_term : MethodName := ⟨RX12, "term", "()Z"⟩
abbrev cX12_sum : ByteArray := prog_14_method_24_code
def yX12_sum : MethodName := ⟨RX12, "sum", "()Z"⟩
abbrev cX12_compare : ByteArray := prog_14_method_25_code
def yX12_compare : MethodName := ⟨RX12, "compare", "()Z"⟩
abbrev cX12_fact : ByteArray := prog_14_method_26_code
def yX12_fact : MethodName := ⟨RX12, "fact", "()Z"⟩
abbrev cX12_isInside : ByteArray := prog_14_method_27_code
def yX12_isInside : MethodName := ⟨RX12, "isInside", "()Z"⟩
abbrev cX12_closes : ByteArray := prog_14_method_28_code
def yX12_closes : MethodName := ⟨RX12, "closes", "()V"⟩
abbrev cX12_tested : ByteArray := prog_14_method_29_code
def yX12_tested : MethodName := ⟨RX12, "tested", "()Z"⟩
abbrev cX12_isGoHere : ByteArray := prog_14_method_30_code
def yX12_isGoHere : MethodName := ⟨RX12, "isGoHere", "()Z"⟩
abbrev cX12_cellHere : ByteArray := prog_14_method_31_code
def yX12_cellHere : MethodName := ⟨RX12, "cellHere", "(III)Z"⟩
abbrev cX12_isRiverHere : ByteArray := prog_14_method_32_code
def yX12_isRiverHere : MethodName := ⟨RX12, "isRiverHere", "(I)Z"⟩
abbrev cX12_isMoonHere : ByteArray := prog_14_method_33_code
def yX12_isMoonHere : MethodName := ⟨RX12, "isMoonHere", "(I)Z"⟩
abbrev cX12_isPersonHere : ByteArray := prog_14_method_34_code
def yX12_isPersonHere : MethodName := ⟨RX12, "isPersonHere", "(I)Z"⟩
abbrev cX12_isMemoryHere : ByteArray := prog_14_method_35_code
def yX12_isMemoryHere : MethodName := ⟨RX12, "isMemoryHere", "(I)Z"⟩
abbrev cX12_isTrapHere : ByteArray := prog_14_method_36_code
def yX12_isTrapHere : MethodName := ⟨RX12, "isTrapHere", "(I)Z"⟩
abbrev cX12_riverLineHere : ByteArray := prog_14_method_37_code
def yX12_riverLineHere : MethodName := ⟨RX12, "riverLineHere", "(I)Z"⟩
abbrev cX12_isRiverWord : ByteArray := prog_14_method_38_code
def yX12_isRiverWord : MethodName := ⟨RX12, "isRiverWord", "()Z"⟩
abbrev cX12_clauseHere : ByteArray := prog_14_method_39_code
def yX12_clauseHere : MethodName := ⟨RX12, "clauseHere", "()Z"⟩
abbrev cX12_readsAll : ByteArray := prog_14_method_40_code
def yX12_readsAll : MethodName := ⟨RX12, "readsAll", "()Z"⟩
abbrev cX12_rule : ByteArray := prog_14_method_41_code
def yX12_rule : MethodName := ⟨RX12, "rule", "()I"⟩
abbrev cX12_river : ByteArray := prog_14_method_42_code
def yX12_river : MethodName := ⟨RX12, "river", "()I"⟩
abbrev cX12_isRule : ByteArray := prog_14_method_43_code
def yX12_isRule : MethodName := ⟨RX12, "isRule", "(I)Z"⟩
abbrev cX12_push : ByteArray := prog_14_method_44_code
def yX12_push : MethodName := ⟨RX12, "push", "(J)V"⟩
abbrev cX12_pop : ByteArray := prog_14_method_45_code
def yX12_pop : MethodName := ⟨RX12, "pop", "()J"⟩
abbrev cX12_one : ByteArray := prog_14_method_46_code
def yX12_one : MethodName := ⟨RX12, "one", "(IJJ)J"⟩
abbrev cX12_reckons : ByteArray := prog_14_method_47_code
def yX12_reckons : MethodName := ⟨RX12, "reckons", "(III)J"⟩
abbrev cX12_isRiver : ByteArray := prog_14_method_48_code
def yX12_isRiver : MethodName := ⟨RX12, "isRiver", "()Z"⟩
abbrev cX12_rounds : ByteArray := prog_14_method_49_code
def yX12_rounds : MethodName := ⟨RX12, "rounds", "()I"⟩
abbrev cX12_isPool : ByteArray := prog_14_method_50_code
def yX12_isPool : MethodName := ⟨RX12, "isPool", "(I)Z"⟩
abbrev cX12_isPerson : ByteArray := prog_14_method_51_code
def yX12_isPerson : MethodName := ⟨RX12, "isPerson", "(I)Z"⟩
abbrev cX12_isMemory : ByteArray := prog_14_method_52_code
def yX12_isMemory : MethodName := ⟨RX12, "isMemory", "(I)Z"⟩
abbrev cX12_isTrap : ByteArray := prog_14_method_53_code
def yX12_isTrap : MethodName := ⟨RX12, "isTrap", "(I)Z"⟩
abbrev cX12_isFree : ByteArray := prog_14_method_54_code
def yX12_isFree : MethodName := ⟨RX12, "isFree", "(I)Z"⟩
abbrev cX12_isHad : ByteArray := prog_14_method_55_code
def yX12_isHad : MethodName := ⟨RX12, "isHad", "(I)Z"⟩
abbrev cX12_poolOf : ByteArray := prog_14_method_56_code
def yX12_poolOf : MethodName := ⟨RX12, "poolOf", "(I)I"⟩
abbrev cX12_baitOf : ByteArray := prog_14_method_57_code
def yX12_baitOf : MethodName := ⟨RX12, "baitOf", "(I)I"⟩
abbrev cX12_memoryIn : ByteArray := prog_14_method_58_code
def yX12_memoryIn : MethodName := ⟨RX12, "memoryIn", "(I)I"⟩
abbrev cX12_isEmptyTrap : ByteArray := prog_14_method_59_code
def yX12_isEmptyTrap : MethodName := ⟨RX12, "isEmptyTrap", "(I)Z"⟩
abbrev cX12_onesThat : ByteArray := prog_14_method_60_code
def yX12_onesThat : MethodName := ⟨RX12, "onesThat", "(II)I"⟩
abbrev cX12_lightOn : ByteArray := prog_14_method_61_code
def yX12_lightOn : MethodName := ⟨RX12, "lightOn", "(I)I"⟩
abbrev cX12_begins : ByteArray := prog_14_method_62_code
def yX12_begins : MethodName := ⟨RX12, "begins", "()V"⟩
abbrev cX12_force : ByteArray := prog_14_method_63_code
def yX12_force : MethodName := ⟨RX12, "force", "(I)I"⟩
abbrev cX12_memory : ByteArray := prog_14_method_64_code
def yX12_memory : MethodName := ⟨RX12, "memory", "(II)I"⟩
abbrev cX12_trap : ByteArray := prog_14_method_65_code
def yX12_trap : MethodName := ⟨RX12, "trap", "(II)I"⟩
abbrev cX12_person : ByteArray := prog_14_method_66_code
def yX12_person : MethodName := ⟨RX12, "person", "(I)I"⟩
abbrev cX12_moon : ByteArray := prog_14_method_67_code
def yX12_moon : MethodName := ⟨RX12, "moon", "(I)I"⟩
abbrev cX12_summedBy : ByteArray := prog_14_method_68_code
def yX12_summedBy : MethodName := ⟨RX12, "summedBy", "(I)J"⟩
abbrev cX12_sumOf : ByteArray := prog_14_method_69_code
def yX12_sumOf : MethodName := ⟨RX12, "sumOf", "(II)J"⟩
abbrev cX12_choice : ByteArray := prog_14_method_70_code
def yX12_choice : MethodName := ⟨RX12, "choice", "(I)I"⟩
abbrev cX12_swim : ByteArray := prog_14_method_71_code
def yX12_swim : MethodName := ⟨RX12, "swim", "()V"⟩
abbrev cX12_fitsIn : ByteArray := prog_14_method_72_code
def yX12_fitsIn : MethodName := ⟨RX12, "fitsIn", "(II)Z"⟩
abbrev cX12_catches : ByteArray := prog_14_method_73_code
def yX12_catches : MethodName := ⟨RX12, "catches", "(I)I"⟩
abbrev cX12_passes : ByteArray := prog_14_method_74_code
def yX12_passes : MethodName := ⟨RX12, "passes", "()I"⟩
abbrev cX12_passesAll : ByteArray := prog_14_method_75_code
def yX12_passesAll : MethodName := ⟨RX12, "passesAll", "(I)V"⟩
abbrev cX12_keepsAct : ByteArray := prog_14_method_76_code
def yX12_keepsAct : MethodName := ⟨RX12, "keepsAct", "()V"⟩
abbrev cX12_undo : ByteArray := prog_14_method_77_code
def yX12_undo : MethodName := ⟨RX12, "undo", "()I"⟩
abbrev cX12_night : ByteArray := prog_14_method_78_code
def yX12_night : MethodName := ⟨RX12, "night", "()I"⟩
abbrev cX12_lift : ByteArray := prog_14_method_79_code
def yX12_lift : MethodName := ⟨RX12, "lift", "(I)I"⟩
abbrev cX12_sink : ByteArray := prog_14_method_80_code
def yX12_sink : MethodName := ⟨RX12, "sink", "(III)I"⟩
abbrev cX12_free : ByteArray := prog_14_method_81_code
def yX12_free : MethodName := ⟨RX12, "free", "(II)I"⟩
abbrev cX12_give : ByteArray := prog_14_method_82_code
def yX12_give : MethodName := ⟨RX12, "give", "(II)I"⟩
abbrev cX12_keeps : ByteArray := prog_14_method_83_code
def yX12_keeps : MethodName := ⟨RX12, "keeps", "()V"⟩
abbrev cX12_laysBack : ByteArray := prog_14_method_84_code
def yX12_laysBack : MethodName := ⟨RX12, "laysBack", "()V"⟩
abbrev cX12_ahead : ByteArray := prog_14_method_85_code
def yX12_ahead : MethodName := ⟨RX12, "ahead", "(II)I"⟩
abbrev cX12_caught : ByteArray := prog_14_method_86_code
def yX12_caught : MethodName := ⟨RX12, "caught", "(II)I"⟩
abbrev cX12_atSea : ByteArray := prog_14_method_87_code
def yX12_atSea : MethodName := ⟨RX12, "atSea", "(I)I"⟩
abbrev cX12_trapped : ByteArray := prog_14_method_88_code
def yX12_trapped : MethodName := ⟨RX12, "trapped", "()I"⟩
abbrev cX12_full : ByteArray := prog_14_method_89_code
def yX12_full : MethodName := ⟨RX12, "full", "()I"⟩
abbrev cX12_trappedIn : ByteArray := prog_14_method_90_code
def yX12_trappedIn : MethodName := ⟨RX12, "trappedIn", "(I)I"⟩
abbrev cX12_bestSink : ByteArray := prog_14_method_91_code
def yX12_bestSink : MethodName := ⟨RX12, "bestSink", "(III)I"⟩
abbrev cX12_lay : ByteArray := prog_14_method_92_code
def yX12_lay : MethodName := ⟨RX12, "lay", "(IIII)I"⟩
abbrev cX12_throats : ByteArray := prog_14_method_93_code
def yX12_throats : MethodName := ⟨RX12, "throats", "(II)I"⟩
abbrev cX12_isAstray : ByteArray := prog_14_method_94_code
def yX12_isAstray : MethodName := ⟨RX12, "isAstray", "(I)Z"⟩
abbrev cX12_astray : ByteArray := prog_14_method_95_code
def yX12_astray : MethodName := ⟨RX12, "astray", "()I"⟩
abbrev cX12_isLinked : ByteArray := prog_14_method_96_code
def yX12_isLinked : MethodName := ⟨RX12, "isLinked", "(II)Z"⟩
abbrev cX12_isRing : ByteArray := prog_14_method_97_code
def yX12_isRing : MethodName := ⟨RX12, "isRing", "(I)Z"⟩
abbrev cX12_rings : ByteArray := prog_14_method_98_code
def yX12_rings : MethodName := ⟨RX12, "rings", "(I)I"⟩
abbrev cX12_right : ByteArray := prog_14_method_99_code
def yX12_right : MethodName := ⟨RX12, "right", "(I)I"⟩
abbrev cX12_isRest : ByteArray := prog_14_method_100_code
def yX12_isRest : MethodName := ⟨RX12, "isRest", "(II)Z"⟩
abbrev cX12_sizeIn : ByteArray := prog_14_method_101_code
def yX12_sizeIn : MethodName := ⟨RX12, "sizeIn", "(I)I"⟩
abbrev cX12_rests : ByteArray := prog_14_method_102_code
def yX12_rests : MethodName := ⟨RX12, "rests", "(IIII)I"⟩
abbrev cX12_areAlike : ByteArray := prog_14_method_103_code
def yX12_areAlike : MethodName := ⟨RX12, "areAlike", "(II)Z"⟩
abbrev cX12_cycle : ByteArray := prog_14_method_104_code
def yX12_cycle : MethodName := ⟨RX12, "cycle", "(I)I"⟩
abbrev cX12_sizesOf : ByteArray := prog_14_method_105_code
def yX12_sizesOf : MethodName := ⟨RX12, "sizesOf", "(I)I"⟩
abbrev cX12_pence : ByteArray := prog_14_method_106_code
def yX12_pence : MethodName := ⟨RX12, "pence", "(II)I"⟩
abbrev cX12_note : ByteArray := prog_14_method_107_code
def yX12_note : MethodName := ⟨RX12, "note", "(III)I"⟩
abbrev cX12_freeIn : ByteArray := prog_14_method_108_code
def yX12_freeIn : MethodName := ⟨RX12, "freeIn", "(I)I"⟩
abbrev cX12_areNotesSo : ByteArray := prog_14_method_109_code
def yX12_areNotesSo : MethodName := ⟨RX12, "areNotesSo", "(I)Z"⟩
abbrev cX12_areAllSo : ByteArray := prog_14_method_110_code
def yX12_areAllSo : MethodName := ⟨RX12, "areAllSo", "(II)Z"⟩
abbrev cX12_of : ByteArray := prog_14_method_111_code
def yX12_of : MethodName := ⟨RX12, "of", "(I)I"⟩
abbrev cX12_fillsFits : ByteArray := prog_14_method_112_code
def yX12_fillsFits : MethodName := ⟨RX12, "fillsFits", "(I)V"⟩
abbrev cX12_ruled : ByteArray := prog_14_method_113_code
def yX12_ruled : MethodName := ⟨RX12, "ruled", "(I)I"⟩
abbrev cX12_alikeAt : ByteArray := prog_14_method_114_code
def yX12_alikeAt : MethodName := ⟨RX12, "alikeAt", "(I)I"⟩
abbrev cX12_look : ByteArray := prog_14_method_115_code
def yX12_look : MethodName := ⟨RX12, "look", "(II)I"⟩
abbrev cX12_seed : ByteArray := prog_14_method_116_code
def yX12_seed : MethodName := ⟨RX12, "seed", "(I)I"⟩
abbrev cX12_draw : ByteArray := prog_14_method_117_code
def yX12_draw : MethodName := ⟨RX12, "draw", "(I)I"⟩
abbrev cX12_moons : ByteArray := prog_14_method_118_code
def yX12_moons : MethodName := ⟨RX12, "moons", "(IIII)I"⟩
abbrev cX12_count : ByteArray := prog_14_method_119_code
def yX12_count : MethodName := ⟨RX12, "count", "(I)I"⟩
abbrev cX12_image : ByteArray := prog_14_method_120_code
def yX12_image : MethodName := ⟨RX12, "image", "(I)I"⟩
abbrev cX12_back : ByteArray := prog_14_method_121_code
def yX12_back : MethodName := ⟨RX12, "back", "(I)I"⟩
def RJ6 : String := "java/lang/Integer"
abbrev cJ6_bitCount_0f7a4 : ByteArray := prog_15_method_49_code
def yJ6_bitCount_0f7a4 : MethodName := ⟨RJ6, "bitCount", "(I)I"⟩
def RJ9 : String := "java/lang/Math"
abbrev cJ9_max_7cf53 : ByteArray := prog_16_method_65_code
def yJ9_max_7cf53 : MethodName := ⟨RJ9, "max", "(II)I"⟩
abbrev cJ9_min_7cf53 : ByteArray := prog_16_method_69_code
def yJ9_min_7cf53 : MethodName := ⟨RJ9, "min", "(II)I"⟩
def RJ0 : String := "java/lang/String"
abbrev cJ0_length_8abf5 : ByteArray := prog_17_method_54_code
def yJ0_length_8abf5 : MethodName := ⟨RJ0, "length", "()I"⟩
abbrev cJ0_charAt_5068e : ByteArray := prog_17_method_56_code
def yJ0_charAt_5068e : MethodName := ⟨RJ0, "charAt", "(I)C"⟩
abbrev cJ0_coder_7d493 : ByteArray := prog_17_method_152_code
def yJ0_coder_7d493 : MethodName := ⟨RJ0, "coder", "()B"⟩
abbrev cJ0_isLatin1_aae02 : ByteArray := prog_17_method_154_code
def yJ0_isLatin1_aae02 : MethodName := ⟨RJ0, "isLatin1", "()Z"⟩
abbrev cJ0_checkIndex_df160 : ByteArray := prog_17_method_155_code
def yJ0_checkIndex_df160 : MethodName := ⟨RJ0, "checkIndex", "(II)V"⟩
def RJ1 : String := "java/lang/StringLatin1"
abbrev cJ1_charAt_3b067 : ByteArray := prog_18_method_2_code
def yJ1_charAt_3b067 : MethodName := ⟨RJ1, "charAt", "([BI)C"⟩
def RJ2 : String := "java/lang/StringUTF16"
abbrev cJ2_getChar_3b067 : ByteArray := prog_19_method_5_code
def yJ2_getChar_3b067 : MethodName := ⟨RJ2, "getChar", "([BI)C"⟩
abbrev cJ2_length_9d52b : ByteArray := prog_19_method_6_code
def yJ2_length_9d52b : MethodName := ⟨RJ2, "length", "([B)I"⟩
abbrev cJ2_charAt_3b067 : ByteArray := prog_19_method_83_code
def yJ2_charAt_3b067 : MethodName := ⟨RJ2, "charAt", "([BI)C"⟩
abbrev cJ2_checkIndex_2214a : ByteArray := prog_19_method_91_code
def yJ2_checkIndex_2214a : MethodName := ⟨RJ2, "checkIndex", "(I[B)V"⟩
def RJ10 : String := "java/lang/System"
def RJ3 : String := "jdk/internal/util/Preconditions"
abbrev cJ3_checkIndex_8e157 : ByteArray := prog_21_method_11_code
def yJ3_checkIndex_8e157 : MethodName := ⟨RJ3, "checkIndex", "(IILjava/util/function/BiFunction;)I"⟩
abbrev vwCl : List vw_C := [(RX0, TX0, 3), (RX1, TX1, 6), (RX2, TX2, 4), (RX4, TX4, 4), (RX5, TX5, 17), (RX6, TX6, 5), (RX7, TX7, 6), (RX8, TX8, 12), (RX9, TX9, 4), (RX10, TX10, 7), (RX11, TX11, 10), (RX12, TX12, 37)]
end
section
/-! What memory stands for: cells at addresses -/
def jcnts : List Nat := [1, 1, 1, 5, 6, 6, 5, 3, 1, 27, 1, 1, 1, 1, 1, 1, 1, 1, 5, 5, 5, 6, 6, 6, 6, 6, 6, 6, 6, 6, 6, 6, 6, 3, 3, 3, 3, 1, 27, 27, 27, 27, 27, 27, 1, 1, 1, 1, 1, 1, 1, 1, 1, 1, 1, 1, 1, 1, 1, 1, 1, 1, 1, 1, 1, 1, 1]
def jcnt (f : Nat) : Nat := bif Nat.beq f 100 then 7 else jcnts.getD f 0
def jfds : List (List (Nat × Nat × Nat)) := [[(2, 12, 0), (0, 0, 0), (0, 0, 0)], [(5, 7, 1), (5, 9, 25), (2, 13, 0), (2, 14, 0), (2, 15, 0), (1, 0, 0)], [(5, 7, 2), (5, 9, 26), (2, 16, 0), (2, 17, 0)], [(0, 0, 0), (2, 18, 0), (2, 19, 0), (2, 20, 0)], [(0, 0, 0), (0, 0, 0), (0, 0, 0), (0, 0, 0), (0, 0, 0), (0, 0, 0), (0, 0, 0), (2, 21, 0), (2, 22, 0), (2, 23, 0), (2, 24, 0), (2, 25, 0), (2, 26, 0), (2, 27, 0), (2, 28, 0), (2, 29, 0), (2, 30, 0)], [(2, 31, 0), (2, 32, 0), (0, 0, 0), (0, 0, 0), (0, 0, 0)], [(2, 4, 0), (2, 9, 0), (2, 3, 0), (0, 0, 0), (0, 0, 0), (0, 0, 0)], [(2, 33, 0), (2, 34, 0), (2, 35, 0), (2, 36, 0), (3, 4, 0), (3, 9, 0), (3, 5, 0), (0, 0, 0), (0, 0, 0), (0, 0, 0), (0, 0, 0), (0, 0, 0)], [(2, 37, 0), (0, 0, 0), (0, 0, 0), (0, 0, 0)], [(0, 0, 0), (2, 38, 0), (2, 39, 0), (2, 40, 0), (2, 41, 0), (2, 42, 0), (2, 43, 0)], [(2, 8, 0), (2, 44, 0), (0, 0, 0), (2, 6, 0), (2, 45, 0), (5, 4, 5), (2, 0, 0), (2, 7, 0), (2, 1, 0), (2, 2, 0)], [(2, 46, 0), (0, 0, 0), (0, 0, 0), (2, 47, 0), (2, 48, 0), (2, 49, 0), (2, 50, 0), (2, 51, 0), (0, 0, 0), (0, 0, 0), (0, 0, 0), (0, 0, 0), (0, 0, 0), (0, 0, 0), (0, 0, 0), (2, 52, 0), (0, 0, 0), (2, 53, 0), (0, 0, 0), (2, 54, 0), (2, 55, 0), (0, 0, 0), (0, 0, 0), (0, 0, 0), (2, 56, 0), (2, 57, 0), (0, 0, 0), (2, 58, 0), (2, 59, 0), (2, 60, 0), (2, 61, 0), (2, 62, 0), (1, 0, 0), (2, 63, 0), (2, 64, 0), (2, 65, 0), (2, 66, 0)]]
def jarrs : List (Nat × Nat × Nat × Nat) := [(6, 20, 9, 5), (1, 61, 0, 0), (0, 64, 0, 0), (0, 64, 0, 0), (0, 7, 0, 0), (0, 42, 0, 0), (0, 10, 0, 0), (0, 10, 0, 0), (0, 10, 0, 0), (0, 12, 0, 0), (0, 4, 0, 0), (0, 6, 0, 0), (0, 6, 0, 0), (0, 6, 0, 0), (0, 6, 0, 0), (0, 4, 0, 0), (0, 4, 0, 0), (0, 4, 0, 0), (0, 4, 0, 0), (0, 400, 0, 0), (0, 400, 0, 0), (1, 64, 0, 0), (0, 6, 0, 0), (0, 12, 0, 0), (0, 12, 0, 0), (2, 400, 0, 0), (0, 6, 0, 0), (0, 6, 0, 0), (0, 4, 0, 0), (0, 4, 0, 0), (0, 4, 0, 0), (0, 4, 0, 0), (4, 6, 5, 0), (5, 4, 6, 1), (2, 400, 0, 0), (0, 2400, 0, 0), (0, 7, 0, 0), (0, 288, 0, 0), (0, 6, 0, 0), (0, 81, 0, 0), (0, 400, 0, 0), (1, 64, 0, 0), (1, 12, 0, 0), (0, 112, 0, 0), (0, 6, 0, 0), (0, 300, 0, 0), (0, 15, 0, 0), (0, 128, 0, 0), (0, 366, 0, 0), (3, 7, 0, 0), (0, 42, 0, 0), (0, 448, 0, 0), (0, 4, 0, 0), (0, 4, 0, 0), (3, 4, 0, 0)]
def jall : List (Nat × Int) := (List.range 67).flatMap fun f => (List.range (jcnts.getD f 0)).map fun (i : Nat) => (f, Int.ofNat i)
def jval (f : Nat) (i : Int) : Prop := 0 ≤ i ∧ i < (jcnt f : Int)
set_option maxRecDepth 100000 in
theorem jall_nd : jall.Nodup := by decide +kernel
theorem jall_mem {f : Nat} {i : Int} (hf : f < 67) (h : jval f i) : (f, i) ∈ jall := by
  have hc : jcnt f = jcnts.getD f 0 := by
    unfold jcnt
    have : Nat.beq f 100 = false := by
      cases hb : Nat.beq f 100 with
      | false => rfl
      | true => have := Nat.eq_of_beq_eq_true hb; omega
    rw [this]; rfl
  refine List.mem_flatMap.mpr ⟨f, List.mem_range.mpr hf, List.mem_map.mpr ⟨i.toNat, List.mem_range.mpr ?_, ?_⟩⟩
  · have := h.2
    rw [hc] at this
    have := h.1
    omega
  · have := h.1
    have e : Int.ofNat i.toNat = i := by
      show (i.toNat : Int) = i
      omega
    rw [e]
def jfv (ad : Nat → Int → Nat) (mem : jMem) (f : Nat) (i : Int) (k : Nat) (q : Nat × Nat × Nat) : Value := match q.1 with
  | 0 => .int (Int32.ofInt (jrI mem f i (k : Int)))
  | 1 => .long (Int64.ofInt (jrJ mem f i (k : Int)))
  | 2 => .ref (ad q.2.1 i)
  | 3 => va_rf ((jrS mem f i k).map (ad q.2.1))
  | _ => .ref (ad q.2.1 (q.2.2 : Int))
def jfvs (ad : Nat → Int → Nat) (mem : jMem) (f : Nat) (i : Int) : Nat → List (Nat × Nat × Nat) → List Value
  | _, [] => []
  | k, q :: l => jfv ad mem f i k q :: jfvs ad mem f i (k + 1) l
theorem jfvs_get (ad : Nat → Int → Nat) (mem : jMem) (f : Nat) (i : Int) : ∀ (l : List (Nat × Nat × Nat)) (n k : Nat), (jfvs ad mem f i n l)[k]? = (l[k]?).map (jfv ad mem f i (n + k))
  | [], _, _ => by simp [jfvs]
  | q :: l, n, 0 => by simp [jfvs]
  | q :: l, n, k + 1 => by
    simp only [jfvs, List.getElem?_cons_succ]
    rw [jfvs_get ad mem f i l (n + 1) k, Nat.add_assoc, Nat.add_comm 1 k]
theorem jfvs_len (ad : Nat → Int → Nat) (mem : jMem) (f : Nat) (i : Int) : ∀ (l : List (Nat × Nat × Nat)) (n : Nat), (jfvs ad mem f i n l).length = l.length
  | [], _ => rfl
  | q :: l, n => by simp [jfvs, jfvs_len ad mem f i l (n + 1)]
def jarc (ad : Nat → Int → Nat) (cA : Nat → ClassId) (mem : jMem) (f : Nat) (i : Int) (q : Nat × Nat × Nat × Nat) : va_E := match q.1 with
  | 0 => .inl (cA 0, q.2.1, .inl fun j => Int32.ofInt (jrI mem f i (j : Int)))
  | 1 => .inl (cA 1, q.2.1, .inr (.inl fun j => Int64.ofInt (jrJ mem f i (j : Int))))
  | 2 => .inl (cA 2, q.2.1, .inl fun j => Int32.ofInt (jrI mem f i (j : Int)))
  | 3 => .inl (cA 3, q.2.1, .inl fun j => Int32.ofInt (jrI mem f i (j : Int)))
  | t => .inl (cA t, q.2.1, .inr (.inr (.inr (.inr fun j => some (ad q.2.2.1 ((j : Int) + (q.2.2.2 : Int)))))))
def jcell (ad : Nat → Int → Nat) (cA : Nat → ClassId) (mem : jMem) (f : Nat) (i : Int) : va_E := bif Nat.blt f 12 then .inr (f, jfvs ad mem f i 0 (jfds.getD f [])) else jarc ad cA mem f i (jarrs.getD (f - 12) (0, 0, 0, 0))
def jws (ad : Nat → Int → Nat) (cA : Nat → ClassId) (mem : jMem) : va_W := jall.map fun q => (ad q.1 q.2, jcell ad cA mem q.1 q.2)
abbrev jtys (cA : Nat → ClassId) : List (ClassId × FieldType) := [(cA 0, .int), (cA 1, .long), (cA 2, .byte), (cA 3, .boolean), (cA 4, .object "EelThroat$Rule"), (cA 5, .object "EelThroat$Scene"), (cA 6, .object "EelThroat$Water")]
theorem jws_get (ad : Nat → Int → Nat) (cA : Nat → ClassId) (mem : jMem) (k : Nat) : (jws ad cA mem)[k]? = (jall[k]?).map fun q => (ad q.1 q.2, jcell ad cA mem q.1 q.2) := by
  unfold jws
  rw [List.getElem?_map]
theorem jws_at (ad : Nat → Int → Nat) (cA : Nat → ClassId) (mem : jMem) {f : Nat} {i : Int} (h : (f, i) ∈ jall) : ∃ k : Nat, jall[k]? = some (f, i) ∧ (jws ad cA mem)[k]? = some (ad f i, jcell ad cA mem f i) := by
  obtain ⟨k, hk⟩ := List.getElem?_of_mem h
  exact ⟨k, hk, by rw [jws_get, hk]; rfl⟩
/-- one cell changed -/
theorem jws_set (ad : Nat → Int → Nat) (cA : Nat → ClassId) (mem mem' : jMem) {f k : Nat} {i : Int} (hk : jall[k]? = some (f, i)) (ho : ∀ g j, (g, j) ≠ (f, i) → jcell ad cA mem' g j = jcell ad cA mem g j) : (jws ad cA mem).set k (ad f i, jcell ad cA mem' f i) = jws ad cA mem' := by
  apply List.ext_getElem?
  intro n
  have hlt : k < jall.length := (List.getElem?_eq_some_iff.mp hk).1
  by_cases hn : k = n
  · subst hn
    rw [List.getElem?_set_self (by unfold jws; rw [List.length_map]; exact hlt), jws_get, hk]
    rfl
  · rw [List.getElem?_set_ne hn, jws_get, jws_get]
    cases hq : jall[n]? with
    | none => rfl
    | some q =>
      obtain ⟨g, j⟩ := q
      have hne : (g, j) ≠ (f, i) := by
        intro e
        rw [e] at hq
        exact hn ((List.getElem?_inj hlt jall_nd).mp (hk.trans hq.symm))
      simp only [Option.map_some]
      rw [ho g j hne]
/-- addresses apart -/
def jInj (ad : Nat → Int → Nat) : Prop := ∀ p ∈ jall, ∀ q ∈ jall, ad p.1 p.2 = ad q.1 q.2 → p = q
def jA (ad : Nat → Int → Nat) : Nat → Prop := fun a => ∃ q ∈ jall, ad q.1 q.2 = a
theorem jws_D {ad : Nat → Int → Nat} {cA : Nat → ClassId} {mem : jMem} (h : jInj ad) : va_D (jA ad) (jws ad cA mem) := by
  constructor
  · intro i j p q hp hq e
    rw [jws_get] at hp hq
    cases h1 : jall[i]? with
    | none => rw [h1] at hp; cases hp
    | some a =>
      cases h2 : jall[j]? with
      | none => rw [h2] at hq; cases hq
      | some b =>
        rw [h1] at hp
        rw [h2] at hq
        cases hp
        cases hq
        have hab := h a (List.mem_of_getElem? h1) b (List.mem_of_getElem? h2) e
        rw [hab] at h1
        exact (List.getElem?_inj (List.getElem?_eq_some_iff.mp h1).1 jall_nd).mp (h1.trans h2.symm)
  · intro k q hk
    rw [jws_get] at hk
    cases h1 : jall[k]? with
    | none => rw [h1] at hk; cases hk
    | some a =>
      rw [h1] at hk
      cases hk
      exact ⟨a, List.mem_of_getElem? h1, rfl⟩
def jokI (x : Int) : Prop := -2147483648 ≤ x ∧ x < 2147483648
def jokJ (x : Int) : Prop := -9223372036854775808 ≤ x ∧ x < 9223372036854775808
def jokV : jV → Prop
  | .inl x => jokI x
  | .inr (.inl x) => jokJ x
  | .inr (.inr (.inl (f, o))) => ∀ i, o = some i → jval f i
  | _ => True
def jokL (l : List jV) : Prop := ∀ v ∈ l, jokV v
def jokM (mem : jMem) : Prop := (∀ f i k, jokI (jrI mem f i k)) ∧ (∀ f i k, jokJ (jrJ mem f i k)) ∧ ∀ f i k f' mp j, (jfds.getD f [])[k]? = some (3, f', mp) → jrS mem f i k = some j → jval f' j
def jcv (ad : Nat → Int → Nat) : jV → Value
  | .inl x => .int (Int32.ofInt x)
  | .inr (.inl x) => .long (Int64.ofInt x)
  | .inr (.inr (.inl (f, o))) => va_rf (o.map (ad f))
  | _ => .null
theorem jieq_iff (a b : Int) : jieq a b = true ↔ a = b := by
  cases a <;> cases b <;> simp [jieq] <;> omega
theorem jieq_ne {a b : Int} (h : a ≠ b) : jieq a b = false := by
  cases e : jieq a b with
  | false => rfl
  | true => exact absurd ((jieq_iff a b).mp e) h
theorem jieq_rf (a : Int) : jieq a a = true := (jieq_iff a a).mpr rfl
theorem jrI_w (m : jMem) (f : Nat) (i k v : Int) (g : Nat) (j n : Int) : jrI (jwI m f i k v) g j n = if g = f ∧ j = i ∧ n = k then v else jrI m g j n := by
  unfold jrI jwI
  by_cases h1 : g = f
  · by_cases h2 : j = i
    · by_cases h3 : n = k
      · simp [h1, h2, h3, jieq_rf]
      · simp [h1, h2, h3, jieq_rf, jieq_ne h3]
    · simp [h1, h2, jieq_ne h2]
  · have : Nat.beq g f = false := by
      cases e : Nat.beq g f with
      | false => rfl
      | true => exact absurd (Nat.eq_of_beq_eq_true e) h1
    simp [h1, this]
theorem jrJ_w (m : jMem) (f : Nat) (i k v : Int) (g : Nat) (j n : Int) : jrJ (jwJ m f i k v) g j n = if g = f ∧ j = i ∧ n = k then v else jrJ m g j n := by
  unfold jrJ jwJ
  by_cases h1 : g = f
  · by_cases h2 : j = i
    · by_cases h3 : n = k
      · simp [h1, h2, h3, jieq_rf]
      · simp [h1, h2, h3, jieq_rf, jieq_ne h3]
    · simp [h1, h2, jieq_ne h2]
  · have : Nat.beq g f = false := by
      cases e : Nat.beq g f with
      | false => rfl
      | true => exact absurd (Nat.eq_of_beq_eq_true e) h1
    simp [h1, this]
theorem jrS_w (m : jMem) (f : Nat) (i : Int) (k : Nat) (v : Option Int) (g : Nat) (j : Int) (n : Nat) : jrS (jwS m f i k v) g j n = if g = f ∧ j = i ∧ n = k then v else jrS m g j n := by
  unfold jrS jwS
  by_cases h1 : g = f
  · by_cases h2 : j = i
    · by_cases h3 : n = k
      · simp [h1, h2, h3, jieq_rf]
      · have : Nat.beq n k = false := by
          cases e : Nat.beq n k with
          | false => rfl
          | true => exact absurd (Nat.eq_of_beq_eq_true e) h3
        simp [h1, h2, h3, jieq_rf, this]
    · simp [h1, h2, jieq_ne h2]
  · have : Nat.beq g f = false := by
      cases e : Nat.beq g f with
      | false => rfl
      | true => exact absurd (Nat.eq_of_beq_eq_true e) h1
    simp [h1, this]
theorem jrI_wJ (m : jMem) (f : Nat) (i k v : Int) : jrI (jwJ m f i k v) = jrI m := rfl
theorem jrI_wS (m : jMem) (f : Nat) (i : Int) (k : Nat) (v : Option Int) : jrI (jwS m f i k v) = jrI m := rfl
theorem jrJ_wI (m : jMem) (f : Nat) (i k v : Int) : jrJ (jwI m f i k v) = jrJ m := rfl
theorem jrJ_wS (m : jMem) (f : Nat) (i : Int) (k : Nat) (v : Option Int) : jrJ (jwS m f i k v) = jrJ m := rfl
theorem jrS_wI (m : jMem) (f : Nat) (i k v : Int) : jrS (jwI m f i k v) = jrS m := rfl
theorem jrS_wJ (m : jMem) (f : Nat) (i k v : Int) : jrS (jwJ m f i k v) = jrS m := rfl
theorem jrJ_wC (m : jMem) (f : Nat) (i sp : Int) (f' : Nat) (i' dp n : Int) : jrJ (jwC m f i sp f' i' dp n) = jrJ m := rfl
theorem jrS_wC (m : jMem) (f : Nat) (i sp : Int) (f' : Nat) (i' dp n : Int) : jrS (jwC m f i sp f' i' dp n) = jrS m := rfl
theorem jrI_wC (m : jMem) (f : Nat) (i sp : Int) (f' : Nat) (i' dp n : Int) (g : Nat) (j k : Int) : jrI (jwC m f i sp f' i' dp n) g j k = if g = f' ∧ j = i' ∧ dp ≤ k ∧ k < dp + n then jrI m f i (sp + (k - dp)) else jrI m g j k := by
  unfold jrI jwC
  by_cases h1 : g = f'
  · simp [h1]
  · have : Nat.beq g f' = false := by
      cases e : Nat.beq g f' with
      | false => rfl
      | true => exact absurd (Nat.eq_of_beq_eq_true e) h1
    simp [h1, this]
end
section
/-! What a step that has an answer found on the stack; numbers -/
theorem jpI_some {st : List jV} {k : Int → List jV → jR} {r : jV × jMem} (h : jpI st k = some r) : ∃ x t, st = .inl x :: t ∧ k x t = some r := by
  unfold jpI at h
  split at h
  · exact ⟨_, _, rfl, h⟩
  · cases h
theorem jpJ_some {st : List jV} {k : Int → List jV → jR} {r : jV × jMem} (h : jpJ st k = some r) : ∃ x t, st = .inr (.inl x) :: t ∧ k x t = some r := by
  unfold jpJ at h
  split at h
  · exact ⟨_, _, rfl, h⟩
  · cases h
theorem jpR_some {f : Nat} {st : List jV} {k : Option Int → List jV → jR} {r : jV × jMem} (h : jpR f st k = some r) : ∃ o t, st = .inr (.inr (.inl (f, o))) :: t ∧ k o t = some r := by
  unfold jpR at h
  split at h
  · rename_i g o t
    cases hb : Nat.beq g f with
    | true =>
      rw [hb] at h
      cases Nat.eq_of_beq_eq_true hb
      exact ⟨_, _, rfl, h⟩
    | false => rw [hb] at h; cases h
  · cases h
theorem jsm_some {o : Option Int} {k : Int → jR} {r : jV × jMem} (h : jsm o k = some r) : ∃ i, o = some i ∧ k i = some r := by
  cases o with
  | none => cases h
  | some i => exact ⟨i, rfl, h⟩
theorem jpD_some {f : Nat} {st : List jV} {k : Int → List jV → jR} {r : jV × jMem} (h : jpD f st k = some r) : ∃ i t, st = .inr (.inr (.inl (f, some i))) :: t ∧ k i t = some r := by
  obtain ⟨o, t, h1, h2⟩ := jpR_some h
  obtain ⟨i, rfl, h3⟩ := jsm_some h2
  exact ⟨i, t, h1, h3⟩
theorem jix_some {n : Nat} {x : Int} {k : jR} {r : jV × jMem} (h : jix n x k = some r) : 0 ≤ x ∧ x < (n : Int) ∧ k = some r := by
  cases x with
  | ofNat j =>
    change (bif Nat.blt j n then k else none) = some r at h
    cases hb : Nat.blt j n with
    | true =>
      rw [hb] at h
      have : j < n := Nat.le_of_ble_eq_true hb
      exact ⟨Int.natCast_nonneg j, by show (j : Int) < n; omega, h⟩
    | false => rw [hb] at h; cases h
  | negSucc j => cases h
theorem jbo_some {v : Int} {k : jR} {r : jV × jMem} (h : jbo v k = some r) : (v = 0 ∨ v = 1) ∧ k = some r := by
  cases v with
  | ofNat j =>
    change (bif Nat.blt j 2 then k else none) = some r at h
    cases hb : Nat.blt j 2 with
    | true =>
      rw [hb] at h
      have : j < 2 := Nat.le_of_ble_eq_true hb
      refine ⟨?_, h⟩
      rcases (show j = 0 ∨ j = 1 by omega) with rfl | rfl
      · exact Or.inl rfl
      · exact Or.inr rfl
    | false => rw [hb] at h; cases h
  | negSucc j => cases h
theorem jnz_some {v : Int} {k : jR} {r : jV × jMem} (h : jnz v k = some r) : v ≠ 0 ∧ k = some r := by
  cases v with
  | ofNat j =>
    change (bif Nat.blt 0 j then k else none) = some r at h
    cases hb : Nat.blt 0 j with
    | true =>
      rw [hb] at h
      have : 0 < j := Nat.le_of_ble_eq_true hb
      exact ⟨by show (j : Int) ≠ 0; omega, h⟩
    | false => rw [hb] at h; cases h
  | negSucc j => exact ⟨by omega, h⟩
theorem jbnd_some {x : jR} {k : jV → jMem → jR} {r : jV × jMem} (h : jbnd x k = some r) : ∃ v m, x = some (v, m) ∧ k v m = some r := by
  cases x with
  | none => cases h
  | some q => exact ⟨q.1, q.2, rfl, h⟩
theorem jb1_some {st : List jV} {k : Int → Int → List jV → jR} {r : jV × jMem} (h : jb1 st k = some r) : ∃ x y t, st = .inl y :: .inl x :: t ∧ k x y t = some r := by
  obtain ⟨y, t, rfl, h1⟩ := jpI_some h
  obtain ⟨x, t, rfl, h2⟩ := jpI_some h1
  exact ⟨x, y, t, rfl, h2⟩
theorem jb2_some {st : List jV} {k : Int → Int → List jV → jR} {r : jV × jMem} (h : jb2 st k = some r) : ∃ x y t, st = .inr (.inl y) :: .inr (.inl x) :: t ∧ k x y t = some r := by
  obtain ⟨y, t, rfl, h1⟩ := jpJ_some h
  obtain ⟨x, t, rfl, h2⟩ := jpJ_some h1
  exact ⟨x, y, t, rfl, h2⟩
theorem jrecv_some {rv : Nat} {as : List jV} {k : jR} {r : jV × jMem} (h : jrecv rv as k = some r) : k = some r ∧ ∀ f, rv = f + 1 → ∃ i t, as = .inr (.inr (.inl (f, some i))) :: t := by
  cases rv with
  | zero => exact ⟨h, fun f e => by cases e⟩
  | succ f =>
    unfold jrecv at h
    dsimp only at h
    split at h
    · rename_i g o t
      cases hb : Nat.beq g f with
      | true =>
        rw [hb] at h
        cases Nat.eq_of_beq_eq_true hb
        obtain ⟨i, rfl, h2⟩ := jsm_some h
        exact ⟨h2, fun f e => by cases e; exact ⟨i, t, rfl⟩⟩
      | false => rw [hb] at h; cases h
    · cases h
theorem jtake_some : ∀ (n : Nat) (st acc as rest : List jV), jtake n st acc = some (as, rest) → as.reverse ++ rest = acc.reverse ++ st ∧ as.length = n + acc.length
  | 0, st, acc, as, rest, h => by cases h; exact ⟨rfl, by omega⟩
  | n + 1, [], acc, as, rest, h => by cases h
  | n + 1, v :: st, acc, as, rest, h => by
    have := jtake_some n st (v :: acc) as rest h
    refine ⟨by rw [this.1]; simp, by rw [this.2]; simp; omega⟩
theorem jtI {x : Int} (h : jokI x) : (Int32.ofInt x).toInt = x := Int32.toInt_ofInt_of_le (by have := h.1; omega) (by have := h.2; omega)
theorem jtJ {x : Int} (h : jokJ x) : (Int64.ofInt x).toInt = x := Int64.toInt_ofInt_of_le (by have := h.1; omega) (by have := h.2; omega)
theorem jokI_t (x : Int32) : jokI x.toInt := ⟨by have := Int32.le_toInt x; omega, by have := Int32.toInt_lt x; omega⟩
theorem jokJ_t (x : Int64) : jokJ x.toInt := ⟨by have := Int64.le_toInt x; omega, by have := Int64.toInt_lt x; omega⟩
theorem jw32_t (x : Int) : jw32 x = (Int32.ofInt x).toInt := by
  rw [Int32.toInt_ofInt]; rfl
theorem jw64_t (x : Int) : jw64 x = (Int64.ofInt x).toInt := by
  rw [Int64.toInt_ofInt]; rfl
theorem jokI_w (x : Int) : jokI (jw32 x) := by rw [jw32_t]; exact jokI_t _
theorem jokJ_w (x : Int) : jokJ (jw64 x) := by rw [jw64_t]; exact jokJ_t _
theorem jo32 (x : Int) : Int32.ofInt (jw32 x) = Int32.ofInt x := by rw [jw32_t, Int32.ofInt_toInt]
theorem jo64 (x : Int) : Int64.ofInt (jw64 x) = Int64.ofInt x := by rw [jw64_t, Int64.ofInt_toInt]
theorem jIJ {x : Int} (h : jokI x) : jokJ x := ⟨by have := h.1; omega, by have := h.2; omega⟩
theorem j_add (x y : Int) : Int32.ofInt (jw32 (x + y)) = Int32.ofInt x + Int32.ofInt y := by rw [jo32, Int32.ofInt_add]
theorem j_sub (x y : Int) : Int32.ofInt (jw32 (x - y)) = Int32.ofInt x - Int32.ofInt y := by rw [jo32, Int32.ofInt_sub]
theorem j_mul (x y : Int) : Int32.ofInt (jw32 (x * y)) = Int32.ofInt x * Int32.ofInt y := by rw [jo32, Int32.ofInt_mul]
theorem j_ladd (x y : Int) : Int64.ofInt (jw64 (x + y)) = Int64.ofInt x + Int64.ofInt y := by rw [jo64, Int64.ofInt_add]
theorem j_lsub (x y : Int) : Int64.ofInt (jw64 (x - y)) = Int64.ofInt x - Int64.ofInt y := by rw [jo64, Int64.ofInt_sub]
theorem j_lmul (x y : Int) : Int64.ofInt (jw64 (x * y)) = Int64.ofInt x * Int64.ofInt y := by rw [jo64, Int64.ofInt_mul]
theorem j_div {x y : Int} (hx : jokI x) (hy : jokI y) : Int32.ofInt (jw32 (x.tdiv y)) = Int32.ofInt x / Int32.ofInt y := by
  rw [jo32, ← Int32.ofInt_toInt (Int32.ofInt x / Int32.ofInt y), Int32.toInt_div, jtI hx, jtI hy]
  exact (jo32 (x.tdiv y)).symm
theorem j_ldiv {x y : Int} (hx : jokJ x) (hy : jokJ y) : Int64.ofInt (jw64 (x.tdiv y)) = Int64.ofInt x / Int64.ofInt y := by
  rw [jo64, ← Int64.ofInt_toInt (Int64.ofInt x / Int64.ofInt y), Int64.toInt_div, jtJ hx, jtJ hy]
  exact (jo64 (x.tdiv y)).symm
theorem j_rem {x y : Int} (hx : jokI x) (hy : jokI y) : Int32.ofInt (x.tmod y) = Int32.ofInt x - Int32.ofInt x / Int32.ofInt y * Int32.ofInt y := by
  rw [← j_div hx hy, jo32, ← Int32.ofInt_mul, ← Int32.ofInt_sub]
  congr 1
  have := Int.tmod_add_mul_tdiv x y
  have e : y * x.tdiv y = x.tdiv y * y := Int.mul_comm _ _
  omega
theorem j_lrem {x y : Int} (hx : jokJ x) (hy : jokJ y) : Int64.ofInt (x.tmod y) = Int64.ofInt x - Int64.ofInt x / Int64.ofInt y * Int64.ofInt y := by
  rw [← j_ldiv hx hy, jo64, ← Int64.ofInt_mul, ← Int64.ofInt_sub]
  congr 1
  have := Int.tmod_add_mul_tdiv x y
  have e : y * x.tdiv y = x.tdiv y * y := Int.mul_comm _ _
  omega
theorem jtmod_le {x y : Int} (h : 0 ≤ x) : x.tmod y ≤ x := by
  have h1 := Int.natAbs_tmod x y
  have h2 := Nat.mod_le x.natAbs y.natAbs
  omega
theorem jok_tmod {x y : Int} (hx : jokI x) : jokI (x.tmod y) := by
  have h1 := hx.1
  have h2 := hx.2
  rcases Int.lt_or_le x 0 with h | h
  · have a : x.tmod y = -((-x).tmod y) := by rw [Int.neg_tmod]; omega
    have b : 0 ≤ (-x).tmod y := Int.tmod_nonneg _ (by omega)
    have c : (-x).tmod y ≤ -x := jtmod_le (by omega)
    exact ⟨by omega, by omega⟩
  · have b : 0 ≤ x.tmod y := Int.tmod_nonneg _ h
    have c : x.tmod y ≤ x := jtmod_le h
    exact ⟨by omega, by omega⟩
theorem jok_ltmod {x y : Int} (hx : jokJ x) : jokJ (x.tmod y) := by
  have h1 := hx.1
  have h2 := hx.2
  rcases Int.lt_or_le x 0 with h | h
  · have a : x.tmod y = -((-x).tmod y) := by rw [Int.neg_tmod]; omega
    have b : 0 ≤ (-x).tmod y := Int.tmod_nonneg _ (by omega)
    have c : (-x).tmod y ≤ -x := jtmod_le (by omega)
    exact ⟨by omega, by omega⟩
  · have b : 0 ≤ x.tmod y := Int.tmod_nonneg _ h
    have c : x.tmod y ≤ x := jtmod_le h
    exact ⟨by omega, by omega⟩
theorem j_i2l {x : Int} (h : jokI x) : (Int32.ofInt x).toInt64 = Int64.ofInt x := by
  rw [← Int64.ofInt_toInt (Int32.ofInt x).toInt64, Int32.toInt_toInt64, jtI h]
theorem j_l2i {x : Int} (h : jokJ x) : (Int64.ofInt x).toInt32 = Int32.ofInt (jw32 x) := by
  rw [jo32, ← Int32.ofInt_toInt (Int64.ofInt x).toInt32, Int64.toInt_toInt32, jtJ h]
  exact jo32 x
theorem j_i2b {x : Int} (h : jokI x) : (Int32.ofInt x).toInt8.toInt32 = Int32.ofInt (jw8 x) := by
  rw [← Int32.ofInt_toInt (Int32.ofInt x).toInt8.toInt32, Int8.toInt_toInt32, Int32.toInt_toInt8, jtI h]
  rfl
theorem jokI_8 (x : Int) : jokI (jw8 x) := by
  unfold jw8
  have h1 := Int.le_bmod (x := x) (m := 256) (by omega)
  have h2 := Int.bmod_lt (x := x) (m := 256) (by omega)
  exact ⟨by omega, by omega⟩
theorem j_cmp {x y : Int} (hx : jokJ x) (hy : jokJ y) : lg_cmp (Int64.ofInt x) (Int64.ofInt y) = Int32.ofInt (jlcmp x y) := by
  unfold lg_cmp jlcmp
  have e1 : Int64.ofInt x < Int64.ofInt y ↔ x < y := by rw [Int64.lt_iff_toInt_lt, jtJ hx, jtJ hy]
  have e2 : Int64.ofInt x = Int64.ofInt y ↔ x = y := by rw [← Int64.toInt_inj, jtJ hx, jtJ hy]
  have e3 : Int64.ofInt y < Int64.ofInt x ↔ y < x := by rw [Int64.lt_iff_toInt_lt, jtJ hx, jtJ hy]
  by_cases h1 : x < y
  · have h3 : ¬ y < x := by omega
    have h4 : ¬ x = y := by omega
    simp [e2, e3, h1, h3, h4] <;> rfl
  · by_cases h2 : x = y
    · simp [h2] <;> rfl
    · have h3 : y < x := by omega
      simp [e3, h1, h2, h3] <;> rfl
theorem j_eq {x y : Int} (hx : jokI x) (hy : jokI y) : Int32.ofInt x = Int32.ofInt y ↔ x = y := by rw [← Int32.toInt_inj, jtI hx, jtI hy]
theorem j_lt {x y : Int} (hx : jokI x) (hy : jokI y) : Int32.ofInt x < Int32.ofInt y ↔ x < y := by rw [Int32.lt_iff_toInt_lt, jtI hx, jtI hy]
theorem j_le {x y : Int} (hx : jokI x) (hy : jokI y) : Int32.ofInt x ≤ Int32.ofInt y ↔ x ≤ y := by rw [Int32.le_iff_toInt_le, jtI hx, jtI hy]
theorem j_0 : Int32.ofInt 0 = 0 := rfl
theorem jok0 : jokI 0 := ⟨by omega, by omega⟩
theorem j_in {x : Int} {n : Nat} (h0 : 0 ≤ x) (h : x < (n : Int)) (hx : jokI x) : vp_in (Int32.ofInt x) n := by
  rw [vp_in_iff, jtI hx]
  exact ⟨h0, h⟩
theorem j_cl {x : Int} (h0 : 0 ≤ x) (hx : jokI x) : (((Int32.ofInt x).toNatClampNeg : Nat) : Int) = x := by
  have : (Int32.ofInt x).toNatClampNeg = (Int32.ofInt x).toInt.toNat := rfl
  rw [this, jtI hx]
  omega
end
section
/-! Static facts of the program: methods, links, constants; each entry of the code tables checked -/
def jTBL : List Cond := lw_tbl.filter goodWord
theorem jT_of {w : Cond} (h : w ∈ lw_tbl) (hg : goodWord w = true) : w ∈ jTBL := List.mem_filter.mpr ⟨h, hg⟩
theorem jT_good {w : Cond} (h : w ∈ jTBL) : w ∈ lw_tbl ∧ goodWord w = true := List.mem_filter.mp h
def jown : List String := ["EelThroat$Acts", "EelThroat$Asking", "EelThroat$Guessing", "EelThroat$Notes", "EelThroat$River", "EelThroat$Rule", "EelThroat$Scene", "EelThroat$Stream", "EelThroat$Tape", "EelThroat$Water", "EelThroat", "EelThroatModel", "EelThroat$Hands", "java/lang/Math", "java/lang/Integer"]
/-- name, bytes, locals, type of the answer, how many arguments, static, kind and family of the answer, class's number -/
abbrev jMI : Type := MethodName × ByteArray × Nat × Option FieldType × Nat × Bool × Nat × Nat × Nat
def jinfo : List jMI := [
  (yX0_keep, cX0_keep, 2, none, 2, false, 0, 0, 0),
  (yX0_takeBack, cX0_takeBack, 2, (some .int), 2, false, 1, 0, 0),
  (yX1_after, cX1_after, 4, (some (.object "EelThroat$Water")), 4, false, 3, 9, 1),
  (yX1_firstCatch, cX1_firstCatch, 6, (some .int), 5, false, 1, 0, 1),
  (yX1_firstFull, cX1_firstFull, 5, (some .int), 3, false, 1, 0, 1),
  (yX1_bestPlace, cX1_bestPlace, 15, (some .int), 6, false, 1, 0, 1),
  (yX1_smellsOfFree, cX1_smellsOfFree, 3, (some .int), 1, true, 1, 0, 1),
  (yX1_poolsBefore, cX1_poolsBefore, 8, (some .int), 6, false, 1, 0, 1),
  (yX1_leastThroat, cX1_leastThroat, 6, (some .int), 5, false, 1, 0, 1),
  (yX1_steadyBaits, cX1_steadyBaits, 10, (some .int), 7, false, 1, 0, 1),
  (yX1_sizeIn, cX1_sizeIn, 4, (some .int), 3, false, 1, 0, 1),
  (yX1_isSteady, cX1_isSteady, 5, (some .boolean), 2, false, 1, 0, 1),
  (yX1_firstRound, cX1_firstRound, 7, (some .int), 4, false, 1, 0, 1),
  (yX1_drawnNights, cX1_drawnNights, 11, (some .int), 7, false, 1, 0, 1),
  (yX1_draw, cX1_draw, 1, (some .int), 1, false, 1, 0, 1),
  (yX2_owners, cX2_owners, 6, (some .int), 4, false, 1, 0, 2),
  (yX2_sieve, cX2_sieve, 7, (some .int), 5, false, 1, 0, 2),
  (yX2_firstFitting, cX2_firstFitting, 1, (some .int), 1, false, 1, 0, 2),
  (yX2_fits, cX2_fits, 8, (some .boolean), 5, false, 1, 0, 2),
  (yX2_bestParting, cX2_bestParting, 8, (some .int), 4, false, 1, 0, 2),
  (yX2_mostAlike, cX2_mostAlike, 7, (some .int), 3, false, 1, 0, 2),
  (yX3_strayed, cX3_strayed, 4, (some .int), 1, true, 1, 0, 12),
  (yX3_ringed, cX3_ringed, 5, (some .int), 2, true, 1, 0, 12),
  (yX3_isRing, cX3_isRing, 8, (some .boolean), 2, true, 1, 0, 12),
  (yX3_share, cX3_share, 9, (some .int), 3, true, 1, 0, 12),
  (yX3_sizesOf, cX3_sizesOf, 4, (some .int), 2, true, 1, 0, 12),
  (yX4_add, cX4_add, 4, (some .boolean), 4, false, 1, 0, 3),
  (yX4_copy, cX4_copy, 2, none, 2, false, 0, 0, 3),
  (yX4_lastNight, cX4_lastNight, 3, (some .int), 1, false, 1, 0, 3),
  (yX4_hold, cX4_hold, 3, (some .boolean), 2, false, 1, 0, 3),
  (yX4_poolOrNone, cX4_poolOrNone, 1, (some .int), 1, true, 1, 0, 3),
  (yX5_copy, cX5_copy, 2, none, 2, false, 0, 0, 4),
  (yX5_round, cX5_round, 1, (some .int), 1, false, 1, 0, 4),
  (yX5_lightOf, cX5_lightOf, 2, (some .int), 2, false, 1, 0, 4),
  (yX5_read, cX5_read, 5, (some .boolean), 2, false, 1, 0, 4),
  (yX5_hasNoRoom, cX5_hasNoRoom, 2, (some .boolean), 2, false, 1, 0, 4),
  (yX5_readClause, cX5_readClause, 3, none, 3, false, 0, 0, 4),
  (yX6_read, cX6_read, 4, (some .boolean), 2, false, 1, 0, 5),
  (yX6_emit, cX6_emit, 3, none, 3, false, 0, 0, 5),
  (yX6_readTest, cX6_readTest, 5, (some .boolean), 3, false, 1, 0, 5),
  (yX6_readPart, cX6_readPart, 5, (some .boolean), 3, false, 1, 0, 5),
  (yX6_readFact, cX6_readFact, 5, (some .boolean), 3, false, 1, 0, 5),
  (yX6_readComparison, cX6_readComparison, 4, (some .boolean), 2, false, 1, 0, 5),
  (yX6_readSign, cX6_readSign, 1, (some .int), 1, true, 1, 0, 5),
  (yX6_readSum, cX6_readSum, 6, (some .boolean), 2, false, 1, 0, 5),
  (yX6_emitSign, cX6_emitSign, 2, none, 2, false, 0, 0, 5),
  (yX6_readValue, cX6_readValue, 4, (some .boolean), 2, false, 1, 0, 5),
  (yX6_hasUnit, cX6_hasUnit, 3, (some .boolean), 3, false, 1, 0, 5),
  (yX7_copy, cX7_copy, 2, none, 2, false, 0, 0, 6),
  (yX7_bitsAt, cX7_bitsAt, 2, (some .int), 2, false, 1, 0, 6),
  (yX7_freeBits, cX7_freeBits, 3, (some .int), 1, false, 1, 0, 6),
  (yX8_pass, cX8_pass, 7, none, 5, false, 0, 0, 7),
  (yX8_isStill, cX8_isStill, 1, (some .boolean), 1, false, 1, 0, 7),
  (yX8_step, cX8_step, 7, (some .int), 5, false, 1, 0, 7),
  (yX8_countPools, cX8_countPools, 2, none, 1, false, 0, 0, 7),
  (yX8_goalOf, cX8_goalOf, 10, (some .int), 2, false, 1, 0, 7),
  (yX8_goesToSea, cX8_goesToSea, 3, (some .boolean), 2, false, 1, 0, 7),
  (yX8_fillTraps, cX8_fillTraps, 4, (some .int), 1, false, 1, 0, 7),
  (yX8_worthOfPool, cX8_worthOfPool, 4, (some .long), 1, false, 2, 0, 7),
  (yX8_join, cX8_join, 5, (some .long), 3, true, 2, 0, 7),
  (yX8_wordValue, cX8_wordValue, 4, (some .int), 2, false, 1, 0, 7),
  (yX9_put, cX9_put, 3, none, 2, false, 0, 0, 8),
  (yX9_rewind, cX9_rewind, 1, none, 1, false, 0, 0, 8),
  (yX9_blame, cX9_blame, 3, (some .boolean), 3, false, 1, 0, 8),
  (yX9_peek, cX9_peek, 1, (some .int), 1, false, 1, 0, 8),
  (yX9_onDigit, cX9_onDigit, 1, (some .boolean), 1, false, 1, 0, 8),
  (yX9_skip, cX9_skip, 1, none, 1, false, 0, 0, 8),
  (yX9_over, cX9_over, 1, (some .boolean), 1, false, 1, 0, 8),
  (yX9_took, cX9_took, 2, (some .boolean), 2, false, 1, 0, 8),
  (yX9_find, cX9_find, 7, (some .int), 2, false, 1, 0, 8),
  (yX9_passWord, cX9_passWord, 1, none, 1, false, 0, 0, 8),
  (yX9_tookWord, cX9_tookWord, 2, (some .boolean), 2, false, 1, 0, 8),
  (yX9_number, cX9_number, 6, (some .int), 3, false, 1, 0, 8),
  (yX10_copy, cX10_copy, 2, none, 2, false, 0, 0, 9),
  (yX10_begin, cX10_begin, 3, none, 2, false, 0, 0, 9),
  (yX10_bitsAt, cX10_bitsAt, 5, (some .int), 3, false, 1, 0, 9),
  (yX10_fullTraps, cX10_fullTraps, 4, (some .int), 2, false, 1, 0, 9),
  (yX10_places, cX10_places, 5, (some .long), 2, false, 2, 0, 9),
  (yX11_feed, cX11_feed, 6, (some .int), 6, false, 1, 0, 10),
  (yX11_end, cX11_end, 2, (some .int), 2, false, 1, 0, 10),
  (yX11_river, cX11_river, 2, (some .int), 1, false, 1, 0, 10),
  (yX11_rule, cX11_rule, 2, (some .int), 1, false, 1, 0, 10),
  (yX11_force, cX11_force, 3, (some .int), 2, false, 1, 0, 10),
  (yX11_memory, cX11_memory, 3, (some .int), 3, false, 1, 0, 10),
  (yX11_trap, cX11_trap, 3, (some .int), 3, false, 1, 0, 10),
  (yX11_person, cX11_person, 2, (some .int), 2, false, 1, 0, 10),
  (yX11_moon, cX11_moon, 2, (some .int), 2, false, 1, 0, 10),
  (yX11_night, cX11_night, 1, (some .int), 1, false, 1, 0, 10),
  (yX11_lift, cX11_lift, 4, (some .int), 2, false, 1, 0, 10),
  (yX11_sink, cX11_sink, 6, (some .int), 4, false, 1, 0, 10),
  (yX11_free, cX11_free, 4, (some .int), 3, false, 1, 0, 10),
  (yX11_give, cX11_give, 4, (some .int), 3, false, 1, 0, 10),
  (yX11_undo, cX11_undo, 1, (some .int), 1, false, 1, 0, 10),
  (yX11_ahead, cX11_ahead, 3, (some .int), 3, false, 1, 0, 10),
  (yX11_caught, cX11_caught, 3, (some .int), 3, false, 1, 0, 10),
  (yX11_atSea, cX11_atSea, 2, (some .int), 2, false, 1, 0, 10),
  (yX11_full, cX11_full, 1, (some .int), 1, false, 1, 0, 10),
  (yX11_bestSink, cX11_bestSink, 4, (some .int), 4, false, 1, 0, 10),
  (yX11_lay, cX11_lay, 6, (some .int), 5, false, 1, 0, 10),
  (yX11_throats, cX11_throats, 3, (some .int), 3, false, 1, 0, 10),
  (yX11_astray, cX11_astray, 1, (some .int), 1, false, 1, 0, 10),
  (yX11_rings, cX11_rings, 2, (some .int), 2, false, 1, 0, 10),
  (yX11_right, cX11_right, 4, (some .int), 2, false, 1, 0, 10),
  (yX11_of, cX11_of, 2, (some .int), 2, false, 1, 0, 10),
  (yX11_rests, cX11_rests, 5, (some .int), 5, false, 1, 0, 10),
  (yX11_cycle, cX11_cycle, 2, (some .int), 2, false, 1, 0, 10),
  (yX11_pence, cX11_pence, 3, (some .int), 3, false, 1, 0, 10),
  (yX11_note, cX11_note, 4, (some .int), 4, false, 1, 0, 10),
  (yX11_ruled, cX11_ruled, 3, (some .int), 2, false, 1, 0, 10),
  (yX11_look, cX11_look, 4, (some .int), 3, false, 1, 0, 10),
  (yX11_seed, cX11_seed, 3, (some .int), 2, false, 1, 0, 10),
  (yX11_moons, cX11_moons, 5, (some .int), 5, false, 1, 0, 10),
  (yX11_count, cX11_count, 2, (some .int), 2, false, 1, 0, 10),
  (yX11_image, cX11_image, 2, (some .int), 2, false, 1, 0, 10),
  (yX11_back, cX11_back, 2, (some .int), 2, false, 1, 0, 10),
  (yX11_within, cX11_within, 3, (some .boolean), 3, true, 1, 0, 10),
  (yX11_isFreePlace, cX11_isFreePlace, 1, (some .boolean), 1, true, 1, 0, 10),
  (yX11_isMemory, cX11_isMemory, 2, (some .boolean), 2, false, 1, 0, 10),
  (yX11_isTrap, cX11_isTrap, 2, (some .boolean), 2, false, 1, 0, 10),
  (yX11_isPerson, cX11_isPerson, 2, (some .boolean), 2, false, 1, 0, 10),
  (yX11_isPool, cX11_isPool, 2, (some .boolean), 2, false, 1, 0, 10),
  (yX11_isEmptyTrap, cX11_isEmptyTrap, 2, (some .boolean), 2, false, 1, 0, 10),
  (yX11_isFree, cX11_isFree, 2, (some .boolean), 2, false, 1, 0, 10),
  (yX11_isHad, cX11_isHad, 2, (some .boolean), 2, false, 1, 0, 10),
  (yX11_ruling, cX11_ruling, 1, (some (.object "EelThroat$Rule")), 1, false, 3, 5, 10),
  (yX12_in, cX12_in, 6, (some .boolean), 3, true, 1, 0, 11),
  (yX12_isOf, cX12_isOf, 2, (some .boolean), 2, true, 1, 0, 11),
  (yX12_bits, cX12_bits, 3, (some .int), 1, true, 1, 0, 11),
  (yX12_four, cX12_four, 3, none, 2, false, 0, 0, 11),
  (yX12_feed, cX12_feed, 6, (some .int), 6, false, 1, 0, 11),
  (yX12_end, cX12_end, 2, (some .int), 2, false, 1, 0, 11),
  (yX12_fails, cX12_fails, 3, (some .boolean), 3, false, 1, 0, 11),
  (yX12_see, cX12_see, 1, (some .int), 1, false, 1, 0, 11),
  (yX12_isDigit, cX12_isDigit, 2, (some .boolean), 2, false, 1, 0, 11),
  (yX12_isLetter, cX12_isLetter, 2, (some .boolean), 2, false, 1, 0, 11),
  (yX12_isWord, cX12_isWord, 6, (some .boolean), 2, false, 1, 0, 11),
  (yX12_passWord, cX12_passWord, 1, none, 1, false, 0, 0, 11),
  (yX12_takesWord, cX12_takesWord, 3, (some .boolean), 2, false, 1, 0, 11),
  (yX12_numberHere, cX12_numberHere, 5, (some .boolean), 3, false, 1, 0, 11),
  (yX12_wordHere, cX12_wordHere, 1, (some .int), 1, false, 1, 0, 11),
  (yX12_puts, cX12_puts, 3, none, 3, false, 0, 0, 11),
  (yX12_makes, cX12_makes, 2, (some .boolean), 2, false, 1, 0, 11),
  (yX12_opens, cX12_opens, 2, (some .boolean), 2, false, 1, 0, 11),
  (yX12_strength, cX12_strength, 1, (some .int), 1, true, 1, 0, 11),
  (yX12_layDown, cX12_layDown, 2, none, 2, false, 0, 0, 11),
  (yX12_value, cX12_value, 3, (some .boolean), 1, false, 1, 0, 11),
  (yX12_term, cX12_term, 2, (some .boolean), 1, false, 1, 0, 11),
  (yX12_sum, cX12_sum, 2, (some .boolean), 1, false, 1, 0, 11),
  (yX12_compare, cX12_compare, 5, (some .boolean), 1, false, 1, 0, 11),
  (yX12_fact, cX12_fact, 3, (some .boolean), 1, false, 1, 0, 11),
  (yX12_isInside, cX12_isInside, 2, (some .boolean), 1, false, 1, 0, 11),
  (yX12_closes, cX12_closes, 1, none, 1, false, 0, 0, 11),
  (yX12_tested, cX12_tested, 3, (some .boolean), 1, false, 1, 0, 11),
  (yX12_isGoHere, cX12_isGoHere, 2, (some .boolean), 1, false, 1, 0, 11),
  (yX12_cellHere, cX12_cellHere, 4, (some .boolean), 4, false, 1, 0, 11),
  (yX12_isRiverHere, cX12_isRiverHere, 2, (some .boolean), 2, false, 1, 0, 11),
  (yX12_isMoonHere, cX12_isMoonHere, 2, (some .boolean), 2, false, 1, 0, 11),
  (yX12_isPersonHere, cX12_isPersonHere, 2, (some .boolean), 2, false, 1, 0, 11),
  (yX12_isMemoryHere, cX12_isMemoryHere, 3, (some .boolean), 2, false, 1, 0, 11),
  (yX12_isTrapHere, cX12_isTrapHere, 3, (some .boolean), 2, false, 1, 0, 11),
  (yX12_riverLineHere, cX12_riverLineHere, 2, (some .boolean), 2, false, 1, 0, 11),
  (yX12_isRiverWord, cX12_isRiverWord, 1, (some .boolean), 1, false, 1, 0, 11),
  (yX12_clauseHere, cX12_clauseHere, 3, (some .boolean), 1, false, 1, 0, 11),
  (yX12_readsAll, cX12_readsAll, 2, (some .boolean), 1, false, 1, 0, 11),
  (yX12_rule, cX12_rule, 1, (some .int), 1, false, 1, 0, 11),
  (yX12_river, cX12_river, 2, (some .int), 1, false, 1, 0, 11),
  (yX12_isRule, cX12_isRule, 2, (some .boolean), 2, false, 1, 0, 11),
  (yX12_push, cX12_push, 3, none, 2, false, 0, 0, 11),
  (yX12_pop, cX12_pop, 1, (some .long), 1, false, 2, 0, 11),
  (yX12_one, cX12_one, 5, (some .long), 3, true, 2, 0, 11),
  (yX12_reckons, cX12_reckons, 11, (some .long), 4, false, 2, 0, 11),
  (yX12_isRiver, cX12_isRiver, 1, (some .boolean), 1, false, 1, 0, 11),
  (yX12_rounds, cX12_rounds, 1, (some .int), 1, false, 1, 0, 11),
  (yX12_isPool, cX12_isPool, 2, (some .boolean), 2, false, 1, 0, 11),
  (yX12_isPerson, cX12_isPerson, 2, (some .boolean), 2, false, 1, 0, 11),
  (yX12_isMemory, cX12_isMemory, 2, (some .boolean), 2, false, 1, 0, 11),
  (yX12_isTrap, cX12_isTrap, 2, (some .boolean), 2, false, 1, 0, 11),
  (yX12_isFree, cX12_isFree, 2, (some .boolean), 2, false, 1, 0, 11),
  (yX12_isHad, cX12_isHad, 2, (some .boolean), 2, false, 1, 0, 11),
  (yX12_poolOf, cX12_poolOf, 2, (some .int), 2, false, 1, 0, 11),
  (yX12_baitOf, cX12_baitOf, 2, (some .int), 2, false, 1, 0, 11),
  (yX12_memoryIn, cX12_memoryIn, 3, (some .int), 2, false, 1, 0, 11),
  (yX12_isEmptyTrap, cX12_isEmptyTrap, 2, (some .boolean), 2, false, 1, 0, 11),
  (yX12_onesThat, cX12_onesThat, 5, (some .int), 3, false, 1, 0, 11),
  (yX12_lightOn, cX12_lightOn, 2, (some .int), 2, false, 1, 0, 11),
  (yX12_begins, cX12_begins, 2, none, 1, false, 0, 0, 11),
  (yX12_force, cX12_force, 3, (some .int), 2, false, 1, 0, 11),
  (yX12_memory, cX12_memory, 3, (some .int), 3, false, 1, 0, 11),
  (yX12_trap, cX12_trap, 3, (some .int), 3, false, 1, 0, 11),
  (yX12_person, cX12_person, 2, (some .int), 2, false, 1, 0, 11),
  (yX12_moon, cX12_moon, 2, (some .int), 2, false, 1, 0, 11),
  (yX12_summedBy, cX12_summedBy, 4, (some .long), 2, false, 2, 0, 11),
  (yX12_sumOf, cX12_sumOf, 7, (some .long), 3, false, 2, 0, 11),
  (yX12_choice, cX12_choice, 9, (some .int), 2, false, 1, 0, 11),
  (yX12_swim, cX12_swim, 4, none, 1, false, 0, 0, 11),
  (yX12_fitsIn, cX12_fitsIn, 3, (some .boolean), 3, false, 1, 0, 11),
  (yX12_catches, cX12_catches, 3, (some .int), 2, false, 1, 0, 11),
  (yX12_passes, cX12_passes, 3, (some .int), 1, false, 1, 0, 11),
  (yX12_passesAll, cX12_passesAll, 3, none, 2, false, 0, 0, 11),
  (yX12_keepsAct, cX12_keepsAct, 2, none, 1, false, 0, 0, 11),
  (yX12_undo, cX12_undo, 2, (some .int), 1, false, 1, 0, 11),
  (yX12_night, cX12_night, 1, (some .int), 1, false, 1, 0, 11),
  (yX12_lift, cX12_lift, 3, (some .int), 2, false, 1, 0, 11),
  (yX12_sink, cX12_sink, 5, (some .int), 4, false, 1, 0, 11),
  (yX12_free, cX12_free, 4, (some .int), 3, false, 1, 0, 11),
  (yX12_give, cX12_give, 4, (some .int), 3, false, 1, 0, 11),
  (yX12_keeps, cX12_keeps, 2, none, 1, false, 0, 0, 11),
  (yX12_laysBack, cX12_laysBack, 2, none, 1, false, 0, 0, 11),
  (yX12_ahead, cX12_ahead, 4, (some .int), 3, false, 1, 0, 11),
  (yX12_caught, cX12_caught, 5, (some .int), 3, false, 1, 0, 11),
  (yX12_atSea, cX12_atSea, 3, (some .int), 2, false, 1, 0, 11),
  (yX12_trapped, cX12_trapped, 1, (some .int), 1, false, 1, 0, 11),
  (yX12_full, cX12_full, 3, (some .int), 1, false, 1, 0, 11),
  (yX12_trappedIn, cX12_trappedIn, 3, (some .int), 2, false, 1, 0, 11),
  (yX12_bestSink, cX12_bestSink, 8, (some .int), 4, false, 1, 0, 11),
  (yX12_lay, cX12_lay, 7, (some .int), 5, false, 1, 0, 11),
  (yX12_throats, cX12_throats, 6, (some .int), 3, false, 1, 0, 11),
  (yX12_isAstray, cX12_isAstray, 2, (some .boolean), 2, false, 1, 0, 11),
  (yX12_astray, cX12_astray, 3, (some .int), 1, false, 1, 0, 11),
  (yX12_isLinked, cX12_isLinked, 7, (some .boolean), 3, false, 1, 0, 11),
  (yX12_isRing, cX12_isRing, 3, (some .boolean), 2, false, 1, 0, 11),
  (yX12_rings, cX12_rings, 5, (some .int), 2, false, 1, 0, 11),
  (yX12_right, cX12_right, 5, (some .int), 2, false, 1, 0, 11),
  (yX12_isRest, cX12_isRest, 4, (some .boolean), 3, false, 1, 0, 11),
  (yX12_sizeIn, cX12_sizeIn, 2, (some .int), 2, false, 1, 0, 11),
  (yX12_rests, cX12_rests, 8, (some .int), 5, false, 1, 0, 11),
  (yX12_areAlike, cX12_areAlike, 4, (some .boolean), 3, false, 1, 0, 11),
  (yX12_cycle, cX12_cycle, 4, (some .int), 2, false, 1, 0, 11),
  (yX12_sizesOf, cX12_sizesOf, 4, (some .int), 2, false, 1, 0, 11),
  (yX12_pence, cX12_pence, 9, (some .int), 3, false, 1, 0, 11),
  (yX12_note, cX12_note, 5, (some .int), 4, false, 1, 0, 11),
  (yX12_freeIn, cX12_freeIn, 2, (some .int), 2, false, 1, 0, 11),
  (yX12_areNotesSo, cX12_areNotesSo, 3, (some .boolean), 2, false, 1, 0, 11),
  (yX12_areAllSo, cX12_areAllSo, 6, (some .boolean), 3, false, 1, 0, 11),
  (yX12_of, cX12_of, 5, (some .int), 2, false, 1, 0, 11),
  (yX12_fillsFits, cX12_fillsFits, 4, none, 2, false, 0, 0, 11),
  (yX12_ruled, cX12_ruled, 5, (some .int), 2, false, 1, 0, 11),
  (yX12_alikeAt, cX12_alikeAt, 6, (some .int), 2, false, 1, 0, 11),
  (yX12_look, cX12_look, 7, (some .int), 3, false, 1, 0, 11),
  (yX12_seed, cX12_seed, 3, (some .int), 2, false, 1, 0, 11),
  (yX12_draw, cX12_draw, 2, (some .int), 2, false, 1, 0, 11),
  (yX12_moons, cX12_moons, 9, (some .int), 5, false, 1, 0, 11),
  (yX12_count, cX12_count, 2, (some .int), 2, false, 1, 0, 11),
  (yX12_image, cX12_image, 3, (some .int), 2, false, 1, 0, 11),
  (yX12_back, cX12_back, 3, (some .int), 2, false, 1, 0, 11),
  (yJ6_bitCount_0f7a4, cJ6_bitCount_0f7a4, 1, (some .int), 1, true, 1, 0, 14),
  (yJ9_max_7cf53, cJ9_max_7cf53, 2, (some .int), 2, true, 1, 0, 13),
  (yJ9_min_7cf53, cJ9_min_7cf53, 2, (some .int), 2, true, 1, 0, 13),
  (yJ0_length_8abf5, cJ0_length_8abf5, 1, (some .int), 1, false, 1, 0, 99),
  (yJ0_charAt_5068e, cJ0_charAt_5068e, 2, (some .char), 2, false, 1, 0, 99)]
def jposM : List (Nat × Nat × Nat × Nat) := [(802, 115, 800, 801), (887, 115, 885, 886), (895, 117, 893, 894), (918, 117, 916, 917), (933, 117, 931, 932), (945, 117, 943, 944), (949, 117, 948, 0), (957, 117, 955, 956), (971, 117, 969, 970), (1031, 117, 1029, 1030), (1035, 117, 1034, 26), (1039, 117, 1038, 27), (1047, 117, 1045, 1046), (1108, 117, 1106, 1107), (1113, 117, 1112, 29), (1002, 118, 1000, 1001), (1080, 118, 1078, 1079), (1084, 118, 1082, 1083), (1007, 118, 1006, 25), (1092, 118, 1090, 1091), (1096, 118, 1095, 28), (978, 128, 977, 0), (985, 128, 984, 0), (989, 128, 988, 0), (1061, 128, 1060, 0), (1064, 128, 1063, 0), (1072, 114, 1070, 1071), (1143, 114, 1141, 1142), (1011, 114, 1009, 1010), (1017, 114, 1015, 1016), (1020, 114, 1019, 0), (660, 112, 658, 659), (787, 112, 785, 786), (794, 112, 792, 793), (561, 112, 559, 560), (630, 112, 629, 0), (638, 112, 637, 1), (675, 119, 673, 674), (699, 119, 698, 4), (721, 119, 720, 7), (725, 119, 724, 8), (729, 119, 728, 9), (734, 119, 733, 10), (737, 119, 736, 0), (685, 119, 684, 2), (710, 119, 709, 6), (689, 119, 688, 3), (703, 119, 702, 5), (1137, 111, 1135, 1136), (775, 111, 773, 774), (1128, 111, 1126, 1127), (900, 116, 898, 899), (905, 116, 903, 904), (818, 116, 816, 817), (823, 116, 822, 15), (830, 116, 829, 16), (847, 116, 846, 19), (851, 116, 850, 20), (836, 116, 835, 17), (843, 116, 842, 0), (840, 116, 839, 18), (549, 110, 547, 548), (565, 110, 563, 564), (626, 110, 624, 625), (652, 110, 650, 651), (693, 110, 691, 692), (569, 110, 567, 568), (648, 110, 646, 647), (656, 110, 654, 655), (574, 110, 572, 573), (634, 110, 632, 633), (715, 110, 713, 714), (642, 110, 640, 641), (806, 113, 804, 805), (667, 113, 665, 666), (779, 113, 777, 778), (937, 113, 935, 936), (1051, 113, 1049, 1050), (545, 109, 543, 544), (553, 109, 551, 552), (557, 109, 555, 556), (671, 109, 669, 670), (744, 109, 742, 743), (748, 109, 746, 747), (759, 109, 757, 758), (767, 109, 765, 766), (783, 109, 781, 782), (798, 109, 796, 797), (855, 109, 853, 854), (859, 109, 857, 858), (871, 109, 869, 870), (879, 109, 877, 878), (883, 109, 881, 882), (891, 109, 889, 890), (909, 109, 907, 908), (924, 109, 922, 923), (929, 109, 927, 928), (941, 109, 939, 940), (953, 109, 951, 952), (967, 109, 965, 966), (975, 109, 973, 974), (982, 109, 980, 981), (994, 109, 992, 993), (998, 109, 996, 997), (1027, 109, 1025, 1026), (1043, 109, 1041, 1042), (1058, 109, 1056, 1057), (1068, 109, 1066, 1067), (1076, 109, 1074, 1075), (1088, 109, 1086, 1087), (1100, 109, 1098, 1099), (1104, 109, 1102, 1103), (1124, 109, 1122, 1123), (1133, 109, 1131, 1132), (1148, 109, 1146, 1147), (755, 109, 754, 0), (826, 109, 825, 0), (752, 109, 751, 11), (763, 109, 762, 12), (771, 109, 770, 13), (867, 109, 866, 22), (863, 109, 862, 21), (913, 109, 912, 24), (875, 109, 874, 23), (814, 109, 813, 14), (1344, 120, 1343, 0), (1625, 120, 1624, 0), (1640, 120, 1639, 0), (1275, 120, 1274, 30), (1271, 120, 1269, 1270), (1279, 120, 1277, 1278), (1317, 120, 1316, 37), (1295, 120, 1294, 33), (1341, 120, 1340, 43), (1308, 120, 1307, 36), (1304, 120, 1303, 35), (1329, 120, 1328, 40), (1405, 120, 1404, 55), (1337, 120, 1336, 42), (1389, 120, 1388, 54), (1385, 120, 1384, 53), (1381, 120, 1380, 52), (1418, 120, 1417, 58), (1433, 120, 1432, 0), (1430, 120, 1429, 61), (1376, 120, 1375, 51), (1372, 120, 1371, 50), (1368, 120, 1367, 49), (1422, 120, 1421, 59), (1413, 120, 1412, 57), (1437, 120, 1436, 62), (1426, 120, 1425, 60), (1409, 120, 1408, 56), (1364, 120, 1363, 48), (1333, 120, 1332, 41), (1325, 120, 1324, 39), (1348, 120, 1347, 44), (1352, 120, 1351, 45), (1356, 120, 1355, 46), (1360, 120, 1359, 47), (1321, 120, 1320, 38), (1299, 120, 1298, 34), (1291, 120, 1290, 32), (1287, 120, 1286, 31), (1283, 120, 1281, 1282), (1443, 120, 1441, 1442), (1455, 120, 1454, 64), (1561, 120, 1560, 84), (1565, 120, 1564, 85), (1568, 120, 1567, 0), (1557, 120, 1556, 83), (1508, 120, 1507, 73), (1504, 120, 1503, 72), (1541, 120, 1540, 79), (1492, 120, 1491, 70), (1463, 120, 1462, 65), (1472, 120, 1471, 66), (1532, 120, 1531, 77), (1597, 120, 1596, 89), (1476, 120, 1475, 67), (1480, 120, 1479, 68), (1484, 120, 1483, 69), (1588, 120, 1587, 88), (1496, 120, 1495, 71), (1549, 120, 1548, 81), (1447, 120, 1446, 63), (1451, 120, 1449, 1450), (1459, 120, 1457, 1458), (1468, 120, 1466, 1467), (1488, 120, 1486, 1487), (1500, 120, 1498, 1499), (1553, 120, 1552, 82), (1545, 120, 1544, 80), (1537, 120, 1536, 78), (1528, 120, 1527, 76), (1576, 120, 1575, 87), (1572, 120, 1571, 86), (1524, 120, 1523, 75), (1614, 120, 1613, 91), (1520, 120, 1519, 74), (1512, 120, 1510, 1511), (1516, 120, 1514, 1515), (1580, 120, 1578, 1579), (1584, 120, 1582, 1583), (1593, 120, 1591, 1592), (1601, 120, 1599, 1600), (1610, 120, 1609, 90), (1618, 120, 1617, 92), (1605, 120, 1603, 1604), (1622, 120, 1620, 1621), (1629, 120, 1627, 1628), (1637, 120, 1636, 93), (1633, 120, 1631, 1632), (1650, 120, 1649, 94), (1644, 120, 1642, 1643), (1654, 120, 1652, 1653), (1658, 120, 1656, 1657), (1666, 120, 1665, 95), (1662, 120, 1660, 1661), (1678, 120, 1677, 97), (1674, 120, 1673, 96), (1670, 120, 1668, 1669), (1682, 120, 1680, 1681), (1695, 120, 1694, 99), (1691, 120, 1690, 98), (1686, 120, 1684, 1685), (1703, 120, 1702, 100), (1699, 120, 1697, 1698), (1712, 120, 1711, 101), (1707, 120, 1705, 1706), (1716, 120, 1714, 1715), (1733, 120, 1732, 104), (1729, 120, 1728, 103), (1725, 120, 1724, 102), (1721, 120, 1719, 1720), (1741, 120, 1740, 105), (1737, 120, 1735, 1736), (1749, 120, 1748, 106), (1745, 120, 1743, 1744), (1753, 120, 1751, 1752), (1762, 120, 1761, 107), (1757, 120, 1755, 1756), (1770, 120, 1768, 1769), (1774, 120, 1772, 1773), (1778, 120, 1776, 1777), (960, 127, 959, 0), (790, 126, 789, 0), (810, 126, 809, 0), (578, 121, 576, 577), (588, 121, 586, 587)]
def jokM1 (q : jMI) (p : Nat × Nat × Nat × Nat) : Bool :=
  decide (lw_tbl[p.2.1]? = some (.initialized q.1.cls)) && (bif q.2.2.2.2.2.1 then decide (lw_tbl[p.2.2.1]? = some (.static q.1)) else decide (lw_tbl[p.2.2.1]? = some (.instanceMethod q.1)) && decide (lw_tbl[p.2.2.2]? = some (.selects q.1.cls q.1 q.1))) && decide (q.1.cls ≠ "java/lang/invoke/MethodHandle") && decide (q.1.cls ≠ "java/lang/invoke/VarHandle") && decide ((parseMethodDescriptor q.1.desc).map (fun d => d.parameters.length) = some (bif q.2.2.2.2.2.1 then q.2.2.2.2.1 else q.2.2.2.2.1 - 1)) && decide (q.2.2.1 ≤ 60) && (bif q.2.2.2.2.2.1 then true else decide (0 < q.2.2.2.2.1))
theorem jtb1 {w : Cond} (h : w ∈ tables_1_1) : w ∈ lw_tbl := List.mem_append_right _ (List.mem_append_left _ h)
theorem jtb2 {w : Cond} (h : w ∈ tables_1_2) : w ∈ lw_tbl := List.mem_append_right _ (List.mem_append_right _ (List.mem_append_left _ h))
theorem jtb3 {w : Cond} (h : w ∈ tables_1_3) : w ∈ lw_tbl := List.mem_append_right _ (List.mem_append_right _ (List.mem_append_right _ (List.mem_append_left _ h)))
theorem jtb4 {w : Cond} (h : w ∈ tables_1_4) : w ∈ lw_tbl := List.mem_append_right _ (List.mem_append_right _ (List.mem_append_right _ (List.mem_append_right _ (List.mem_append_left _ h))))
theorem jtb5 {w : Cond} (h : w ∈ tables_1_5) : w ∈ lw_tbl := List.mem_append_right _ (List.mem_append_right _ (List.mem_append_right _ (List.mem_append_right _ (List.mem_append_right _ (List.mem_append_left _ h)))))
theorem jtb6 {w : Cond} (h : w ∈ tables_1_6) : w ∈ lw_tbl := List.mem_append_right _ (List.mem_append_right _ (List.mem_append_right _ (List.mem_append_right _ (List.mem_append_right _ (List.mem_append_right _ (List.mem_append_left _ h))))))
theorem jtb7 {w : Cond} (h : w ∈ tables_1_7) : w ∈ lw_tbl := List.mem_append_right _ (List.mem_append_right _ (List.mem_append_right _ (List.mem_append_right _ (List.mem_append_right _ (List.mem_append_right _ (List.mem_append_right _ (h)))))))
set_option maxRecDepth 100000 in
theorem jcw0 : Cond.code yX0_keep cX0_keep 2 none ∈ lw_tbl := jtb3 (List.mem_of_getElem? (i := 214) rfl)
set_option maxRecDepth 100000 in
theorem jcw1 : Cond.code yX0_takeBack cX0_takeBack 2 (some .int) ∈ lw_tbl := jtb4 (List.mem_of_getElem? (i := 59) rfl)
set_option maxRecDepth 100000 in
theorem jcw2 : Cond.code yX1_after cX1_after 4 (some (.object "EelThroat$Water")) ∈ lw_tbl := jtb4 (List.mem_of_getElem? (i := 67) rfl)
set_option maxRecDepth 100000 in
theorem jcw3 : Cond.code yX1_firstCatch cX1_firstCatch 6 (some .int) ∈ lw_tbl := jtb4 (List.mem_of_getElem? (i := 90) rfl)
set_option maxRecDepth 100000 in
theorem jcw4 : Cond.code yX1_firstFull cX1_firstFull 5 (some .int) ∈ lw_tbl := jtb4 (List.mem_of_getElem? (i := 105) rfl)
set_option maxRecDepth 100000 in
theorem jcw5 : Cond.code yX1_bestPlace cX1_bestPlace 15 (some .int) ∈ lw_tbl := jtb4 (List.mem_of_getElem? (i := 117) rfl)
set_option maxRecDepth 100000 in
theorem jcw6 : Cond.code yX1_smellsOfFree cX1_smellsOfFree 3 (some .int) ∈ lw_tbl := jtb4 (List.mem_of_getElem? (i := 121) rfl)
set_option maxRecDepth 100000 in
theorem jcw7 : Cond.code yX1_poolsBefore cX1_poolsBefore 8 (some .int) ∈ lw_tbl := jtb4 (List.mem_of_getElem? (i := 129) rfl)
set_option maxRecDepth 100000 in
theorem jcw8 : Cond.code yX1_leastThroat cX1_leastThroat 6 (some .int) ∈ lw_tbl := jtb4 (List.mem_of_getElem? (i := 143) rfl)
set_option maxRecDepth 100000 in
theorem jcw9 : Cond.code yX1_steadyBaits cX1_steadyBaits 10 (some .int) ∈ lw_tbl := jtb4 (List.mem_of_getElem? (i := 203) rfl)
set_option maxRecDepth 100000 in
theorem jcw10 : Cond.code yX1_sizeIn cX1_sizeIn 4 (some .int) ∈ lw_tbl := jtb4 (List.mem_of_getElem? (i := 207) rfl)
set_option maxRecDepth 100000 in
theorem jcw11 : Cond.code yX1_isSteady cX1_isSteady 5 (some .boolean) ∈ lw_tbl := jtb4 (List.mem_of_getElem? (i := 211) rfl)
set_option maxRecDepth 100000 in
theorem jcw12 : Cond.code yX1_firstRound cX1_firstRound 7 (some .int) ∈ lw_tbl := jtb4 (List.mem_of_getElem? (i := 219) rfl)
set_option maxRecDepth 100000 in
theorem jcw13 : Cond.code yX1_drawnNights cX1_drawnNights 11 (some .int) ∈ lw_tbl := jtb5 (List.mem_of_getElem? (i := 40) rfl)
set_option maxRecDepth 100000 in
theorem jcw14 : Cond.code yX1_draw cX1_draw 1 (some .int) ∈ lw_tbl := jtb5 (List.mem_of_getElem? (i := 45) rfl)
set_option maxRecDepth 100000 in
theorem jcw15 : Cond.code yX2_owners cX2_owners 6 (some .int) ∈ lw_tbl := jtb4 (List.mem_of_getElem? (i := 174) rfl)
set_option maxRecDepth 100000 in
theorem jcw16 : Cond.code yX2_sieve cX2_sieve 7 (some .int) ∈ lw_tbl := jtb5 (List.mem_of_getElem? (i := 12) rfl)
set_option maxRecDepth 100000 in
theorem jcw17 : Cond.code yX2_firstFitting cX2_firstFitting 1 (some .int) ∈ lw_tbl := jtb5 (List.mem_of_getElem? (i := 16) rfl)
set_option maxRecDepth 100000 in
theorem jcw18 : Cond.code yX2_fits cX2_fits 8 (some .boolean) ∈ lw_tbl := jtb4 (List.mem_of_getElem? (i := 179) rfl)
set_option maxRecDepth 100000 in
theorem jcw19 : Cond.code yX2_bestParting cX2_bestParting 8 (some .int) ∈ lw_tbl := jtb5 (List.mem_of_getElem? (i := 24) rfl)
set_option maxRecDepth 100000 in
theorem jcw20 : Cond.code yX2_mostAlike cX2_mostAlike 7 (some .int) ∈ lw_tbl := jtb5 (List.mem_of_getElem? (i := 28) rfl)
set_option maxRecDepth 100000 in
theorem jcw21 : Cond.code yX3_strayed cX3_strayed 4 (some .int) ∈ lw_tbl := jtb4 (List.mem_of_getElem? (i := 150) rfl)
set_option maxRecDepth 100000 in
theorem jcw22 : Cond.code yX3_ringed cX3_ringed 5 (some .int) ∈ lw_tbl := jtb4 (List.mem_of_getElem? (i := 157) rfl)
set_option maxRecDepth 100000 in
theorem jcw23 : Cond.code yX3_isRing cX3_isRing 8 (some .boolean) ∈ lw_tbl := jtb4 (List.mem_of_getElem? (i := 161) rfl)
set_option maxRecDepth 100000 in
theorem jcw24 : Cond.code yX3_share cX3_share 9 (some .int) ∈ lw_tbl := jtb4 (List.mem_of_getElem? (i := 233) rfl)
set_option maxRecDepth 100000 in
theorem jcw25 : Cond.code yX3_sizesOf cX3_sizesOf 4 (some .int) ∈ lw_tbl := jtb4 (List.mem_of_getElem? (i := 236) rfl)
set_option maxRecDepth 100000 in
theorem jcw26 : Cond.code yX4_add cX4_add 4 (some .boolean) ∈ lw_tbl := jtb5 (List.mem_of_getElem? (i := 4) rfl)
set_option maxRecDepth 100000 in
theorem jcw27 : Cond.code yX4_copy cX4_copy 2 none ∈ lw_tbl := jtb5 (List.mem_of_getElem? (i := 75) rfl)
set_option maxRecDepth 100000 in
theorem jcw28 : Cond.code yX4_lastNight cX4_lastNight 3 (some .int) ∈ lw_tbl := jtb4 (List.mem_of_getElem? (i := 183) rfl)
set_option maxRecDepth 100000 in
theorem jcw29 : Cond.code yX4_hold cX4_hold 3 (some .boolean) ∈ lw_tbl := jtb4 (List.mem_of_getElem? (i := 189) rfl)
set_option maxRecDepth 100000 in
theorem jcw30 : Cond.code yX4_poolOrNone cX4_poolOrNone 1 (some .int) ∈ lw_tbl := jtb4 (List.mem_of_getElem? (i := 192) rfl)
set_option maxRecDepth 100000 in
theorem jcw31 : Cond.code yX5_copy cX5_copy 2 none ∈ lw_tbl := jtb3 (List.mem_of_getElem? (i := 72) rfl)
set_option maxRecDepth 100000 in
theorem jcw32 : Cond.code yX5_round cX5_round 1 (some .int) ∈ lw_tbl := jtb3 (List.mem_of_getElem? (i := 199) rfl)
set_option maxRecDepth 100000 in
theorem jcw33 : Cond.code yX5_lightOf cX5_lightOf 2 (some .int) ∈ lw_tbl := jtb3 (List.mem_of_getElem? (i := 206) rfl)
set_option maxRecDepth 100000 in
theorem jcw34 : Cond.code yX5_read cX5_read 5 (some .boolean) ∈ lw_tbl := jtb2 (List.mem_of_getElem? (i := 213) rfl)
set_option maxRecDepth 100000 in
theorem jcw35 : Cond.code yX5_hasNoRoom cX5_hasNoRoom 2 (some .boolean) ∈ lw_tbl := jtb3 (List.mem_of_getElem? (i := 42) rfl)
set_option maxRecDepth 100000 in
theorem jcw36 : Cond.code yX5_readClause cX5_readClause 3 none ∈ lw_tbl := jtb3 (List.mem_of_getElem? (i := 50) rfl)
set_option maxRecDepth 100000 in
theorem jcw37 : Cond.code yX6_read cX6_read 4 (some .boolean) ∈ lw_tbl := jtb3 (List.mem_of_getElem? (i := 87) rfl)
set_option maxRecDepth 100000 in
theorem jcw38 : Cond.code yX6_emit cX6_emit 3 none ∈ lw_tbl := jtb3 (List.mem_of_getElem? (i := 111) rfl)
set_option maxRecDepth 100000 in
theorem jcw39 : Cond.code yX6_readTest cX6_readTest 5 (some .boolean) ∈ lw_tbl := jtb3 (List.mem_of_getElem? (i := 133) rfl)
set_option maxRecDepth 100000 in
theorem jcw40 : Cond.code yX6_readPart cX6_readPart 5 (some .boolean) ∈ lw_tbl := jtb3 (List.mem_of_getElem? (i := 137) rfl)
set_option maxRecDepth 100000 in
theorem jcw41 : Cond.code yX6_readFact cX6_readFact 5 (some .boolean) ∈ lw_tbl := jtb3 (List.mem_of_getElem? (i := 141) rfl)
set_option maxRecDepth 100000 in
theorem jcw42 : Cond.code yX6_readComparison cX6_readComparison 4 (some .boolean) ∈ lw_tbl := jtb3 (List.mem_of_getElem? (i := 146) rfl)
set_option maxRecDepth 100000 in
theorem jcw43 : Cond.code yX6_readSign cX6_readSign 1 (some .int) ∈ lw_tbl := jtb3 (List.mem_of_getElem? (i := 149) rfl)
set_option maxRecDepth 100000 in
theorem jcw44 : Cond.code yX6_readSum cX6_readSum 6 (some .boolean) ∈ lw_tbl := jtb3 (List.mem_of_getElem? (i := 97) rfl)
set_option maxRecDepth 100000 in
theorem jcw45 : Cond.code yX6_emitSign cX6_emitSign 2 none ∈ lw_tbl := jtb3 (List.mem_of_getElem? (i := 122) rfl)
set_option maxRecDepth 100000 in
theorem jcw46 : Cond.code yX6_readValue cX6_readValue 4 (some .boolean) ∈ lw_tbl := jtb3 (List.mem_of_getElem? (i := 101) rfl)
set_option maxRecDepth 100000 in
theorem jcw47 : Cond.code yX6_hasUnit cX6_hasUnit 3 (some .boolean) ∈ lw_tbl := jtb3 (List.mem_of_getElem? (i := 115) rfl)
set_option maxRecDepth 100000 in
theorem jcw48 : Cond.code yX7_copy cX7_copy 2 none ∈ lw_tbl := jtb5 (List.mem_of_getElem? (i := 69) rfl)
set_option maxRecDepth 100000 in
theorem jcw49 : Cond.code yX7_bitsAt cX7_bitsAt 2 (some .int) ∈ lw_tbl := jtb3 (List.mem_of_getElem? (i := 187) rfl)
set_option maxRecDepth 100000 in
theorem jcw50 : Cond.code yX7_freeBits cX7_freeBits 3 (some .int) ∈ lw_tbl := jtb5 (List.mem_of_getElem? (i := 60) rfl)
set_option maxRecDepth 100000 in
theorem jcw51 : Cond.code yX8_pass cX8_pass 7 none ∈ lw_tbl := jtb4 (List.mem_of_getElem? (i := 72) rfl)
set_option maxRecDepth 100000 in
theorem jcw52 : Cond.code yX8_isStill cX8_isStill 1 (some .boolean) ∈ lw_tbl := jtb4 (List.mem_of_getElem? (i := 77) rfl)
set_option maxRecDepth 100000 in
theorem jcw53 : Cond.code yX8_step cX8_step 7 (some .int) ∈ lw_tbl := jtb3 (List.mem_of_getElem? (i := 230) rfl)
set_option maxRecDepth 100000 in
theorem jcw54 : Cond.code yX8_countPools cX8_countPools 2 none ∈ lw_tbl := jtb3 (List.mem_of_getElem? (i := 235) rfl)
set_option maxRecDepth 100000 in
theorem jcw55 : Cond.code yX8_goalOf cX8_goalOf 10 (some .int) ∈ lw_tbl := jtb4 (List.mem_of_getElem? (i := 2) rfl)
set_option maxRecDepth 100000 in
theorem jcw56 : Cond.code yX8_goesToSea cX8_goesToSea 3 (some .boolean) ∈ lw_tbl := jtb4 (List.mem_of_getElem? (i := 19) rfl)
set_option maxRecDepth 100000 in
theorem jcw57 : Cond.code yX8_fillTraps cX8_fillTraps 4 (some .int) ∈ lw_tbl := jtb4 (List.mem_of_getElem? (i := 23) rfl)
set_option maxRecDepth 100000 in
theorem jcw58 : Cond.code yX8_worthOfPool cX8_worthOfPool 4 (some .long) ∈ lw_tbl := jtb4 (List.mem_of_getElem? (i := 8) rfl)
set_option maxRecDepth 100000 in
theorem jcw59 : Cond.code yX8_join cX8_join 5 (some .long) ∈ lw_tbl := jtb4 (List.mem_of_getElem? (i := 15) rfl)
set_option maxRecDepth 100000 in
theorem jcw60 : Cond.code yX8_wordValue cX8_wordValue 4 (some .int) ∈ lw_tbl := jtb4 (List.mem_of_getElem? (i := 12) rfl)
set_option maxRecDepth 100000 in
theorem jcw61 : Cond.code yX9_put cX9_put 3 none ∈ lw_tbl := jtb2 (List.mem_of_getElem? (i := 201) rfl)
set_option maxRecDepth 100000 in
theorem jcw62 : Cond.code yX9_rewind cX9_rewind 1 none ∈ lw_tbl := jtb2 (List.mem_of_getElem? (i := 217) rfl)
set_option maxRecDepth 100000 in
theorem jcw63 : Cond.code yX9_blame cX9_blame 3 (some .boolean) ∈ lw_tbl := jtb3 (List.mem_of_getElem? (i := 38) rfl)
set_option maxRecDepth 100000 in
theorem jcw64 : Cond.code yX9_peek cX9_peek 1 (some .int) ∈ lw_tbl := jtb3 (List.mem_of_getElem? (i := 64) rfl)
set_option maxRecDepth 100000 in
theorem jcw65 : Cond.code yX9_onDigit cX9_onDigit 1 (some .boolean) ∈ lw_tbl := jtb3 (List.mem_of_getElem? (i := 105) rfl)
set_option maxRecDepth 100000 in
theorem jcw66 : Cond.code yX9_skip cX9_skip 1 none ∈ lw_tbl := jtb2 (List.mem_of_getElem? (i := 221) rfl)
set_option maxRecDepth 100000 in
theorem jcw67 : Cond.code yX9_over cX9_over 1 (some .boolean) ∈ lw_tbl := jtb3 (List.mem_of_getElem? (i := 60) rfl)
set_option maxRecDepth 100000 in
theorem jcw68 : Cond.code yX9_took cX9_took 2 (some .boolean) ∈ lw_tbl := jtb3 (List.mem_of_getElem? (i := 68) rfl)
set_option maxRecDepth 100000 in
theorem jcw69 : Cond.code yX9_find cX9_find 7 (some .int) ∈ lw_tbl := jtb2 (List.mem_of_getElem? (i := 226) rfl)
set_option maxRecDepth 100000 in
theorem jcw70 : Cond.code yX9_passWord cX9_passWord 1 none ∈ lw_tbl := jtb3 (List.mem_of_getElem? (i := 46) rfl)
set_option maxRecDepth 100000 in
theorem jcw71 : Cond.code yX9_tookWord cX9_tookWord 2 (some .boolean) ∈ lw_tbl := jtb3 (List.mem_of_getElem? (i := 127) rfl)
set_option maxRecDepth 100000 in
theorem jcw72 : Cond.code yX9_number cX9_number 6 (some .int) ∈ lw_tbl := jtb3 (List.mem_of_getElem? (i := 54) rfl)
set_option maxRecDepth 100000 in
theorem jcw73 : Cond.code yX10_copy cX10_copy 2 none ∈ lw_tbl := jtb3 (List.mem_of_getElem? (i := 218) rfl)
set_option maxRecDepth 100000 in
theorem jcw74 : Cond.code yX10_begin cX10_begin 3 none ∈ lw_tbl := jtb3 (List.mem_of_getElem? (i := 79) rfl)
set_option maxRecDepth 100000 in
theorem jcw75 : Cond.code yX10_bitsAt cX10_bitsAt 5 (some .int) ∈ lw_tbl := jtb3 (List.mem_of_getElem? (i := 191) rfl)
set_option maxRecDepth 100000 in
theorem jcw76 : Cond.code yX10_fullTraps cX10_fullTraps 4 (some .int) ∈ lw_tbl := jtb4 (List.mem_of_getElem? (i := 109) rfl)
set_option maxRecDepth 100000 in
theorem jcw77 : Cond.code yX10_places cX10_places 5 (some .long) ∈ lw_tbl := jtb4 (List.mem_of_getElem? (i := 223) rfl)
set_option maxRecDepth 100000 in
theorem jcw78 : Cond.code yX11_feed cX11_feed 6 (some .int) ∈ lw_tbl := jtb2 (List.mem_of_getElem? (i := 197) rfl)
set_option maxRecDepth 100000 in
theorem jcw79 : Cond.code yX11_end cX11_end 2 (some .int) ∈ lw_tbl := jtb2 (List.mem_of_getElem? (i := 205) rfl)
set_option maxRecDepth 100000 in
theorem jcw80 : Cond.code yX11_river cX11_river 2 (some .int) ∈ lw_tbl := jtb2 (List.mem_of_getElem? (i := 209) rfl)
set_option maxRecDepth 100000 in
theorem jcw81 : Cond.code yX11_rule cX11_rule 2 (some .int) ∈ lw_tbl := jtb3 (List.mem_of_getElem? (i := 83) rfl)
set_option maxRecDepth 100000 in
theorem jcw82 : Cond.code yX11_force cX11_force 3 (some .int) ∈ lw_tbl := jtb3 (List.mem_of_getElem? (i := 156) rfl)
set_option maxRecDepth 100000 in
theorem jcw83 : Cond.code yX11_memory cX11_memory 3 (some .int) ∈ lw_tbl := jtb3 (List.mem_of_getElem? (i := 160) rfl)
set_option maxRecDepth 100000 in
theorem jcw84 : Cond.code yX11_trap cX11_trap 3 (some .int) ∈ lw_tbl := jtb3 (List.mem_of_getElem? (i := 171) rfl)
set_option maxRecDepth 100000 in
theorem jcw85 : Cond.code yX11_person cX11_person 2 (some .int) ∈ lw_tbl := jtb3 (List.mem_of_getElem? (i := 179) rfl)
set_option maxRecDepth 100000 in
theorem jcw86 : Cond.code yX11_moon cX11_moon 2 (some .int) ∈ lw_tbl := jtb3 (List.mem_of_getElem? (i := 195) rfl)
set_option maxRecDepth 100000 in
theorem jcw87 : Cond.code yX11_night cX11_night 1 (some .int) ∈ lw_tbl := jtb3 (List.mem_of_getElem? (i := 210) rfl)
set_option maxRecDepth 100000 in
theorem jcw88 : Cond.code yX11_lift cX11_lift 4 (some .int) ∈ lw_tbl := jtb4 (List.mem_of_getElem? (i := 27) rfl)
set_option maxRecDepth 100000 in
theorem jcw89 : Cond.code yX11_sink cX11_sink 6 (some .int) ∈ lw_tbl := jtb4 (List.mem_of_getElem? (i := 31) rfl)
set_option maxRecDepth 100000 in
theorem jcw90 : Cond.code yX11_free cX11_free 4 (some .int) ∈ lw_tbl := jtb4 (List.mem_of_getElem? (i := 43) rfl)
set_option maxRecDepth 100000 in
theorem jcw91 : Cond.code yX11_give cX11_give 4 (some .int) ∈ lw_tbl := jtb4 (List.mem_of_getElem? (i := 51) rfl)
set_option maxRecDepth 100000 in
theorem jcw92 : Cond.code yX11_undo cX11_undo 1 (some .int) ∈ lw_tbl := jtb4 (List.mem_of_getElem? (i := 55) rfl)
set_option maxRecDepth 100000 in
theorem jcw93 : Cond.code yX11_ahead cX11_ahead 3 (some .int) ∈ lw_tbl := jtb4 (List.mem_of_getElem? (i := 63) rfl)
set_option maxRecDepth 100000 in
theorem jcw94 : Cond.code yX11_caught cX11_caught 3 (some .int) ∈ lw_tbl := jtb4 (List.mem_of_getElem? (i := 81) rfl)
set_option maxRecDepth 100000 in
theorem jcw95 : Cond.code yX11_atSea cX11_atSea 2 (some .int) ∈ lw_tbl := jtb4 (List.mem_of_getElem? (i := 96) rfl)
set_option maxRecDepth 100000 in
theorem jcw96 : Cond.code yX11_full cX11_full 1 (some .int) ∈ lw_tbl := jtb4 (List.mem_of_getElem? (i := 101) rfl)
set_option maxRecDepth 100000 in
theorem jcw97 : Cond.code yX11_bestSink cX11_bestSink 4 (some .int) ∈ lw_tbl := jtb4 (List.mem_of_getElem? (i := 113) rfl)
set_option maxRecDepth 100000 in
theorem jcw98 : Cond.code yX11_lay cX11_lay 6 (some .int) ∈ lw_tbl := jtb4 (List.mem_of_getElem? (i := 125) rfl)
set_option maxRecDepth 100000 in
theorem jcw99 : Cond.code yX11_throats cX11_throats 3 (some .int) ∈ lw_tbl := jtb4 (List.mem_of_getElem? (i := 139) rfl)
set_option maxRecDepth 100000 in
theorem jcw100 : Cond.code yX11_astray cX11_astray 1 (some .int) ∈ lw_tbl := jtb4 (List.mem_of_getElem? (i := 147) rfl)
set_option maxRecDepth 100000 in
theorem jcw101 : Cond.code yX11_rings cX11_rings 2 (some .int) ∈ lw_tbl := jtb4 (List.mem_of_getElem? (i := 154) rfl)
set_option maxRecDepth 100000 in
theorem jcw102 : Cond.code yX11_right cX11_right 4 (some .int) ∈ lw_tbl := jtb4 (List.mem_of_getElem? (i := 166) rfl)
set_option maxRecDepth 100000 in
theorem jcw103 : Cond.code yX11_of cX11_of 2 (some .int) ∈ lw_tbl := jtb4 (List.mem_of_getElem? (i := 170) rfl)
set_option maxRecDepth 100000 in
theorem jcw104 : Cond.code yX11_rests cX11_rests 5 (some .int) ∈ lw_tbl := jtb4 (List.mem_of_getElem? (i := 199) rfl)
set_option maxRecDepth 100000 in
theorem jcw105 : Cond.code yX11_cycle cX11_cycle 2 (some .int) ∈ lw_tbl := jtb4 (List.mem_of_getElem? (i := 215) rfl)
set_option maxRecDepth 100000 in
theorem jcw106 : Cond.code yX11_pence cX11_pence 3 (some .int) ∈ lw_tbl := jtb4 (List.mem_of_getElem? (i := 230) rfl)
set_option maxRecDepth 100000 in
theorem jcw107 : Cond.code yX11_note cX11_note 4 (some .int) ∈ lw_tbl := jtb5 (List.mem_of_getElem? (i := 0) rfl)
set_option maxRecDepth 100000 in
theorem jcw108 : Cond.code yX11_ruled cX11_ruled 3 (some .int) ∈ lw_tbl := jtb5 (List.mem_of_getElem? (i := 8) rfl)
set_option maxRecDepth 100000 in
theorem jcw109 : Cond.code yX11_look cX11_look 4 (some .int) ∈ lw_tbl := jtb5 (List.mem_of_getElem? (i := 20) rfl)
set_option maxRecDepth 100000 in
theorem jcw110 : Cond.code yX11_seed cX11_seed 3 (some .int) ∈ lw_tbl := jtb5 (List.mem_of_getElem? (i := 32) rfl)
set_option maxRecDepth 100000 in
theorem jcw111 : Cond.code yX11_moons cX11_moons 5 (some .int) ∈ lw_tbl := jtb5 (List.mem_of_getElem? (i := 36) rfl)
set_option maxRecDepth 100000 in
theorem jcw112 : Cond.code yX11_count cX11_count 2 (some .int) ∈ lw_tbl := jtb5 (List.mem_of_getElem? (i := 56) rfl)
set_option maxRecDepth 100000 in
theorem jcw113 : Cond.code yX11_image cX11_image 2 (some .int) ∈ lw_tbl := jtb5 (List.mem_of_getElem? (i := 65) rfl)
set_option maxRecDepth 100000 in
theorem jcw114 : Cond.code yX11_back cX11_back 2 (some .int) ∈ lw_tbl := jtb5 (List.mem_of_getElem? (i := 80) rfl)
set_option maxRecDepth 100000 in
theorem jcw115 : Cond.code yX11_within cX11_within 3 (some .boolean) ∈ lw_tbl := jtb3 (List.mem_of_getElem? (i := 167) rfl)
set_option maxRecDepth 100000 in
theorem jcw116 : Cond.code yX11_isFreePlace cX11_isFreePlace 1 (some .boolean) ∈ lw_tbl := jtb3 (List.mem_of_getElem? (i := 238) rfl)
set_option maxRecDepth 100000 in
theorem jcw117 : Cond.code yX11_isMemory cX11_isMemory 2 (some .boolean) ∈ lw_tbl := jtb3 (List.mem_of_getElem? (i := 164) rfl)
set_option maxRecDepth 100000 in
theorem jcw118 : Cond.code yX11_isTrap cX11_isTrap 2 (some .boolean) ∈ lw_tbl := jtb3 (List.mem_of_getElem? (i := 175) rfl)
set_option maxRecDepth 100000 in
theorem jcw119 : Cond.code yX11_isPerson cX11_isPerson 2 (some .boolean) ∈ lw_tbl := jtb3 (List.mem_of_getElem? (i := 183) rfl)
set_option maxRecDepth 100000 in
theorem jcw120 : Cond.code yX11_isPool cX11_isPool 2 (some .boolean) ∈ lw_tbl := jtb4 (List.mem_of_getElem? (i := 39) rfl)
set_option maxRecDepth 100000 in
theorem jcw121 : Cond.code yX11_isEmptyTrap cX11_isEmptyTrap 2 (some .boolean) ∈ lw_tbl := jtb4 (List.mem_of_getElem? (i := 35) rfl)
set_option maxRecDepth 100000 in
theorem jcw122 : Cond.code yX11_isFree cX11_isFree 2 (some .boolean) ∈ lw_tbl := jtb4 (List.mem_of_getElem? (i := 85) rfl)
set_option maxRecDepth 100000 in
theorem jcw123 : Cond.code yX11_isHad cX11_isHad 2 (some .boolean) ∈ lw_tbl := jtb4 (List.mem_of_getElem? (i := 47) rfl)
set_option maxRecDepth 100000 in
theorem jcw124 : Cond.code yX11_ruling cX11_ruling 1 (some (.object "EelThroat$Rule")) ∈ lw_tbl := jtb3 (List.mem_of_getElem? (i := 226) rfl)
set_option maxRecDepth 100000 in
theorem jcw125 : Cond.code yX12_in cX12_in 6 (some .boolean) ∈ lw_tbl := jtb6 (List.mem_of_getElem? (i := 36) rfl)
set_option maxRecDepth 100000 in
theorem jcw126 : Cond.code yX12_isOf cX12_isOf 2 (some .boolean) ∈ lw_tbl := jtb7 (List.mem_of_getElem? (i := 77) rfl)
set_option maxRecDepth 100000 in
theorem jcw127 : Cond.code yX12_bits cX12_bits 3 (some .int) ∈ lw_tbl := jtb7 (List.mem_of_getElem? (i := 92) rfl)
set_option maxRecDepth 100000 in
theorem jcw128 : Cond.code yX12_four cX12_four 3 none ∈ lw_tbl := jtb5 (List.mem_of_getElem? (i := 207) rfl)
set_option maxRecDepth 100000 in
theorem jcw129 : Cond.code yX12_feed cX12_feed 6 (some .int) ∈ lw_tbl := jtb5 (List.mem_of_getElem? (i := 203) rfl)
set_option maxRecDepth 100000 in
theorem jcw130 : Cond.code yX12_end cX12_end 2 (some .int) ∈ lw_tbl := jtb5 (List.mem_of_getElem? (i := 211) rfl)
set_option maxRecDepth 100000 in
theorem jcw131 : Cond.code yX12_fails cX12_fails 3 (some .boolean) ∈ lw_tbl := jtb6 (List.mem_of_getElem? (i := 9) rfl)
set_option maxRecDepth 100000 in
theorem jcw132 : Cond.code yX12_see cX12_see 1 (some .int) ∈ lw_tbl := jtb5 (List.mem_of_getElem? (i := 227) rfl)
set_option maxRecDepth 100000 in
theorem jcw133 : Cond.code yX12_isDigit cX12_isDigit 2 (some .boolean) ∈ lw_tbl := jtb6 (List.mem_of_getElem? (i := 33) rfl)
set_option maxRecDepth 100000 in
theorem jcw134 : Cond.code yX12_isLetter cX12_isLetter 2 (some .boolean) ∈ lw_tbl := jtb6 (List.mem_of_getElem? (i := 0) rfl)
set_option maxRecDepth 100000 in
theorem jcw135 : Cond.code yX12_isWord cX12_isWord 6 (some .boolean) ∈ lw_tbl := jtb5 (List.mem_of_getElem? (i := 236) rfl)
set_option maxRecDepth 100000 in
theorem jcw136 : Cond.code yX12_passWord cX12_passWord 1 none ∈ lw_tbl := jtb6 (List.mem_of_getElem? (i := 21) rfl)
set_option maxRecDepth 100000 in
theorem jcw137 : Cond.code yX12_takesWord cX12_takesWord 3 (some .boolean) ∈ lw_tbl := jtb6 (List.mem_of_getElem? (i := 97) rfl)
set_option maxRecDepth 100000 in
theorem jcw138 : Cond.code yX12_numberHere cX12_numberHere 5 (some .boolean) ∈ lw_tbl := jtb6 (List.mem_of_getElem? (i := 29) rfl)
set_option maxRecDepth 100000 in
theorem jcw139 : Cond.code yX12_wordHere cX12_wordHere 1 (some .int) ∈ lw_tbl := jtb6 (List.mem_of_getElem? (i := 81) rfl)
set_option maxRecDepth 100000 in
theorem jcw140 : Cond.code yX12_puts cX12_puts 3 none ∈ lw_tbl := jtb6 (List.mem_of_getElem? (i := 77) rfl)
set_option maxRecDepth 100000 in
theorem jcw141 : Cond.code yX12_makes cX12_makes 2 (some .boolean) ∈ lw_tbl := jtb6 (List.mem_of_getElem? (i := 73) rfl)
set_option maxRecDepth 100000 in
theorem jcw142 : Cond.code yX12_opens cX12_opens 2 (some .boolean) ∈ lw_tbl := jtb6 (List.mem_of_getElem? (i := 110) rfl)
set_option maxRecDepth 100000 in
theorem jcw143 : Cond.code yX12_strength cX12_strength 1 (some .int) ∈ lw_tbl := jtb6 (List.mem_of_getElem? (i := 125) rfl)
set_option maxRecDepth 100000 in
theorem jcw144 : Cond.code yX12_layDown cX12_layDown 2 none ∈ lw_tbl := jtb6 (List.mem_of_getElem? (i := 122) rfl)
set_option maxRecDepth 100000 in
theorem jcw145 : Cond.code yX12_value cX12_value 3 (some .boolean) ∈ lw_tbl := jtb6 (List.mem_of_getElem? (i := 68) rfl)
set_option maxRecDepth 100000 in
theorem jcw146 : Cond.code yX12_term cX12_term 2 (some .boolean) ∈ lw_tbl := jtb6 (List.mem_of_getElem? (i := 64) rfl)
set_option maxRecDepth 100000 in
theorem jcw147 : Cond.code yX12_sum cX12_sum 2 (some .boolean) ∈ lw_tbl := jtb6 (List.mem_of_getElem? (i := 60) rfl)
set_option maxRecDepth 100000 in
theorem jcw148 : Cond.code yX12_compare cX12_compare 5 (some .boolean) ∈ lw_tbl := jtb6 (List.mem_of_getElem? (i := 114) rfl)
set_option maxRecDepth 100000 in
theorem jcw149 : Cond.code yX12_fact cX12_fact 3 (some .boolean) ∈ lw_tbl := jtb6 (List.mem_of_getElem? (i := 105) rfl)
set_option maxRecDepth 100000 in
theorem jcw150 : Cond.code yX12_isInside cX12_isInside 2 (some .boolean) ∈ lw_tbl := jtb6 (List.mem_of_getElem? (i := 129) rfl)
set_option maxRecDepth 100000 in
theorem jcw151 : Cond.code yX12_closes cX12_closes 1 none ∈ lw_tbl := jtb6 (List.mem_of_getElem? (i := 118) rfl)
set_option maxRecDepth 100000 in
theorem jcw152 : Cond.code yX12_tested cX12_tested 3 (some .boolean) ∈ lw_tbl := jtb6 (List.mem_of_getElem? (i := 101) rfl)
set_option maxRecDepth 100000 in
theorem jcw153 : Cond.code yX12_isGoHere cX12_isGoHere 2 (some .boolean) ∈ lw_tbl := jtb6 (List.mem_of_getElem? (i := 56) rfl)
set_option maxRecDepth 100000 in
theorem jcw154 : Cond.code yX12_cellHere cX12_cellHere 4 (some .boolean) ∈ lw_tbl := jtb6 (List.mem_of_getElem? (i := 25) rfl)
set_option maxRecDepth 100000 in
theorem jcw155 : Cond.code yX12_isRiverHere cX12_isRiverHere 2 (some .boolean) ∈ lw_tbl := jtb6 (List.mem_of_getElem? (i := 17) rfl)
set_option maxRecDepth 100000 in
theorem jcw156 : Cond.code yX12_isMoonHere cX12_isMoonHere 2 (some .boolean) ∈ lw_tbl := jtb6 (List.mem_of_getElem? (i := 40) rfl)
set_option maxRecDepth 100000 in
theorem jcw157 : Cond.code yX12_isPersonHere cX12_isPersonHere 2 (some .boolean) ∈ lw_tbl := jtb6 (List.mem_of_getElem? (i := 44) rfl)
set_option maxRecDepth 100000 in
theorem jcw158 : Cond.code yX12_isMemoryHere cX12_isMemoryHere 3 (some .boolean) ∈ lw_tbl := jtb6 (List.mem_of_getElem? (i := 48) rfl)
set_option maxRecDepth 100000 in
theorem jcw159 : Cond.code yX12_isTrapHere cX12_isTrapHere 3 (some .boolean) ∈ lw_tbl := jtb6 (List.mem_of_getElem? (i := 52) rfl)
set_option maxRecDepth 100000 in
theorem jcw160 : Cond.code yX12_riverLineHere cX12_riverLineHere 2 (some .boolean) ∈ lw_tbl := jtb6 (List.mem_of_getElem? (i := 13) rfl)
set_option maxRecDepth 100000 in
theorem jcw161 : Cond.code yX12_isRiverWord cX12_isRiverWord 1 (some .boolean) ∈ lw_tbl := jtb5 (List.mem_of_getElem? (i := 231) rfl)
set_option maxRecDepth 100000 in
theorem jcw162 : Cond.code yX12_clauseHere cX12_clauseHere 3 (some .boolean) ∈ lw_tbl := jtb5 (List.mem_of_getElem? (i := 223) rfl)
set_option maxRecDepth 100000 in
theorem jcw163 : Cond.code yX12_readsAll cX12_readsAll 2 (some .boolean) ∈ lw_tbl := jtb5 (List.mem_of_getElem? (i := 219) rfl)
set_option maxRecDepth 100000 in
theorem jcw164 : Cond.code yX12_rule cX12_rule 1 (some .int) ∈ lw_tbl := jtb5 (List.mem_of_getElem? (i := 215) rfl)
set_option maxRecDepth 100000 in
theorem jcw165 : Cond.code yX12_river cX12_river 2 (some .int) ∈ lw_tbl := jtb6 (List.mem_of_getElem? (i := 135) rfl)
set_option maxRecDepth 100000 in
theorem jcw166 : Cond.code yX12_isRule cX12_isRule 2 (some .boolean) ∈ lw_tbl := jtb6 (List.mem_of_getElem? (i := 147) rfl)
set_option maxRecDepth 100000 in
theorem jcw167 : Cond.code yX12_push cX12_push 3 none ∈ lw_tbl := jtb7 (List.mem_of_getElem? (i := 13) rfl)
set_option maxRecDepth 100000 in
theorem jcw168 : Cond.code yX12_pop cX12_pop 1 (some .long) ∈ lw_tbl := jtb7 (List.mem_of_getElem? (i := 17) rfl)
set_option maxRecDepth 100000 in
theorem jcw169 : Cond.code yX12_one cX12_one 5 (some .long) ∈ lw_tbl := jtb7 (List.mem_of_getElem? (i := 20) rfl)
set_option maxRecDepth 100000 in
theorem jcw170 : Cond.code yX12_reckons cX12_reckons 11 (some .long) ∈ lw_tbl := jtb7 (List.mem_of_getElem? (i := 9) rfl)
set_option maxRecDepth 100000 in
theorem jcw171 : Cond.code yX12_isRiver cX12_isRiver 1 (some .boolean) ∈ lw_tbl := jtb6 (List.mem_of_getElem? (i := 200) rfl)
set_option maxRecDepth 100000 in
theorem jcw172 : Cond.code yX12_rounds cX12_rounds 1 (some .int) ∈ lw_tbl := jtb6 (List.mem_of_getElem? (i := 196) rfl)
set_option maxRecDepth 100000 in
theorem jcw173 : Cond.code yX12_isPool cX12_isPool 2 (some .boolean) ∈ lw_tbl := jtb6 (List.mem_of_getElem? (i := 233) rfl)
set_option maxRecDepth 100000 in
theorem jcw174 : Cond.code yX12_isPerson cX12_isPerson 2 (some .boolean) ∈ lw_tbl := jtb6 (List.mem_of_getElem? (i := 184) rfl)
set_option maxRecDepth 100000 in
theorem jcw175 : Cond.code yX12_isMemory cX12_isMemory 2 (some .boolean) ∈ lw_tbl := jtb6 (List.mem_of_getElem? (i := 155) rfl)
set_option maxRecDepth 100000 in
theorem jcw176 : Cond.code yX12_isTrap cX12_isTrap 2 (some .boolean) ∈ lw_tbl := jtb6 (List.mem_of_getElem? (i := 164) rfl)
set_option maxRecDepth 100000 in
theorem jcw177 : Cond.code yX12_isFree cX12_isFree 2 (some .boolean) ∈ lw_tbl := jtb6 (List.mem_of_getElem? (i := 224) rfl)
set_option maxRecDepth 100000 in
theorem jcw178 : Cond.code yX12_isHad cX12_isHad 2 (some .boolean) ∈ lw_tbl := jtb7 (List.mem_of_getElem? (i := 49) rfl)
set_option maxRecDepth 100000 in
theorem jcw179 : Cond.code yX12_poolOf cX12_poolOf 2 (some .int) ∈ lw_tbl := jtb6 (List.mem_of_getElem? (i := 168) rfl)
set_option maxRecDepth 100000 in
theorem jcw180 : Cond.code yX12_baitOf cX12_baitOf 2 (some .int) ∈ lw_tbl := jtb6 (List.mem_of_getElem? (i := 172) rfl)
set_option maxRecDepth 100000 in
theorem jcw181 : Cond.code yX12_memoryIn cX12_memoryIn 3 (some .int) ∈ lw_tbl := jtb6 (List.mem_of_getElem? (i := 176) rfl)
set_option maxRecDepth 100000 in
theorem jcw182 : Cond.code yX12_isEmptyTrap cX12_isEmptyTrap 2 (some .boolean) ∈ lw_tbl := jtb7 (List.mem_of_getElem? (i := 40) rfl)
set_option maxRecDepth 100000 in
theorem jcw183 : Cond.code yX12_onesThat cX12_onesThat 5 (some .int) ∈ lw_tbl := jtb6 (List.mem_of_getElem? (i := 188) rfl)
set_option maxRecDepth 100000 in
theorem jcw184 : Cond.code yX12_lightOn cX12_lightOn 2 (some .int) ∈ lw_tbl := jtb7 (List.mem_of_getElem? (i := 1) rfl)
set_option maxRecDepth 100000 in
theorem jcw185 : Cond.code yX12_begins cX12_begins 2 none ∈ lw_tbl := jtb6 (List.mem_of_getElem? (i := 139) rfl)
set_option maxRecDepth 100000 in
theorem jcw186 : Cond.code yX12_force cX12_force 3 (some .int) ∈ lw_tbl := jtb6 (List.mem_of_getElem? (i := 143) rfl)
set_option maxRecDepth 100000 in
theorem jcw187 : Cond.code yX12_memory cX12_memory 3 (some .int) ∈ lw_tbl := jtb6 (List.mem_of_getElem? (i := 151) rfl)
set_option maxRecDepth 100000 in
theorem jcw188 : Cond.code yX12_trap cX12_trap 3 (some .int) ∈ lw_tbl := jtb6 (List.mem_of_getElem? (i := 160) rfl)
set_option maxRecDepth 100000 in
theorem jcw189 : Cond.code yX12_person cX12_person 2 (some .int) ∈ lw_tbl := jtb6 (List.mem_of_getElem? (i := 180) rfl)
set_option maxRecDepth 100000 in
theorem jcw190 : Cond.code yX12_moon cX12_moon 2 (some .int) ∈ lw_tbl := jtb6 (List.mem_of_getElem? (i := 192) rfl)
set_option maxRecDepth 100000 in
theorem jcw191 : Cond.code yX12_summedBy cX12_summedBy 4 (some .long) ∈ lw_tbl := jtb7 (List.mem_of_getElem? (i := 5) rfl)
set_option maxRecDepth 100000 in
theorem jcw192 : Cond.code yX12_sumOf cX12_sumOf 7 (some .long) ∈ lw_tbl := jtb6 (List.mem_of_getElem? (i := 237) rfl)
set_option maxRecDepth 100000 in
theorem jcw193 : Cond.code yX12_choice cX12_choice 9 (some .int) ∈ lw_tbl := jtb6 (List.mem_of_getElem? (i := 229) rfl)
set_option maxRecDepth 100000 in
theorem jcw194 : Cond.code yX12_swim cX12_swim 4 none ∈ lw_tbl := jtb6 (List.mem_of_getElem? (i := 220) rfl)
set_option maxRecDepth 100000 in
theorem jcw195 : Cond.code yX12_fitsIn cX12_fitsIn 3 (some .boolean) ∈ lw_tbl := jtb7 (List.mem_of_getElem? (i := 28) rfl)
set_option maxRecDepth 100000 in
theorem jcw196 : Cond.code yX12_catches cX12_catches 3 (some .int) ∈ lw_tbl := jtb7 (List.mem_of_getElem? (i := 24) rfl)
set_option maxRecDepth 100000 in
theorem jcw197 : Cond.code yX12_passes cX12_passes 3 (some .int) ∈ lw_tbl := jtb6 (List.mem_of_getElem? (i := 216) rfl)
set_option maxRecDepth 100000 in
theorem jcw198 : Cond.code yX12_passesAll cX12_passesAll 3 none ∈ lw_tbl := jtb7 (List.mem_of_getElem? (i := 66) rfl)
set_option maxRecDepth 100000 in
theorem jcw199 : Cond.code yX12_keepsAct cX12_keepsAct 2 none ∈ lw_tbl := jtb6 (List.mem_of_getElem? (i := 212) rfl)
set_option maxRecDepth 100000 in
theorem jcw200 : Cond.code yX12_undo cX12_undo 2 (some .int) ∈ lw_tbl := jtb6 (List.mem_of_getElem? (i := 204) rfl)
set_option maxRecDepth 100000 in
theorem jcw201 : Cond.code yX12_night cX12_night 1 (some .int) ∈ lw_tbl := jtb6 (List.mem_of_getElem? (i := 208) rfl)
set_option maxRecDepth 100000 in
theorem jcw202 : Cond.code yX12_lift cX12_lift 3 (some .int) ∈ lw_tbl := jtb7 (List.mem_of_getElem? (i := 32) rfl)
set_option maxRecDepth 100000 in
theorem jcw203 : Cond.code yX12_sink cX12_sink 5 (some .int) ∈ lw_tbl := jtb7 (List.mem_of_getElem? (i := 36) rfl)
set_option maxRecDepth 100000 in
theorem jcw204 : Cond.code yX12_free cX12_free 4 (some .int) ∈ lw_tbl := jtb7 (List.mem_of_getElem? (i := 45) rfl)
set_option maxRecDepth 100000 in
theorem jcw205 : Cond.code yX12_give cX12_give 4 (some .int) ∈ lw_tbl := jtb7 (List.mem_of_getElem? (i := 53) rfl)
set_option maxRecDepth 100000 in
theorem jcw206 : Cond.code yX12_keeps cX12_keeps 2 none ∈ lw_tbl := jtb7 (List.mem_of_getElem? (i := 62) rfl)
set_option maxRecDepth 100000 in
theorem jcw207 : Cond.code yX12_laysBack cX12_laysBack 2 none ∈ lw_tbl := jtb7 (List.mem_of_getElem? (i := 70) rfl)
set_option maxRecDepth 100000 in
theorem jcw208 : Cond.code yX12_ahead cX12_ahead 4 (some .int) ∈ lw_tbl := jtb7 (List.mem_of_getElem? (i := 57) rfl)
set_option maxRecDepth 100000 in
theorem jcw209 : Cond.code yX12_caught cX12_caught 5 (some .int) ∈ lw_tbl := jtb7 (List.mem_of_getElem? (i := 74) rfl)
set_option maxRecDepth 100000 in
theorem jcw210 : Cond.code yX12_atSea cX12_atSea 3 (some .int) ∈ lw_tbl := jtb7 (List.mem_of_getElem? (i := 81) rfl)
set_option maxRecDepth 100000 in
theorem jcw211 : Cond.code yX12_trapped cX12_trapped 1 (some .int) ∈ lw_tbl := jtb7 (List.mem_of_getElem? (i := 89) rfl)
set_option maxRecDepth 100000 in
theorem jcw212 : Cond.code yX12_full cX12_full 3 (some .int) ∈ lw_tbl := jtb7 (List.mem_of_getElem? (i := 85) rfl)
set_option maxRecDepth 100000 in
theorem jcw213 : Cond.code yX12_trappedIn cX12_trappedIn 3 (some .int) ∈ lw_tbl := jtb7 (List.mem_of_getElem? (i := 102) rfl)
set_option maxRecDepth 100000 in
theorem jcw214 : Cond.code yX12_bestSink cX12_bestSink 8 (some .int) ∈ lw_tbl := jtb7 (List.mem_of_getElem? (i := 96) rfl)
set_option maxRecDepth 100000 in
theorem jcw215 : Cond.code yX12_lay cX12_lay 7 (some .int) ∈ lw_tbl := jtb7 (List.mem_of_getElem? (i := 106) rfl)
set_option maxRecDepth 100000 in
theorem jcw216 : Cond.code yX12_throats cX12_throats 6 (some .int) ∈ lw_tbl := jtb7 (List.mem_of_getElem? (i := 110) rfl)
set_option maxRecDepth 100000 in
theorem jcw217 : Cond.code yX12_isAstray cX12_isAstray 2 (some .boolean) ∈ lw_tbl := jtb7 (List.mem_of_getElem? (i := 118) rfl)
set_option maxRecDepth 100000 in
theorem jcw218 : Cond.code yX12_astray cX12_astray 3 (some .int) ∈ lw_tbl := jtb7 (List.mem_of_getElem? (i := 114) rfl)
set_option maxRecDepth 100000 in
theorem jcw219 : Cond.code yX12_isLinked cX12_isLinked 7 (some .boolean) ∈ lw_tbl := jtb7 (List.mem_of_getElem? (i := 130) rfl)
set_option maxRecDepth 100000 in
theorem jcw220 : Cond.code yX12_isRing cX12_isRing 3 (some .boolean) ∈ lw_tbl := jtb7 (List.mem_of_getElem? (i := 126) rfl)
set_option maxRecDepth 100000 in
theorem jcw221 : Cond.code yX12_rings cX12_rings 5 (some .int) ∈ lw_tbl := jtb7 (List.mem_of_getElem? (i := 122) rfl)
set_option maxRecDepth 100000 in
theorem jcw222 : Cond.code yX12_right cX12_right 5 (some .int) ∈ lw_tbl := jtb7 (List.mem_of_getElem? (i := 134) rfl)
set_option maxRecDepth 100000 in
theorem jcw223 : Cond.code yX12_isRest cX12_isRest 4 (some .boolean) ∈ lw_tbl := jtb7 (List.mem_of_getElem? (i := 147) rfl)
set_option maxRecDepth 100000 in
theorem jcw224 : Cond.code yX12_sizeIn cX12_sizeIn 2 (some .int) ∈ lw_tbl := jtb7 (List.mem_of_getElem? (i := 143) rfl)
set_option maxRecDepth 100000 in
theorem jcw225 : Cond.code yX12_rests cX12_rests 8 (some .int) ∈ lw_tbl := jtb7 (List.mem_of_getElem? (i := 138) rfl)
set_option maxRecDepth 100000 in
theorem jcw226 : Cond.code yX12_areAlike cX12_areAlike 4 (some .boolean) ∈ lw_tbl := jtb7 (List.mem_of_getElem? (i := 155) rfl)
set_option maxRecDepth 100000 in
theorem jcw227 : Cond.code yX12_cycle cX12_cycle 4 (some .int) ∈ lw_tbl := jtb7 (List.mem_of_getElem? (i := 151) rfl)
set_option maxRecDepth 100000 in
theorem jcw228 : Cond.code yX12_sizesOf cX12_sizesOf 4 (some .int) ∈ lw_tbl := jtb7 (List.mem_of_getElem? (i := 164) rfl)
set_option maxRecDepth 100000 in
theorem jcw229 : Cond.code yX12_pence cX12_pence 9 (some .int) ∈ lw_tbl := jtb7 (List.mem_of_getElem? (i := 159) rfl)
set_option maxRecDepth 100000 in
theorem jcw230 : Cond.code yX12_note cX12_note 5 (some .int) ∈ lw_tbl := jtb7 (List.mem_of_getElem? (i := 168) rfl)
set_option maxRecDepth 100000 in
theorem jcw231 : Cond.code yX12_freeIn cX12_freeIn 2 (some .int) ∈ lw_tbl := jtb7 (List.mem_of_getElem? (i := 185) rfl)
set_option maxRecDepth 100000 in
theorem jcw232 : Cond.code yX12_areNotesSo cX12_areNotesSo 3 (some .boolean) ∈ lw_tbl := jtb7 (List.mem_of_getElem? (i := 181) rfl)
set_option maxRecDepth 100000 in
theorem jcw233 : Cond.code yX12_areAllSo cX12_areAllSo 6 (some .boolean) ∈ lw_tbl := jtb7 (List.mem_of_getElem? (i := 177) rfl)
set_option maxRecDepth 100000 in
theorem jcw234 : Cond.code yX12_of cX12_of 5 (some .int) ∈ lw_tbl := jtb7 (List.mem_of_getElem? (i := 173) rfl)
set_option maxRecDepth 100000 in
theorem jcw235 : Cond.code yX12_fillsFits cX12_fillsFits 4 none ∈ lw_tbl := jtb7 (List.mem_of_getElem? (i := 193) rfl)
set_option maxRecDepth 100000 in
theorem jcw236 : Cond.code yX12_ruled cX12_ruled 5 (some .int) ∈ lw_tbl := jtb7 (List.mem_of_getElem? (i := 189) rfl)
set_option maxRecDepth 100000 in
theorem jcw237 : Cond.code yX12_alikeAt cX12_alikeAt 6 (some .int) ∈ lw_tbl := jtb7 (List.mem_of_getElem? (i := 201) rfl)
set_option maxRecDepth 100000 in
theorem jcw238 : Cond.code yX12_look cX12_look 7 (some .int) ∈ lw_tbl := jtb7 (List.mem_of_getElem? (i := 197) rfl)
set_option maxRecDepth 100000 in
theorem jcw239 : Cond.code yX12_seed cX12_seed 3 (some .int) ∈ lw_tbl := jtb7 (List.mem_of_getElem? (i := 205) rfl)
set_option maxRecDepth 100000 in
theorem jcw240 : Cond.code yX12_draw cX12_draw 2 (some .int) ∈ lw_tbl := jtb7 (List.mem_of_getElem? (i := 214) rfl)
set_option maxRecDepth 100000 in
theorem jcw241 : Cond.code yX12_moons cX12_moons 9 (some .int) ∈ lw_tbl := jtb7 (List.mem_of_getElem? (i := 209) rfl)
set_option maxRecDepth 100000 in
theorem jcw242 : Cond.code yX12_count cX12_count 2 (some .int) ∈ lw_tbl := jtb7 (List.mem_of_getElem? (i := 222) rfl)
set_option maxRecDepth 100000 in
theorem jcw243 : Cond.code yX12_image cX12_image 3 (some .int) ∈ lw_tbl := jtb7 (List.mem_of_getElem? (i := 226) rfl)
set_option maxRecDepth 100000 in
theorem jcw244 : Cond.code yX12_back cX12_back 3 (some .int) ∈ lw_tbl := jtb7 (List.mem_of_getElem? (i := 230) rfl)
set_option maxRecDepth 100000 in
theorem jcw245 : Cond.code yJ6_bitCount_0f7a4 cJ6_bitCount_0f7a4 1 (some .int) ∈ lw_tbl := jtb4 (List.mem_of_getElem? (i := 132) rfl)
set_option maxRecDepth 100000 in
theorem jcw246 : Cond.code yJ9_max_7cf53 cJ9_max_7cf53 2 (some .int) ∈ lw_tbl := jtb3 (List.mem_of_getElem? (i := 202) rfl)
set_option maxRecDepth 100000 in
theorem jcw247 : Cond.code yJ9_min_7cf53 cJ9_min_7cf53 2 (some .int) ∈ lw_tbl := jtb3 (List.mem_of_getElem? (i := 222) rfl)
set_option maxRecDepth 100000 in
theorem jcw248 : Cond.code yJ0_length_8abf5 cJ0_length_8abf5 1 (some .int) ∈ lw_tbl := jtb2 (List.mem_of_getElem? (i := 230) rfl)
set_option maxRecDepth 100000 in
theorem jcw249 : Cond.code yJ0_charAt_5068e cJ0_charAt_5068e 2 (some .char) ∈ lw_tbl := jtb3 (List.mem_of_getElem? (i := 0) rfl)
theorem jinfo_ok0 : (((jinfo.drop 0).take 50).zip ((jposM.drop 0).take 50)).all (fun q => jokM1 q.1 q.2) = true := by decide +kernel
theorem jinfo_ok1 : (((jinfo.drop 50).take 50).zip ((jposM.drop 50).take 50)).all (fun q => jokM1 q.1 q.2) = true := by decide +kernel
theorem jinfo_ok2 : (((jinfo.drop 100).take 50).zip ((jposM.drop 100).take 50)).all (fun q => jokM1 q.1 q.2) = true := by decide +kernel
theorem jinfo_ok3 : (((jinfo.drop 150).take 50).zip ((jposM.drop 150).take 50)).all (fun q => jokM1 q.1 q.2) = true := by decide +kernel
theorem jinfo_ok4 : (((jinfo.drop 200).take 50).zip ((jposM.drop 200).take 50)).all (fun q => jokM1 q.1 q.2) = true := by decide +kernel
def jlF : List (Nat × Nat × Nat × Nat × Nat) := [(0, 11, 0, 0, 379), (0, 18, 0, 1, 380), (0, 26, 0, 2, 381), (1, 12, 1, 0, 444), (1, 21, 1, 1, 445), (1, 25, 1, 2, 446), (1, 29, 1, 3, 447), (1, 33, 1, 4, 448), (1, 36, 6, 1, 342), (1, 45, 6, 0, 339), (1, 53, 9, 1, 277), (1, 64, 9, 0, 272), (1, 68, 4, 6, 198), (1, 85, 4, 1, 180), (1, 88, 9, 3, 288), (1, 91, 9, 5, 294), (1, 94, 4, 5, 196), (1, 97, 4, 11, 212), (1, 100, 9, 4, 291), (1, 103, 9, 6, 299), (1, 113, 4, 10, 210), (1, 129, 6, 4, 351), (1, 132, 1, 5, 449), (2, 12, 2, 0, 473), (2, 21, 2, 1, 474), (2, 25, 2, 2, 475), (2, 29, 2, 3, 476), (2, 32, 6, 0, 338), (2, 38, 4, 4, 187), (2, 48, 9, 2, 284), (2, 55, 6, 2, 347), (2, 75, 9, 1, 281), (3, 9, 3, 1, 324), (3, 15, 3, 2, 325), (3, 18, 3, 3, 326), (3, 21, 3, 0, 322), (3, 37, 9, 0, 273), (3, 42, 9, 1, 280), (4, 9, 4, 7, 201), (4, 15, 4, 8, 202), (4, 18, 4, 9, 204), (4, 21, 4, 10, 206), (4, 24, 4, 11, 211), (4, 27, 4, 12, 215), (4, 30, 4, 13, 219), (4, 33, 4, 14, 221), (4, 36, 4, 15, 224), (4, 39, 4, 16, 226), (4, 42, 4, 0, 177), (4, 46, 4, 1, 179), (4, 50, 4, 2, 183), (4, 53, 4, 3, 186), (4, 56, 4, 4, 188), (4, 59, 4, 5, 192), (4, 62, 4, 6, 197), (4, 91, 8, 2, 148), (4, 109, 8, 3, 151), (5, 9, 5, 0, 491), (5, 15, 5, 1, 493), (5, 18, 5, 2, 495), (5, 22, 5, 3, 497), (5, 26, 5, 4, 499), (5, 43, 8, 2, 146), (5, 120, 8, 3, 152), (6, 12, 6, 0, 336), (6, 21, 6, 1, 341), (6, 28, 6, 2, 345), (6, 32, 6, 3, 348), (6, 46, 6, 4, 350), (6, 49, 4, 5, 193), (6, 56, 9, 1, 278), (7, 11, 7, 0, 396), (7, 15, 7, 1, 397), (7, 19, 7, 2, 398), (7, 22, 7, 3, 399), (7, 25, 9, 0, 270), (7, 45, 7, 11, 407), (7, 49, 7, 6, 402), (7, 53, 5, 3, 498), (7, 58, 7, 4, 400), (7, 62, 7, 5, 401), (7, 66, 7, 7, 403), (7, 69, 7, 8, 404), (7, 75, 4, 5, 194), (7, 78, 9, 1, 279), (7, 95, 4, 6, 199), (7, 98, 9, 3, 287), (7, 101, 4, 1, 181), (7, 110, 7, 9, 405), (7, 116, 7, 10, 406), (7, 123, 4, 10, 208), (7, 126, 4, 2, 184), (7, 129, 9, 6, 298), (7, 132, 4, 11, 214), (7, 135, 9, 5, 295), (7, 138, 9, 4, 292), (7, 141, 5, 2, 496), (7, 144, 5, 0, 492), (7, 147, 5, 1, 494), (7, 157, 9, 2, 285), (8, 9, 8, 0, 143), (8, 15, 8, 1, 145), (8, 19, 8, 2, 147), (8, 22, 8, 3, 149), (9, 9, 9, 1, 275), (9, 15, 9, 2, 283), (9, 18, 9, 3, 286), (9, 21, 9, 4, 290), (9, 24, 9, 5, 293), (9, 27, 9, 6, 297), (9, 30, 9, 0, 271), (9, 40, 4, 9, 205), (9, 45, 4, 12, 217), (9, 46, 4, 13, 220), (9, 47, 4, 14, 222), (9, 48, 4, 15, 225), (10, 10, 10, 0, 511), (10, 18, 10, 1, 512), (10, 25, 10, 3, 514), (10, 29, 10, 4, 515), (10, 36, 10, 5, 516), (10, 43, 10, 6, 517), (10, 50, 10, 7, 518), (10, 57, 10, 8, 519), (10, 64, 10, 9, 520), (10, 69, 8, 1, 144), (10, 81, 8, 3, 150), (10, 84, 6, 0, 340), (10, 91, 6, 1, 344), (10, 100, 6, 2, 346), (10, 104, 3, 0, 323), (10, 107, 0, 2, 382), (10, 108, 4, 5, 195), (10, 111, 10, 2, 513), (10, 115, 6, 3, 349), (10, 122, 4, 10, 209), (10, 125, 4, 11, 213), (10, 128, 4, 12, 218), (10, 131, 9, 1, 282), (10, 137, 9, 3, 289), (10, 140, 4, 14, 223), (10, 143, 9, 5, 296), (10, 146, 4, 16, 227), (10, 149, 9, 6, 300), (10, 170, 4, 0, 178), (10, 174, 9, 0, 274), (10, 189, 4, 8, 203), (10, 277, 6, 4, 352), (10, 283, 4, 1, 182), (10, 286, 4, 2, 185), (10, 289, 4, 4, 190), (10, 292, 4, 6, 200), (10, 301, 6, 5, 353), (11, 7, 11, 0, 1155), (11, 13, 11, 3, 1158), (11, 17, 11, 4, 1159), (11, 20, 11, 5, 1160), (11, 23, 11, 6, 1161), (11, 26, 11, 7, 1162), (11, 29, 11, 15, 1170), (11, 32, 11, 17, 1172), (11, 36, 11, 19, 1174), (11, 39, 11, 20, 1175), (11, 42, 11, 21, 1176), (11, 46, 11, 23, 1178), (11, 49, 11, 24, 1179), (11, 52, 11, 25, 1180), (11, 55, 11, 27, 1182), (11, 58, 11, 28, 1183), (11, 61, 11, 29, 1184), (11, 64, 11, 30, 1185), (11, 68, 11, 31, 1186), (11, 71, 11, 33, 1188), (11, 74, 11, 34, 1189), (11, 77, 11, 35, 1190), (11, 80, 11, 36, 1191), (11, 83, 11, 1, 1156), (11, 90, 11, 9, 1164), (11, 93, 11, 8, 1163), (11, 118, 11, 10, 1165), (11, 149, 11, 11, 1166), (11, 152, 11, 12, 1167), (11, 155, 11, 13, 1168), (11, 158, 11, 16, 1171), (11, 253, 11, 14, 1169), (11, 265, 11, 2, 1157), (11, 274, 11, 26, 1181), (11, 277, 11, 18, 1173), (11, 443, 11, 22, 1177), (11, 446, 11, 32, 1187), (12, 9, 6, 0, 337), (12, 15, 4, 5, 191), (12, 21, 6, 1, 343), (12, 25, 9, 1, 276), (12, 31, 4, 12, 216), (12, 34, 4, 4, 189), (12, 57, 4, 10, 207)]
def jcl (f : Nat) : vw_C := vwCl.getD f ("", (fun _ => ("", "", "", false)), 0)
theorem jlF_ok : jlF.all (fun q => decide (lw_tbl[q.2.2.2.2]? = some (.fieldLink (jown.getD q.1 "") q.2.1 (jcl q.2.2.1).1 ((jcl q.2.2.1).2.1 q.2.2.2.1).2.1 ((jcl q.2.2.1).2.1 q.2.2.2.1).2.2.1))) = true := by decide +kernel
def jlM : List (Nat × Nat × Nat × Nat) := [(0, 22, 73, 803), (0, 29, 247, 808), (1, 41, 73, 896), (1, 49, 51, 897), (1, 60, 52, 920), (1, 73, 76, 934), (1, 77, 2, 946), (1, 81, 6, 947), (1, 106, 10, 1032), (1, 110, 11, 1036), (1, 116, 77, 1048), (1, 119, 32, 1053), (1, 123, 246, 1054), (1, 135, 33, 1109), (1, 138, 14, 1110), (1, 141, 53, 1118), (1, 145, 75, 1119), (1, 148, 245, 1120), (2, 44, 74, 1003), (2, 51, 18, 1004), (2, 59, 28, 1008), (2, 65, 246, 1013), (2, 71, 29, 1014), (2, 78, 30, 1022), (2, 82, 51, 1023), (2, 86, 20, 1093), (3, 31, 246, 1012), (3, 45, 30, 1018), (4, 71, 246, 788), (4, 77, 62, 562), (4, 82, 66, 566), (4, 87, 69, 571), (4, 94, 63, 623), (4, 98, 35, 627), (4, 102, 70, 631), (4, 105, 36, 635), (4, 112, 67, 645), (4, 116, 68, 653), (4, 119, 72, 639), (5, 29, 62, 676), (5, 34, 66, 677), (5, 39, 69, 679), (5, 46, 63, 680), (5, 50, 70, 681), (5, 53, 44, 682), (5, 59, 71, 712), (5, 63, 39, 718), (5, 67, 38, 696), (5, 71, 67, 740), (5, 75, 68, 706), (5, 79, 40, 722), (5, 84, 41, 726), (5, 91, 64, 705), (5, 95, 42, 731), (5, 98, 43, 735), (5, 102, 47, 700), (5, 105, 46, 686), (5, 108, 45, 707), (5, 112, 65, 690), (5, 116, 72, 695), (6, 36, 31, 1138), (6, 40, 73, 1139), (6, 43, 27, 1140), (6, 52, 75, 776), (7, 31, 33, 819), (7, 37, 53, 901), (7, 41, 52, 902), (7, 72, 54, 820), (7, 85, 55, 827), (7, 88, 56, 844), (7, 91, 57, 848), (7, 104, 247, 831), (7, 113, 246, 832), (7, 119, 58, 833), (7, 150, 60, 837), (7, 153, 59, 841), (8, 25, 66, 643), (8, 28, 64, 649), (8, 32, 248, 575), (8, 37, 249, 585), (8, 41, 69, 716), (8, 45, 70, 717), (8, 48, 63, 644), (10, 73, 61, 546), (10, 77, 34, 558), (10, 87, 31, 657), (10, 95, 74, 664), (10, 114, 37, 672), (10, 118, 117, 749), (10, 134, 118, 760), (10, 152, 119, 768), (10, 155, 49, 772), (10, 159, 32, 784), (10, 163, 115, 753), (10, 167, 33, 791), (10, 177, 0, 799), (10, 181, 124, 811), (10, 185, 53, 815), (10, 192, 121, 860), (10, 195, 120, 864), (10, 198, 123, 872), (10, 201, 1, 884), (10, 205, 2, 892), (10, 209, 122, 910), (10, 212, 3, 915), (10, 216, 75, 925), (10, 219, 4, 930), (10, 223, 5, 942), (10, 227, 7, 954), (10, 230, 245, 958), (10, 235, 8, 968), (10, 238, 21, 976), (10, 244, 22, 983), (10, 248, 15, 999), (10, 252, 9, 1028), (10, 256, 12, 1044), (10, 259, 24, 1059), (10, 263, 26, 1069), (10, 266, 16, 1077), (10, 270, 17, 1081), (10, 273, 19, 1089), (10, 280, 13, 1105), (10, 295, 50, 1125), (10, 298, 48, 1134), (10, 304, 116, 914), (11, 86, 128, 1272), (11, 96, 132, 1292), (11, 100, 134, 1305), (11, 104, 135, 1301), (11, 108, 136, 1326), (11, 111, 133, 1338), (11, 114, 131, 1314), (11, 121, 125, 1342), (11, 161, 143, 1431), (11, 165, 140, 1382), (11, 170, 138, 1334), (11, 173, 141, 1378), (11, 176, 139, 1386), (11, 179, 145, 1373), (11, 183, 146, 1369), (11, 186, 147, 1365), (11, 191, 142, 1415), (11, 194, 148, 1419), (11, 197, 144, 1427), (11, 200, 150, 1434), (11, 203, 149, 1410), (11, 206, 151, 1423), (11, 215, 137, 1402), (11, 218, 152, 1406), (11, 221, 154, 1330), (11, 227, 155, 1322), (11, 232, 156, 1345), (11, 237, 157, 1349), (11, 240, 158, 1353), (11, 243, 159, 1357), (11, 248, 161, 1296), (11, 256, 160, 1318), (11, 259, 153, 1361), (11, 262, 162, 1288), (11, 268, 163, 1284), (11, 271, 185, 1444), (11, 280, 167, 1558), (11, 284, 168, 1562), (11, 288, 169, 1566), (11, 292, 171, 1505), (11, 295, 175, 1460), (11, 300, 176, 1469), (11, 303, 181, 1481), (11, 306, 172, 1501), (11, 309, 166, 1452), (11, 314, 179, 1473), (11, 317, 180, 1477), (11, 320, 174, 1489), (11, 323, 183, 1493), (11, 327, 170, 1554), (11, 331, 184, 1546), (11, 334, 191, 1550), (11, 338, 173, 1538), (11, 341, 192, 1542), (11, 345, 177, 1529), (11, 348, 193, 1534), (11, 351, 195, 1573), (11, 354, 194, 1525), (11, 357, 196, 1569), (11, 360, 197, 1521), (11, 363, 199, 1517), (11, 366, 182, 1585), (11, 371, 178, 1594), (11, 376, 206, 1607), (11, 379, 198, 1611), (11, 382, 207, 1615), (11, 385, 126, 1623), (11, 388, 127, 1638), (11, 391, 211, 1634), (11, 398, 213, 1647), (11, 401, 217, 1663), (11, 404, 219, 1675), (11, 407, 220, 1671), (11, 412, 224, 1688), (11, 415, 223, 1692), (11, 418, 226, 1700), (11, 423, 228, 1709), (11, 428, 231, 1730), (11, 431, 232, 1726), (11, 434, 233, 1722), (11, 437, 235, 1738), (11, 440, 237, 1746), (11, 460, 240, 1759), (12, 37, 245, 986), (12, 43, 23, 987), (12, 49, 21, 990), (12, 53, 25, 1062)]
def jnm (z : Nat) : MethodName := match jinfo[z]? with
  | some q => q.1
  | none => ⟨"", "", ""⟩
theorem jlM_ok : jlM.all (fun q => decide (lw_tbl[q.2.2.2]? = some (.methodLink (jown.getD q.1 "") q.2.1 (jnm q.2.2.1)))) = true := by decide +kernel
def jlN : List (Nat × Nat × Nat × Nat) := [(1, 56, 116, 919), (3, 49, 116, 1021), (6, 60, 116, 1129), (7, 81, 116, 824)]
theorem jlN_ok : jlN.all (fun q => decide (lw_tbl[q.2.2.2]? = some (.methodLinkNest (jown.getD q.1 "") q.2.1 (jnm q.2.2.1) "EelThroat"))) = true := by decide +kernel
def jlK : List (Nat × Nat × Nat × Nat × Nat × Nat) := [(1, 153, 1103515245, 0, 1, 1114), (1, 155, 12345, 0, 1, 1115), (1, 157, 2147483648, 0, 1, 1116), (1, 159, 65536, 0, 1, 1117), (5, 115, 99999, 0, 0, 694), (9, 49, 64, 0, 1, 1052), (11, 125, 120282395144825, 0, 1, 1311), (11, 127, 1886351212, 0, 1, 1390), (11, 129, 1718775661, 0, 1, 1391), (11, 131, 1936292453, 0, 1, 1392), (11, 133, 495756602476, 0, 1, 1393), (11, 135, 1650551156, 0, 1, 1394), (11, 137, 500135194739, 0, 1, 1395), (11, 139, 2003399784, 0, 1, 1396), (11, 141, 465624852596, 0, 1, 1397), (11, 143, 1852143732, 0, 1, 1398), (11, 145, 512853242725, 0, 1, 1399), (11, 147, 474214787188, 0, 1, 1400), (11, 169, 99999, 0, 0, 1377), (11, 189, 7237492, 0, 1, 1414), (11, 209, 6385252, 0, 1, 1438), (11, 211, 28530, 0, 1, 1439), (11, 213, 26982, 0, 1, 1401), (11, 225, 491395638642, 0, 1, 1300), (11, 230, 1836019566, 0, 1, 1309), (11, 235, 123581014175598, 0, 1, 1310), (11, 246, 1953653104, 0, 1, 1312), (11, 251, 26479, 0, 1, 1313), (11, 298, 19, 0, 1, 1533), (11, 312, 3, 0, 1, 1464), (11, 369, 7, 0, 1, 1589), (11, 374, 100, 0, 1, 1606), (11, 394, 40, 0, 1, 1645), (11, 396, 2, 0, 1, 1646), (11, 410, 20, 0, 1, 1687), (11, 421, 9999, 0, 1, 1708), (11, 426, 60, 0, 1, 1717), (11, 450, 1103515245, 0, 1, 1763), (11, 452, 12345, 0, 1, 1764), (11, 454, 2147483648, 0, 1, 1765), (11, 456, 65536, 0, 1, 1766), (11, 458, 10, 0, 1, 1758), (14, 265, 1431655765, 0, 0, 961), (14, 266, 858993459, 0, 0, 962), (14, 267, 252645135, 0, 0, 963)]
theorem jlK_ok : jlK.all (fun q => bif Nat.beq q.2.2.2.2.1 0 then decide (lw_tbl[q.2.2.2.2.2]? = some (.constant (jown.getD q.1 "") q.2.1 (Int32.ofInt ((q.2.2.1 : Int) - (q.2.2.2.1 : Int))))) else decide (lw_tbl[q.2.2.2.2.2]? = some (.constantLong (jown.getD q.1 "") q.2.1 (Int64.ofInt (q.2.2.1 : Int))))) = true := by decide +kernel
def jlC : List (Nat × Nat × Nat) := [(3, 25, 1144), (4, 65, 661), (9, 34, 807)]
theorem jlC_ok : jlC.all (fun q => decide (lw_tbl[q.2.2]? = some (.methodLink (jown.getD q.1 "") q.2.1 arraycopyName))) = true := by decide +kernel
theorem jcopy_ok : decide (lw_tbl[663]? = some (.native arraycopyName)) && decide (lw_tbl[662]? = some (.static arraycopyName)) && decide (lw_tbl[125]? = some (.initialized "java/lang/System")) = true := by decide +kernel
/-- texts: class, place in its pool, number -/
def jlS : List (Nat × Nat × Nat) := [(4, 85, 0), (5, 37, 1), (5, 57, 3), (5, 82, 6), (5, 87, 5), (5, 89, 4), (5, 123, 2)]
theorem jin0 : (u_ws RX0 TX0 3).all (fun w => decide (w ∈ lw_tbl) && goodWord w) = true := by decide +kernel
theorem jin1 : (u_ws RX1 TX1 6).all (fun w => decide (w ∈ lw_tbl) && goodWord w) = true := by decide +kernel
theorem jin2 : (u_ws RX2 TX2 4).all (fun w => decide (w ∈ lw_tbl) && goodWord w) = true := by decide +kernel
theorem jin3 : (u_ws RX4 TX4 4).all (fun w => decide (w ∈ lw_tbl) && goodWord w) = true := by decide +kernel
theorem jin4 : (u_ws RX5 TX5 17).all (fun w => decide (w ∈ lw_tbl) && goodWord w) = true := by decide +kernel
theorem jin5 : (u_ws RX6 TX6 5).all (fun w => decide (w ∈ lw_tbl) && goodWord w) = true := by decide +kernel
theorem jin6 : (u_ws RX7 TX7 6).all (fun w => decide (w ∈ lw_tbl) && goodWord w) = true := by decide +kernel
theorem jin7 : (u_ws RX8 TX8 12).all (fun w => decide (w ∈ lw_tbl) && goodWord w) = true := by decide +kernel
theorem jin8 : (u_ws RX9 TX9 4).all (fun w => decide (w ∈ lw_tbl) && goodWord w) = true := by decide +kernel
theorem jin9 : (u_ws RX10 TX10 7).all (fun w => decide (w ∈ lw_tbl) && goodWord w) = true := by decide +kernel
theorem jin10 : (u_ws RX11 TX11 10).all (fun w => decide (w ∈ lw_tbl) && goodWord w) = true := by decide +kernel
theorem jin11 : (u_ws RX12 TX12 37).all (fun w => decide (w ∈ lw_tbl) && goodWord w) = true := by decide +kernel
end
section
/-! Locals of the abstract machine and of the real one -/
def jL (ad : Nat → Int → Nat) (L : List jV) (ls : Array Slot) : Prop := ls.size = L.length ∧ lv_wf ls ∧ ∀ (i : Nat) (v : jV), L[i]? = some v → v ≠ vU → ls[i]? = some (.val (jcv ad v))
theorem jnth_get : ∀ {L : List jV} {i : Nat} {v : jV}, jnth L i = v → v ≠ vU → L[i]? = some v
  | [], _, _, h, hv => absurd h.symm hv
  | _ :: _, 0, _, h, _ => by cases h; rfl
  | _ :: l, n + 1, _, h, hv => by
    rw [List.getElem?_cons_succ]
    exact jnth_get (L := l) h hv
theorem jget_nth : ∀ {L : List jV} {i : Nat} {v : jV}, L[i]? = some v → jnth L i = v
  | [], _, _, h => by simp at h
  | _ :: _, 0, _, h => by cases h; rfl
  | _ :: l, n + 1, _, h => by
    rw [List.getElem?_cons_succ] at h
    exact jget_nth (L := l) h
theorem jset_len : ∀ (L : List jV) (i : Nat) (v : jV), (jset L i v).length = L.length
  | [], _, _ => rfl
  | _ :: _, 0, _ => rfl
  | _ :: l, n + 1, v => by simp [jset, jset_len l n v]
theorem jset_get : ∀ (L : List jV) (i : Nat) (v : jV) (j : Nat) (w : jV), (jset L i v)[j]? = some w → (j = i ∧ w = v) ∨ (j ≠ i ∧ L[j]? = some w)
  | [], _, _, _, _, h => by simp [jset] at h
  | a :: l, 0, v, 0, w, h => by simp [jset] at h; exact Or.inl ⟨rfl, h.symm⟩
  | a :: l, 0, v, j + 1, w, h => by simp [jset] at h; exact Or.inr ⟨by omega, by simpa using h⟩
  | a :: l, n + 1, v, 0, w, h => by simp [jset] at h; exact Or.inr ⟨by omega, by simpa using h⟩
  | a :: l, n + 1, v, j + 1, w, h => by
    simp only [jset, List.getElem?_cons_succ] at h
    rcases jset_get l n v j w h with ⟨h1, h2⟩ | ⟨h1, h2⟩
    · exact Or.inl ⟨by omega, h2⟩
    · exact Or.inr ⟨by omega, by simpa using h2⟩
theorem jset_mem {L : List jV} {i : Nat} {v w : jV} (h : w ∈ jset L i v) : w = v ∨ w ∈ L := by
  obtain ⟨j, hj⟩ := List.getElem?_of_mem h
  rcases jset_get L i v j w hj with ⟨-, h2⟩ | ⟨-, h2⟩
  · exact Or.inl h2
  · exact Or.inr (List.mem_of_getElem? h2)
theorem jkill_len : ∀ (is : List Nat) (L : List jV), (jkill is L).length = L.length
  | [], _ => rfl
  | i :: is, L => by rw [jkill, jkill_len is, jset_len]
theorem jL_set {ad : Nat → Int → Nat} {L : List jV} {ls : Array Slot} (i : Nat) (h : jL ad L ls) : jL ad (jset L i vU) ls := by
  refine ⟨by rw [jset_len]; exact h.1, h.2.1, fun j v hj hv => ?_⟩
  rcases jset_get L i vU j v hj with ⟨-, h2⟩ | ⟨-, h2⟩
  · exact absurd h2 hv
  · exact h.2.2 j v h2 hv
theorem jL_kill {ad : Nat → Int → Nat} : ∀ (is : List Nat) {L : List jV} {ls : Array Slot}, jL ad L ls → jL ad (jkill is L) ls
  | [], _, _, h => h
  | i :: is, _, _, h => jL_kill is (jL_set i h)
theorem jok_vU : jokV vU := trivial
theorem jokL_set {L : List jV} {i : Nat} {v : jV} (h : jokL L) (hv : jokV v) : jokL (jset L i v) := fun w hw => by
  rcases jset_mem hw with e | e
  · rw [e]; exact hv
  · exact h w e
theorem jokL_kill : ∀ (is : List Nat) {L : List jV}, jokL L → jokL (jkill is L)
  | [], _, h => h
  | _ :: is, _, h => jokL_kill is (jokL_set h jok_vU)
theorem jinv_len (L : List jV) (i : Nat) : (jinv L i).length = L.length := by
  unfold jinv
  split
  · rfl
  · split
    · rw [jset_len]
    · rfl
theorem jokL_inv {L : List jV} (i : Nat) (h : jokL L) : jokL (jinv L i) := by
  unfold jinv
  split
  · exact h
  · split
    · exact jokL_set h jok_vU
    · exact h
theorem jinv_get {L : List jV} {i j : Nat} {v : jV} (h : (jinv L i)[j]? = some v) (hv : v ≠ vU) : L[j]? = some v ∧ ¬ (j + 1 = i ∧ jcat v = 2) := by
  unfold jinv at h
  split at h
  · exact ⟨h, fun e => by omega⟩
  · rename_i n
    split at h
    · rename_i x hx
      rcases jset_get L n vU j v h with ⟨-, h2⟩ | ⟨h1, h2⟩
      · exact absurd h2 hv
      · exact ⟨h2, fun e => by omega⟩
    · rename_i hx
      refine ⟨h, fun e => ?_⟩
      have e1 : j = n := by omega
      subst e1
      have := jget_nth h
      obtain ⟨-, hc⟩ := e
      match v, hc with
      | .inr (.inl x), _ => exact hx x this
theorem jcat_cv (ad : Nat → Int → Nat) (v : jV) : (jcv ad v).category = jcat v := by
  match v with
  | .inl x => rfl
  | .inr (.inl x) => rfl
  | .inr (.inr (.inl (f, none))) => rfl
  | .inr (.inr (.inl (f, some i))) => rfl
  | .inr (.inr (.inr u)) => rfl
def jlv (ad : Nat → Int → Nat) (L : List jV) : List (Nat × Value) := (List.range L.length).filterMap fun i => match jnth L i with
  | .inr (.inr (.inr _)) => none
  | v => some (i, jcv ad v)
theorem jlv_mem {ad : Nat → Int → Nat} {L : List jV} {i : Nat} {v : jV} (h : L[i]? = some v) (hv : v ≠ vU) : (i, jcv ad v) ∈ jlv ad L := by
  refine List.mem_filterMap.mpr ⟨i, List.mem_range.mpr (List.getElem?_eq_some_iff.mp h).1, ?_⟩
  rw [jget_nth h]
  match v, hv with
  | .inl x, _ => rfl
  | .inr (.inl x), _ => rfl
  | .inr (.inr (.inl q)), _ => rfl
  | .inr (.inr (.inr u)), hv => exact absurd rfl hv
theorem jlv_of {ad : Nat → Int → Nat} {L : List jV} {q : Nat × Value} (h : q ∈ jlv ad L) : ∃ v, L[q.1]? = some v ∧ v ≠ vU ∧ q.2 = jcv ad v := by
  obtain ⟨i, hi, hq⟩ := List.mem_filterMap.mp h
  have hl := List.mem_range.mp hi
  have e : L[i]? = some L[i] := List.getElem?_eq_getElem hl
  have e2 := jget_nth e
  rw [e2] at hq
  generalize L[i] = v at e hq
  match v, hq with
  | .inl x, hq => cases hq; exact ⟨_, e, (fun z => by cases z), rfl⟩
  | .inr (.inl x), hq => cases hq; exact ⟨_, e, (fun z => by cases z), rfl⟩
  | .inr (.inr (.inl w)), hq => cases hq; exact ⟨_, e, (fun z => by cases z), rfl⟩
theorem jL_has {ad : Nat → Int → Nat} {L : List jV} {ls : Array Slot} (h : jL ad L ls) : lv_has ls L.length (jlv ad L) := by
  refine ⟨h.1, h.2.1, fun q hq => ?_⟩
  obtain ⟨v, h1, h2, h3⟩ := jlv_of hq
  rw [h3]
  exact h.2.2 q.1 v h1 h2
theorem jL_st1 {ad : Nat → Int → Nat} {L : List jV} {ls' : Array Slot} {i : Nat} {v : jV} (h : lv_has ls' L.length ((i, jcv ad v) :: (jlv ad L).filter (fun q => !(q.1 == i) && !(q.1 + 1 == i && q.2.category == 2)))) : jL ad (jset (jinv L i) i v) ls' := by
  refine ⟨by rw [jset_len, jinv_len]; exact h.1, h.2.1, fun j w hj hw => ?_⟩
  rcases jset_get _ i v j w hj with ⟨h1, h2⟩ | ⟨h1, h2⟩
  · rw [h1, h2]
    exact h.2.2 (i, jcv ad v) List.mem_cons_self
  · obtain ⟨h3, h4⟩ := jinv_get h2 hw
    refine h.2.2 (j, jcv ad w) (List.mem_cons_of_mem _ (List.mem_filter.mpr ⟨jlv_mem h3 hw, ?_⟩))
    rw [jcat_cv]
    simp only [Bool.and_eq_true, Bool.not_eq_true', beq_eq_false_iff_ne, ne_eq, Bool.and_eq_false_imp, beq_iff_eq]
    exact ⟨h1, fun e1 e2 => h4 ⟨e1, e2⟩⟩
theorem jL_st2 {ad : Nat → Int → Nat} {L : List jV} {ls' : Array Slot} {i : Nat} {v : jV} (h : lv_has ls' L.length ((i, jcv ad v) :: (jlv ad L).filter (fun q => !(q.1 == i) && (!(q.1 == i + 1) && !(q.1 + 1 == i && q.2.category == 2))))) : jL ad (jset (jset (jinv L i) i v) (i + 1) vU) ls' := by
  refine ⟨by rw [jset_len, jset_len, jinv_len]; exact h.1, h.2.1, fun j w hj hw => ?_⟩
  rcases jset_get _ (i + 1) vU j w hj with ⟨h1, h2⟩ | ⟨h0, h2⟩
  · exact absurd h2 hw
  rcases jset_get _ i v j w h2 with ⟨h1, h2⟩ | ⟨h1, h2⟩
  · rw [h1, h2]
    exact h.2.2 (i, jcv ad v) List.mem_cons_self
  · obtain ⟨h3, h4⟩ := jinv_get h2 hw
    refine h.2.2 (j, jcv ad w) (List.mem_cons_of_mem _ (List.mem_filter.mpr ⟨jlv_mem h3 hw, ?_⟩))
    rw [jcat_cv]
    simp only [Bool.and_eq_true, Bool.not_eq_true', beq_eq_false_iff_ne, ne_eq, Bool.and_eq_false_imp, beq_iff_eq]
    exact ⟨h1, h0, fun e1 e2 => h4 ⟨e1, e2⟩⟩
theorem jokL_c {v : jV} {t : List jV} (h : jokL (v :: t)) : jokV v ∧ jokL t := ⟨h v List.mem_cons_self, fun w hw => h w (List.mem_cons_of_mem _ hw)⟩
theorem jokL_k {v : jV} {t : List jV} (hv : jokV v) (h : jokL t) : jokL (v :: t) := fun w hw => by
  rcases List.mem_cons.mp hw with e | e
  · rw [e]; exact hv
  · exact h w e
theorem jokL_nth {L : List jV} {i : Nat} {v : jV} (h : jokL L) (e : jnth L i = v) (hv : v ≠ vU) : jokV v := h v (List.mem_of_getElem? (jnth_get e hv))
theorem jsum_cv (ad : Nat → Int → Nat) : ∀ st : List jV, ((st.map (jcv ad)).map fun v => v.category).sum = jsum st
  | [] => rfl
  | v :: t => by
    simp only [List.map_cons, List.sum_cons, jsum]
    rw [jcat_cv, jsum_cv ad t]
end
section
/-! What is checked of every entry of the code tables -/
def jrg (n : Int) : Bool := decide (-2147483648 ≤ n) && decide (n < 2147483648)
def jtabl (pc a : Nat) : List Int → List Nat
  | [] => []
  | o :: l => a :: ((pc : Int) + o).toNat :: jtabl pc (a + 1) l
def jlook (pc : Nat) : List (Int × Int) → List Nat
  | [] => []
  | q :: l => q.1.toNat :: ((pc : Int) + q.2).toNat :: jlook pc l
def jmi (z : Nat) : jMI := match jinfo[z]? with
  | some q => q
  | none => (⟨"", "", ""⟩, ByteArray.empty, 0, none, 0, false, 0, 0, 0)
def jhF (o i f k : Nat) : Bool := jlF.any fun q => Nat.beq q.1 o && Nat.beq q.2.1 i && Nat.beq q.2.2.1 f && Nat.beq q.2.2.2.1 k
def jhM (o i z : Nat) : Bool := jlM.any fun q => Nat.beq q.1 o && Nat.beq q.2.1 i && Nat.beq q.2.2.1 z
def jhN (o i z : Nat) : Bool := jlN.any fun q => Nat.beq q.1 o && Nat.beq q.2.1 i && Nat.beq q.2.2.1 z
def jhK (o i a b t : Nat) : Bool := jlK.any fun q => Nat.beq q.1 o && Nat.beq q.2.1 i && Nat.beq q.2.2.1 a && Nat.beq q.2.2.2.1 b && Nat.beq q.2.2.2.2.1 t
def jhC (o i : Nat) : Bool := jlC.any fun q => Nat.beq q.1 o && Nat.beq q.2.1 i
def jhS (o i k : Nat) : Bool := jlS.any fun q => Nat.beq q.1 o && Nat.beq q.2.1 i && Nat.beq q.2.2 k
abbrev jOwn (q : jMI) : Nat := q.2.2.2.2.2.2.2.2
abbrev jRk (q : jMI) : Nat := q.2.2.2.2.2.2.1
abbrev jRf (q : jMI) : Nat := q.2.2.2.2.2.2.2.1
abbrev jNa (q : jMI) : Nat := q.2.2.2.2.1
abbrev jSt (q : jMI) : Bool := q.2.2.2.2.2.1
abbrev jRet (q : jMI) : Option FieldType := q.2.2.2.1
abbrev jMl (q : jMI) : Nat := q.2.2.1
def jchF (o i f k kd f' mp : Nat) : Bool := Nat.blt f 12 && jhF o i f k && decide ((jfds.getD f [])[k]? = some (kd, f', mp)) && decide (k < (jcl f).2.2) && decide (((jcl f).2.1 k).1 = (jcl f).1)
def jchA (f n t : Nat) : Bool := Nat.ble 12 f && Nat.blt f 67 && (match jarrs[f - 12]? with
  | some a => Nat.beq a.1 t && Nat.beq a.2.1 n
  | none => false)
def jchI (q : jMI) (i z n rk rf : Nat) : Bool := Nat.blt z 250 && Nat.beq n (jNa (jmi z)) && Nat.beq rk (jRk (jmi z)) && Nat.beq rf (jRf (jmi z)) && (jhM (jOwn q) i z || (jhN (jOwn q) i z && Nat.blt z 248))
def jchk1 (q : jMI) (pc : Nat) (ins : Instr) (npc : Nat) (aux : List Nat) : Bool := match ins with
  | .iconst n => Nat.beq npc (pc + 1) && jrg n
  | .bipush n => Nat.beq npc (pc + 2) && jrg n && decide ((Int8.ofInt n).toInt32 = Int32.ofInt n)
  | .sipush n => Nat.beq npc (pc + 3) && jrg n && decide ((Int16.ofInt n).toInt32 = Int32.ofInt n)
  | .lconst _ => Nat.beq npc (pc + 1)
  | .ldc i => Nat.beq npc (pc + 2) && (match aux with
    | [0, a, b] => jhK (jOwn q) i a b 0 && jrg ((a : Int) - (b : Int))
    | [1, f, k] => Nat.beq f 100 && jhS (jOwn q) i k && Nat.blt k 7
    | _ => false)
  | .ldc_w i => Nat.beq npc (pc + 3) && (match aux with
    | [0, a, b] => jhK (jOwn q) i a b 0 && jrg ((a : Int) - (b : Int))
    | _ => false)
  | .ldc2_w i => Nat.beq npc (pc + 3) && (match aux with
    | [a] => jhK (jOwn q) i a 0 1 && decide ((a : Int) < 9223372036854775808)
    | _ => false)
  | .aconst_null => Nat.beq npc (pc + 1)
  | .iload _ | .lload _ | .aload _ | .istore _ | .lstore _ => Nat.beq npc (pc + 2)
  | .iload_n _ | .lload_n _ | .aload_n _ | .istore_n _ | .lstore_n _ => Nat.beq npc (pc + 1)
  | .iinc _ _ => Nat.beq npc (pc + 3)
  | .ifCond _ off | .if_icmp _ off => Nat.beq npc (pc + 3) && (match aux with
    | [t] => decide ((pc : Int) + off = (t : Int))
    | _ => false)
  | .ifnull off | .ifnonnull off => Nat.beq npc (pc + 3) && (match aux with
    | [t, _] => decide ((pc : Int) + off = (t : Int))
    | _ => false)
  | .goto off => (match aux with
    | [t] => decide ((pc : Int) + off = (t : Int)) && Nat.beq npc (pc + 3)
    | _ => false)
  | .tableswitch d lo hi offs => decide (0 ≤ (pc : Int) + d) && decide (0 ≤ lo) && decide (hi = lo + offs.toList.length - 1) && offs.toList.all (fun o => decide (0 ≤ (pc : Int) + o)) && decide (aux = ((pc : Int) + d).toNat :: jtabl pc lo.toNat offs.toList)
  | .lookupswitch d ps => decide (0 ≤ (pc : Int) + d) && ps.toList.all (fun q => decide (0 ≤ (pc : Int) + q.2) && decide (0 ≤ q.1)) && (ps.toList.zip (ps.toList.drop 1)).all (fun (a, next) => a.1 < next.1) && decide (aux = ((pc : Int) + d).toNat :: jlook pc ps.toList)
  | .getfield i => Nat.beq npc (pc + 3) && (match aux with
    | [f, k, kd, f', mp] => jchF (jOwn q) i f k kd f' mp && (match kd with
      | 0 => true
      | 1 => true
      | 2 => decide (jcnt f ≤ jcnt f')
      | 3 => true
      | _ => decide (mp < jcnt f'))
    | _ => false)
  | .putfield i => Nat.beq npc (pc + 3) && (match aux with
    | [f, k, 0, f', _] => jchF (jOwn q) i f k 0 f' 0 && decide (((jcl f).2.1 k).2.2 = ("I", false))
    | [f, k, 1, f', _] => jchF (jOwn q) i f k 1 f' 0 && decide (((jcl f).2.1 k).2.2 = ("J", false))
    | [f, k, 3, f', _] => jchF (jOwn q) i f k 3 f' 0 && decide (((jcl f).2.1 k).2.2.2 = false) && (match parseFieldDescriptor ((jcl f).2.1 k).2.2.1 with
      | some (.object _) => true
      | _ => false)
    | [f, k, 4, f', _] => jchF (jOwn q) i f k 0 f' 0 && decide (((jcl f).2.1 k).2.2 = ("Z", false))
    | _ => false)
  | .iaload => Nat.beq npc (pc + 1) && (match aux with
    | [f, n] => jchA f n 0
    | _ => false)
  | .baload => Nat.beq npc (pc + 1) && (match aux with
    | [f, n] => jchA f n 2 || jchA f n 3
    | _ => false)
  | .laload => Nat.beq npc (pc + 1) && (match aux with
    | [f, n] => jchA f n 1
    | _ => false)
  | .aaload => Nat.beq npc (pc + 1) && (match aux with
    | [f, n, f', mp] => Nat.ble 12 f && Nat.blt f 67 && (match jarrs[f - 12]? with
      | some a => Nat.ble 4 a.1 && Nat.ble a.1 6 && Nat.beq a.2.1 n && Nat.beq a.2.2.1 f' && Nat.beq a.2.2.2 mp && Nat.ble (n + mp) (jcnt f')
      | none => false)
    | _ => false)
  | .iastore => Nat.beq npc (pc + 1) && (match aux with
    | [f, n, 0] => jchA f n 0
    | _ => false)
  | .lastore => Nat.beq npc (pc + 1) && (match aux with
    | [f, n, 1] => jchA f n 1
    | _ => false)
  | .bastore => Nat.beq npc (pc + 1) && (match aux with
    | [f, n, 2] => jchA f n 2
    | [f, n, 3] => jchA f n 3
    | _ => false)
  | .arraylength => Nat.beq npc (pc + 1) && (match aux with
    | [f, n] => Nat.blt n 2147483648 && (jchA f n 0 || jchA f n 1 || jchA f n 2 || jchA f n 3)
    | _ => false)
  | .invokestatic i => Nat.beq npc (pc + 3) && (match aux with
    | [f, n, f', n'] => jhC (jOwn q) i && jchA f n 0 && jchA f' n' 0 && (Nat.beq f f' || true)
    | [z, n, rk, rf, 0] => jchI q i z n rk rf && jSt (jmi z)
    | _ => false)
  | .invokevirtual i => Nat.beq npc (pc + 3) && (match aux with
    | [z, n, rk, rf, f + 1] => jchI q i z n rk rf && !jSt (jmi z) && (bif Nat.beq f 100 then decide ((jmi z).1.cls = "java/lang/String") else Nat.blt f 12 && decide ((jmi z).1.cls = (jcl f).1))
    | _ => false)
  | .ireturn => Nat.beq npc (pc + 1) && Nat.beq (jRk q) 1 && (match aux with
    | [0] => decide (jRet q = some .int)
    | [1] => decide (jRet q = some .boolean)
    | _ => false)
  | .lreturn => Nat.beq npc (pc + 1) && Nat.beq (jRk q) 2 && decide (jRet q = some .long)
  | .areturn => Nat.beq npc (pc + 1) && Nat.beq (jRk q) 3 && decide (aux = [jRf q]) && (match jRet q with
    | some (.object _) => true
    | _ => false)
  | .return_ => Nat.beq npc (pc + 1) && Nat.beq (jRk q) 0 && decide (jRet q = none)
  | _ => Nat.beq npc (pc + 1)
def jchk (q : jMI) (pc : Nat) (en : jE) : Bool := decide (decode q.2.1 pc = .ok (en.1, en.2.1 - pc)) && Nat.ble pc en.2.1 && jchk1 q pc en.1 en.2.1 en.2.2.1
def jchks (y : Nat) (cd : jCode) : Bool := cd.all fun x => jchk (jmi y) x.1 x.2
end
