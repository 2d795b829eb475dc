/-! The simulation: what the abstract machine does, the real one does -/
def jroom (d : Nat) : Room := { frames := d, cells := 0, slots := 0, locals := 100 * d }
def jrv (ad : Nat → Int → Nat) (v : jV) : Option Value := match v with
  | .inr (.inr (.inr _)) => none
  | w => some (jcv ad w)
def jty (rk rf : Nat) (v : jV) : Prop := match rk with
  | 0 => v = vU
  | 1 => ∃ x, v = vI x
  | 2 => ∃ x, v = vJ x
  | _ => ∃ o, v = vR rf o
def jQ (D : va_G) (cA : Nat → ClassId) (ad : Nat → Int → Nat) (rk rf : Nat) (v : jV) (mem : jMem) : Array Value → State → Outcome → State → Prop := fun _ st oc t => oc = .returned (jrv ad v) ∧ va_P D vwCl (jws ad cA mem) t.heap ∧ va_F (jA ad) st t ∧ jty rk rf v ∧ jokV v ∧ jokM mem
/-- what the places outside memory must give, and keep: links to nest mates, texts -/
def jEVok (EV : State → Prop) (ad : Nat → Int → Nat) : Prop :=
  (∀ (U : State) (g : JFrame) (mk : MethodId) (a : Array Value), EV U → EV (U.calling g mk a)) ∧
  (∀ s U : State, EV s → s.WarmedH U.vm → va_F (jA ad) s U → EV U) ∧
  (∀ s : State, EV s → ∀ q ∈ jlS, ∃ tx, vk_R (jown.getD q.1 "") q.2.1 tx (ad 100 (q.2.2 : Int)) s) ∧
  (∀ s : State, EV s → ∀ q ∈ jlN, va_Nw (.methodLinkNest (jown.getD q.1 "") q.2.1 (jnm q.2.2.1) "EelThroat") s) ∧
  (∀ s : State, EV s → ∀ i, jval 100 i → ∀ (H : Heap) (locs : List Loc), va_S (jA ad) s.heap H locs → ∃ cell : Cell, H[ad 100 i]? = some cell ∧ cell.vm.isStatics = false ∧ s.vm.findClass "java/lang/String" = some cell.cls)
def jI (EV : State → Prop) (D : va_G) (cA : Nat → ClassId) (ad : Nat → Int → Nat) (mem : jMem) : State → Prop := fun U => va_P D vwCl (jws ad cA mem) U.heap ∧ va_K D vwCl (jtys cA) U ∧ EV U
def jMet (l : Launch) (EV : State → Prop) (D : va_G) (cA : Nat → ClassId) (ad : Nat → Int → Nat) (d : Nat) (call : jCall) : Prop := ∀ (z : Nat) (as : List jV) (mem : jMem) (v : jV) (mem' : jMem), call z as mem = some (v, mem') → z ≠ 246 → z ≠ 247 → z < 250 → jokL as → jokM mem → Met l (jmi z).1 (.code (jmi z).1 (jmi z).2.1 (jMl (jmi z)) (jRet (jmi z)) :: jTBL) (jroom d) (va_Pc (as.map (jcv ad)) (jI EV D cA ad mem)) (jQ D cA ad (jRk (jmi z)) (jRf (jmi z)) v mem') 0 0 (jA ad)
def jMM (call : jCall) : Prop := (∀ as mem r, call 246 as mem = some r → ∀ x y, as = [vI x, vI y] → r = (vI (if x < y then y else x), mem)) ∧ (∀ as mem r, call 247 as mem = some r → ∀ x y, as = [vI x, vI y] → r = (vI (if y < x then y else x), mem))
def jC (p : Program) (s : State) (m : MethodId) (args : Array Value) (meth : Method) (c : Code) (q : jMI) (D : va_G) (cA : Nat → ClassId) (ad : Nat → Int → Nat) (EV : State → Prop) : Prop := p.tables.exec = Jvm.exec ∧ c.code = q.2.1 ∧ c.maxLocals = jMl q ∧ s.vm.findClass (jown.getD (jOwn q) "") = some m.cls ∧ (∀ w ∈ jTBL, w.before args s = true) ∧ va_K D vwCl (jtys cA) s ∧ meth.sig.returnType = jRet q ∧ meth.locks = false ∧ jInj ad ∧ jEVok EV ad ∧ EV s
def jG (p : Program) (l : Launch) (e : Env) (s : State) (m : MethodId) (args : Array Value) (below : List Frame) (meth : Method) (c : Code) (d : Nat) (D : va_G) (cA : Nat → ClassId) (ad : Nat → Int → Nat) (q : jMI) (r : jV × jMem) (pc : Nat) (L st : List jV) (mem : jMem) : Prop :=
  ∀ (H : Heap) (locs : List Loc) (ls : Array Slot), va_P D vwCl (jws ad cA mem) H → va_S (jA ad) s.heap H locs → jL ad L ls → W p l e (jroom (d + 1)) s m args below meth c H locs 0 0 (MQ below (jQ D cA ad (jRk q) (jRf q) r.1 r.2) args s 0 0 (jA ad)) (F0 m pc ls (st.map (jcv ad)))
section SIM
variable {p : Program} {l : Launch} {e : Env} {s : State} {m : MethodId} {args : Array Value} {below : List Frame} {meth : Method} {c : Code} {d : Nat} {D : va_G} {cA : Nat → ClassId} {ad : Nat → Int → Nat} {EV : State → Prop} {q : jMI} {r : jV × jMem}
/-- the ways on are good -/
def jKF (p : Program) (l : Launch) (e : Env) (s : State) (m : MethodId) (args : Array Value) (below : List Frame) (meth : Method) (c : Code) (d : Nat) (D : va_G) (cA : Nat → ClassId) (ad : Nat → Int → Nat) (q : jMI) (r : jV × jMem) (pc : Nat) (kf : jKf) : Prop := ∀ L st mem, kf L st mem = some r → jokL L → jokL st → jokM mem → L.length = jMl q → jG p l e s m args below meth c d D cA ad q r pc L st mem
/-- a step that puts one value onto the rest of the stack -/
theorem js_push {pc npc : Nat} {L st st' : List jV} {v : jV} {mem : jMem} {kf : jKf} (hF : jKF p l e s m args below meth c d D cA ad q r npc kf) (h : kf L (v :: st') mem = some r) (hL : jokL L) (hv : jokV v) (hs : jokL st') (hM : jokM mem) (hn : L.length = jMl q)
    (row : ∀ (H : Heap) (locs : List Loc) (ls : Array Slot) (Q : State → Prop), va_P D vwCl (jws ad cA mem) H → va_S (jA ad) s.heap H locs → jL ad L ls → W p l e (jroom (d + 1)) s m args below meth c H locs 0 0 Q (F0 m npc ls (jcv ad v :: st'.map (jcv ad))) → W p l e (jroom (d + 1)) s m args below meth c H locs 0 0 Q (F0 m pc ls (st.map (jcv ad)))) :
    jG p l e s m args below meth c d D cA ad q r pc L st mem := by
  have g := hF L (v :: st') mem h hL (jokL_k hv hs) hM hn
  exact fun H locs ls hP hS hl => row H locs ls _ hP hS hl (g H locs ls hP hS hl)
end SIM
