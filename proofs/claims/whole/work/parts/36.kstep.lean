/-! Constructors: the simulation -/
def kokL (n : Nat) (L : List kV) : Prop := ∀ v ∈ L, kokV n v
def kG (p : Program) (l : Launch) (e : Env) (s : State) (m : MethodId) (args : Array Value) (below : List Frame) (meth : Method) (c : Code) (d : Nat) (D : va_G) (lo : Nat) (h0 hE : kH) (as0 : List Nat) (pc : Nat) (L st : List kV) (h : kH) : Prop :=
  ∀ (as : List Nat) (cs : List ClassId) (tys : List (ClassId × FieldType)) (H : Heap) (locs : List Loc) (ls : Array Slot) (cells slots : Nat), va_K D vwCl tys s → kRep D lo h as cs tys H → va_S (fun q => lo ≤ q) s.heap H locs → kL as L ls → kExt as0 as h0.length → cells + h0.length = h.length → slots + kslots h0 = kslots h → W p l e (kroom (d + 1) (hE.length - h0.length) (kslots hE - kslots h0)) s m args below meth c H locs cells slots (MQ below (kQ D lo h0 hE as0) args s (hE.length - h0.length) (kslots hE - kslots h0) (fun q => lo ≤ q)) (F0 m pc ls (st.map (kval as 0)))
section KSIM
variable {p : Program} {l : Launch} {e : Env} {s : State} {m : MethodId} {args : Array Value} {below : List Frame} {meth : Method} {c : Code} {d : Nat} {D : va_G} {lo : Nat} {h0 hE : kH} {as0 : List Nat} {z : Nat}
def kCx (p : Program) (s : State) (m : MethodId) (args : Array Value) (meth : Method) (c : Code) (z lo : Nat) : Prop := p.tables.exec = Jvm.exec ∧ c.code = (kmi z).2.1 ∧ c.maxLocals = (kmi z).2.2 ∧ s.vm.findClass (kmi z).1.cls = some m.cls ∧ (∀ w ∈ jTBL, w.before args s = true) ∧ meth.sig.returnType = none ∧ meth.locks = false ∧ meth.name = "<init>" ∧ lo ≤ s.heap.size ∧ kEV s
def kKF (p : Program) (l : Launch) (e : Env) (s : State) (m : MethodId) (args : Array Value) (below : List Frame) (meth : Method) (c : Code) (d : Nat) (D : va_G) (lo : Nat) (h0 hE : kH) (as0 : List Nat) (z : Nat) (k : Nat → List kV → List kV → kH → Option kH) : Prop := ∀ pc L st h, k pc L st h = some hE → kokL h.length L → kokL h.length st → kokH h → kLe h0 h → L.length = (kmi z).2.2 → kLe h hE ∧ kG p l e s m args below meth c d D lo h0 hE as0 pc L st h
variable {pc npc : Nat} {aux : List Nat} {L st : List kV} {h : kH} {k : Nat → List kV → List kV → kH → Option kH}
/-- a step that leaves the heap as it is, and puts one value onto the rest -/
theorem ks_push {st' : List kV} {v : kV} (hF : kKF p l e s m args below meth c d D lo h0 hE as0 z k) (hk : k npc L (v :: st') h = some hE) (hL : kokL h.length L) (hv : kokV h.length v) (hs : kokL h.length st') (hh : kokH h) (h0h : kLe h0 h) (hn : L.length = (kmi z).2.2)
    (row : ∀ (as : List Nat) (H : Heap) (locs : List Loc) (ls : Array Slot) (cells slots : Nat) (Q : State → Prop), kL as L ls → W p l e (kroom (d + 1) (hE.length - h0.length) (kslots hE - kslots h0)) s m args below meth c H locs cells slots Q (F0 m npc ls (kval as 0 v :: st'.map (kval as 0))) → W p l e (kroom (d + 1) (hE.length - h0.length) (kslots hE - kslots h0)) s m args below meth c H locs cells slots Q (F0 m pc ls (st.map (kval as 0)))) : kLe h hE ∧ kG p l e s m args below meth c d D lo h0 hE as0 pc L st h := by
  obtain ⟨g1, g2⟩ := hF npc L (v :: st') h hk hL (fun w hw => by
    rcases List.mem_cons.mp hw with e9 | e9
    · rw [e9]; exact hv
    · exact hs w e9) hh h0h hn
  exact ⟨g1, fun as cs tys H locs ls cells slots hK hR hS hl he hc1 hc2 => row as H locs ls cells slots _ hl (g2 as cs tys H locs ls cells slots hK hR hS hl he hc1 hc2)⟩
theorem ks_aload {i : Fin 4} {call : Nat → Nat → kH → Option kH} (C : kCx p s m args meth c z lo) (hd : decode (kmi z).2.1 pc = .ok (.aload_n i, npc - pc)) (hnp : npc = pc + 1) (hk : kstep (.aload_n i) npc aux L st h call k = some hE) (hL : kokL h.length L) (hs : kokL h.length st) (hh : kokH h) (h0h : kLe h0 h) (hn : L.length = (kmi z).2.2) (hF : kKF p l e s m args below meth c d D lo h0 hE as0 z k) : kLe h hE ∧ kG p l e s m args below meth c d D lo h0 hE as0 pc L st h := by
  obtain ⟨hx, hb, hml, hown, hts, hr, hlk, hini, hlo, hEV⟩ := C
  subst hnp
  rw [Nat.add_sub_cancel_left] at hd
  dsimp only [kstep] at hk
  split at hk
  · rename_i a ha
    exact ks_push hF hk hL (hL _ (List.mem_of_getElem? ha)) hs hh h0h hn (fun as H locs ls cells slots Q hl kk => lv_aload_n hx hb hd rfl (hl.2.2 i.val _ ha (fun w => by cases w)) kk)
  · cases hk
theorem ks_iload {i : Fin 4} {call : Nat → Nat → kH → Option kH} (C : kCx p s m args meth c z lo) (hd : decode (kmi z).2.1 pc = .ok (.iload_n i, npc - pc)) (hnp : npc = pc + 1) (hk : kstep (.iload_n i) npc aux L st h call k = some hE) (hL : kokL h.length L) (hs : kokL h.length st) (hh : kokH h) (h0h : kLe h0 h) (hn : L.length = (kmi z).2.2) (hF : kKF p l e s m args below meth c d D lo h0 hE as0 z k) : kLe h hE ∧ kG p l e s m args below meth c d D lo h0 hE as0 pc L st h := by
  obtain ⟨hx, hb, hml, hown, hts, hr, hlk, hini, hlo, hEV⟩ := C
  subst hnp
  rw [Nat.add_sub_cancel_left] at hd
  dsimp only [kstep] at hk
  split at hk
  · rename_i a ha
    exact ks_push hF hk hL trivial hs hh h0h hn (fun as H locs ls cells slots Q hl kk => lv_iload_n hx hb hd rfl (hl.2.2 i.val _ ha (fun w => by cases w)) kk)
  · cases hk
theorem ks_dup {call : Nat → Nat → kH → Option kH} (C : kCx p s m args meth c z lo) (hd : decode (kmi z).2.1 pc = .ok (.dup, npc - pc)) (hnp : npc = pc + 1) (hk : kstep .dup npc aux L st h call k = some hE) (hL : kokL h.length L) (hs : kokL h.length st) (hh : kokH h) (h0h : kLe h0 h) (hn : L.length = (kmi z).2.2) (hF : kKF p l e s m args below meth c d D lo h0 hE as0 z k) : kLe h hE ∧ kG p l e s m args below meth c d D lo h0 hE as0 pc L st h := by
  obtain ⟨hx, hb, hml, hown, hts, hr, hlk, hini, hlo, hEV⟩ := C
  subst hnp
  rw [Nat.add_sub_cancel_left] at hd
  dsimp only [kstep] at hk
  split at hk
  · rename_i a t
    exact ks_push hF hk hL (hs _ List.mem_cons_self) hs hh h0h hn (fun as H locs ls cells slots Q hl kk => lv_dup hx hb hd rfl kk)
  · cases hk
end KSIM
