/-! Constructors: the simulation -/
def kokL (n : Nat) (L : List kV) : Prop := ∀ v ∈ L, kokV n v
def kG (p : Program) (l : Launch) (e : Env) (s : State) (m : MethodId) (args : Array Value) (below : List Frame) (meth : Method) (c : Code) (d : Nat) (D : va_G) (lo : Nat) (h0 hE : kH) (as0 : List Nat) (pc : Nat) (L st : List kV) (h : kH) : Prop :=
  ∀ (as : List Nat) (cs : List ClassId) (tys : List (ClassId × FieldType)) (H : Heap) (locs : List Loc) (ls : Array Slot) (cells slots : Nat), va_K D vwCl tys s → kRep D lo h as cs tys H → va_S (fun q => lo ≤ q) s.heap H locs → kL as L ls → kExt as0 as h0.length → cells + h0.length = h.length → slots + kslots h0 = kslots h → W p l e (kroom (d + 1) (hE.length - h0.length) (kslots hE - kslots h0)) s m args below meth c H locs cells slots (MQ below (kQ D lo h0 hE as0) args s (hE.length - h0.length) (kslots hE - kslots h0) (fun q => lo ≤ q)) (F0 m pc ls (st.map (kval as 0)))
section KSIM
variable {p : Program} {l : Launch} {e : Env} {s : State} {m : MethodId} {args : Array Value} {below : List Frame} {meth : Method} {c : Code} {d : Nat} {D : va_G} {lo : Nat} {h0 hE : kH} {as0 : List Nat} {z : Nat}
def kCx (p : Program) (s : State) (m : MethodId) (args : Array Value) (meth : Method) (c : Code) (z lo : Nat) : Prop := p.tables.exec = Jvm.exec ∧ c.code = (kmi z).2.1 ∧ c.maxLocals = (kmi z).2.2 ∧ s.vm.findClass (kmi z).1.cls = some m.cls ∧ (∀ w ∈ jTBL, w.before args s = true) ∧ meth.sig.returnType = none ∧ meth.locks = false ∧ meth.name = "<init>" ∧ lo ≤ s.heap.size ∧ kEV s
def kKF (p : Program) (l : Launch) (e : Env) (s : State) (m : MethodId) (args : Array Value) (below : List Frame) (meth : Method) (c : Code) (d : Nat) (D : va_G) (lo : Nat) (h0 hE : kH) (as0 : List Nat) (z : Nat) (k : Nat → List kV → List kV → kH → Option kH) : Prop := ∀ pc L st h, k pc L st h = some hE → kokL h.length L → kokL h.length st → kokH h → kLe h0 h → L.length = (kmi z).2.2 → kLe h hE ∧ kG p l e s m args below meth c d D lo h0 hE as0 pc L st h
variable {pc npc : Nat} {aux : List Nat} {L st : List kV} {h : kH} {k : Nat → List kV → List kV → kH → Option kH}
/-- a step that leaves the heap as it is, and puts one value onto the rest -/
theorem ks_push {st' : List kV} {v : kV} (hF : kKF p l e s m args below meth c d D lo h0 hE as0 z k) (hk : k npc L (v :: st') h = some hE) (hL : kokL h.length L) (hv : kokV h.length v) (hs : kokL h.length st') (hh : kokH h) (h0h : kLe h0 h) (hn : L.length = (kmi z).2.2)
    (row : ∀ (as : List Nat) (H : Heap) (locs : List Loc) (ls : Array Slot) (cells slots : Nat) (Q : State → Prop), kL as L ls → W p l e (kroom (d + 1) (hE.length - h0.length) (kslots hE - kslots h0)) s m args below meth c H locs cells slots Q (F0 m npc ls (kval as 0 v :: st'.map (kval as 0))) → W p l e (kroom (d + 1) (hE.length - h0.length) (kslots hE - kslots h0)) s m args below meth c H locs cells slots Q (F0 m pc ls (st.map (kval as 0)))) : kLe h hE ∧ kG p l e s m args below meth c d D lo h0 hE as0 pc L st h := by
  obtain ⟨g1, g2⟩ := hF npc L (v :: st') h hk hL (fun w hw => by
    rcases List.mem_cons.mp hw with e9 | e9
    · rw [e9]; exact hv
    · exact hs w e9) hh h0h hn
  exact ⟨g1, fun as cs tys H locs ls cells slots hK hR hS hl he hc1 hc2 => row as H locs ls cells slots _ hl (g2 as cs tys H locs ls cells slots hK hR hS hl he hc1 hc2)⟩
theorem ks_aload {i : Fin 4} {call : Nat → Nat → kH → Option kH} (C : kCx p s m args meth c z lo) (hd : decode (kmi z).2.1 pc = .ok (.aload_n i, npc - pc)) (hnp : npc = pc + 1) (hk : kstep (.aload_n i) npc aux L st h call k = some hE) (hL : kokL h.length L) (hs : kokL h.length st) (hh : kokH h) (h0h : kLe h0 h) (hn : L.length = (kmi z).2.2) (hF : kKF p l e s m args below meth c d D lo h0 hE as0 z k) : kLe h hE ∧ kG p l e s m args below meth c d D lo h0 hE as0 pc L st h := by
  obtain ⟨hx, hb, hml, hown, hts, hr, hlk, hini, hlo, hEV⟩ := C
  subst hnp
  rw [Nat.add_sub_cancel_left] at hd
  dsimp only [kstep] at hk
  split at hk
  · rename_i a ha
    exact ks_push hF hk hL (hL _ (List.mem_of_getElem? ha)) hs hh h0h hn (fun as H locs ls cells slots Q hl kk => lv_aload_n hx hb hd rfl (hl.2.2 i.val _ ha (fun w => by cases w)) kk)
  · cases hk
theorem ks_iload {i : Fin 4} {call : Nat → Nat → kH → Option kH} (C : kCx p s m args meth c z lo) (hd : decode (kmi z).2.1 pc = .ok (.iload_n i, npc - pc)) (hnp : npc = pc + 1) (hk : kstep (.iload_n i) npc aux L st h call k = some hE) (hL : kokL h.length L) (hs : kokL h.length st) (hh : kokH h) (h0h : kLe h0 h) (hn : L.length = (kmi z).2.2) (hF : kKF p l e s m args below meth c d D lo h0 hE as0 z k) : kLe h hE ∧ kG p l e s m args below meth c d D lo h0 hE as0 pc L st h := by
  obtain ⟨hx, hb, hml, hown, hts, hr, hlk, hini, hlo, hEV⟩ := C
  subst hnp
  rw [Nat.add_sub_cancel_left] at hd
  dsimp only [kstep] at hk
  split at hk
  · rename_i a ha
    exact ks_push hF hk hL (hL _ (List.mem_of_getElem? ha)) hs hh h0h hn (fun as H locs ls cells slots Q hl kk => lv_iload_n hx hb hd rfl (hl.2.2 i.val _ ha (fun w => by cases w)) kk)
  · cases hk
theorem ks_dup {call : Nat → Nat → kH → Option kH} (C : kCx p s m args meth c z lo) (hd : decode (kmi z).2.1 pc = .ok (.dup, npc - pc)) (hnp : npc = pc + 1) (hk : kstep .dup npc aux L st h call k = some hE) (hL : kokL h.length L) (hs : kokL h.length st) (hh : kokH h) (h0h : kLe h0 h) (hn : L.length = (kmi z).2.2) (hF : kKF p l e s m args below meth c d D lo h0 hE as0 z k) : kLe h hE ∧ kG p l e s m args below meth c d D lo h0 hE as0 pc L st h := by
  obtain ⟨hx, hb, hml, hown, hts, hr, hlk, hini, hlo, hEV⟩ := C
  subst hnp
  rw [Nat.add_sub_cancel_left] at hd
  dsimp only [kstep] at hk
  split at hk
  · rename_i a t
    exact ks_push hF hk hL (hs _ List.mem_cons_self) hs hh h0h hn (fun as H locs ls cells slots Q hl kk => lv_dup hx hb hd rfl kk)
  · cases hk
def kj : kV → jV
  | .inl x => vI x
  | .inr (some a) => vR 0 (some (a : Int))
  | .inr none => vU
theorem kj_cv (as : List Nat) (v : kV) (hv : v ≠ .inr none) : jcv (fun _ i => kad as i.toNat) (kj v) = kval as 0 v := by
  match v, hv with
  | .inl x, _ => rfl
  | .inr (some a), _ => rfl
  | .inr none, hv => exact absurd rfl hv
theorem kj_U {v : kV} (h : kj v ≠ vU) : v ≠ .inr none := fun e9 => h (by rw [e9]; rfl)
theorem kL_to {as : List Nat} {L : List kV} {ls : Array Slot} (h : kL as L ls) : jL (fun _ i => kad as i.toNat) (L.map kj) ls := by
  refine ⟨by rw [List.length_map]; exact h.1, h.2.1, fun i w hi hw => ?_⟩
  rw [List.getElem?_map] at hi
  cases hv : L[i]? with
  | none => rw [hv] at hi; cases hi
  | some v =>
    rw [hv] at hi
    cases hi
    rw [kj_cv as v (kj_U hw)]
    exact h.2.2 i v hv (kj_U hw)
theorem kL_of {as : List Nat} {L : List kV} {ls : Array Slot} (h : jL (fun _ i => kad as i.toNat) (L.map kj) ls) : kL as L ls := by
  refine ⟨by rw [h.1, List.length_map], h.2.1, fun i v hi hv => ?_⟩
  have hu : kj v ≠ vU := by
    match v, hv with
    | .inl x, _ => exact fun e9 => by cases e9
    | .inr (some a), _ => exact fun e9 => by cases e9
    | .inr none, hv => exact absurd rfl hv
  rw [← kj_cv as v hv]
  exact h.2.2 i (kj v) (by rw [List.getElem?_map, hi]; rfl) hu
theorem kL_ext {as as' : List Nat} {n : Nat} {L : List kV} {ls : Array Slot} (he : kExt as as' n) (hL : kokL n L) (h : kL as L ls) : kL as' L ls := ⟨h.1, h.2.1, fun i v hi hv => by
  rw [kval_ext he (hL v (List.mem_of_getElem? hi))]
  exact h.2.2 i v hi hv⟩
theorem kst_ext {as as' : List Nat} {n : Nat} (he : kExt as as' n) : ∀ st : List kV, kokL n st → st.map (kval as' 0) = st.map (kval as 0)
  | [], _ => rfl
  | v :: t, h => by
    rw [List.map_cons, List.map_cons, kval_ext he (h v List.mem_cons_self), kst_ext he t (fun w hw => h w (List.mem_cons_of_mem _ hw))]
theorem kj_noJ (L : List kV) (i : Nat) : jinv (L.map kj) i = L.map kj := by
  unfold jinv
  split
  · rfl
  · rename_i j
    split
    · rename_i x hx
      have h1 := jnth_get hx (fun e9 => by cases e9)
      rw [List.getElem?_map] at h1
      cases hv : L[j]? with
      | none => rw [hv] at h1; cases h1
      | some v =>
        rw [hv] at h1
        match v, h1 with
        | .inl _, h1 => cases h1
        | .inr (some _), h1 => cases h1
        | .inr none, h1 => cases h1
    · rfl
theorem kj_set : ∀ (L : List kV) (i : Nat) (v : kV), jset (L.map kj) i (kj v) = (L.set i v).map kj
  | [], _, _ => rfl
  | _ :: _, 0, _ => rfl
  | a :: t, i + 1, v => by
    rw [List.map_cons, jset, List.set_cons_succ, List.map_cons, kj_set t i v]
theorem kL_st {as : List Nat} {L : List kV} {i : Nat} {x : Int} {ls' : Array Slot} (h : jL (fun _ i => kad as i.toNat) (jset (jinv (L.map kj) i) i (vI x)) ls') : kL as (L.set i (.inl x)) ls' := by
  rw [kj_noJ] at h
  have e9 := kj_set L i (.inl x)
  exact kL_of (by rw [← e9]; exact h)
theorem kokL_set {n : Nat} {L : List kV} {i : Nat} {v : kV} (h : kokL n L) (hv : kokV n v) : kokL n (L.set i v) := fun w hw => by
  rcases List.mem_or_eq_of_mem_set hw with e9 | e9
  · exact h w e9
  · rw [e9]; exact hv
theorem ks_iconst {n : Int} {call : Nat → Nat → kH → Option kH} (C : kCx p s m args meth c z lo) (hd : decode (kmi z).2.1 pc = .ok (.iconst n, npc - pc)) (hnp : npc = pc + 1) (hrg : jrg n = true) (hk : kstep (.iconst n) npc aux L st h call k = some hE) (hL : kokL h.length L) (hs : kokL h.length st) (hh : kokH h) (h0h : kLe h0 h) (hn : L.length = (kmi z).2.2) (hF : kKF p l e s m args below meth c d D lo h0 hE as0 z k) : kLe h hE ∧ kG p l e s m args below meth c d D lo h0 hE as0 pc L st h := by
  obtain ⟨hx, hb, hml, hown, hts, hr, hlk, hini, hlo, hEV⟩ := C
  subst hnp
  rw [Nat.add_sub_cancel_left] at hd
  have z9 := Bool.and_eq_true_iff.mp hrg
  have rg : jokI n := ⟨of_decide_eq_true z9.1, of_decide_eq_true z9.2⟩
  exact ks_push (v := .inl n) hF hk hL rg hs hh h0h hn (fun as H locs ls cells slots Q hl kk => lv_iconst hx hb hd rfl kk)
theorem ks_bipush {n : Int} {call : Nat → Nat → kH → Option kH} (C : kCx p s m args meth c z lo) (hd : decode (kmi z).2.1 pc = .ok (.bipush n, npc - pc)) (hnp : npc = pc + 2) (hrg : jrg n = true) (h8 : (Int8.ofInt n).toInt32 = Int32.ofInt n) (hk : kstep (.bipush n) npc aux L st h call k = some hE) (hL : kokL h.length L) (hs : kokL h.length st) (hh : kokH h) (h0h : kLe h0 h) (hn : L.length = (kmi z).2.2) (hF : kKF p l e s m args below meth c d D lo h0 hE as0 z k) : kLe h hE ∧ kG p l e s m args below meth c d D lo h0 hE as0 pc L st h := by
  obtain ⟨hx, hb, hml, hown, hts, hr, hlk, hini, hlo, hEV⟩ := C
  subst hnp
  rw [Nat.add_sub_cancel_left] at hd
  have z9 := Bool.and_eq_true_iff.mp hrg
  have rg : jokI n := ⟨of_decide_eq_true z9.1, of_decide_eq_true z9.2⟩
  exact ks_push (v := .inl n) hF hk hL rg hs hh h0h hn (fun as H locs ls cells slots Q hl kk => lv_bipush hx hb hd h8 kk)
theorem ks_sipush {n : Int} {call : Nat → Nat → kH → Option kH} (C : kCx p s m args meth c z lo) (hd : decode (kmi z).2.1 pc = .ok (.sipush n, npc - pc)) (hnp : npc = pc + 3) (hrg : jrg n = true) (h8 : (Int16.ofInt n).toInt32 = Int32.ofInt n) (hk : kstep (.sipush n) npc aux L st h call k = some hE) (hL : kokL h.length L) (hs : kokL h.length st) (hh : kokH h) (h0h : kLe h0 h) (hn : L.length = (kmi z).2.2) (hF : kKF p l e s m args below meth c d D lo h0 hE as0 z k) : kLe h hE ∧ kG p l e s m args below meth c d D lo h0 hE as0 pc L st h := by
  obtain ⟨hx, hb, hml, hown, hts, hr, hlk, hini, hlo, hEV⟩ := C
  subst hnp
  rw [Nat.add_sub_cancel_left] at hd
  have z9 := Bool.and_eq_true_iff.mp hrg
  have rg : jokI n := ⟨of_decide_eq_true z9.1, of_decide_eq_true z9.2⟩
  exact ks_push (v := .inl n) hF hk hL rg hs hh h0h hn (fun as H locs ls cells slots Q hl kk => lv_sipush hx hb hd h8 kk)
theorem ks_istore {i : Fin 4} {call : Nat → Nat → kH → Option kH} (C : kCx p s m args meth c z lo) (hd : decode (kmi z).2.1 pc = .ok (.istore_n i, npc - pc)) (hnp : npc = pc + 1) (hk : kstep (.istore_n i) npc aux L st h call k = some hE) (hL : kokL h.length L) (hs : kokL h.length st) (hh : kokH h) (h0h : kLe h0 h) (hn : L.length = (kmi z).2.2) (hF : kKF p l e s m args below meth c d D lo h0 hE as0 z k) : kLe h hE ∧ kG p l e s m args below meth c d D lo h0 hE as0 pc L st h := by
  obtain ⟨hx, hb, hml, hown, hts, hr, hlk, hini, hlo, hEV⟩ := C
  subst hnp
  rw [Nat.add_sub_cancel_left] at hd
  dsimp only [kstep] at hk
  split at hk
  · rename_i x t
    cases hb9 : Nat.blt i.val L.length with
    | false => rw [hb9] at hk; cases hk
    | true =>
    rw [hb9] at hk
    simp only [cond_true] at hk
    have hi : i.val < L.length := Nat.le_of_ble_eq_true hb9
    obtain ⟨g1, g2⟩ := hF _ _ _ _ hk (kokL_set hL (hs _ List.mem_cons_self)) (fun w hw => hs w (List.mem_cons_of_mem _ hw)) hh h0h (by rw [List.length_set]; exact hn)
    refine ⟨g1, fun as cs tys H locs ls cells slots hK hR hS hl he hc1 hc2 => ?_⟩
    exact lv_istore_n hx hb hd rfl (jL_has (kL_to hl)) (by rw [List.length_map]; exact hi) rfl (fun ls' h' => g2 as cs tys H locs ls' cells slots hK hR hS (kL_st (jL_st1 (v := vI x) h')) he hc1 hc2)
  · cases hk
theorem ks_iinc {i : Nat} {n : Int} {call : Nat → Nat → kH → Option kH} (C : kCx p s m args meth c z lo) (hd : decode (kmi z).2.1 pc = .ok (.iinc i n, npc - pc)) (hnp : npc = pc + 3) (hk : kstep (.iinc i n) npc aux L st h call k = some hE) (hL : kokL h.length L) (hs : kokL h.length st) (hh : kokH h) (h0h : kLe h0 h) (hn : L.length = (kmi z).2.2) (hF : kKF p l e s m args below meth c d D lo h0 hE as0 z k) : kLe h hE ∧ kG p l e s m args below meth c d D lo h0 hE as0 pc L st h := by
  obtain ⟨hx, hb, hml, hown, hts, hr, hlk, hini, hlo, hEV⟩ := C
  subst hnp
  rw [Nat.add_sub_cancel_left] at hd
  dsimp only [kstep] at hk
  split at hk
  · rename_i x hxi
    by_cases hq : 0 ≤ x + n ∧ x + n < 100000
    rotate_left
    · rw [if_neg hq] at hk; cases hk
    rw [if_pos hq] at hk
    have rg : jokI (x + n) := ⟨by omega, by omega⟩
    obtain ⟨g1, g2⟩ := hF _ _ _ _ hk (kokL_set (v := .inl (x + n)) hL rg) hs hh h0h (by rw [List.length_set]; exact hn)
    refine ⟨g1, fun as cs tys H locs ls cells slots hK hR hS hl he hc1 hc2 => ?_⟩
    have hi2 : (L.map kj)[i]? = some (vI x) := by rw [List.getElem?_map, hxi]; rfl
    obtain ⟨k9, hk9⟩ := List.getElem?_of_mem (jlv_mem (ad := fun _ i => kad as i.toNat) hi2 (fun e9 => by cases e9))
    exact lv_iinc hx hb hd (jL_has (kL_to hl)) hk9 (v := Int32.ofInt (x + n)) (by rw [Int32.ofInt_add]) (List.getElem?_eq_some_iff.mp hi2).1 rfl (fun ls' h' => g2 as cs tys H locs ls' cells slots hK hR hS (kL_st (jL_st1 (v := vI (x + n)) h')) he hc1 hc2)
  · cases hk
theorem ks_goto {o : Int} {call : Nat → Nat → kH → Option kH} (C : kCx p s m args meth c z lo) (hd : decode (kmi z).2.1 pc = .ok (.goto o, npc - pc)) (hnp : npc = pc + 3) (hch : ∀ t, aux = [t] → (pc : Int) + o = (t : Int)) (hk : kstep (.goto o) npc aux L st h call k = some hE) (hL : kokL h.length L) (hs : kokL h.length st) (hh : kokH h) (h0h : kLe h0 h) (hn : L.length = (kmi z).2.2) (hF : kKF p l e s m args below meth c d D lo h0 hE as0 z k) : kLe h hE ∧ kG p l e s m args below meth c d D lo h0 hE as0 pc L st h := by
  obtain ⟨hx, hb, hml, hown, hts, hr, hlk, hini, hlo, hEV⟩ := C
  subst hnp
  rw [Nat.add_sub_cancel_left] at hd
  dsimp only [kstep] at hk
  split at hk
  · rename_i t
    obtain ⟨g1, g2⟩ := hF _ _ _ _ hk hL hs hh h0h hn
    exact ⟨g1, fun as cs tys H locs ls cells slots hK hR hS hl he hc1 hc2 => lv_goto hx hb hd (hch t rfl) (g2 as cs tys H locs ls cells slots hK hR hS hl he hc1 hc2)⟩
  · cases hk
theorem ks_icmp {o : Int} {call : Nat → Nat → kH → Option kH} (C : kCx p s m args meth c z lo) (hd : decode (kmi z).2.1 pc = .ok (.if_icmp .ge o, npc - pc)) (hnp : npc = pc + 3) (hch : ∀ t, aux = [t] → (pc : Int) + o = (t : Int)) (hk : kstep (.if_icmp .ge o) npc aux L st h call k = some hE) (hL : kokL h.length L) (hs : kokL h.length st) (hh : kokH h) (h0h : kLe h0 h) (hn : L.length = (kmi z).2.2) (hF : kKF p l e s m args below meth c d D lo h0 hE as0 z k) : kLe h hE ∧ kG p l e s m args below meth c d D lo h0 hE as0 pc L st h := by
  obtain ⟨hx, hb, hml, hown, hts, hr, hlk, hini, hlo, hEV⟩ := C
  subst hnp
  rw [Nat.add_sub_cancel_left] at hd
  dsimp only [kstep] at hk
  split at hk
  · rename_i t y x tt
    have oy : jokI y := hs (.inl y) List.mem_cons_self
    have ox : jokI x := hs (.inl x) (List.mem_cons_of_mem _ List.mem_cons_self)
    have ot : kokL h.length tt := fun w hw => hs w (List.mem_cons_of_mem _ (List.mem_cons_of_mem _ hw))
    by_cases hq : x < y
    · rw [if_pos hq] at hk
      obtain ⟨g1, g2⟩ := hF _ _ _ _ hk hL ot hh h0h hn
      exact ⟨g1, fun as cs tys H locs ls cells slots hK hR hS hl he hc1 hc2 => lv_icmp_ge hx hb hd (hch t rfl) (fun w => absurd ((j_le oy ox).mp w) (by omega)) (fun _ => g2 as cs tys H locs ls cells slots hK hR hS hl he hc1 hc2)⟩
    · rw [if_neg hq] at hk
      obtain ⟨g1, g2⟩ := hF _ _ _ _ hk hL ot hh h0h hn
      exact ⟨g1, fun as cs tys H locs ls cells slots hK hR hS hl he hc1 hc2 => lv_icmp_ge hx hb hd (hch t rfl) (fun _ => g2 as cs tys H locs ls cells slots hK hR hS hl he hc1 hc2) (fun w => absurd ((j_le oy ox).mpr (by omega)) w)⟩
  · cases hk
end KSIM
