/-! Constructors: sizes, and what a run may need -/
theorem kslots_app : ∀ (h t : kH), kslots (h ++ t) = kslots h + kslots t
  | [], t => by simp [kslots]
  | c :: h, t => by
    simp only [List.cons_append, kslots]
    rw [kslots_app h t]
    omega
theorem kslots_set : ∀ (h : kH) (a : Nat) (c c' : kC), h[a]? = some c → ksz c' = ksz c → kslots (h.set a c') = kslots h
  | [], _, _, _, h, _ => by simp at h
  | x :: h, 0, c, c', he, hs => by
    cases he
    simp only [List.set_cons_zero, kslots, hs]
  | x :: h, a + 1, c, c', he, hs => by
    simp only [List.set_cons_succ, kslots]
    rw [kslots_set h a c c' (by simpa using he) hs]
def kLe (h h' : kH) : Prop := h.length ≤ h'.length ∧ kslots h ≤ kslots h'
theorem kLe_rf (h : kH) : kLe h h := ⟨Nat.le_refl _, Nat.le_refl _⟩
theorem kLe_tr {a b c : kH} (h1 : kLe a b) (h2 : kLe b c) : kLe a c := ⟨Nat.le_trans h1.1 h2.1, Nat.le_trans h1.2 h2.2⟩
theorem kLe_app (h : kH) (c : kC) : kLe h (h ++ [c]) := ⟨by simp, by rw [kslots_app]; omega⟩
theorem kLe_set {h : kH} {a : Nat} {c c' : kC} (he : h[a]? = some c) (hs : ksz c' = ksz c) : kLe h (h.set a c') := ⟨by simp, by rw [kslots_set h a c c' he hs]; exact Nat.le_refl _⟩
def kL (as : List Nat) (L : List kV) (ls : Array Slot) : Prop := ls.size = L.length ∧ lv_wf ls ∧ ∀ (i : Nat) (v : kV), L[i]? = some v → v ≠ .inr none → ls[i]? = some (.val (kval as 0 v))
def kRep (D : va_G) (lo : Nat) (h : kH) (as : List Nat) (cs : List ClassId) (tys : List (ClassId × FieldType)) (H : Heap) : Prop := as.length = h.length ∧ cs.length = h.length ∧ va_P D vwCl (kws as cs h) H ∧ va_D (fun q => lo ≤ q) (kws as cs h) ∧ ∀ k t n rs, h[k]? = some (.inr (t, n, rs)) → ∃ x : Nat, tys[x]? = some (cs.getD k 0, karr t)
def kQ (D : va_G) (lo : Nat) (h0 hE : kH) (as0 : List Nat) : Array Value → State → Outcome → State → Prop := fun _ st oc t => oc = .returned none ∧ (∃ (as : List Nat) (cs : List ClassId) (tys : List (ClassId × FieldType)), kExt as0 as h0.length ∧ va_K D vwCl tys t ∧ kRep D lo hE as cs tys t.heap) ∧ va_F (fun q => lo ≤ q) st t
def kroom (d mc ms : Nat) : Room := { frames := d, cells := mc, slots := ms, locals := 100 * d }
def kEV (U : State) : Prop := (∀ w ∈ knest, va_Nw w U) ∧ va_AO "EelThroat$Rule" U ∧ va_AO "EelThroat$Scene" U ∧ va_AO "EelThroat$Water" U
theorem kEV_same {u U : State} (h : u.vm = U.vm) (hE : kEV u) : kEV U := by
  have al : u.vm.Alike U.vm := by rw [h]; exact Vm.Alike.refl _
  refine ⟨fun w hw => ?_, va_AO.moved al hE.2.1, va_AO.moved al hE.2.2.1, va_AO.moved al hE.2.2.2⟩
  have hon : knest.all (fun w => w.onTables) = true := by decide +kernel
  exact va_Nw.same (List.all_eq_true.mp hon w hw) h (hE.1 w hw)
def kisN : Cond → Bool
  | .methodLinkNest _ _ _ _ => true
  | _ => false
theorem kEV_warm {u U : State} (hW : u.WarmedH U.vm) (hE : kEV u) : kEV U := by
  refine ⟨fun w hw => ?_, va_AO.moved hW.alike hE.2.1, va_AO.moved hW.alike hE.2.2.1, va_AO.moved hW.alike hE.2.2.2⟩
  have hon : knest.all kisN = true := by decide +kernel
  have h1 := List.all_eq_true.mp hon w hw
  have h2 := hE.1 w hw
  match w, h1, h2 with
  | .methodLinkNest a b x y, _, h2 => exact va_Nw.warmM hW h2
/-- a new cell at a new address -/
theorem kws_push {as : List Nat} {cs : List ClassId} {h : kH} {c : kC} {q : Nat} {cA : ClassId} (ha : as.length = h.length) (hc : cs.length = h.length) (hok : kokH h) (hcc : kokC h.length c) : kws (as ++ [q]) (cs ++ [cA]) (h ++ [c]) = kws as cs h ++ [(q, kcell as [cA] 0 c)] := by
  have hcs : ∀ k, k < h.length → (cs ++ [cA]).getD k 0 = cs.getD k 0 := fun k hk => by
    rw [List.getD_eq_getElem?_getD, List.getD_eq_getElem?_getD, List.getElem?_append_left (by omega)]
  have hext : kExt as (as ++ [q]) h.length := fun a hlt => kad_app (by omega)
  have hcell : ∀ (k : Nat) (x : kC) (cs1 cs2 : List ClassId) (k2 : Nat), kokC h.length x → cs1.getD k 0 = cs2.getD k2 0 → kcell (as ++ [q]) cs1 k x = kcell as cs2 k2 x := by
    intro k x cs1 cs2 k2 hx he
    match x, hx with
    | .inl o, hx =>
      unfold kcell
      dsimp only
      rw [kvals_ext hext _ _ hx.1]
    | .inr r, hx =>
      unfold kcell
      dsimp only
      rw [he, krow_ext hext _ _ _ _ hx]
  apply List.ext_getElem?
  intro k
  rw [kws_get]
  by_cases hk : k < h.length
  · rw [List.getElem?_append_left hk, List.getElem?_append_left (by unfold kws; simp; exact hk), kws_get]
    cases hx : h[k]? with
    | none => rfl
    | some x =>
      simp only [Option.map_some]
      rw [kad_app (by omega), hcell k x (cs ++ [cA]) cs k (hok x (List.mem_of_getElem? hx)) (hcs k hk)]
  · by_cases hk2 : k = h.length
    · subst hk2
      have e1 : (h ++ [c])[h.length]? = some c := by simp
      have e2 : (kws as cs h ++ [(q, kcell as [cA] 0 c)])[h.length]? = some (q, kcell as [cA] 0 c) := by
        have : (kws as cs h).length = h.length := by unfold kws; simp
        rw [List.getElem?_append_right (by omega), this, Nat.sub_self]
        rfl
      rw [e1, e2]
      simp only [Option.map_some]
      rw [show kad (as ++ [q]) h.length = q by rw [← ha]; exact kad_last]
      rw [hcell h.length c (cs ++ [cA]) [cA] 0 hcc (by
        rw [List.getD_eq_getElem?_getD, List.getElem?_append_right (by omega), hc, Nat.sub_self]
        rfl)]
    · have e1 : (h ++ [c])[k]? = none := List.getElem?_eq_none (by simp; omega)
      have e2 : (kws as cs h ++ [(q, kcell as [cA] 0 c)])[k]? = none := List.getElem?_eq_none (by unfold kws; simp; omega)
      rw [e1, e2]
      rfl
/-- a cell changed -/
theorem kws_set {as : List Nat} {cs : List ClassId} {h : kH} {a : Nat} {c : kC} (ha : a < h.length) : (kws as cs h).set a (kad as a, kcell as cs a c) = kws as cs (h.set a c) := by
  apply List.ext_getElem?
  intro k
  rw [kws_get]
  by_cases hk : a = k
  · subst hk
    rw [List.getElem?_set_self (by unfold kws; simp; exact ha), List.getElem?_set_self ha]
    rfl
  · rw [List.getElem?_set_ne hk, List.getElem?_set_ne hk, kws_get]
