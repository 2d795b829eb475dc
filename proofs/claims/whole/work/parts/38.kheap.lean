/-! Constructors: the simulation of rows of references, of fields read and written -/
theorem kfit_spec {f j : Nat} {v : kV} {w : Nat × Nat × Nat} (w1 : (jfds.getD f [])[j]? = some w) (hf : kfit f j v = true) : (w.1 = 0 ∧ ∃ x, v = .inl x) ∨ (2 ≤ w.1 ∧ ∃ b, v = .inr (some b)) := by
  unfold kfit at hf
  rw [w1] at hf
  obtain ⟨kd, q1, q2⟩ := w
  match kd, v, hf with
  | 0, .inl x, _ => exact Or.inl ⟨rfl, x, rfl⟩
  | n + 2, .inr (some b), _ => exact Or.inr ⟨Nat.le_add_left 2 n, b, rfl⟩
def kputy (f j : Nat) : Bool := match (jfds.getD f [])[j]? with
  | some (0, _, _) => decide (parseFieldDescriptor ((jcl f).2.1 j).2.2.1 = some .int)
  | some (_ + 2, _, _) => match parseFieldDescriptor ((jcl f).2.1 j).2.2.1 with
    | some (.object _) => true
    | some (.array _) => true
    | _ => false
  | _ => false
theorem kputy_spec {f j : Nat} {v : kV} {w : Nat × Nat × Nat} (w1 : (jfds.getD f [])[j]? = some w) (hf : kfit f j v = true) (hp : kputy f j = true) : (∀ as, kval as w.1 v = kval as 0 v) ∧ ∃ ty, parseFieldDescriptor ((jcl f).2.1 j).2.2.1 = some ty ∧ ∀ as, narrow ty (kval as 0 v) = kval as 0 v ∧ fits ty (kval as 0 v) = true := by
  unfold kputy at hp
  rw [w1] at hp
  obtain ⟨kd, q1, q2⟩ := w
  rcases kfit_spec w1 hf with ⟨h0, x, rfl⟩ | ⟨h2, b, rfl⟩
  · have h0 : kd = 0 := h0
    subst h0
    exact ⟨fun as => rfl, .int, of_decide_eq_true hp, fun as => ⟨rfl, rfl⟩⟩
  · refine ⟨fun as => rfl, ?_⟩
    have h2 : 2 ≤ kd := h2
    match kd, h2, hp with
    | n + 2, _, hp =>
      dsimp only at hp
      split at hp
      · rename_i t9 e9
        exact ⟨_, e9, fun as => ⟨rfl, rfl⟩⟩
      · rename_i t9 e9
        exact ⟨_, e9, fun as => ⟨rfl, rfl⟩⟩
      · cases hp
theorem kacl_spec {t : Nat} (h4 : 4 ≤ t) (h6 : t ≤ 6) : kacl t < 12 ∧ karr t = .object (jcl (kacl t)).1 := by
  match t, h4, h6 with
  | 4, _, _ => exact ⟨by decide, rfl⟩
  | 5, _, _ => exact ⟨by decide, rfl⟩
  | 6, _, _ => exact ⟨by decide, rfl⟩
theorem krow_4 {as : List Nat} {cA : ClassId} {t n : Nat} {rs : List (Option Nat)} (h4 : 4 ≤ t) : krow as cA t n rs = .inl (cA, n, .inr (.inr (.inr (.inr (fun j => (rs.getD j none).map (kad as)))))) := by
  match t, h4 with
  | w + 4, _ => rfl
theorem krow_up {as : List Nat} {cA : ClassId} {t n : Nat} {rs : List (Option Nat)} {i v : Nat} (h4 : 4 ≤ t) (hi : i < rs.length) : krow as cA t n (rs.set i (some v)) = .inl (cA, n, .inr (.inr (.inr (.inr (va_up (fun j => (rs.getD j none).map (kad as)) i (some (kad as v))))))) := by
  have hfn : (fun j => ((rs.set i (some v)).getD j none).map (kad as)) = va_up (fun j => (rs.getD j none).map (kad as)) i (some (kad as v)) := by
    funext j
    unfold va_up
    by_cases hj : j = i
    · subst hj
      rw [if_pos rfl, List.getD_eq_getElem?_getD, List.getElem?_set_self hi]
      rfl
    · rw [if_neg hj, List.getD_eq_getElem?_getD, List.getElem?_set_ne (fun e9 => hj e9.symm), ← List.getD_eq_getElem?_getD]
  rw [krow_4 h4, hfn]
theorem kRep_set {D : va_G} {lo : Nat} {h : kH} {as : List Nat} {cs : List ClassId} {tys : List (ClassId × FieldType)} {H H1 : Heap} {a : Nat} {c c' : kC} (hR : kRep D lo h as cs tys H) (hg : h[a]? = some c) (hcc : ∀ t n rs, c' = .inr (t, n, rs) → ∃ n' rs', c = .inr (t, n', rs')) (hP : va_P D vwCl (kws as cs (h.set a c')) H1) (hD : va_D (fun q => lo ≤ q) (kws as cs (h.set a c'))) : kRep D lo (h.set a c') as cs tys H1 := by
  refine ⟨by rw [List.length_set]; exact hR.1, by rw [List.length_set]; exact hR.2.1, hP, hD, fun k t n rs hk => ?_⟩
  by_cases hka : a = k
  · subst hka
    rw [List.getElem?_set_self (List.getElem?_eq_some_iff.mp hg).1] at hk
    obtain ⟨n', rs', e9⟩ := hcc t n rs (Option.some.inj hk)
    rw [e9] at hg
    exact hR.2.2.2.2 a t n' rs' hg
  · rw [List.getElem?_set_ne hka] at hk
    exact hR.2.2.2.2 k t n rs hk
section KHEAP2
variable {p : Program} {l : Launch} {e : Env} {s : State} {m : MethodId} {args : Array Value} {below : List Frame} {meth : Method} {c : Code} {d : Nat} {D : va_G} {lo : Nat} {h0 hE : kH} {as0 : List Nat} {z : Nat}
variable {pc npc : Nat} {aux : List Nat} {L st : List kV} {h : kH} {k : Nat → List kV → List kV → kH → Option kH}
theorem ks_anewarray {ix : Nat} {call : Nat → Nat → kH → Option kH} (C : kCx p s m args meth c z lo) (hd : decode (kmi z).2.1 pc = .ok (.anewarray ix, npc - pc)) (hnp : npc = pc + 3) (hch : ∀ t, aux = [t] → 4 ≤ t ∧ t ≤ 6 ∧ Cond.classLink (kmi z).1.cls ix (kcls t) ∈ jTBL) (hk : kstep (.anewarray ix) npc aux L st h call k = some hE) (hL : kokL h.length L) (hs : kokL h.length st) (hh : kokH h) (h0h : kLe h0 h) (hn : L.length = (kmi z).2.2) (hF : kKF p l e s m args below meth c d D lo h0 hE as0 z k) : kLe h hE ∧ kG p l e s m args below meth c d D lo h0 hE as0 pc L st h := by
  obtain ⟨hx, hb, hml, hown, hts, hr, hlk, hini, hlo, hEV⟩ := C
  subst hnp
  rw [Nat.add_sub_cancel_left] at hd
  dsimp only [kstep] at hk
  split at hk
  · rename_i t n tt
    have hs2 : kokL h.length tt := fun w hw => hs w (List.mem_cons_of_mem _ hw)
    by_cases hq : 0 ≤ n ∧ n < 100000
    rotate_left
    · rw [if_neg hq] at hk; cases hk
    rw [if_pos hq] at hk
    obtain ⟨t4, t6, tlk⟩ := hch t rfl
    have hcok : ∀ m9, kokC m9 (.inr (t, n.toNat, List.replicate n.toNat none)) := fun m9 a ha => by
      have := List.eq_of_mem_replicate ha
      cases this
    have hlen : (h ++ [(.inr (t, n.toNat, List.replicate n.toNat none) : kC)]).length = h.length + 1 := by simp
    obtain ⟨g1, g2⟩ := hF _ _ _ _ hk (by rw [hlen]; exact kokL_le (Nat.le_succ _) hL) (by
      rw [hlen]
      intro w hw
      rcases List.mem_cons.mp hw with e9 | e9
      · rw [e9]; exact Nat.lt_succ_self _
      · exact kokV_le (Nat.le_succ _) (hs2 w e9)) (kokH_push hh (hcok _)) (kLe_tr h0h (kLe_app _ _)) hn
    refine ⟨kLe_tr (kLe_app _ _) g1, fun as cs tys H locs ls cells slots hK hR hS hl he hc1 hc2 => ?_⟩
    have r1 := hR.1
    have b1 := g1.1
    have b2 := g1.2
    rw [hlen] at b1
    rw [kslots_app] at b2
    have hsz : kslots [(.inr (t, n.toNat, List.replicate n.toNat none) : kC)] = n.toNat := rfl
    rw [hsz] at b2
    have a1 := h0h.1
    have a2 := h0h.2
    have rg : jokI n := ⟨by omega, by omega⟩
    have hneg : ¬ Int32.ofInt n < 0 := fun w => by
      have w2 : n < 0 := (j_lt rg jok0).mp w
      omega
    have hcl : (Int32.ofInt n).toNatClampNeg = n.toNat := by
      have := j_cl hq.1 rg
      omega
    have hAO : va_AO (kcls t) s ∧ karr t = .object (kcls t) := by
      match t, t4, t6 with
      | 4, _, _ => exact ⟨hEV.2.1, rfl⟩
      | 5, _, _ => exact ⟨hEV.2.2.1, rfl⟩
      | 6, _, _ => exact ⟨hEV.2.2.2, rfl⟩
    refine va_newq (C := kcls t) (N' := n.toNat) hx hb hown (hts _ tlk) hAO.1 hK hR.2.2.1 hR.2.2.2.1 hS (fun q hq9 => Nat.le_trans hlo hq9) hneg hcl (by omega) (by show cells + 1 ≤ hE.length - h0.length; omega) (by show slots + n.toNat ≤ kslots hE - kslots h0; omega) hd (fun q cA H1 hK1 hP1 hD1 hS1 => ?_)
    have hrw : krow as cA t n.toNat (List.replicate n.toNat none) = .inl (cA, n.toNat, .inr (.inr (.inr (.inr (fun _ => none))))) := by
      have hfn : (fun j => ((List.replicate n.toNat (none : Option Nat)).getD j none).map (kad as)) = fun _ => none := by
        funext j
        rw [List.getD_eq_getElem?_getD, List.getElem?_replicate]
        split <;> rfl
      rw [krow_4 t4, hfn]
    rw [← hrw] at hP1 hD1
    have hrep := kmade (tys' := tys ++ [(cA, .object (kcls t))]) (x := .inr (t, n.toNat, List.replicate n.toNat none)) (q := q) (cA := cA) hR hh (hcok _) hP1 hD1 (fun i y hi => by rw [List.getElem?_append_left (List.getElem?_eq_some_iff.mp hi).1]; exact hi) (fun t9 n9 rs9 e9 => by
      cases e9
      exact ⟨tys.length, by rw [List.getElem?_append_right (Nat.le_refl _), Nat.sub_self, hAO.2]; rfl⟩)
    have hext : kExt as (as ++ [q]) h.length := fun a ha => kad_app (by omega)
    have w := g2 (as ++ [q]) (cs ++ [cA]) (tys ++ [(cA, .object (kcls t))]) H1 locs ls (cells + 1) (slots + n.toNat) hK1 hrep hS1 (kL_ext hext hL hl) (kExt_app he (by omega)) (by rw [hlen]; omega) (by rw [kslots_app, hsz]; omega)
    rw [List.map_cons, kst_ext hext tt hs2] at w
    have e9 : kval (as ++ [q]) 0 (.inr (some h.length)) = .ref q := by
      show va_rf (some (kad (as ++ [q]) h.length)) = .ref q
      rw [← r1, kad_last]
      rfl
    rw [e9] at w
    exact w
  · cases hk
theorem ks_getfield {ix : Nat} {call : Nat → Nat → kH → Option kH} (C : kCx p s m args meth c z lo) (hd : decode (kmi z).2.1 pc = .ok (.getfield ix, npc - pc)) (hnp : npc = pc + 3) (hch : ∀ f j, aux = [f, j] → f < 12 ∧ j < (jcl f).2.2 ∧ ((jcl f).2.1 j).1 = (jcl f).1 ∧ Cond.fieldLink (kmi z).1.cls ix (jcl f).1 ((jcl f).2.1 j).2.1 ((jcl f).2.1 j).2.2.1 ∈ jTBL) (hint : ∀ f j, aux = [f, j] → ∃ q, (jfds.getD f [])[j]? = some q ∧ q.1 ≠ 1) (hk : kstep (.getfield ix) npc aux L st h call k = some hE) (hL : kokL h.length L) (hs : kokL h.length st) (hh : kokH h) (h0h : kLe h0 h) (hn : L.length = (kmi z).2.2) (hF : kKF p l e s m args below meth c d D lo h0 hE as0 z k) : kLe h hE ∧ kG p l e s m args below meth c d D lo h0 hE as0 pc L st h := by
  obtain ⟨hx, hb, hml, hown, hts, hr, hlk, hini, hlo, hEV⟩ := C
  subst hnp
  rw [Nat.add_sub_cancel_left] at hd
  dsimp only [kstep] at hk
  split at hk
  · rename_i f j a tt
    have ha : a < h.length := hs (.inr (some a)) List.mem_cons_self
    have hs2 : kokL h.length tt := fun w hw => hs w (List.mem_cons_of_mem _ hw)
    obtain ⟨f12, j1, j2, j3⟩ := hch f j rfl
    obtain ⟨w, w1, w2⟩ := hint f j rfl
    split at hk
    · rename_i g fs hg
      cases hb9 : Nat.beq g f with
      | false => rw [hb9] at hk; cases hk
      | true =>
      rw [hb9] at hk
      simp only [cond_true] at hk
      have egf : g = f := Nat.eq_of_beq_eq_true hb9
      rw [egf] at hg
      split at hk
      · rename_i v hv
        have hokc := hh _ (List.mem_of_getElem? hg)
        have hvok : kokV h.length v := hokc.1 v (List.mem_of_getElem? hv)
        obtain ⟨g1, g2⟩ := hF _ _ _ _ hk hL (fun u hu => by
          rcases List.mem_cons.mp hu with e9 | e9
          · rw [e9]; exact hvok
          · exact hs2 u e9) hh h0h hn
        refine ⟨g1, fun as cs tys H locs ls cells slots hK hR hS hl he hc1 hc2 => ?_⟩
        have hat : (kws as cs h)[a]? = some (kad as a, .inr (f, kvals as (jfds.getD f []) fs)) := by
          rw [kws_get, hg]
          rfl
        have hval : (kvals as (jfds.getD f []) fs)[j]? = some (kval as 0 v) := by
          rw [kvals_get as _ _ j w v w1 hv]
          have e7 : kval as w.1 v = kval as 0 v := by
            match v with
            | .inr o => rfl
            | .inl x =>
              unfold kval
              have e6 : Nat.beq w.1 1 = false := by
                cases e5 : Nat.beq w.1 1 with
                | false => rfl
                | true => exact absurd (Nat.eq_of_beq_eq_true e5) w2
              dsimp only
              rw [e6]
              rfl
          rw [e7]
        exact va_get hx hb hts (jin_all f12) hown hK hR.2.2.1 a hat (jcl_get f12) j j1 (hts _ j3) (fun x9 z9 => by rw [j2] at z9; exact z9) hval hd (g2 as cs tys H locs ls cells slots hK hR hS hl he hc1 hc2)
      · cases hk
    · cases hk
  · cases hk
theorem ks_return {call : Nat → Nat → kH → Option kH} (C : kCx p s m args meth c z lo) (hd : decode (kmi z).2.1 pc = .ok (.return_, npc - pc)) (hnp : npc = pc + 1) (hk : kstep (.return_) npc aux L st h call k = some hE) (hL : kokL h.length L) (hs : kokL h.length st) (hh : kokH h) (h0h : kLe h0 h) (hn : L.length = (kmi z).2.2) (hF : kKF p l e s m args below meth c d D lo h0 hE as0 z k) : kLe h hE ∧ kG p l e s m args below meth c d D lo h0 hE as0 pc L st h := by
  obtain ⟨hx, hb, hml, hown, hts, hr, hlk, hini, hlo, hEV⟩ := C
  subst hnp
  rw [Nat.add_sub_cancel_left] at hd
  dsimp only [kstep] at hk
  split at hk
  · have e9 : hE = h := (Option.some.inj hk).symm
    rw [e9]
    refine ⟨kLe_rf _, fun as cs tys H locs ls cells slots hK hR hS hl he hc1 hc2 => ?_⟩
    have a1 := h0h.1
    have a2 := h0h.2
    refine W.widen (k := h.length - h0.length) (n := kslots h - kslots h0) (by omega) (by omega) ?_
    exact W.vret hx hb hr (fun t ht hW => ⟨rfl, ⟨as, cs, tys, he, va_K.moved hW.alike hK, by rw [ht]; exact hR⟩, hS.F ht⟩) (fun q hq => hS.2.2 q hq) hd hlk
  · cases hk
theorem ks_putfield {ix : Nat} {call : Nat → Nat → kH → Option kH} (C : kCx p s m args meth c z lo) (hd : decode (kmi z).2.1 pc = .ok (.putfield ix, npc - pc)) (hnp : npc = pc + 3) (hch : ∀ f j, aux = [f, j] → f < 12 ∧ j < (jcl f).2.2 ∧ ((jcl f).2.1 j).1 = (jcl f).1 ∧ (jcl f).1 = (kmi z).1.cls ∧ Cond.fieldLink (kmi z).1.cls ix (jcl f).1 ((jcl f).2.1 j).2.1 ((jcl f).2.1 j).2.2.1 ∈ jTBL) (hpu : ∀ f j, aux = [f, j] → kputy f j = true) (hk : kstep (.putfield ix) npc aux L st h call k = some hE) (hL : kokL h.length L) (hs : kokL h.length st) (hh : kokH h) (h0h : kLe h0 h) (hn : L.length = (kmi z).2.2) (hF : kKF p l e s m args below meth c d D lo h0 hE as0 z k) : kLe h hE ∧ kG p l e s m args below meth c d D lo h0 hE as0 pc L st h := by
  obtain ⟨hx, hb, hml, hown, hts, hr, hlk, hini, hlo, hEV⟩ := C
  subst hnp
  rw [Nat.add_sub_cancel_left] at hd
  dsimp only [kstep] at hk
  split at hk
  · rename_i f j v a tt
    have ha : a < h.length := hs (.inr (some a)) (List.mem_cons_of_mem _ List.mem_cons_self)
    have hv : kokV h.length v := hs v List.mem_cons_self
    have hs2 : kokL h.length tt := fun w hw => hs w (List.mem_cons_of_mem _ (List.mem_cons_of_mem _ hw))
    obtain ⟨f12, j1, j2, j3, j4⟩ := hch f j rfl
    have hput := hpu f j rfl
    split at hk
    · rename_i g fs hg
      cases hb9 : (Nat.beq g f && Nat.blt j fs.length && kfit f j v) with
      | false => rw [hb9] at hk; cases hk
      | true =>
      rw [hb9] at hk
      simp only [cond_true] at hk
      have hb8 := Bool.and_eq_true_iff.mp hb9
      have hb7 := Bool.and_eq_true_iff.mp hb8.1
      have egf : g = f := Nat.eq_of_beq_eq_true hb7.1
      have hjl : j < fs.length := Nat.le_of_ble_eq_true hb7.2
      rw [egf] at hg hk
      have hokc := hh _ (List.mem_of_getElem? hg)
      have hsz : (h.set a (.inl (f, fs.set j v))).length = h.length := List.length_set
      have hhn : kokH (h.set a (.inl (f, fs.set j v))) := fun x hx9 => by
        rw [hsz]
        rcases List.mem_or_eq_of_mem_set hx9 with e9 | e9
        · exact hh x e9
        · rw [e9]
          refine ⟨fun w hw => ?_, hokc.2.1, by rw [List.length_set]; exact hokc.2.2⟩
          rcases List.mem_or_eq_of_mem_set hw with e8 | e8
          · exact hokc.1 w e8
          · rw [e8]; exact hv
      have hks : ksz (.inl (f, fs.set j v)) = ksz (.inl (f, fs)) := by
        show (fs.set j v).length = fs.length
        exact List.length_set
      have hle : kLe h (h.set a (.inl (f, fs.set j v))) := kLe_set hg hks
      obtain ⟨g1, g2⟩ := hF _ _ _ _ hk (by rw [hsz]; exact hL) (by rw [hsz]; exact hs2) hhn (kLe_tr h0h hle) hn
      refine ⟨kLe_tr hle g1, fun as cs tys H locs ls cells slots hK hR hS hl he hc1 hc2 => ?_⟩
      have hat : (kws as cs h)[a]? = some (kad as a, .inr (f, kvals as (jfds.getD f []) fs)) := by
        rw [kws_get, hg]
        rfl
      have hjf : j < (jfds.getD f []).length := by
        have e8 : fs.length = (jfds.getD f []).length := hokc.2.2
        omega
      have w1 : (jfds.getD f [])[j]? = some ((jfds.getD f [])[j]'hjf) := List.getElem?_eq_getElem _
      obtain ⟨k1, ty, k2, k3⟩ := kputy_spec w1 hb8.2 hput
      have hset : (kws as cs h).set a (kad as a, .inr (f, (kvals as (jfds.getD f []) fs).set j (kval as 0 v))) = kws as cs (h.set a (.inl (f, fs.set j v))) := by
        rw [← kws_set ha]
        show _ = (kws as cs h).set a (kad as a, .inr (f, kvals as (jfds.getD f []) (fs.set j v)))
        rw [kvals_set as _ _ j _ v w1, k1 as]
      have hlen : j < (kvals as (jfds.getD f []) fs).length := by
        rw [kvals_len as _ _ hokc.2.2]
        exact hjf
      obtain ⟨ty0, hty, hnm⟩ := jty_all f12
      have kk : ∀ (H1 : Heap) (locs1 : List Loc), va_P D vwCl ((kws as cs h).set a (kad as a, .inr (f, (kvals as (jfds.getD f []) fs).set j (kval as 0 v)))) H1 → va_D (fun q => lo ≤ q) ((kws as cs h).set a (kad as a, .inr (f, (kvals as (jfds.getD f []) fs).set j (kval as 0 v)))) → va_S (fun q => lo ≤ q) s.heap H1 locs1 → W p l e (kroom (d + 1) (hE.length - h0.length) (kslots hE - kslots h0)) s m args below meth c H1 locs1 cells slots (MQ below (kQ D lo h0 hE as0) args s (hE.length - h0.length) (kslots hE - kslots h0) (fun q => lo ≤ q)) (F0 m (pc + 3) ls (tt.map (kval as 0))) := fun H1 locs1 hP1 hD1 hS1 => by
        rw [hset] at hP1 hD1
        exact g2 as cs tys H1 locs1 ls cells slots hK (kRep_set hR hg (fun t9 n9 rs9 e9 => by cases e9) hP1 hD1) hS1 hl he (by rw [hsz]; exact hc1) (by rw [kslots_set h a _ _ hg hks]; exact hc2)
      cases hfin : ((jcl f).2.1 j).2.2.2 with
      | true => exact va_putF (v := kval as 0 v) hx hb hts (jin_all f12) ty0 hty hnm hown hK hR.2.2.1 hR.2.2.2.1 hS a hat (jcl_get f12) j j1 (hts _ j4) (fun x9 z9 => by rw [j2] at z9; exact z9) hfin hini (j2.trans j3) k2 (k3 as).1 (k3 as).2 hlen hd kk
      | false => exact va_put (v := kval as 0 v) hx hb hts (jin_all f12) ty0 hty hnm hown hK hR.2.2.1 hR.2.2.2.1 hS a hat (jcl_get f12) j j1 (hts _ j4) (fun x9 z9 => by rw [j2] at z9; exact z9) hfin k2 (k3 as).1 (k3 as).2 hlen hd kk
    · cases hk
  · cases hk
theorem ks_aastore {call : Nat → Nat → kH → Option kH} (C : kCx p s m args meth c z lo) (hd : decode (kmi z).2.1 pc = .ok (.aastore, npc - pc)) (hnp : npc = pc + 1) (hk : kstep (.aastore) npc aux L st h call k = some hE) (hL : kokL h.length L) (hs : kokL h.length st) (hh : kokH h) (h0h : kLe h0 h) (hn : L.length = (kmi z).2.2) (hF : kKF p l e s m args below meth c d D lo h0 hE as0 z k) : kLe h hE ∧ kG p l e s m args below meth c d D lo h0 hE as0 pc L st h := by
  obtain ⟨hx, hb, hml, hown, hts, hr, hlk, hini, hlo, hEV⟩ := C
  subst hnp
  rw [Nat.add_sub_cancel_left] at hd
  dsimp only [kstep] at hk
  split at hk
  · rename_i v i a tt
    have hv : v < h.length := hs (.inr (some v)) List.mem_cons_self
    have hi : jokI i := hs (.inl i) (List.mem_cons_of_mem _ List.mem_cons_self)
    have ha : a < h.length := hs (.inr (some a)) (List.mem_cons_of_mem _ (List.mem_cons_of_mem _ List.mem_cons_self))
    have hs2 : kokL h.length tt := fun w hw => hs w (List.mem_cons_of_mem _ (List.mem_cons_of_mem _ (List.mem_cons_of_mem _ hw)))
    split at hk
    · rename_i t n rs hg
      by_cases hq : 0 ≤ i ∧ i < (n : Int) ∧ kfitA t rs h[v]? i = true
      rotate_left
      · rw [if_neg hq] at hk; cases hk
      rw [if_pos hq] at hk
      obtain ⟨q1, q2, q3⟩ := hq
      unfold kfitA at q3
      have q4 := Bool.and_eq_true_iff.mp q3
      have q5 := Bool.and_eq_true_iff.mp q4.1
      have q6 := Bool.and_eq_true_iff.mp q5.1
      have t4 : 4 ≤ t := Nat.le_of_ble_eq_true q6.1
      have t6 : t ≤ 6 := Nat.le_of_ble_eq_true q6.2
      have hil : i.toNat < rs.length := Nat.le_of_ble_eq_true q5.2
      have hvo : ∃ o : Nat × List kV, h[v]? = some (.inl o) ∧ o.1 = kacl t := by
        have w := q4.2
        split at w
        · rename_i o ho
          exact ⟨o, ho, Nat.eq_of_beq_eq_true w⟩
        · cases w
      obtain ⟨o, ho, ho2⟩ := hvo
      obtain ⟨a12, hka⟩ := kacl_spec t4 t6
      have hokc := hh _ (List.mem_of_getElem? hg)
      have hsz : (h.set a (.inr (t, n, rs.set i.toNat (some v)))).length = h.length := List.length_set
      have hhn : kokH (h.set a (.inr (t, n, rs.set i.toNat (some v)))) := fun x hx9 => by
        rw [hsz]
        rcases List.mem_or_eq_of_mem_set hx9 with e9 | e9
        · exact hh x e9
        · rw [e9]
          intro b hb9
          rcases List.mem_or_eq_of_mem_set hb9 with e8 | e8
          · exact hokc b e8
          · rw [Option.some.inj e8]; exact hv
      have hks : ksz (.inr (t, n, rs.set i.toNat (some v))) = ksz (.inr (t, n, rs)) := rfl
      have hle : kLe h (h.set a (.inr (t, n, rs.set i.toNat (some v)))) := kLe_set hg hks
      obtain ⟨g1, g2⟩ := hF _ _ _ _ hk (by rw [hsz]; exact hL) (by rw [hsz]; exact hs2) hhn (kLe_tr h0h hle) hn
      refine ⟨kLe_tr hle g1, fun as cs tys H locs ls cells slots hK hR hS hl he hc1 hc2 => ?_⟩
      obtain ⟨x9, hx9⟩ := hR.2.2.2.2 a t n rs hg
      rw [hka] at hx9
      have hat : (kws as cs h)[a]? = some (kad as a, .inl (cs.getD a 0, n, .inr (.inr (.inr (.inr (fun j => (rs.getD j none).map (kad as))))))) := by
        rw [kws_get, hg]
        show some (kad as a, krow as (cs.getD a 0) t n rs) = _
        rw [krow_4 t4]
      have hatv : (kws as cs h)[v]? = some (kad as v, .inr (kacl t, kvals as (jfds.getD o.1 []) o.2)) := by
        rw [kws_get, ho, ← ho2]
        rfl
      have hcl : (Int32.ofInt i).toNatClampNeg = i.toNat := by
        have := j_cl q1 hi
        omega
      have hset : (kws as cs h).set a (kad as a, .inl (cs.getD a 0, n, .inr (.inr (.inr (.inr (va_up (fun j => (rs.getD j none).map (kad as)) (Int32.ofInt i).toNatClampNeg (some (kad as v)))))))) = kws as cs (h.set a (.inr (t, n, rs.set i.toNat (some v)))) := by
        rw [← kws_set ha, hcl]
        show _ = (kws as cs h).set a (kad as a, krow as (cs.getD a 0) t n (rs.set i.toNat (some v)))
        rw [krow_up t4 hil]
      refine va_astq (r := jcl (kacl t)) hx hb hK hR.2.2.1 hR.2.2.2.1 hS a x9 v (kacl t) hat hx9 hatv (jcl_get a12) (j_in q1 q2 hi) hd (fun H1 locs1 hP1 hD1 hS1 => ?_)
      rw [hset] at hP1 hD1
      exact g2 as cs tys H1 locs1 ls cells slots hK (kRep_set hR hg (fun t9 n9 rs9 e9 => by cases e9; exact ⟨n, rs, rfl⟩) hP1 hD1) hS1 hl he (by rw [hsz]; exact hc1) (by rw [kslots_set h a _ _ hg hks]; exact hc2)
    · cases hk
  · cases hk
end KHEAP2
