/-! Constructors: the simulation of what is made and written -/
def kbl : kV → Bool
  | .inl 0 => true
  | .inr none => true
  | _ => false
theorem kbl_ok {v : kV} (h : kbl v = true) (n : Nat) : kokV n v := by
  match v, h with
  | .inr none, _ => trivial
  | .inl 0, _ => exact ⟨by omega, by omega⟩
theorem kblank_ok {c : Nat} (hc : c < 12) (n : Nat) : kokC n (.inl (c, kblank.getD c [])) := by
  have h1 : ∀ c, c < 12 → (kblank.getD c []).all kbl = true := by decide +kernel
  have h2 : ∀ c, c < 12 → (kblank.getD c []).length = (jfds.getD c []).length := by decide +kernel
  exact ⟨fun v hv => kbl_ok (List.all_eq_true.mp (h1 c hc) v hv) n, hc, h2 c hc⟩
theorem kblank_len {c : Nat} (hc : c < 12) : (kblank.getD c []).length = (jcl c).2.2 := by
  have h : ∀ c, c < 12 → (kblank.getD c []).length = (jcl c).2.2 := by decide +kernel
  exact h c hc
theorem kblank_as {c : Nat} (hc : c < 12) (as : List Nat) : kvals as (jfds.getD c []) (kblank.getD c []) = kvals [] (jfds.getD c []) (kblank.getD c []) :=
  kvals_ext (n := 0) (fun a h => by omega) _ _ (kblank_ok hc 0).1
theorem kdef0 : ∀ j, j < (jcl 0).2.2 → defaultValue (tyX0 j) = vp_V (kvals [] (jfds.getD 0 []) (kblank.getD 0 [])) j := by decide +kernel
theorem kdef1 : ∀ j, j < (jcl 1).2.2 → defaultValue (tyX1 j) = vp_V (kvals [] (jfds.getD 1 []) (kblank.getD 1 [])) j := by decide +kernel
theorem kdef2 : ∀ j, j < (jcl 2).2.2 → defaultValue (tyX2 j) = vp_V (kvals [] (jfds.getD 2 []) (kblank.getD 2 [])) j := by decide +kernel
theorem kdef3 : ∀ j, j < (jcl 3).2.2 → defaultValue (tyX4 j) = vp_V (kvals [] (jfds.getD 3 []) (kblank.getD 3 [])) j := by decide +kernel
theorem kdef4 : ∀ j, j < (jcl 4).2.2 → defaultValue (tyX5 j) = vp_V (kvals [] (jfds.getD 4 []) (kblank.getD 4 [])) j := by decide +kernel
theorem kdef5 : ∀ j, j < (jcl 5).2.2 → defaultValue (tyX6 j) = vp_V (kvals [] (jfds.getD 5 []) (kblank.getD 5 [])) j := by decide +kernel
theorem kdef6 : ∀ j, j < (jcl 6).2.2 → defaultValue (tyX7 j) = vp_V (kvals [] (jfds.getD 6 []) (kblank.getD 6 [])) j := by decide +kernel
theorem kdef7 : ∀ j, j < (jcl 7).2.2 → defaultValue (tyX8 j) = vp_V (kvals [] (jfds.getD 7 []) (kblank.getD 7 [])) j := by decide +kernel
theorem kdef8 : ∀ j, j < (jcl 8).2.2 → defaultValue (tyX9 j) = vp_V (kvals [] (jfds.getD 8 []) (kblank.getD 8 [])) j := by decide +kernel
theorem kdef9 : ∀ j, j < (jcl 9).2.2 → defaultValue (tyX10 j) = vp_V (kvals [] (jfds.getD 9 []) (kblank.getD 9 [])) j := by decide +kernel
theorem kdef10 : ∀ j, j < (jcl 10).2.2 → defaultValue (tyX11 j) = vp_V (kvals [] (jfds.getD 10 []) (kblank.getD 10 [])) j := by decide +kernel
theorem kdef11 : ∀ j, j < (jcl 11).2.2 → defaultValue (tyX12 j) = vp_V (kvals [] (jfds.getD 11 []) (kblank.getD 11 [])) j := by decide +kernel
theorem kdef_all {c : Nat} (hc : c < 12) : ∃ ty0 : Nat → FieldType, (∀ k, k < (jcl c).2.2 → parseFieldDescriptor ((jcl c).2.1 k).2.2.1 = some (ty0 k)) ∧ ∀ j, j < (jcl c).2.2 → defaultValue (ty0 j) = vp_V (kvals [] (jfds.getD c []) (kblank.getD c [])) j := by
  match c, hc with
  | 0, _ => exact ⟨tyX0, tyX0_ok, kdef0⟩
  | 1, _ => exact ⟨tyX1, tyX1_ok, kdef1⟩
  | 2, _ => exact ⟨tyX2, tyX2_ok, kdef2⟩
  | 3, _ => exact ⟨tyX4, tyX4_ok, kdef3⟩
  | 4, _ => exact ⟨tyX5, tyX5_ok, kdef4⟩
  | 5, _ => exact ⟨tyX6, tyX6_ok, kdef5⟩
  | 6, _ => exact ⟨tyX7, tyX7_ok, kdef6⟩
  | 7, _ => exact ⟨tyX8, tyX8_ok, kdef7⟩
  | 8, _ => exact ⟨tyX9, tyX9_ok, kdef8⟩
  | 9, _ => exact ⟨tyX10, tyX10_ok, kdef9⟩
  | 10, _ => exact ⟨tyX11, tyX11_ok, kdef10⟩
  | 11, _ => exact ⟨tyX12, tyX12_ok, kdef11⟩
theorem kinst {c : Nat} (hc : c < 12) : Cond.instantiable (jcl c).1 (jcl c).2.2 ∈ jTBL ∧ Cond.initialized (jcl c).1 ∈ jTBL := by
  have h := kinst_ok
  match c, hc with
  | 0, _ =>
    have w := List.all_eq_true.mp h _ (List.mem_of_getElem? (i := 0) rfl)
    have w2 := Bool.and_eq_true_iff.mp w
    exact ⟨jT_of (List.mem_of_getElem? (of_decide_eq_true w2.1)) rfl, jT_of (List.mem_of_getElem? (of_decide_eq_true w2.2)) rfl⟩
  | 1, _ =>
    have w := List.all_eq_true.mp h _ (List.mem_of_getElem? (i := 1) rfl)
    have w2 := Bool.and_eq_true_iff.mp w
    exact ⟨jT_of (List.mem_of_getElem? (of_decide_eq_true w2.1)) rfl, jT_of (List.mem_of_getElem? (of_decide_eq_true w2.2)) rfl⟩
  | 2, _ =>
    have w := List.all_eq_true.mp h _ (List.mem_of_getElem? (i := 2) rfl)
    have w2 := Bool.and_eq_true_iff.mp w
    exact ⟨jT_of (List.mem_of_getElem? (of_decide_eq_true w2.1)) rfl, jT_of (List.mem_of_getElem? (of_decide_eq_true w2.2)) rfl⟩
  | 3, _ =>
    have w := List.all_eq_true.mp h _ (List.mem_of_getElem? (i := 3) rfl)
    have w2 := Bool.and_eq_true_iff.mp w
    exact ⟨jT_of (List.mem_of_getElem? (of_decide_eq_true w2.1)) rfl, jT_of (List.mem_of_getElem? (of_decide_eq_true w2.2)) rfl⟩
  | 4, _ =>
    have w := List.all_eq_true.mp h _ (List.mem_of_getElem? (i := 4) rfl)
    have w2 := Bool.and_eq_true_iff.mp w
    exact ⟨jT_of (List.mem_of_getElem? (of_decide_eq_true w2.1)) rfl, jT_of (List.mem_of_getElem? (of_decide_eq_true w2.2)) rfl⟩
  | 5, _ =>
    have w := List.all_eq_true.mp h _ (List.mem_of_getElem? (i := 5) rfl)
    have w2 := Bool.and_eq_true_iff.mp w
    exact ⟨jT_of (List.mem_of_getElem? (of_decide_eq_true w2.1)) rfl, jT_of (List.mem_of_getElem? (of_decide_eq_true w2.2)) rfl⟩
  | 6, _ =>
    have w := List.all_eq_true.mp h _ (List.mem_of_getElem? (i := 6) rfl)
    have w2 := Bool.and_eq_true_iff.mp w
    exact ⟨jT_of (List.mem_of_getElem? (of_decide_eq_true w2.1)) rfl, jT_of (List.mem_of_getElem? (of_decide_eq_true w2.2)) rfl⟩
  | 7, _ =>
    have w := List.all_eq_true.mp h _ (List.mem_of_getElem? (i := 7) rfl)
    have w2 := Bool.and_eq_true_iff.mp w
    exact ⟨jT_of (List.mem_of_getElem? (of_decide_eq_true w2.1)) rfl, jT_of (List.mem_of_getElem? (of_decide_eq_true w2.2)) rfl⟩
  | 8, _ =>
    have w := List.all_eq_true.mp h _ (List.mem_of_getElem? (i := 8) rfl)
    have w2 := Bool.and_eq_true_iff.mp w
    exact ⟨jT_of (List.mem_of_getElem? (of_decide_eq_true w2.1)) rfl, jT_of (List.mem_of_getElem? (of_decide_eq_true w2.2)) rfl⟩
  | 9, _ =>
    have w := List.all_eq_true.mp h _ (List.mem_of_getElem? (i := 9) rfl)
    have w2 := Bool.and_eq_true_iff.mp w
    exact ⟨jT_of (List.mem_of_getElem? (of_decide_eq_true w2.1)) rfl, jT_of (List.mem_of_getElem? (of_decide_eq_true w2.2)) rfl⟩
  | 10, _ =>
    have w := List.all_eq_true.mp h _ (List.mem_of_getElem? (i := 10) rfl)
    have w2 := Bool.and_eq_true_iff.mp w
    exact ⟨jT_of (List.mem_of_getElem? (of_decide_eq_true w2.1)) rfl, jT_of (List.mem_of_getElem? (of_decide_eq_true w2.2)) rfl⟩
  | 11, _ =>
    have w := List.all_eq_true.mp h _ (List.mem_of_getElem? (i := 11) rfl)
    have w2 := Bool.and_eq_true_iff.mp w
    exact ⟨jT_of (List.mem_of_getElem? (of_decide_eq_true w2.1)) rfl, jT_of (List.mem_of_getElem? (of_decide_eq_true w2.2)) rfl⟩
theorem kpos_in {z pc : Nat} {w : Cond} (h : kpos z pc = some w) (hg : goodWord w = true) : w ∈ jTBL := by
  unfold kpos at h
  split at h
  · exact jT_of (List.mem_of_getElem? h) hg
  · cases h
theorem kokH_push {h : kH} {c : kC} (hh : kokH h) (hc : kokC (h ++ [c]).length c) : kokH (h ++ [c]) := fun x hx => by
  rcases List.mem_append.mp hx with e9 | e9
  · exact kokC_le (by simp) (hh x e9)
  · rw [List.mem_singleton.mp e9]; exact hc
theorem kokL_le {n m : Nat} (hnm : n ≤ m) {L : List kV} (h : kokL n L) : kokL m L := fun v hv => kokV_le hnm (h v hv)
theorem kExt_app {as0 as : List Nat} {q n : Nat} (h : kExt as0 as n) (hn : n ≤ as.length) : kExt as0 (as ++ [q]) n := fun a ha => by
  rw [kad_app (by omega)]
  exact h a ha
section KHEAP
variable {p : Program} {l : Launch} {e : Env} {s : State} {m : MethodId} {args : Array Value} {below : List Frame} {meth : Method} {c : Code} {d : Nat} {D : va_G} {lo : Nat} {h0 hE : kH} {as0 : List Nat} {z : Nat}
variable {pc npc : Nat} {aux : List Nat} {L st : List kV} {h : kH} {k : Nat → List kV → List kV → kH → Option kH}
theorem ks_new {ix : Nat} {call : Nat → Nat → kH → Option kH} (C : kCx p s m args meth c z lo) (hd : decode (kmi z).2.1 pc = .ok (.new ix, npc - pc)) (hnp : npc = pc + 3) (hch : ∀ t, aux = [t] → t < 12 ∧ Cond.classLink (kmi z).1.cls ix (jcl t).1 ∈ jTBL) (hk : kstep (.new ix) npc aux L st h call k = some hE) (hL : kokL h.length L) (hs : kokL h.length st) (hh : kokH h) (h0h : kLe h0 h) (hn : L.length = (kmi z).2.2) (hF : kKF p l e s m args below meth c d D lo h0 hE as0 z k) : kLe h hE ∧ kG p l e s m args below meth c d D lo h0 hE as0 pc L st h := by
  obtain ⟨hx, hb, hml, hown, hts, hr, hlk, hini, hlo, hEV⟩ := C
  subst hnp
  rw [Nat.add_sub_cancel_left] at hd
  dsimp only [kstep] at hk
  split at hk
  · rename_i t
    obtain ⟨t12, tlk⟩ := hch t rfl
    have hlen : (h ++ [(.inl (t, kblank.getD t []) : kC)]).length = h.length + 1 := by simp
    obtain ⟨g1, g2⟩ := hF _ _ _ _ hk (by rw [hlen]; exact kokL_le (Nat.le_succ _) hL) (by
      rw [hlen]
      intro w hw
      rcases List.mem_cons.mp hw with e9 | e9
      · rw [e9]; exact Nat.lt_succ_self _
      · exact kokV_le (Nat.le_succ _) (hs w e9)) (kokH_push hh (kblank_ok t12 _)) (kLe_tr h0h (kLe_app _ _)) hn
    refine ⟨kLe_tr (kLe_app _ _) g1, fun as cs tys H locs ls cells slots hK hR hS hl he hc1 hc2 => ?_⟩
    obtain ⟨r1, r2, r3, r4, r5⟩ := hR
    obtain ⟨ty0, hty, hdf⟩ := kdef_all t12
    have b1 := g1.1
    have b2 := g1.2
    rw [hlen] at b1
    rw [kslots_app] at b2
    have hsz : kslots [(.inl (t, kblank.getD t []) : kC)] = (jcl t).2.2 := by
      show (kblank.getD t []).length + 0 = _
      rw [kblank_len t12]
      omega
    rw [hsz] at b2
    have a1 := h0h.1
    have a2 := h0h.2
    refine va_new (ci := t) (C := (jcl t).1) (T := (jcl t).2.1) (N := (jcl t).2.2) (fs := kvals [] (jfds.getD t []) (kblank.getD t [])) hx hb hts (jin_all t12) ty0 hty hown (hts _ tlk) (hts _ (kinst t12).1) (hts _ (kinst t12).2) hK r3 r4 hS (fun q hq => Nat.le_trans hlo hq) (jcl_get t12) hdf (by show cells + 1 ≤ hE.length - h0.length; omega) (by show slots + (jcl t).2.2 ≤ kslots hE - kslots h0; omega) hd (fun q H1 hP1 hD1 hS1 => ?_)
    have hpush := kws_push (q := q) (cA := 0) (c := .inl (t, kblank.getD t [])) r1 r2 hh (kblank_ok t12 _)
    have hcell : kcell as [0] 0 (.inl (t, kblank.getD t [])) = .inr (t, kvals [] (jfds.getD t []) (kblank.getD t [])) := by
      unfold kcell
      dsimp only
      rw [kblank_as t12]
    rw [hcell] at hpush
    rw [← hpush] at hP1 hD1
    have hrep : kRep D lo (h ++ [.inl (t, kblank.getD t [])]) (as ++ [q]) (cs ++ [0]) tys H1 := by
      refine ⟨by simp; exact r1, by simp; exact r2, hP1, hD1, fun k9 t9 n9 rs9 hk9 => ?_⟩
      by_cases hlt : k9 < h.length
      · rw [List.getElem?_append_left hlt] at hk9
        obtain ⟨x9, hx9⟩ := r5 k9 t9 n9 rs9 hk9
        refine ⟨x9, ?_⟩
        rw [List.getD_eq_getElem?_getD, List.getElem?_append_left (by omega), ← List.getD_eq_getElem?_getD]
        exact hx9
      · rw [List.getElem?_append_right (by omega)] at hk9
        have hz9 : k9 - h.length = 0 := by
          have := (List.getElem?_eq_some_iff.mp hk9).1
          simp at this
          omega
        rw [hz9] at hk9
        cases hk9
    have hext : kExt as (as ++ [q]) h.length := fun a ha => kad_app (by omega)
    have w := g2 (as ++ [q]) (cs ++ [0]) tys H1 locs ls (cells + 1) (slots + (jcl t).2.2) hK hrep hS1 (kL_ext hext hL hl) (kExt_app he (by omega)) (by rw [hlen]; omega) (by rw [kslots_app, hsz]; omega)
    rw [List.map_cons, kst_ext hext st hs] at w
    have e9 : kval (as ++ [q]) 0 (.inr (some h.length)) = .ref q := by
      show va_rf (some (kad (as ++ [q]) h.length)) = .ref q
      rw [← r1, kad_last]
      rfl
    rw [e9] at w
    exact w
  · cases hk
theorem kmade {as : List Nat} {cs : List ClassId} {tys tys' : List (ClassId × FieldType)} {x : kC} {q : Nat} {cA : ClassId} {H H1 : Heap} (hR : kRep D lo h as cs tys H) (hh : kokH h) (hx : kokC h.length x) (hP1 : va_P D vwCl (kws as cs h ++ [(q, kcell as [cA] 0 x)]) H1) (hD1 : va_D (fun q => lo ≤ q) (kws as cs h ++ [(q, kcell as [cA] 0 x)])) (ht : ∀ (i : Nat) (y : ClassId × FieldType), tys[i]? = some y → tys'[i]? = some y) (hn : ∀ t n rs, x = .inr (t, n, rs) → ∃ i : Nat, tys'[i]? = some (cA, karr t)) : kRep D lo (h ++ [x]) (as ++ [q]) (cs ++ [cA]) tys' H1 := by
  obtain ⟨r1, r2, r3, r4, r5⟩ := hR
  have hpush := kws_push (q := q) (cA := cA) (c := x) r1 r2 hh hx
  rw [← hpush] at hP1 hD1
  refine ⟨by simp; exact r1, by simp; exact r2, hP1, hD1, fun k9 t9 n9 rs9 hk9 => ?_⟩
  by_cases hlt : k9 < h.length
  · rw [List.getElem?_append_left hlt] at hk9
    obtain ⟨x9, hx9⟩ := r5 k9 t9 n9 rs9 hk9
    refine ⟨x9, ht _ _ ?_⟩
    rw [List.getD_eq_getElem?_getD, List.getElem?_append_left (by omega), ← List.getD_eq_getElem?_getD]
    exact hx9
  · rw [List.getElem?_append_right (by omega)] at hk9
    have hz9 : k9 - h.length = 0 := by
      have := (List.getElem?_eq_some_iff.mp hk9).1
      simp at this
      omega
    rw [hz9] at hk9
    have e9 : x = .inr (t9, n9, rs9) := Option.some.inj hk9
    obtain ⟨i, hi⟩ := hn _ _ _ e9
    refine ⟨i, ?_⟩
    have e8 : (cs ++ [cA]).getD k9 0 = cA := by
      rw [List.getD_eq_getElem?_getD, List.getElem?_append_right (by omega), show k9 - cs.length = 0 by omega]
      rfl
    rw [e8]
    exact hi
def ka0 (t N : Nat) : vp_A := match t with
  | 1 => (N, .inr (.inl fun _ => 0))
  | _ => (N, .inl fun _ => 0)
theorem ka0_cell {t N : Nat} (ht : t < 4) : ∀ cA : ClassId, vp_cell cA (ka0 t N) = arrV cA N (fun _ => defaultValue (karr t)) := by
  match t, ht with
  | 0, _ => exact fun _ => rfl
  | 1, _ => exact fun _ => rfl
  | 2, _ => exact fun _ => rfl
  | 3, _ => exact fun _ => rfl
theorem krow_0 {as : List Nat} {cA : ClassId} {t N : Nat} (ht : t < 4) : krow as cA t N [] = .inl (cA, ka0 t N) := by
  match t, ht with
  | 0, _ => rfl
  | 1, _ => rfl
  | 2, _ => rfl
  | 3, _ => rfl
theorem kbytes {t N : Nat} (ht : t < 4) (hN : N < 100000) : N * componentBytes (karr t) ≤ 536870912 := by
  have h8 : componentBytes (karr t) ≤ 8 := by
    match t, ht with
    | 0, _ => decide
    | 1, _ => decide
    | 2, _ => decide
    | 3, _ => decide
  have := Nat.mul_le_mul_left N h8
  omega
theorem karr_in {t : Nat} (ht : t < 4) : Cond.arrayClass (karr t) ∈ jTBL := by
  have h := karr_ok
  match t, ht with
  | 0, _ => exact jT_of (List.mem_of_getElem? (of_decide_eq_true (List.all_eq_true.mp h _ (List.mem_of_getElem? (i := 0) rfl)))) rfl
  | 1, _ => exact jT_of (List.mem_of_getElem? (of_decide_eq_true (List.all_eq_true.mp h _ (List.mem_of_getElem? (i := 1) rfl)))) rfl
  | 2, _ => exact jT_of (List.mem_of_getElem? (of_decide_eq_true (List.all_eq_true.mp h _ (List.mem_of_getElem? (i := 2) rfl)))) rfl
  | 3, _ => exact jT_of (List.mem_of_getElem? (of_decide_eq_true (List.all_eq_true.mp h _ (List.mem_of_getElem? (i := 3) rfl)))) rfl
theorem ks_newarray {ty : ArrayType} {call : Nat → Nat → kH → Option kH} (C : kCx p s m args meth c z lo) (hd : decode (kmi z).2.1 pc = .ok (.newarray ty, npc - pc)) (hnp : npc = pc + 2) (hch : ∀ t, aux = [t] → t < 4 ∧ newarray.typeOf ty = karr t) (hk : kstep (.newarray ty) npc aux L st h call k = some hE) (hL : kokL h.length L) (hs : kokL h.length st) (hh : kokH h) (h0h : kLe h0 h) (hn : L.length = (kmi z).2.2) (hF : kKF p l e s m args below meth c d D lo h0 hE as0 z k) : kLe h hE ∧ kG p l e s m args below meth c d D lo h0 hE as0 pc L st h := by
  obtain ⟨hx, hb, hml, hown, hts, hr, hlk, hini, hlo, hEV⟩ := C
  subst hnp
  rw [Nat.add_sub_cancel_left] at hd
  dsimp only [kstep] at hk
  split at hk
  · rename_i t n tt
    have hs2 : kokL h.length tt := fun w hw => hs w (List.mem_cons_of_mem _ hw)
    by_cases hq : 0 ≤ n ∧ n < 100000
    rotate_left
    · rw [if_neg hq] at hk; cases hk
    rw [if_pos hq] at hk
    obtain ⟨t4, tty⟩ := hch t rfl
    have hcok : ∀ m9, kokC m9 (.inr (t, n.toNat, [])) := fun m9 a ha => absurd ha List.not_mem_nil
    have hlen : (h ++ [(.inr (t, n.toNat, []) : kC)]).length = h.length + 1 := by simp
    obtain ⟨g1, g2⟩ := hF _ _ _ _ hk (by rw [hlen]; exact kokL_le (Nat.le_succ _) hL) (by
      rw [hlen]
      intro w hw
      rcases List.mem_cons.mp hw with e9 | e9
      · rw [e9]; exact Nat.lt_succ_self _
      · exact kokV_le (Nat.le_succ _) (hs2 w e9)) (kokH_push hh (hcok _)) (kLe_tr h0h (kLe_app _ _)) hn
    refine ⟨kLe_tr (kLe_app _ _) g1, fun as cs tys H locs ls cells slots hK hR hS hl he hc1 hc2 => ?_⟩
    have r1 := hR.1
    have b1 := g1.1
    have b2 := g1.2
    rw [hlen] at b1
    rw [kslots_app] at b2
    have hsz : kslots [(.inr (t, n.toNat, []) : kC)] = n.toNat := rfl
    rw [hsz] at b2
    have a1 := h0h.1
    have a2 := h0h.2
    have rg : jokI n := ⟨by omega, by omega⟩
    have hneg : ¬ Int32.ofInt n < 0 := fun w => by
      have w2 : n < 0 := (j_lt rg jok0).mp w
      omega
    have hcl : (Int32.ofInt n).toNatClampNeg = n.toNat := by
      have := j_cl hq.1 rg
      omega
    refine va_newa (atype := ty) (ty := karr t) (a0 := ka0 t n.toNat) (N' := n.toNat) hx hb (by rw [tty]; exact hts _ (karr_in t4)) tty hK hR.2.2.1 hR.2.2.2.1 hS (fun q hq9 => Nat.le_trans hlo hq9) (ka0_cell t4) hneg hcl (kbytes t4 (by omega)) (by show cells + 1 ≤ hE.length - h0.length; omega) (by show slots + n.toNat ≤ kslots hE - kslots h0; omega) hd (fun q cA H1 hK1 hP1 hD1 hS1 => ?_)
    rw [← krow_0 (as := as) t4] at hP1 hD1
    have hrep := kmade (tys' := tys ++ [(cA, karr t)]) (x := .inr (t, n.toNat, [])) (q := q) (cA := cA) hR hh (hcok _) hP1 hD1 (fun i y hi => by rw [List.getElem?_append_left (List.getElem?_eq_some_iff.mp hi).1]; exact hi) (fun t9 n9 rs9 e9 => by
      cases e9
      exact ⟨tys.length, by rw [List.getElem?_append_right (Nat.le_refl _), Nat.sub_self]; rfl⟩)
    have hext : kExt as (as ++ [q]) h.length := fun a ha => kad_app (by omega)
    have w := g2 (as ++ [q]) (cs ++ [cA]) (tys ++ [(cA, karr t)]) H1 locs ls (cells + 1) (slots + n.toNat) hK1 hrep hS1 (kL_ext hext hL hl) (kExt_app he (by omega)) (by rw [hlen]; omega) (by rw [kslots_app, hsz]; omega)
    rw [List.map_cons, kst_ext hext tt hs2] at w
    have e9 : kval (as ++ [q]) 0 (.inr (some h.length)) = .ref q := by
      show va_rf (some (kad (as ++ [q]) h.length)) = .ref q
      rw [← r1, kad_last]
      rfl
    rw [e9] at w
    exact w
  · cases hk
end KHEAP
