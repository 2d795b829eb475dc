/-! The simulation: fields and rows -/
theorem jcell_obj {ad : Nat → Int → Nat} {cA : Nat → ClassId} {mem : jMem} {f : Nat} {i : Int} (h : f < 12) : jcell ad cA mem f i = .inr (f, jfvs ad mem f i 0 (jfds.getD f [])) := by
  unfold jcell
  rw [show Nat.blt f 12 = true from Nat.ble_eq_true_of_le h]
  rfl
theorem jcell_arr {ad : Nat → Int → Nat} {cA : Nat → ClassId} {mem : jMem} {f : Nat} {i : Int} {a : Nat × Nat × Nat × Nat} (h : 12 ≤ f) (ha : jarrs[f - 12]? = some a) : jcell ad cA mem f i = jarc ad cA mem f i a := by
  unfold jcell
  have e : Nat.blt f 12 = false := by
    cases hb : Nat.blt f 12 with
    | false => rfl
    | true => have := Nat.le_of_ble_eq_true hb; omega
  rw [e]
  show jarc ad cA mem f i (jarrs.getD (f - 12) (0, 0, 0, 0)) = _
  rw [List.getD_eq_getElem?_getD, ha]
  rfl
theorem jfv_congr {ad : Nat → Int → Nat} {mem mem' : jMem} {f : Nat} {i : Int} (h1 : jrI mem f i = jrI mem' f i) (h2 : jrJ mem f i = jrJ mem' f i) (h3 : jrS mem f i = jrS mem' f i) (k : Nat) (w : Nat × Nat × Nat) : jfv ad mem f i k w = jfv ad mem' f i k w := by
  unfold jfv
  rw [h1, h2, h3]
theorem jfvs_congr {ad : Nat → Int → Nat} {mem mem' : jMem} {f : Nat} {i : Int} (h1 : jrI mem f i = jrI mem' f i) (h2 : jrJ mem f i = jrJ mem' f i) (h3 : jrS mem f i = jrS mem' f i) : ∀ (l : List (Nat × Nat × Nat)) (n : Nat), jfvs ad mem f i n l = jfvs ad mem' f i n l
  | [], _ => rfl
  | w :: l, n => by rw [jfvs, jfvs, jfv_congr h1 h2 h3, jfvs_congr h1 h2 h3 l]
theorem jcell_congr {ad : Nat → Int → Nat} {cA : Nat → ClassId} {mem mem' : jMem} {f : Nat} {i : Int} (h1 : jrI mem f i = jrI mem' f i) (h2 : jrJ mem f i = jrJ mem' f i) (h3 : jrS mem f i = jrS mem' f i) : jcell ad cA mem f i = jcell ad cA mem' f i := by
  unfold jcell
  rw [jfvs_congr h1 h2 h3]
  unfold jarc
  rw [h1, h2]
theorem jcl_get {f : Nat} (h : f < 12) : vwCl[f]? = some ((jcl f).1, (jcl f).2.1, (jcl f).2.2) := by
  match f, h with
  | 0, _ | 1, _ | 2, _ | 3, _ | 4, _ | 5, _ | 6, _ | 7, _ | 8, _ | 9, _ | 10, _ | 11, _ => rfl
theorem jin_all {f : Nat} (h : f < 12) : ∀ w ∈ u_ws (jcl f).1 (jcl f).2.1 (jcl f).2.2, w ∈ jTBL := by
  have key : ∀ l : List Cond, l.all (fun w => decide (w ∈ lw_tbl) && goodWord w) = true → ∀ w ∈ l, w ∈ jTBL := fun l hl w hw => by
    have z := Bool.and_eq_true_iff.mp (List.all_eq_true.mp hl w hw)
    exact jT_of (of_decide_eq_true z.1) z.2
  match f, h with
  | 0, _ => exact key _ jin0
  | 1, _ => exact key _ jin1
  | 2, _ => exact key _ jin2
  | 3, _ => exact key _ jin3
  | 4, _ => exact key _ jin4
  | 5, _ => exact key _ jin5
  | 6, _ => exact key _ jin6
  | 7, _ => exact key _ jin7
  | 8, _ => exact key _ jin8
  | 9, _ => exact key _ jin9
  | 10, _ => exact key _ jin10
  | 11, _ => exact key _ jin11
theorem jty_all {f : Nat} (h : f < 12) : ∃ ty0 : Nat → FieldType, (∀ k, k < (jcl f).2.2 → parseFieldDescriptor ((jcl f).2.1 k).2.2.1 = some (ty0 k)) ∧ ∀ a, a < (jcl f).2.2 → ∀ b, b < (jcl f).2.2 → a ≠ b → ((jcl f).2.1 a).2.1 ≠ ((jcl f).2.1 b).2.1 := by
  match f, h with
  | 0, _ => exact ⟨tyX0, tyX0_ok, nmX0⟩
  | 1, _ => exact ⟨tyX1, tyX1_ok, nmX1⟩
  | 2, _ => exact ⟨tyX2, tyX2_ok, nmX2⟩
  | 3, _ => exact ⟨tyX4, tyX4_ok, nmX4⟩
  | 4, _ => exact ⟨tyX5, tyX5_ok, nmX5⟩
  | 5, _ => exact ⟨tyX6, tyX6_ok, nmX6⟩
  | 6, _ => exact ⟨tyX7, tyX7_ok, nmX7⟩
  | 7, _ => exact ⟨tyX8, tyX8_ok, nmX8⟩
  | 8, _ => exact ⟨tyX9, tyX9_ok, nmX9⟩
  | 9, _ => exact ⟨tyX10, tyX10_ok, nmX10⟩
  | 10, _ => exact ⟨tyX11, tyX11_ok, nmX11⟩
  | 11, _ => exact ⟨tyX12, tyX12_ok, nmX12⟩
theorem jhF_in {o i f k : Nat} (h : jhF o i f k = true) : Cond.fieldLink (jown.getD o "") i (jcl f).1 ((jcl f).2.1 k).2.1 ((jcl f).2.1 k).2.2.1 ∈ jTBL := by
  obtain ⟨⟨q1, q2, q3, q4, q5⟩, hm, hq⟩ := List.any_eq_true.mp h
  simp only [Bool.and_eq_true] at hq
  obtain ⟨⟨⟨h1, h2⟩, h3⟩, h4⟩ := hq
  cases Nat.eq_of_beq_eq_true h1
  cases Nat.eq_of_beq_eq_true h2
  cases Nat.eq_of_beq_eq_true h3
  cases Nat.eq_of_beq_eq_true h4
  have z := List.all_eq_true.mp jlF_ok _ hm
  exact jT_of (List.mem_of_getElem? (of_decide_eq_true z)) rfl
theorem jchF_spec {o i f k kd f' mp : Nat} (h : jchF o i f k kd f' mp = true) : f < 12 ∧ Cond.fieldLink (jown.getD o "") i (jcl f).1 ((jcl f).2.1 k).2.1 ((jcl f).2.1 k).2.2.1 ∈ jTBL ∧ (jfds.getD f [])[k]? = some (kd, f', mp) ∧ k < (jcl f).2.2 ∧ ((jcl f).2.1 k).1 = (jcl f).1 := by
  unfold jchF at h
  simp only [Bool.and_eq_true, decide_eq_true_eq] at h
  obtain ⟨⟨⟨⟨h1, h2⟩, h3⟩, h4⟩, h5⟩ := h
  exact ⟨Nat.le_of_ble_eq_true h1, jhF_in h2, h3, h4, h5⟩
theorem jchA_spec {f n t : Nat} (h : jchA f n t = true) : 12 ≤ f ∧ f < 67 ∧ ∃ a, jarrs[f - 12]? = some a ∧ a.1 = t ∧ a.2.1 = n := by
  unfold jchA at h
  simp only [Bool.and_eq_true] at h
  obtain ⟨⟨h1, h2⟩, h3⟩ := h
  refine ⟨Nat.le_of_ble_eq_true h1, Nat.le_of_ble_eq_true h2, ?_⟩
  split at h3
  · rename_i a ha
    have z := Bool.and_eq_true_iff.mp h3
    exact ⟨a, ha, Nat.eq_of_beq_eq_true z.1, Nat.eq_of_beq_eq_true z.2⟩
  · cases h3
theorem jfv_get5 (ad : Nat → Int → Nat) (mem : jMem) (f : Nat) (i : Int) (k kd f' mp : Nat) : jfv ad mem f i k (kd, f', mp) = jcv ad (jget5 kd mem f i k f' mp) := by
  match kd with
  | 0 | 1 | 2 | 3 => rfl
  | n + 4 => rfl
theorem jokM_wI {mem : jMem} {f : Nat} {i k v : Int} (h : jokM mem) (hv : jokI v) : jokM (jwI mem f i k v) := by
  refine ⟨fun g j n => ?_, h.2.1, h.2.2⟩
  rw [jrI_w]
  split
  · exact hv
  · exact h.1 g j n
theorem jokM_wJ {mem : jMem} {f : Nat} {i k v : Int} (h : jokM mem) (hv : jokJ v) : jokM (jwJ mem f i k v) := by
  refine ⟨h.1, fun g j n => ?_, h.2.2⟩
  rw [jrJ_w]
  split
  · exact hv
  · exact h.2.1 g j n
theorem jokM_wS {mem : jMem} {f : Nat} {i : Int} {k f' mp : Nat} {v : Option Int} (h : jokM mem) (hk : (jfds.getD f [])[k]? = some (3, f', mp)) (hv : ∀ j, v = some j → jval f' j) : jokM (jwS mem f i k v) := by
  refine ⟨h.1, h.2.1, fun g j n g' mq x hx hq => ?_⟩
  rw [jrS_w] at hq
  split at hq
  · rename_i e
    obtain ⟨rfl, rfl, rfl⟩ := e
    rw [hk] at hx
    cases hx
    exact hv x hq
  · exact h.2.2 g j n g' mq x hx hq
theorem jokM_wC {mem : jMem} {f : Nat} {i sp : Int} {f' : Nat} {i' dp n : Int} (h : jokM mem) : jokM (jwC mem f i sp f' i' dp n) := by
  refine ⟨fun g j k => ?_, h.2.1, h.2.2⟩
  rw [jrI_wC]
  split
  · exact h.1 _ _ _
  · exact h.1 g j k
theorem jcell_wI {ad : Nat → Int → Nat} {cA : Nat → ClassId} {mem : jMem} {f : Nat} {i k v : Int} (g : Nat) (j : Int) (h : (g, j) ≠ (f, i)) : jcell ad cA (jwI mem f i k v) g j = jcell ad cA mem g j := by
  refine jcell_congr (funext fun n => ?_) rfl rfl
  rw [jrI_w, if_neg (fun z => h (by rw [z.1, z.2.1]))]
theorem jcell_wJ {ad : Nat → Int → Nat} {cA : Nat → ClassId} {mem : jMem} {f : Nat} {i k v : Int} (g : Nat) (j : Int) (h : (g, j) ≠ (f, i)) : jcell ad cA (jwJ mem f i k v) g j = jcell ad cA mem g j := by
  refine jcell_congr rfl (funext fun n => ?_) rfl
  rw [jrJ_w, if_neg (fun z => h (by rw [z.1, z.2.1]))]
theorem jcell_wS {ad : Nat → Int → Nat} {cA : Nat → ClassId} {mem : jMem} {f : Nat} {i : Int} {k : Nat} {v : Option Int} (g : Nat) (j : Int) (h : (g, j) ≠ (f, i)) : jcell ad cA (jwS mem f i k v) g j = jcell ad cA mem g j := by
  refine jcell_congr rfl rfl (funext fun n => ?_)
  rw [jrS_w, if_neg (fun z => h (by rw [z.1, z.2.1]))]
theorem jcell_wC {ad : Nat → Int → Nat} {cA : Nat → ClassId} {mem : jMem} {f : Nat} {i sp : Int} {f' : Nat} {i' dp n : Int} (g : Nat) (j : Int) (h : (g, j) ≠ (f', i')) : jcell ad cA (jwC mem f i sp f' i' dp n) g j = jcell ad cA mem g j := by
  refine jcell_congr (funext fun n => ?_) rfl rfl
  rw [jrI_wC, if_neg (fun z => h (by rw [z.1, z.2.1]))]
/-- a field written: the object's row of values -/
theorem jfvs_set {ad : Nat → Int → Nat} {mem mem' : jMem} {f : Nat} {i : Int} {l : List (Nat × Nat × Nat)} {k : Nat} {w : Nat × Nat × Nat} {v : Value} (hk : l[k]? = some w) (hv : jfv ad mem' f i k w = v) (ho : ∀ n u, n ≠ k → l[n]? = some u → jfv ad mem' f i n u = jfv ad mem f i n u) : jfvs ad mem' f i 0 l = (jfvs ad mem f i 0 l).set k v := by
  apply List.ext_getElem?
  intro n
  rw [jfvs_get, Nat.zero_add]
  have hlt := (List.getElem?_eq_some_iff.mp hk).1
  by_cases hn : k = n
  · subst hn
    rw [List.getElem?_set_self (by rw [jfvs_len]; exact hlt), hk]
    simp only [Option.map_some, hv]
  · rw [List.getElem?_set_ne hn, jfvs_get, Nat.zero_add]
    cases hu : l[n]? with
    | none => rfl
    | some u =>
      simp only [Option.map_some]
      rw [ho n u (Ne.symm hn) hu]
theorem jcl0 {x : Int} {n : Nat} (h0 : 0 ≤ x) (hx : jokI x) : (((Int32.ofInt x).toNatClampNeg = n) ↔ x = (n : Int)) := by
  have := j_cl h0 hx
  constructor
  · intro h; rw [h] at this; exact this.symm
  · intro h; omega
section SIMS
variable {p : Program} {l : Launch} {e : Env} {s : State} {m : MethodId} {args : Array Value} {below : List Frame} {meth : Method} {c : Code} {d : Nat} {D : va_G} {cA : Nat → ClassId} {ad : Nat → Int → Nat} {EV : State → Prop} {q : jMI} {r : jV × jMem}
variable {pc npc : Nat} {aux : List Nat} {L st : List jV} {mem : jMem} {kf : jKf} {kj : Nat → jKf} {call : jCall}
theorem js_getfield {ix : Nat} (C : jC p s m args meth c q D cA ad EV) (hd : decode q.2.1 pc = .ok (.getfield ix, npc - pc)) (hc : jchk1 q pc (.getfield ix) npc aux = true) (h : jstep (.getfield ix) aux L st mem call kf kj = some r) (hL : jokL L) (hs : jokL st) (hM : jokM mem) (hn : L.length = jMl q) (hF : jKF p l e s m args below meth c d D cA ad q r npc kf) (hJ : ∀ t, jKF p l e s m args below meth c d D cA ad q r t (kj t)) : jG p l e s m args below meth c d D cA ad q r pc L st mem := by
  obtain ⟨hx, hb, hml, hown, hts, hK, hr, hlk, hin, hev, hEV⟩ := C
  dsimp only [jchk1] at hc
  have hcs := Bool.and_eq_true_iff.mp hc
  have e1 : npc = pc + 3 := Nat.eq_of_beq_eq_true hcs.1
  subst e1
  rw [Nat.add_sub_cancel_left] at hd
  change jgetf aux L st mem kf = some r at h
  unfold jgetf at h
  split at h
  · rename_i f k kd f' mp
    have hc2 := Bool.and_eq_true_iff.mp hcs.2
    obtain ⟨f1, f2, f3, f4, f5⟩ := jchF_spec hc2.1
    obtain ⟨i, t, rfl, h2⟩ := jpD_some h
    have o1 := jokL_c hs
    have hv : jval f i := o1.1 i rfl
    obtain ⟨n, hn1, hn2⟩ := jws_at ad cA mem (jall_mem (by omega) hv)
    rw [jcell_obj f1] at hn2
    have hval : (jfvs ad mem f i 0 (jfds.getD f []))[k]? = some (jcv ad (jget5 kd mem f i k f' mp)) := by
      rw [jfvs_get, f3, Nat.zero_add]
      simp only [Option.map_some, jfv_get5]
    have ok : jokV (jget5 kd mem f i k f' mp) := by
      have hk := hc2.2
      match kd, hk, f3 with
      | 0, _, _ => exact hM.1 f i k
      | 1, _, _ => exact hM.2.1 f i k
      | 2, hk, _ =>
        have z := of_decide_eq_true hk
        exact fun j e => by cases e; exact ⟨hv.1, by have := hv.2; omega⟩
      | 3, _, f3 => exact fun j e => hM.2.2 f i k f' mp j f3 e
      | n + 4, hk, _ =>
        have z := of_decide_eq_true hk
        exact fun j e => by cases e; exact ⟨by omega, by omega⟩
    exact js_push hF h2 hL ok o1.2 hM hn (fun H locs ls Q hP hS hl w => va_get hx hb hts (jin_all f1) hown hK hP n hn2 (jcl_get f1) k f4 (hts _ f2) (fun x z => by rw [f5] at z; exact z) hval hd w)
  · cases h
theorem js_putfield {ix : Nat} (C : jC p s m args meth c q D cA ad EV) (hd : decode q.2.1 pc = .ok (.putfield ix, npc - pc)) (hc : jchk1 q pc (.putfield ix) npc aux = true) (h : jstep (.putfield ix) aux L st mem call kf kj = some r) (hL : jokL L) (hs : jokL st) (hM : jokM mem) (hn : L.length = jMl q) (hF : jKF p l e s m args below meth c d D cA ad q r npc kf) (hJ : ∀ t, jKF p l e s m args below meth c d D cA ad q r t (kj t)) : jG p l e s m args below meth c d D cA ad q r pc L st mem := by
  obtain ⟨hx, hb, hml, hown, hts, hK, hr, hlk, hin, hev, hEV⟩ := C
  dsimp only [jchk1] at hc
  have hcs := Bool.and_eq_true_iff.mp hc
  have e1 : npc = pc + 3 := Nat.eq_of_beq_eq_true hcs.1
  subst e1
  rw [Nat.add_sub_cancel_left] at hd
  change jputf aux L st mem kf = some r at h
  unfold jputf at h
  split at h
  · rename_i f k f' mp
    have hc2 := Bool.and_eq_true_iff.mp hcs.2
    obtain ⟨f1, f2, f3, f4, f5⟩ := jchF_spec hc2.1
    obtain ⟨v, t1, rfl, h1⟩ := jpI_some h
    obtain ⟨i, t, rfl, h2⟩ := jpD_some h1
    have o1 := jokL_c hs
    have o2 := jokL_c o1.2
    have hv : jval f i := o2.1 i rfl
    obtain ⟨n, hn1, hn2⟩ := jws_at ad cA mem (jall_mem (by omega) hv)
    have hset := jws_set ad cA mem (jwI mem f i (k : Int) v) hn1 (fun g j hne => jcell_wI g j hne)
    rw [jcell_obj f1] at hn2 hset
    have hfs : jfvs ad (jwI mem f i (k : Int) v) f i 0 (jfds.getD f []) = (jfvs ad mem f i 0 (jfds.getD f [])).set k (.int (Int32.ofInt v)) := by
      refine jfvs_set f3 ?_ (fun n u hnk hu => ?_)
      · unfold jfv
        dsimp only
        rw [jrI_w, if_pos ⟨rfl, rfl, rfl⟩]
        rfl
      · unfold jfv
        rw [jrJ_wI, jrS_wI, jrI_w, if_neg (fun z => hnk (by omega))]
    rw [hfs] at hset
    have hlen : k < (jfvs ad mem f i 0 (jfds.getD f [])).length := by
      rw [jfvs_len]
      exact (List.getElem?_eq_some_iff.mp f3).1
    obtain ⟨ty0, hty, hnm⟩ := jty_all f1
    have g := hF _ _ _ h2 hL o2.2 (jokM_wI hM o1.1) hn
    have ds := of_decide_eq_true hc2.2
    refine fun H locs ls hP hS hl => ?_
    refine va_put (v := .int (Int32.ofInt v)) (ty := .int) hx hb hts (jin_all f1) ty0 hty hnm hown hK hP (jws_D hin) hS n hn2 (jcl_get f1) k f4 (hts _ f2) (fun x z => by rw [f5] at z; exact z) (by rw [ds]) (by rw [ds]; rfl) rfl rfl hlen hd (fun H1 locs1 hP1 _ hS1 => ?_)
    rw [hset] at hP1
    exact g H1 locs1 ls hP1 hS1 hl
  · rename_i f k f' mp
    have hc2 := Bool.and_eq_true_iff.mp hcs.2
    obtain ⟨f1, f2, f3, f4, f5⟩ := jchF_spec hc2.1
    obtain ⟨v, t1, rfl, h1⟩ := jpJ_some h
    obtain ⟨i, t, rfl, h2⟩ := jpD_some h1
    have o1 := jokL_c hs
    have o2 := jokL_c o1.2
    have hv : jval f i := o2.1 i rfl
    obtain ⟨n, hn1, hn2⟩ := jws_at ad cA mem (jall_mem (by omega) hv)
    have hset := jws_set ad cA mem (jwJ mem f i (k : Int) v) hn1 (fun g j hne => jcell_wJ g j hne)
    rw [jcell_obj f1] at hn2 hset
    have hfs : jfvs ad (jwJ mem f i (k : Int) v) f i 0 (jfds.getD f []) = (jfvs ad mem f i 0 (jfds.getD f [])).set k (.long (Int64.ofInt v)) := by
      refine jfvs_set f3 ?_ (fun n u hnk hu => ?_)
      · unfold jfv
        dsimp only
        rw [jrJ_w, if_pos ⟨rfl, rfl, rfl⟩]
        rfl
      · unfold jfv
        rw [jrI_wJ, jrS_wJ, jrJ_w, if_neg (fun z => hnk (by omega))]
    rw [hfs] at hset
    have hlen : k < (jfvs ad mem f i 0 (jfds.getD f [])).length := by
      rw [jfvs_len]
      exact (List.getElem?_eq_some_iff.mp f3).1
    obtain ⟨ty0, hty, hnm⟩ := jty_all f1
    have g := hF _ _ _ h2 hL o2.2 (jokM_wJ hM o1.1) hn
    have ds := of_decide_eq_true hc2.2
    refine fun H locs ls hP hS hl => ?_
    refine va_put (v := .long (Int64.ofInt v)) (ty := .long) hx hb hts (jin_all f1) ty0 hty hnm hown hK hP (jws_D hin) hS n hn2 (jcl_get f1) k f4 (hts _ f2) (fun x z => by rw [f5] at z; exact z) (by rw [ds]) (by rw [ds]; rfl) rfl rfl hlen hd (fun H1 locs1 hP1 _ hS1 => ?_)
    rw [hset] at hP1
    exact g H1 locs1 ls hP1 hS1 hl
  · rename_i f k f' mp
    have hc2 := Bool.and_eq_true_iff.mp hcs.2
    obtain ⟨f1, f2, f3, f4, f5⟩ := jchF_spec (Bool.and_eq_true_iff.mp hc2.1).1
    obtain ⟨v, t1, rfl, h1⟩ := jpR_some h
    obtain ⟨i, t, rfl, h2⟩ := jpD_some h1
    have o1 := jokL_c hs
    have o2 := jokL_c o1.2
    have hv : jval f i := o2.1 i rfl
    obtain ⟨n, hn1, hn2⟩ := jws_at ad cA mem (jall_mem (by omega) hv)
    have hset := jws_set ad cA mem (jwS mem f i k v) hn1 (fun g j hne => jcell_wS g j hne)
    rw [jcell_obj f1] at hn2 hset
    have hfs : jfvs ad (jwS mem f i k v) f i 0 (jfds.getD f []) = (jfvs ad mem f i 0 (jfds.getD f [])).set k (va_rf (v.map (ad f'))) := by
      refine jfvs_set f3 ?_ (fun n u hnk hu => ?_)
      · unfold jfv
        dsimp only
        rw [jrS_w, if_pos ⟨rfl, rfl, rfl⟩]
        rfl
      · unfold jfv
        rw [jrI_wS, jrJ_wS, jrS_w, if_neg (fun z => hnk z.2.2)]
    rw [hfs] at hset
    have hlen : k < (jfvs ad mem f i 0 (jfds.getD f [])).length := by
      rw [jfvs_len]
      exact (List.getElem?_eq_some_iff.mp f3).1
    obtain ⟨ty0, hty, hnm⟩ := jty_all f1
    have g := hF _ _ _ h2 hL o2.2 (jokM_wS hM f3 o1.1) hn
    have htn : ∃ tn, parseFieldDescriptor ((jcl f).2.1 k).2.2.1 = some (.object tn) := by
      have z := hc2.2
      split at z
      · rename_i tn e
        exact ⟨tn, e⟩
      · cases z
    obtain ⟨tn, htn⟩ := htn
    refine fun H locs ls hP hS hl => ?_
    refine va_put (v := va_rf (v.map (ad f'))) (ty := .object tn) hx hb hts (jin_all f1) ty0 hty hnm hown hK hP (jws_D hin) hS n hn2 (jcl_get f1) k f4 (hts _ f2) (fun x z => by rw [f5] at z; exact z) (of_decide_eq_true (Bool.and_eq_true_iff.mp hc2.1).2) htn (by cases v <;> rfl) (by cases v <;> rfl) hlen hd (fun H1 locs1 hP1 _ hS1 => ?_)
    rw [hset] at hP1
    exact g H1 locs1 ls hP1 hS1 hl
  · rename_i f k f' mp
    have hc2 := Bool.and_eq_true_iff.mp hcs.2
    obtain ⟨f1, f2, f3, f4, f5⟩ := jchF_spec hc2.1
    obtain ⟨v, t1, rfl, h1⟩ := jpI_some h
    obtain ⟨i, t, rfl, h2⟩ := jpD_some h1
    obtain ⟨hbo, h2⟩ := jbo_some h2
    have o1 := jokL_c hs
    have o2 := jokL_c o1.2
    have hv : jval f i := o2.1 i rfl
    obtain ⟨n, hn1, hn2⟩ := jws_at ad cA mem (jall_mem (by omega) hv)
    have hset := jws_set ad cA mem (jwI mem f i (k : Int) v) hn1 (fun g j hne => jcell_wI g j hne)
    rw [jcell_obj f1] at hn2 hset
    have hfs : jfvs ad (jwI mem f i (k : Int) v) f i 0 (jfds.getD f []) = (jfvs ad mem f i 0 (jfds.getD f [])).set k (.int (Int32.ofInt v)) := by
      refine jfvs_set f3 ?_ (fun n u hnk hu => ?_)
      · unfold jfv
        dsimp only
        rw [jrI_w, if_pos ⟨rfl, rfl, rfl⟩]
        rfl
      · unfold jfv
        rw [jrJ_wI, jrS_wI, jrI_w, if_neg (fun z => hnk (by omega))]
    rw [hfs] at hset
    have hlen : k < (jfvs ad mem f i 0 (jfds.getD f [])).length := by
      rw [jfvs_len]
      exact (List.getElem?_eq_some_iff.mp f3).1
    obtain ⟨ty0, hty, hnm⟩ := jty_all f1
    have g := hF _ _ _ h2 hL o2.2 (jokM_wI hM o1.1) hn
    have ds := of_decide_eq_true hc2.2
    refine fun H locs ls hP hS hl => ?_
    refine va_put (v := .int (Int32.ofInt v)) (ty := .boolean) hx hb hts (jin_all f1) ty0 hty hnm hown hK hP (jws_D hin) hS n hn2 (jcl_get f1) k f4 (hts _ f2) (fun x z => by rw [f5] at z; exact z) (by rw [ds]) (by rw [ds]; rfl) (by rcases hbo with z | z <;> subst z <;> rfl) (by rcases hbo with z | z <;> subst z <;> rfl) hlen hd (fun H1 locs1 hP1 _ hS1 => ?_)
    rw [hset] at hP1
    exact g H1 locs1 ls hP1 hS1 hl
  · cases h
theorem js_iaload (C : jC p s m args meth c q D cA ad EV) (hd : decode q.2.1 pc = .ok (.iaload, npc - pc)) (hc : jchk1 q pc (.iaload) npc aux = true) (h : jstep (.iaload) aux L st mem call kf kj = some r) (hL : jokL L) (hs : jokL st) (hM : jokM mem) (hn : L.length = jMl q) (hF : jKF p l e s m args below meth c d D cA ad q r npc kf) (hJ : ∀ t, jKF p l e s m args below meth c d D cA ad q r t (kj t)) : jG p l e s m args below meth c d D cA ad q r pc L st mem := by
  obtain ⟨hx, hb, hml, hown, hts, hK, hr, hlk, hin, hev, hEV⟩ := C
  dsimp only [jchk1] at hc
  have hcs := Bool.and_eq_true_iff.mp hc
  have e1 : npc = pc + 1 := Nat.eq_of_beq_eq_true hcs.1
  subst e1
  rw [Nat.add_sub_cancel_left] at hd
  change jald false aux L st mem kf = some r at h
  unfold jald at h
  split at h
  · rename_i f n
    obtain ⟨x, t1, rfl, h1⟩ := jpI_some h
    obtain ⟨i, t, rfl, h2⟩ := jpD_some h1
    obtain ⟨x0, x1, h3⟩ := jix_some h2
    have o1 := jokL_c hs
    have o2 := jokL_c o1.2
    have hv : jval f i := o2.1 i rfl
    have ecl := j_cl x0 o1.1
    obtain ⟨a1, a2, a, a3, a4, a5⟩ := jchA_spec hcs.2
    obtain ⟨aT, aN, aF, aP⟩ := a
    dsimp only at a4 a5
    subst a4 a5
    obtain ⟨n0, hn1, hn2⟩ := jws_at ad cA mem (jall_mem a2 hv)
    rw [jcell_arr a1 a3] at hn2
    exact js_push (v := vI (jrI mem f i x)) hF h3 hL (hM.1 f i x) o2.2 hM hn (fun H locs ls Q hP hS hl k => va_iald (n := aN) (f := fun j => Int32.ofInt (jrI mem f i (j : Int))) hx hb hK hP n0 0 hn2 rfl (j_in x0 x1 o1.1) hd (by rw [ecl]; exact k))
  · cases h
theorem js_laload (C : jC p s m args meth c q D cA ad EV) (hd : decode q.2.1 pc = .ok (.laload, npc - pc)) (hc : jchk1 q pc (.laload) npc aux = true) (h : jstep (.laload) aux L st mem call kf kj = some r) (hL : jokL L) (hs : jokL st) (hM : jokM mem) (hn : L.length = jMl q) (hF : jKF p l e s m args below meth c d D cA ad q r npc kf) (hJ : ∀ t, jKF p l e s m args below meth c d D cA ad q r t (kj t)) : jG p l e s m args below meth c d D cA ad q r pc L st mem := by
  obtain ⟨hx, hb, hml, hown, hts, hK, hr, hlk, hin, hev, hEV⟩ := C
  dsimp only [jchk1] at hc
  have hcs := Bool.and_eq_true_iff.mp hc
  have e1 : npc = pc + 1 := Nat.eq_of_beq_eq_true hcs.1
  subst e1
  rw [Nat.add_sub_cancel_left] at hd
  change jald true aux L st mem kf = some r at h
  unfold jald at h
  split at h
  · rename_i f n
    obtain ⟨x, t1, rfl, h1⟩ := jpI_some h
    obtain ⟨i, t, rfl, h2⟩ := jpD_some h1
    obtain ⟨x0, x1, h3⟩ := jix_some h2
    have o1 := jokL_c hs
    have o2 := jokL_c o1.2
    have hv : jval f i := o2.1 i rfl
    have ecl := j_cl x0 o1.1
    obtain ⟨a1, a2, a, a3, a4, a5⟩ := jchA_spec hcs.2
    obtain ⟨aT, aN, aF, aP⟩ := a
    dsimp only at a4 a5
    subst a4 a5
    obtain ⟨n0, hn1, hn2⟩ := jws_at ad cA mem (jall_mem a2 hv)
    rw [jcell_arr a1 a3] at hn2
    exact js_push (v := vJ (jrJ mem f i x)) hF h3 hL (hM.2.1 f i x) o2.2 hM hn (fun H locs ls Q hP hS hl k => va_lald (n := aN) (f := fun j => Int64.ofInt (jrJ mem f i (j : Int))) hx hb hK hP n0 1 hn2 rfl (j_in x0 x1 o1.1) hd (by rw [ecl]; exact k))
  · cases h
theorem js_baload (C : jC p s m args meth c q D cA ad EV) (hd : decode q.2.1 pc = .ok (.baload, npc - pc)) (hc : jchk1 q pc (.baload) npc aux = true) (h : jstep (.baload) aux L st mem call kf kj = some r) (hL : jokL L) (hs : jokL st) (hM : jokM mem) (hn : L.length = jMl q) (hF : jKF p l e s m args below meth c d D cA ad q r npc kf) (hJ : ∀ t, jKF p l e s m args below meth c d D cA ad q r t (kj t)) : jG p l e s m args below meth c d D cA ad q r pc L st mem := by
  obtain ⟨hx, hb, hml, hown, hts, hK, hr, hlk, hin, hev, hEV⟩ := C
  dsimp only [jchk1] at hc
  have hcs := Bool.and_eq_true_iff.mp hc
  have e1 : npc = pc + 1 := Nat.eq_of_beq_eq_true hcs.1
  subst e1
  rw [Nat.add_sub_cancel_left] at hd
  change jald false aux L st mem kf = some r at h
  unfold jald at h
  split at h
  · rename_i f n
    obtain ⟨x, t1, rfl, h1⟩ := jpI_some h
    obtain ⟨i, t, rfl, h2⟩ := jpD_some h1
    obtain ⟨x0, x1, h3⟩ := jix_some h2
    have o1 := jokL_c hs
    have o2 := jokL_c o1.2
    have hv : jval f i := o2.1 i rfl
    have ecl := j_cl x0 o1.1
    rcases Bool.or_eq_true_iff.mp hcs.2 with hcx | hcx
    · obtain ⟨a1, a2, a, a3, a4, a5⟩ := jchA_spec hcx
      obtain ⟨aT, aN, aF, aP⟩ := a
      dsimp only at a4 a5
      subst a4 a5
      obtain ⟨n0, hn1, hn2⟩ := jws_at ad cA mem (jall_mem a2 hv)
      rw [jcell_arr a1 a3] at hn2
      exact js_push (v := vI (jrI mem f i x)) hF h3 hL (hM.1 f i x) o2.2 hM hn (fun H locs ls Q hP hS hl k => va_bald (n := aN) (f := fun j => Int32.ofInt (jrI mem f i (j : Int))) hx hb hK hP n0 2 hn2 rfl (j_in x0 x1 o1.1) hd (by rw [ecl]; exact k))
    · obtain ⟨a1, a2, a, a3, a4, a5⟩ := jchA_spec hcx
      obtain ⟨aT, aN, aF, aP⟩ := a
      dsimp only at a4 a5
      subst a4 a5
      obtain ⟨n0, hn1, hn2⟩ := jws_at ad cA mem (jall_mem a2 hv)
      rw [jcell_arr a1 a3] at hn2
      exact js_push (v := vI (jrI mem f i x)) hF h3 hL (hM.1 f i x) o2.2 hM hn (fun H locs ls Q hP hS hl k => va_zald (n := aN) (f := fun j => Int32.ofInt (jrI mem f i (j : Int))) hx hb hK hP n0 3 hn2 rfl (j_in x0 x1 o1.1) hd (by rw [ecl]; exact k))
  · cases h
theorem js_aaload (C : jC p s m args meth c q D cA ad EV) (hd : decode q.2.1 pc = .ok (.aaload, npc - pc)) (hc : jchk1 q pc (.aaload) npc aux = true) (h : jstep (.aaload) aux L st mem call kf kj = some r) (hL : jokL L) (hs : jokL st) (hM : jokM mem) (hn : L.length = jMl q) (hF : jKF p l e s m args below meth c d D cA ad q r npc kf) (hJ : ∀ t, jKF p l e s m args below meth c d D cA ad q r t (kj t)) : jG p l e s m args below meth c d D cA ad q r pc L st mem := by
  obtain ⟨hx, hb, hml, hown, hts, hK, hr, hlk, hin, hev, hEV⟩ := C
  dsimp only [jchk1] at hc
  have hcs := Bool.and_eq_true_iff.mp hc
  have e1 : npc = pc + 1 := Nat.eq_of_beq_eq_true hcs.1
  subst e1
  rw [Nat.add_sub_cancel_left] at hd
  change jaald aux L st mem kf = some r at h
  have key : ∃ f n f' mp x i t, aux = [f, n, f', mp] ∧ st = vI x :: vR f (some i) :: t ∧ 0 ≤ x ∧ x < (n : Int) ∧ kf L (vR f' (some (x + (mp : Int))) :: t) mem = some r := by
    unfold jaald at h
    split at h
    · rename_i f n f'
      obtain ⟨x, t1, rfl, h1⟩ := jpI_some h
      obtain ⟨i, t, rfl, h2⟩ := jpD_some h1
      obtain ⟨x0, x1, h3⟩ := jix_some h2
      exact ⟨f, n, f', 0, x, i, t, rfl, rfl, x0, x1, by rw [show x + ((0 : Nat) : Int) = x by omega]; exact h3⟩
    · rename_i f n f' mp _
      obtain ⟨x, t1, rfl, h1⟩ := jpI_some h
      obtain ⟨i, t, rfl, h2⟩ := jpD_some h1
      obtain ⟨x0, x1, h3⟩ := jix_some h2
      exact ⟨f, n, f', mp, x, i, t, rfl, rfl, x0, x1, h3⟩
    · cases h
  obtain ⟨f, n, f', mp, x, i, t, rfl, rfl, x0, x1, h3⟩ := key
  have o1 := jokL_c hs
  have o2 := jokL_c o1.2
  have hv : jval f i := o2.1 i rfl
  have ecl := j_cl x0 o1.1
  have hc3 := hcs.2
  simp only [Bool.and_eq_true] at hc3
  obtain ⟨⟨c1, c2⟩, c3⟩ := hc3
  have a1 : 12 ≤ f := Nat.le_of_ble_eq_true c1
  have a2 : f < 67 := Nat.le_of_ble_eq_true c2
  split at c3
  · rename_i a a3
    simp only [Bool.and_eq_true] at c3
    obtain ⟨⟨⟨⟨⟨d1, d2⟩, d3⟩, d4⟩, d5⟩, d6⟩ := c3
    obtain ⟨aT, aN, aF, aP⟩ := a
    have d1 : 4 ≤ aT := Nat.le_of_ble_eq_true d1
    have d2 : aT ≤ 6 := Nat.le_of_ble_eq_true d2
    cases Nat.eq_of_beq_eq_true d3
    cases Nat.eq_of_beq_eq_true d4
    cases Nat.eq_of_beq_eq_true d5
    dsimp only at x1
    have d6 : aN + aP ≤ jcnt aF := Nat.le_of_ble_eq_true d6
    obtain ⟨n0, hn1, hn2⟩ := jws_at ad cA mem (jall_mem a2 hv)
    rw [jcell_arr a1 a3] at hn2
    have ok : jokV (vR aF (some (x + (aP : Int)))) := fun j e => by
      cases e
      exact ⟨by omega, by omega⟩
    have hcell : jarc ad cA mem f i (aT, aN, aF, aP) = .inl (cA aT, aN, .inr (.inr (.inr (.inr fun j => some (ad aF ((j : Int) + (aP : Int))))))) := by
      match aT, d1 with
      | w + 4, _ => rfl
    rw [hcell] at hn2
    have hty : ∃ C, (jtys cA)[aT]? = some (cA aT, .object C) := by
      match aT, d1, d2 with
      | 4, _, _ => exact ⟨_, rfl⟩
      | 5, _, _ => exact ⟨_, rfl⟩
      | 6, _, _ => exact ⟨_, rfl⟩
    obtain ⟨C, hty⟩ := hty
    exact js_push (v := vR aF (some (x + (aP : Int)))) hF h3 hL ok o2.2 hM hn (fun H locs ls Q hP hS hl k => va_aldq hx hb hK hP n0 aT hn2 hty (j_in x0 x1 o1.1) hd (by rw [ecl]; exact k))
  · cases c3
theorem js_iastore (C : jC p s m args meth c q D cA ad EV) (hd : decode q.2.1 pc = .ok (.iastore, npc - pc)) (hc : jchk1 q pc (.iastore) npc aux = true) (h : jstep (.iastore) aux L st mem call kf kj = some r) (hL : jokL L) (hs : jokL st) (hM : jokM mem) (hn : L.length = jMl q) (hF : jKF p l e s m args below meth c d D cA ad q r npc kf) (hJ : ∀ t, jKF p l e s m args below meth c d D cA ad q r t (kj t)) : jG p l e s m args below meth c d D cA ad q r pc L st mem := by
  obtain ⟨hx, hb, hml, hown, hts, hK, hr, hlk, hin, hev, hEV⟩ := C
  dsimp only [jchk1] at hc
  have hcs := Bool.and_eq_true_iff.mp hc
  have e1 : npc = pc + 1 := Nat.eq_of_beq_eq_true hcs.1
  subst e1
  rw [Nat.add_sub_cancel_left] at hd
  change jast aux L st mem kf = some r at h
  unfold jast at h
  split at h
  · rename_i f n
    obtain ⟨a1, a2, a, a3, a4, a5⟩ := jchA_spec hcs.2
    obtain ⟨aT, aN, aF, aP⟩ := a
    dsimp only at a4 a5
    subst a4 a5
    obtain ⟨v, t0, rfl, h0⟩ := jpI_some h
    obtain ⟨x, t1, rfl, h1⟩ := jpI_some h0
    obtain ⟨i, t, rfl, h2⟩ := jpD_some h1
    obtain ⟨x0, x1, h3⟩ := jix_some h2
    have o0 := jokL_c hs
    have o1 := jokL_c o0.2
    have o2 := jokL_c o1.2
    have hv : jval f i := o2.1 i rfl
    obtain ⟨n0, hn1, hn2⟩ := jws_at ad cA mem (jall_mem a2 hv)
    have hset := jws_set ad cA mem (jwI mem f i x v) hn1 (fun g j hne => jcell_wI g j hne)
    rw [jcell_arr a1 a3] at hn2 hset
    have hrow : (fun j : Nat => Int32.ofInt (jrI (jwI mem f i x v) f i (j : Int))) = upd (fun j : Nat => Int32.ofInt (jrI mem f i (j : Int))) (Int32.ofInt x).toNatClampNeg (Int32.ofInt v) := by
      funext j
      unfold upd
      rw [jrI_w]
      have z := jcl0 (n := j) x0 o1.1
      by_cases hj : x = (j : Int)
      · rw [if_pos ⟨rfl, rfl, hj.symm⟩, if_pos (z.mpr hj).symm]
      · rw [if_neg (fun w => hj w.2.2.symm), if_neg (fun w => hj (z.mp w.symm))]
    have hset : (jws ad cA mem).set n0 (ad f i, .inl (cA 0, aN, .inl (upd (fun j : Nat => Int32.ofInt (jrI mem f i (j : Int))) (Int32.ofInt x).toNatClampNeg (Int32.ofInt v)))) = jws ad cA (jwI mem f i x v) := by
      rw [← hset]
      show _ = (jws ad cA mem).set n0 (ad f i, .inl (cA 0, aN, .inl (fun j : Nat => Int32.ofInt (jrI (jwI mem f i x v) f i (j : Int)))))
      rw [hrow]
    have g := hF _ _ _ h3 hL o2.2 (jokM_wI hM o0.1) hn
    refine fun H locs ls hP hS hl => ?_
    refine va_iast hx hb hK hP (jws_D hin) hS n0 0 hn2 rfl (j_in x0 x1 o1.1) hd (fun H1 locs1 hP1 _ hS1 => ?_)
    rw [hset] at hP1
    exact g H1 locs1 ls hP1 hS1 hl
  · exact absurd hcs.2 (by simp)
  · exact absurd hcs.2 (by simp)
  · exact absurd hcs.2 (by simp)
  · cases h
theorem js_lastore (C : jC p s m args meth c q D cA ad EV) (hd : decode q.2.1 pc = .ok (.lastore, npc - pc)) (hc : jchk1 q pc (.lastore) npc aux = true) (h : jstep (.lastore) aux L st mem call kf kj = some r) (hL : jokL L) (hs : jokL st) (hM : jokM mem) (hn : L.length = jMl q) (hF : jKF p l e s m args below meth c d D cA ad q r npc kf) (hJ : ∀ t, jKF p l e s m args below meth c d D cA ad q r t (kj t)) : jG p l e s m args below meth c d D cA ad q r pc L st mem := by
  obtain ⟨hx, hb, hml, hown, hts, hK, hr, hlk, hin, hev, hEV⟩ := C
  dsimp only [jchk1] at hc
  have hcs := Bool.and_eq_true_iff.mp hc
  have e1 : npc = pc + 1 := Nat.eq_of_beq_eq_true hcs.1
  subst e1
  rw [Nat.add_sub_cancel_left] at hd
  change jast aux L st mem kf = some r at h
  unfold jast at h
  split at h
  · exact absurd hcs.2 (by simp)
  · rename_i f n
    obtain ⟨a1, a2, a, a3, a4, a5⟩ := jchA_spec hcs.2
    obtain ⟨aT, aN, aF, aP⟩ := a
    dsimp only at a4 a5
    subst a4 a5
    obtain ⟨v, t0, rfl, h0⟩ := jpJ_some h
    obtain ⟨x, t1, rfl, h1⟩ := jpI_some h0
    obtain ⟨i, t, rfl, h2⟩ := jpD_some h1
    obtain ⟨x0, x1, h3⟩ := jix_some h2
    have o0 := jokL_c hs
    have o1 := jokL_c o0.2
    have o2 := jokL_c o1.2
    have hv : jval f i := o2.1 i rfl
    obtain ⟨n0, hn1, hn2⟩ := jws_at ad cA mem (jall_mem a2 hv)
    have hset := jws_set ad cA mem (jwJ mem f i x v) hn1 (fun g j hne => jcell_wJ g j hne)
    rw [jcell_arr a1 a3] at hn2 hset
    have hrow : (fun j : Nat => Int64.ofInt (jrJ (jwJ mem f i x v) f i (j : Int))) = vp_updL (fun j : Nat => Int64.ofInt (jrJ mem f i (j : Int))) (Int32.ofInt x).toNatClampNeg (Int64.ofInt v) := by
      funext j
      unfold vp_updL
      rw [jrJ_w]
      have z := jcl0 (n := j) x0 o1.1
      by_cases hj : x = (j : Int)
      · rw [if_pos ⟨rfl, rfl, hj.symm⟩, if_pos (z.mpr hj).symm]
      · rw [if_neg (fun w => hj w.2.2.symm), if_neg (fun w => hj (z.mp w.symm))]
    have hset : (jws ad cA mem).set n0 (ad f i, .inl (cA 1, aN, .inr (.inl (vp_updL (fun j : Nat => Int64.ofInt (jrJ mem f i (j : Int))) (Int32.ofInt x).toNatClampNeg (Int64.ofInt v))))) = jws ad cA (jwJ mem f i x v) := by
      rw [← hset]
      show _ = (jws ad cA mem).set n0 (ad f i, .inl (cA 1, aN, .inr (.inl (fun j : Nat => Int64.ofInt (jrJ (jwJ mem f i x v) f i (j : Int))))))
      rw [hrow]
    have g := hF _ _ _ h3 hL o2.2 (jokM_wJ hM o0.1) hn
    refine fun H locs ls hP hS hl => ?_
    refine va_last hx hb hK hP (jws_D hin) hS n0 1 hn2 rfl (j_in x0 x1 o1.1) hd (fun H1 locs1 hP1 _ hS1 => ?_)
    rw [hset] at hP1
    exact g H1 locs1 ls hP1 hS1 hl
  · exact absurd hcs.2 (by simp)
  · exact absurd hcs.2 (by simp)
  · cases h
theorem js_bastore (C : jC p s m args meth c q D cA ad EV) (hd : decode q.2.1 pc = .ok (.bastore, npc - pc)) (hc : jchk1 q pc (.bastore) npc aux = true) (h : jstep (.bastore) aux L st mem call kf kj = some r) (hL : jokL L) (hs : jokL st) (hM : jokM mem) (hn : L.length = jMl q) (hF : jKF p l e s m args below meth c d D cA ad q r npc kf) (hJ : ∀ t, jKF p l e s m args below meth c d D cA ad q r t (kj t)) : jG p l e s m args below meth c d D cA ad q r pc L st mem := by
  obtain ⟨hx, hb, hml, hown, hts, hK, hr, hlk, hin, hev, hEV⟩ := C
  dsimp only [jchk1] at hc
  have hcs := Bool.and_eq_true_iff.mp hc
  have e1 : npc = pc + 1 := Nat.eq_of_beq_eq_true hcs.1
  subst e1
  rw [Nat.add_sub_cancel_left] at hd
  change jast aux L st mem kf = some r at h
  unfold jast at h
  split at h
  · exact absurd hcs.2 (by simp)
  · exact absurd hcs.2 (by simp)
  · rename_i f n
    obtain ⟨a1, a2, a, a3, a4, a5⟩ := jchA_spec hcs.2
    obtain ⟨aT, aN, aF, aP⟩ := a
    dsimp only at a4 a5
    subst a4 a5
    obtain ⟨v, t0, rfl, h0⟩ := jpI_some h
    obtain ⟨x, t1, rfl, h1⟩ := jpI_some h0
    obtain ⟨i, t, rfl, h2⟩ := jpD_some h1
    obtain ⟨x0, x1, h3⟩ := jix_some h2
    have o0 := jokL_c hs
    have o1 := jokL_c o0.2
    have o2 := jokL_c o1.2
    have hv : jval f i := o2.1 i rfl
    obtain ⟨n0, hn1, hn2⟩ := jws_at ad cA mem (jall_mem a2 hv)
    have hset := jws_set ad cA mem (jwI mem f i x (jw8 v)) hn1 (fun g j hne => jcell_wI g j hne)
    rw [jcell_arr a1 a3] at hn2 hset
    have hrow : (fun j : Nat => Int32.ofInt (jrI (jwI mem f i x (jw8 v)) f i (j : Int))) = upd (fun j : Nat => Int32.ofInt (jrI mem f i (j : Int))) (Int32.ofInt x).toNatClampNeg (vp_nar .byte (Int32.ofInt v)) := by
      funext j
      unfold upd
      rw [jrI_w]
      have z := jcl0 (n := j) x0 o1.1
      by_cases hj : x = (j : Int)
      · rw [if_pos ⟨rfl, rfl, hj.symm⟩, if_pos (z.mpr hj).symm]
        rw [vp_nar_byte, j_i2b o0.1]
      · rw [if_neg (fun w => hj w.2.2.symm), if_neg (fun w => hj (z.mp w.symm))]
    have hset : (jws ad cA mem).set n0 (ad f i, .inl (cA 2, aN, .inl (upd (fun j : Nat => Int32.ofInt (jrI mem f i (j : Int))) (Int32.ofInt x).toNatClampNeg (vp_nar .byte (Int32.ofInt v))))) = jws ad cA (jwI mem f i x (jw8 v)) := by
      rw [← hset]
      show _ = (jws ad cA mem).set n0 (ad f i, .inl (cA 2, aN, .inl (fun j : Nat => Int32.ofInt (jrI (jwI mem f i x (jw8 v)) f i (j : Int)))))
      rw [hrow]
    have g := hF _ _ _ h3 hL o2.2 (jokM_wI hM (jokI_8 v)) hn
    refine fun H locs ls hP hS hl => ?_
    refine va_bast hx hb hK hP (jws_D hin) hS n0 2 hn2 rfl (j_in x0 x1 o1.1) hd (fun H1 locs1 hP1 _ hS1 => ?_)
    rw [hset] at hP1
    exact g H1 locs1 ls hP1 hS1 hl
  · rename_i f n
    obtain ⟨a1, a2, a, a3, a4, a5⟩ := jchA_spec hcs.2
    obtain ⟨aT, aN, aF, aP⟩ := a
    dsimp only at a4 a5
    subst a4 a5
    obtain ⟨v, t0, rfl, h0⟩ := jpI_some h
    obtain ⟨x, t1, rfl, h1⟩ := jpI_some h0
    obtain ⟨i, t, rfl, h2⟩ := jpD_some h1
    obtain ⟨x0, x1, h3⟩ := jix_some h2
    obtain ⟨hbo, h3⟩ := jbo_some h3
    have o0 := jokL_c hs
    have o1 := jokL_c o0.2
    have o2 := jokL_c o1.2
    have hv : jval f i := o2.1 i rfl
    obtain ⟨n0, hn1, hn2⟩ := jws_at ad cA mem (jall_mem a2 hv)
    have hset := jws_set ad cA mem (jwI mem f i x v) hn1 (fun g j hne => jcell_wI g j hne)
    rw [jcell_arr a1 a3] at hn2 hset
    have hrow : (fun j : Nat => Int32.ofInt (jrI (jwI mem f i x v) f i (j : Int))) = upd (fun j : Nat => Int32.ofInt (jrI mem f i (j : Int))) (Int32.ofInt x).toNatClampNeg (vp_nar .boolean (Int32.ofInt v)) := by
      funext j
      unfold upd
      rw [jrI_w]
      have z := jcl0 (n := j) x0 o1.1
      by_cases hj : x = (j : Int)
      · rw [if_pos ⟨rfl, rfl, hj.symm⟩, if_pos (z.mpr hj).symm]
        rcases hbo with w | w <;> subst w <;> rfl
      · rw [if_neg (fun w => hj w.2.2.symm), if_neg (fun w => hj (z.mp w.symm))]
    have hset : (jws ad cA mem).set n0 (ad f i, .inl (cA 3, aN, .inl (upd (fun j : Nat => Int32.ofInt (jrI mem f i (j : Int))) (Int32.ofInt x).toNatClampNeg (vp_nar .boolean (Int32.ofInt v))))) = jws ad cA (jwI mem f i x v) := by
      rw [← hset]
      show _ = (jws ad cA mem).set n0 (ad f i, .inl (cA 3, aN, .inl (fun j : Nat => Int32.ofInt (jrI (jwI mem f i x v) f i (j : Int)))))
      rw [hrow]
    have g := hF _ _ _ h3 hL o2.2 (jokM_wI hM o0.1) hn
    refine fun H locs ls hP hS hl => ?_
    refine va_zast hx hb hK hP (jws_D hin) hS n0 3 hn2 rfl (j_in x0 x1 o1.1) hd (fun H1 locs1 hP1 _ hS1 => ?_)
    rw [hset] at hP1
    exact g H1 locs1 ls hP1 hS1 hl
  · cases h
theorem js_alen (C : jC p s m args meth c q D cA ad EV) (hd : decode q.2.1 pc = .ok (.arraylength, npc - pc)) (hc : jchk1 q pc (.arraylength) npc aux = true) (h : jstep (.arraylength) aux L st mem call kf kj = some r) (hL : jokL L) (hs : jokL st) (hM : jokM mem) (hn : L.length = jMl q) (hF : jKF p l e s m args below meth c d D cA ad q r npc kf) (hJ : ∀ t, jKF p l e s m args below meth c d D cA ad q r t (kj t)) : jG p l e s m args below meth c d D cA ad q r pc L st mem := by
  obtain ⟨hx, hb, hml, hown, hts, hK, hr, hlk, hin, hev, hEV⟩ := C
  dsimp only [jchk1] at hc
  have hcs := Bool.and_eq_true_iff.mp hc
  have e1 : npc = pc + 1 := Nat.eq_of_beq_eq_true hcs.1
  subst e1
  rw [Nat.add_sub_cancel_left] at hd
  dsimp only [jstep] at h
  split at h
  · rename_i f n
    obtain ⟨i, t, rfl, h2⟩ := jpD_some h
    have o1 := jokL_c hs
    have hv : jval f i := o1.1 i rfl
    have hc2 := Bool.and_eq_true_iff.mp hcs.2
    have hlt : n < 2147483648 := Nat.le_of_ble_eq_true hc2.1
    have ok : jokI (n : Int) := ⟨by omega, by omega⟩
    have hk : ∃ t0, t0 < 4 ∧ jchA f n t0 = true := by
      have z := hc2.2
      simp only [Bool.or_eq_true] at z
      rcases z with ((z | z) | z) | z
      · exact ⟨0, by omega, z⟩
      · exact ⟨1, by omega, z⟩
      · exact ⟨2, by omega, z⟩
      · exact ⟨3, by omega, z⟩
    obtain ⟨t0, ht0, hca⟩ := hk
    obtain ⟨a1, a2, a, a3, a4, a5⟩ := jchA_spec hca
    obtain ⟨aT, aN, aF, aP⟩ := a
    dsimp only at a4 a5
    subst a4 a5
    obtain ⟨n0, hn1, hn2⟩ := jws_at ad cA mem (jall_mem a2 hv)
    rw [jcell_arr a1 a3] at hn2
    have hz : Int32.ofNat aN = Int32.ofInt (aN : Int) := rfl
    match aT, ht0, hn2 with
    | 0, _, hn2 => exact js_push (v := vI (aN : Int)) hF h2 hL ok o1.2 hM hn (fun H locs ls Q hP hS hl k => va_alen hx hb hK hP n0 0 hn2 rfl hz hd k)
    | 1, _, hn2 => exact js_push (v := vI (aN : Int)) hF h2 hL ok o1.2 hM hn (fun H locs ls Q hP hS hl k => va_alen hx hb hK hP n0 1 hn2 rfl hz hd k)
    | 2, _, hn2 => exact js_push (v := vI (aN : Int)) hF h2 hL ok o1.2 hM hn (fun H locs ls Q hP hS hl k => va_alen hx hb hK hP n0 2 hn2 rfl hz hd k)
    | 3, _, hn2 => exact js_push (v := vI (aN : Int)) hF h2 hL ok o1.2 hM hn (fun H locs ls Q hP hS hl k => va_alen hx hb hK hP n0 3 hn2 rfl hz hd k)
  · cases h
end SIMS
