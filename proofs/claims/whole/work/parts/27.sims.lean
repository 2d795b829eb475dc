/-! The simulation, an instruction a row -/
section SIMS
variable {p : Program} {l : Launch} {e : Env} {s : State} {m : MethodId} {args : Array Value} {below : List Frame} {meth : Method} {c : Code} {d : Nat} {D : va_G} {cA : Nat → ClassId} {ad : Nat → Int → Nat} {EV : State → Prop} {q : jMI} {r : jV × jMem}
variable {pc npc : Nat} {aux : List Nat} {L st : List jV} {mem : jMem} {kf : jKf} {kj : Nat → jKf} {call : jCall}
theorem js_iadd (C : jC p s m args meth c q D cA ad EV) (hd : decode q.2.1 pc = .ok (.iadd, npc - pc)) (hc : jchk1 q pc (.iadd) npc aux = true) (h : jstep (.iadd) aux L st mem call kf kj = some r) (hL : jokL L) (hs : jokL st) (hM : jokM mem) (hn : L.length = jMl q) (hF : jKF p l e s m args below meth c d D cA ad q r npc kf) (hJ : ∀ t, jKF p l e s m args below meth c d D cA ad q r t (kj t)) : jG p l e s m args below meth c d D cA ad q r pc L st mem := by
  obtain ⟨hx, hb, hml, hown, hts, hK, hr, hlk, hin, hev, hEV⟩ := C
  have e1 : npc = pc + 1 := Nat.eq_of_beq_eq_true hc
  subst e1
  rw [Nat.add_sub_cancel_left] at hd
  obtain ⟨x, y, t, rfl, h⟩ := jb1_some h
  have o1 := jokL_c hs
  have o2 := jokL_c o1.2
  exact js_push hF h hL (jokI_w _) o2.2 hM hn (fun H locs ls Q hP hS hl k => lv_iadd hx hb hd (by rw [← j_add]; exact k))
theorem js_isub (C : jC p s m args meth c q D cA ad EV) (hd : decode q.2.1 pc = .ok (.isub, npc - pc)) (hc : jchk1 q pc (.isub) npc aux = true) (h : jstep (.isub) aux L st mem call kf kj = some r) (hL : jokL L) (hs : jokL st) (hM : jokM mem) (hn : L.length = jMl q) (hF : jKF p l e s m args below meth c d D cA ad q r npc kf) (hJ : ∀ t, jKF p l e s m args below meth c d D cA ad q r t (kj t)) : jG p l e s m args below meth c d D cA ad q r pc L st mem := by
  obtain ⟨hx, hb, hml, hown, hts, hK, hr, hlk, hin, hev, hEV⟩ := C
  have e1 : npc = pc + 1 := Nat.eq_of_beq_eq_true hc
  subst e1
  rw [Nat.add_sub_cancel_left] at hd
  obtain ⟨x, y, t, rfl, h⟩ := jb1_some h
  have o1 := jokL_c hs
  have o2 := jokL_c o1.2
  exact js_push hF h hL (jokI_w _) o2.2 hM hn (fun H locs ls Q hP hS hl k => lv_isub hx hb hd (by rw [← j_sub]; exact k))
theorem js_imul (C : jC p s m args meth c q D cA ad EV) (hd : decode q.2.1 pc = .ok (.imul, npc - pc)) (hc : jchk1 q pc (.imul) npc aux = true) (h : jstep (.imul) aux L st mem call kf kj = some r) (hL : jokL L) (hs : jokL st) (hM : jokM mem) (hn : L.length = jMl q) (hF : jKF p l e s m args below meth c d D cA ad q r npc kf) (hJ : ∀ t, jKF p l e s m args below meth c d D cA ad q r t (kj t)) : jG p l e s m args below meth c d D cA ad q r pc L st mem := by
  obtain ⟨hx, hb, hml, hown, hts, hK, hr, hlk, hin, hev, hEV⟩ := C
  have e1 : npc = pc + 1 := Nat.eq_of_beq_eq_true hc
  subst e1
  rw [Nat.add_sub_cancel_left] at hd
  obtain ⟨x, y, t, rfl, h⟩ := jb1_some h
  have o1 := jokL_c hs
  have o2 := jokL_c o1.2
  exact js_push hF h hL (jokI_w _) o2.2 hM hn (fun H locs ls Q hP hS hl k => lv_imul hx hb hd (by rw [← j_mul]; exact k))
theorem js_ladd (C : jC p s m args meth c q D cA ad EV) (hd : decode q.2.1 pc = .ok (.ladd, npc - pc)) (hc : jchk1 q pc (.ladd) npc aux = true) (h : jstep (.ladd) aux L st mem call kf kj = some r) (hL : jokL L) (hs : jokL st) (hM : jokM mem) (hn : L.length = jMl q) (hF : jKF p l e s m args below meth c d D cA ad q r npc kf) (hJ : ∀ t, jKF p l e s m args below meth c d D cA ad q r t (kj t)) : jG p l e s m args below meth c d D cA ad q r pc L st mem := by
  obtain ⟨hx, hb, hml, hown, hts, hK, hr, hlk, hin, hev, hEV⟩ := C
  have e1 : npc = pc + 1 := Nat.eq_of_beq_eq_true hc
  subst e1
  rw [Nat.add_sub_cancel_left] at hd
  obtain ⟨x, y, t, rfl, h⟩ := jb2_some h
  have o1 := jokL_c hs
  have o2 := jokL_c o1.2
  exact js_push hF h hL (jokJ_w _) o2.2 hM hn (fun H locs ls Q hP hS hl k => lv_ladd hx hb hd (by rw [← j_ladd]; exact k))
theorem js_lsub (C : jC p s m args meth c q D cA ad EV) (hd : decode q.2.1 pc = .ok (.lsub, npc - pc)) (hc : jchk1 q pc (.lsub) npc aux = true) (h : jstep (.lsub) aux L st mem call kf kj = some r) (hL : jokL L) (hs : jokL st) (hM : jokM mem) (hn : L.length = jMl q) (hF : jKF p l e s m args below meth c d D cA ad q r npc kf) (hJ : ∀ t, jKF p l e s m args below meth c d D cA ad q r t (kj t)) : jG p l e s m args below meth c d D cA ad q r pc L st mem := by
  obtain ⟨hx, hb, hml, hown, hts, hK, hr, hlk, hin, hev, hEV⟩ := C
  have e1 : npc = pc + 1 := Nat.eq_of_beq_eq_true hc
  subst e1
  rw [Nat.add_sub_cancel_left] at hd
  obtain ⟨x, y, t, rfl, h⟩ := jb2_some h
  have o1 := jokL_c hs
  have o2 := jokL_c o1.2
  exact js_push hF h hL (jokJ_w _) o2.2 hM hn (fun H locs ls Q hP hS hl k => lv_lsub hx hb hd (by rw [← j_lsub]; exact k))
theorem js_lmul (C : jC p s m args meth c q D cA ad EV) (hd : decode q.2.1 pc = .ok (.lmul, npc - pc)) (hc : jchk1 q pc (.lmul) npc aux = true) (h : jstep (.lmul) aux L st mem call kf kj = some r) (hL : jokL L) (hs : jokL st) (hM : jokM mem) (hn : L.length = jMl q) (hF : jKF p l e s m args below meth c d D cA ad q r npc kf) (hJ : ∀ t, jKF p l e s m args below meth c d D cA ad q r t (kj t)) : jG p l e s m args below meth c d D cA ad q r pc L st mem := by
  obtain ⟨hx, hb, hml, hown, hts, hK, hr, hlk, hin, hev, hEV⟩ := C
  have e1 : npc = pc + 1 := Nat.eq_of_beq_eq_true hc
  subst e1
  rw [Nat.add_sub_cancel_left] at hd
  obtain ⟨x, y, t, rfl, h⟩ := jb2_some h
  have o1 := jokL_c hs
  have o2 := jokL_c o1.2
  exact js_push hF h hL (jokJ_w _) o2.2 hM hn (fun H locs ls Q hP hS hl k => lv_lmul hx hb hd (by rw [← j_lmul]; exact k))
theorem js_idiv (C : jC p s m args meth c q D cA ad EV) (hd : decode q.2.1 pc = .ok (.idiv, npc - pc)) (hc : jchk1 q pc (.idiv) npc aux = true) (h : jstep (.idiv) aux L st mem call kf kj = some r) (hL : jokL L) (hs : jokL st) (hM : jokM mem) (hn : L.length = jMl q) (hF : jKF p l e s m args below meth c d D cA ad q r npc kf) (hJ : ∀ t, jKF p l e s m args below meth c d D cA ad q r t (kj t)) : jG p l e s m args below meth c d D cA ad q r pc L st mem := by
  obtain ⟨hx, hb, hml, hown, hts, hK, hr, hlk, hin, hev, hEV⟩ := C
  have e1 : npc = pc + 1 := Nat.eq_of_beq_eq_true hc
  subst e1
  rw [Nat.add_sub_cancel_left] at hd
  obtain ⟨x, y, t, rfl, h⟩ := jb1_some h
  obtain ⟨hz, h⟩ := jnz_some h
  have o1 := jokL_c hs
  have o2 := jokL_c o1.2
  exact js_push hF h hL (jokI_w _) o2.2 hM hn (fun H locs ls Q hP hS hl k => lv_idiv hx hb hd (fun z => hz ((j_eq o1.1 jok0).mp z)) (by rw [← j_div o2.1 o1.1]; exact k))
theorem js_irem (C : jC p s m args meth c q D cA ad EV) (hd : decode q.2.1 pc = .ok (.irem, npc - pc)) (hc : jchk1 q pc (.irem) npc aux = true) (h : jstep (.irem) aux L st mem call kf kj = some r) (hL : jokL L) (hs : jokL st) (hM : jokM mem) (hn : L.length = jMl q) (hF : jKF p l e s m args below meth c d D cA ad q r npc kf) (hJ : ∀ t, jKF p l e s m args below meth c d D cA ad q r t (kj t)) : jG p l e s m args below meth c d D cA ad q r pc L st mem := by
  obtain ⟨hx, hb, hml, hown, hts, hK, hr, hlk, hin, hev, hEV⟩ := C
  have e1 : npc = pc + 1 := Nat.eq_of_beq_eq_true hc
  subst e1
  rw [Nat.add_sub_cancel_left] at hd
  obtain ⟨x, y, t, rfl, h⟩ := jb1_some h
  obtain ⟨hz, h⟩ := jnz_some h
  have o1 := jokL_c hs
  have o2 := jokL_c o1.2
  exact js_push hF h hL (jok_tmod o2.1) o2.2 hM hn (fun H locs ls Q hP hS hl k => lv_irem hx hb hd (fun z => hz ((j_eq o1.1 jok0).mp z)) (by rw [← j_rem o2.1 o1.1]; exact k))
theorem js_ldiv (C : jC p s m args meth c q D cA ad EV) (hd : decode q.2.1 pc = .ok (.ldiv, npc - pc)) (hc : jchk1 q pc (.ldiv) npc aux = true) (h : jstep (.ldiv) aux L st mem call kf kj = some r) (hL : jokL L) (hs : jokL st) (hM : jokM mem) (hn : L.length = jMl q) (hF : jKF p l e s m args below meth c d D cA ad q r npc kf) (hJ : ∀ t, jKF p l e s m args below meth c d D cA ad q r t (kj t)) : jG p l e s m args below meth c d D cA ad q r pc L st mem := by
  obtain ⟨hx, hb, hml, hown, hts, hK, hr, hlk, hin, hev, hEV⟩ := C
  have e1 : npc = pc + 1 := Nat.eq_of_beq_eq_true hc
  subst e1
  rw [Nat.add_sub_cancel_left] at hd
  obtain ⟨x, y, t, rfl, h⟩ := jb2_some h
  obtain ⟨hz, h⟩ := jnz_some h
  have o1 := jokL_c hs
  have o2 := jokL_c o1.2
  exact js_push hF h hL (jokJ_w _) o2.2 hM hn (fun H locs ls Q hP hS hl k => lv_ldiv hx hb hd (fun z => hz (by have z2 := congrArg Int64.toInt z; rw [jtJ o1.1] at z2; exact z2)) (by rw [← j_ldiv o2.1 o1.1]; exact k))
theorem js_lrem (C : jC p s m args meth c q D cA ad EV) (hd : decode q.2.1 pc = .ok (.lrem, npc - pc)) (hc : jchk1 q pc (.lrem) npc aux = true) (h : jstep (.lrem) aux L st mem call kf kj = some r) (hL : jokL L) (hs : jokL st) (hM : jokM mem) (hn : L.length = jMl q) (hF : jKF p l e s m args below meth c d D cA ad q r npc kf) (hJ : ∀ t, jKF p l e s m args below meth c d D cA ad q r t (kj t)) : jG p l e s m args below meth c d D cA ad q r pc L st mem := by
  obtain ⟨hx, hb, hml, hown, hts, hK, hr, hlk, hin, hev, hEV⟩ := C
  have e1 : npc = pc + 1 := Nat.eq_of_beq_eq_true hc
  subst e1
  rw [Nat.add_sub_cancel_left] at hd
  obtain ⟨x, y, t, rfl, h⟩ := jb2_some h
  obtain ⟨hz, h⟩ := jnz_some h
  have o1 := jokL_c hs
  have o2 := jokL_c o1.2
  exact js_push hF h hL (jok_ltmod o2.1) o2.2 hM hn (fun H locs ls Q hP hS hl k => lv_lrem hx hb hd (fun z => hz (by have z2 := congrArg Int64.toInt z; rw [jtJ o1.1] at z2; exact z2)) (by rw [← j_lrem o2.1 o1.1]; exact k))
theorem js_ishl (C : jC p s m args meth c q D cA ad EV) (hd : decode q.2.1 pc = .ok (.ishl, npc - pc)) (hc : jchk1 q pc (.ishl) npc aux = true) (h : jstep (.ishl) aux L st mem call kf kj = some r) (hL : jokL L) (hs : jokL st) (hM : jokM mem) (hn : L.length = jMl q) (hF : jKF p l e s m args below meth c d D cA ad q r npc kf) (hJ : ∀ t, jKF p l e s m args below meth c d D cA ad q r t (kj t)) : jG p l e s m args below meth c d D cA ad q r pc L st mem := by
  obtain ⟨hx, hb, hml, hown, hts, hK, hr, hlk, hin, hev, hEV⟩ := C
  have e1 : npc = pc + 1 := Nat.eq_of_beq_eq_true hc
  subst e1
  rw [Nat.add_sub_cancel_left] at hd
  obtain ⟨x, y, t, rfl, h⟩ := jb1_some h
  have o1 := jokL_c hs
  have o2 := jokL_c o1.2
  exact js_push hF h hL (jokI_t _) o2.2 hM hn (fun H locs ls Q hP hS hl k => lv_ishl hx hb hd (by rw [show Int32.ofInt x <<< (Int32.ofInt y &&& 31) = Int32.ofInt (jshl x y) from (Int32.ofInt_toInt _).symm]; exact k))
theorem js_ishr (C : jC p s m args meth c q D cA ad EV) (hd : decode q.2.1 pc = .ok (.ishr, npc - pc)) (hc : jchk1 q pc (.ishr) npc aux = true) (h : jstep (.ishr) aux L st mem call kf kj = some r) (hL : jokL L) (hs : jokL st) (hM : jokM mem) (hn : L.length = jMl q) (hF : jKF p l e s m args below meth c d D cA ad q r npc kf) (hJ : ∀ t, jKF p l e s m args below meth c d D cA ad q r t (kj t)) : jG p l e s m args below meth c d D cA ad q r pc L st mem := by
  obtain ⟨hx, hb, hml, hown, hts, hK, hr, hlk, hin, hev, hEV⟩ := C
  have e1 : npc = pc + 1 := Nat.eq_of_beq_eq_true hc
  subst e1
  rw [Nat.add_sub_cancel_left] at hd
  obtain ⟨x, y, t, rfl, h⟩ := jb1_some h
  have o1 := jokL_c hs
  have o2 := jokL_c o1.2
  exact js_push hF h hL (jokI_t _) o2.2 hM hn (fun H locs ls Q hP hS hl k => lv_ishr hx hb hd (by rw [show Int32.ofInt x >>> (Int32.ofInt y &&& 31) = Int32.ofInt (jshr x y) from (Int32.ofInt_toInt _).symm]; exact k))
theorem js_iand (C : jC p s m args meth c q D cA ad EV) (hd : decode q.2.1 pc = .ok (.iand, npc - pc)) (hc : jchk1 q pc (.iand) npc aux = true) (h : jstep (.iand) aux L st mem call kf kj = some r) (hL : jokL L) (hs : jokL st) (hM : jokM mem) (hn : L.length = jMl q) (hF : jKF p l e s m args below meth c d D cA ad q r npc kf) (hJ : ∀ t, jKF p l e s m args below meth c d D cA ad q r t (kj t)) : jG p l e s m args below meth c d D cA ad q r pc L st mem := by
  obtain ⟨hx, hb, hml, hown, hts, hK, hr, hlk, hin, hev, hEV⟩ := C
  have e1 : npc = pc + 1 := Nat.eq_of_beq_eq_true hc
  subst e1
  rw [Nat.add_sub_cancel_left] at hd
  obtain ⟨x, y, t, rfl, h⟩ := jb1_some h
  have o1 := jokL_c hs
  have o2 := jokL_c o1.2
  exact js_push hF h hL (jokI_t _) o2.2 hM hn (fun H locs ls Q hP hS hl k => lv_iand hx hb hd (by rw [show Int32.ofInt x &&& Int32.ofInt y = Int32.ofInt (jand x y) from (Int32.ofInt_toInt _).symm]; exact k))
theorem js_ior (C : jC p s m args meth c q D cA ad EV) (hd : decode q.2.1 pc = .ok (.ior, npc - pc)) (hc : jchk1 q pc (.ior) npc aux = true) (h : jstep (.ior) aux L st mem call kf kj = some r) (hL : jokL L) (hs : jokL st) (hM : jokM mem) (hn : L.length = jMl q) (hF : jKF p l e s m args below meth c d D cA ad q r npc kf) (hJ : ∀ t, jKF p l e s m args below meth c d D cA ad q r t (kj t)) : jG p l e s m args below meth c d D cA ad q r pc L st mem := by
  obtain ⟨hx, hb, hml, hown, hts, hK, hr, hlk, hin, hev, hEV⟩ := C
  have e1 : npc = pc + 1 := Nat.eq_of_beq_eq_true hc
  subst e1
  rw [Nat.add_sub_cancel_left] at hd
  obtain ⟨x, y, t, rfl, h⟩ := jb1_some h
  have o1 := jokL_c hs
  have o2 := jokL_c o1.2
  exact js_push hF h hL (jokI_t _) o2.2 hM hn (fun H locs ls Q hP hS hl k => lv_ior hx hb hd (by rw [show Int32.ofInt x ||| Int32.ofInt y = Int32.ofInt (jor x y) from (Int32.ofInt_toInt _).symm]; exact k))
theorem js_land (C : jC p s m args meth c q D cA ad EV) (hd : decode q.2.1 pc = .ok (.land, npc - pc)) (hc : jchk1 q pc (.land) npc aux = true) (h : jstep (.land) aux L st mem call kf kj = some r) (hL : jokL L) (hs : jokL st) (hM : jokM mem) (hn : L.length = jMl q) (hF : jKF p l e s m args below meth c d D cA ad q r npc kf) (hJ : ∀ t, jKF p l e s m args below meth c d D cA ad q r t (kj t)) : jG p l e s m args below meth c d D cA ad q r pc L st mem := by
  obtain ⟨hx, hb, hml, hown, hts, hK, hr, hlk, hin, hev, hEV⟩ := C
  have e1 : npc = pc + 1 := Nat.eq_of_beq_eq_true hc
  subst e1
  rw [Nat.add_sub_cancel_left] at hd
  obtain ⟨x, y, t, rfl, h⟩ := jb2_some h
  have o1 := jokL_c hs
  have o2 := jokL_c o1.2
  exact js_push hF h hL (jokJ_t _) o2.2 hM hn (fun H locs ls Q hP hS hl k => lv_land hx hb hd (by rw [show Int64.ofInt x &&& Int64.ofInt y = Int64.ofInt (jland x y) from (Int64.ofInt_toInt _).symm]; exact k))
theorem js_lor (C : jC p s m args meth c q D cA ad EV) (hd : decode q.2.1 pc = .ok (.lor, npc - pc)) (hc : jchk1 q pc (.lor) npc aux = true) (h : jstep (.lor) aux L st mem call kf kj = some r) (hL : jokL L) (hs : jokL st) (hM : jokM mem) (hn : L.length = jMl q) (hF : jKF p l e s m args below meth c d D cA ad q r npc kf) (hJ : ∀ t, jKF p l e s m args below meth c d D cA ad q r t (kj t)) : jG p l e s m args below meth c d D cA ad q r pc L st mem := by
  obtain ⟨hx, hb, hml, hown, hts, hK, hr, hlk, hin, hev, hEV⟩ := C
  have e1 : npc = pc + 1 := Nat.eq_of_beq_eq_true hc
  subst e1
  rw [Nat.add_sub_cancel_left] at hd
  obtain ⟨x, y, t, rfl, h⟩ := jb2_some h
  have o1 := jokL_c hs
  have o2 := jokL_c o1.2
  exact js_push hF h hL (jokJ_t _) o2.2 hM hn (fun H locs ls Q hP hS hl k => lv_lor hx hb hd (by rw [show Int64.ofInt x ||| Int64.ofInt y = Int64.ofInt (jlor x y) from (Int64.ofInt_toInt _).symm]; exact k))
theorem js_iushr (C : jC p s m args meth c q D cA ad EV) (hd : decode q.2.1 pc = .ok (.iushr, npc - pc)) (hc : jchk1 q pc (.iushr) npc aux = true) (h : jstep (.iushr) aux L st mem call kf kj = some r) (hL : jokL L) (hs : jokL st) (hM : jokM mem) (hn : L.length = jMl q) (hF : jKF p l e s m args below meth c d D cA ad q r npc kf) (hJ : ∀ t, jKF p l e s m args below meth c d D cA ad q r t (kj t)) : jG p l e s m args below meth c d D cA ad q r pc L st mem := by
  obtain ⟨hx, hb, hml, hown, hts, hK, hr, hlk, hin, hev, hEV⟩ := C
  have e1 : npc = pc + 1 := Nat.eq_of_beq_eq_true hc
  subst e1
  rw [Nat.add_sub_cancel_left] at hd
  obtain ⟨x, y, t, rfl, h⟩ := jb1_some h
  have o1 := jokL_c hs
  have o2 := jokL_c o1.2
  exact js_push hF h hL (jokI_t _) o2.2 hM hn (fun H locs ls Q hP hS hl k => lv_iushr hx hb hd (Int32.ofInt_toInt _).symm k)
theorem js_lshl (C : jC p s m args meth c q D cA ad EV) (hd : decode q.2.1 pc = .ok (.lshl, npc - pc)) (hc : jchk1 q pc (.lshl) npc aux = true) (h : jstep (.lshl) aux L st mem call kf kj = some r) (hL : jokL L) (hs : jokL st) (hM : jokM mem) (hn : L.length = jMl q) (hF : jKF p l e s m args below meth c d D cA ad q r npc kf) (hJ : ∀ t, jKF p l e s m args below meth c d D cA ad q r t (kj t)) : jG p l e s m args below meth c d D cA ad q r pc L st mem := by
  obtain ⟨hx, hb, hml, hown, hts, hK, hr, hlk, hin, hev, hEV⟩ := C
  have e1 : npc = pc + 1 := Nat.eq_of_beq_eq_true hc
  subst e1
  rw [Nat.add_sub_cancel_left] at hd
  obtain ⟨y, t, rfl, h⟩ := jpI_some h
  obtain ⟨x, t, rfl, h⟩ := jpJ_some h
  have o1 := jokL_c hs
  have o2 := jokL_c o1.2
  exact js_push hF h hL (jokJ_t _) o2.2 hM hn (fun H locs ls Q hP hS hl k => lv_lshl hx hb hd (Int64.ofInt_toInt _).symm k)
theorem js_lcmp (C : jC p s m args meth c q D cA ad EV) (hd : decode q.2.1 pc = .ok (.lcmp, npc - pc)) (hc : jchk1 q pc (.lcmp) npc aux = true) (h : jstep (.lcmp) aux L st mem call kf kj = some r) (hL : jokL L) (hs : jokL st) (hM : jokM mem) (hn : L.length = jMl q) (hF : jKF p l e s m args below meth c d D cA ad q r npc kf) (hJ : ∀ t, jKF p l e s m args below meth c d D cA ad q r t (kj t)) : jG p l e s m args below meth c d D cA ad q r pc L st mem := by
  obtain ⟨hx, hb, hml, hown, hts, hK, hr, hlk, hin, hev, hEV⟩ := C
  have e1 : npc = pc + 1 := Nat.eq_of_beq_eq_true hc
  subst e1
  rw [Nat.add_sub_cancel_left] at hd
  obtain ⟨x, y, t, rfl, h⟩ := jb2_some h
  have o1 := jokL_c hs
  have o2 := jokL_c o1.2
  have ok : jokI (jlcmp x y) := by
    unfold jlcmp
    split
    · exact ⟨by omega, by omega⟩
    · split <;> exact ⟨by omega, by omega⟩
  exact js_push hF h hL ok o2.2 hM hn (fun H locs ls Q hP hS hl k => W.lcmp hx hb hd (by rw [j_cmp o2.1 o1.1]; exact k))
theorem js_i2l (C : jC p s m args meth c q D cA ad EV) (hd : decode q.2.1 pc = .ok (.i2l, npc - pc)) (hc : jchk1 q pc (.i2l) npc aux = true) (h : jstep (.i2l) aux L st mem call kf kj = some r) (hL : jokL L) (hs : jokL st) (hM : jokM mem) (hn : L.length = jMl q) (hF : jKF p l e s m args below meth c d D cA ad q r npc kf) (hJ : ∀ t, jKF p l e s m args below meth c d D cA ad q r t (kj t)) : jG p l e s m args below meth c d D cA ad q r pc L st mem := by
  obtain ⟨hx, hb, hml, hown, hts, hK, hr, hlk, hin, hev, hEV⟩ := C
  have e1 : npc = pc + 1 := Nat.eq_of_beq_eq_true hc
  subst e1
  rw [Nat.add_sub_cancel_left] at hd
  obtain ⟨x, t, rfl, h⟩ := jpI_some h
  have o1 := jokL_c hs
  exact js_push hF h hL (jIJ o1.1) o1.2 hM hn (fun H locs ls Q hP hS hl k => lv_i2l hx hb hd (j_i2l o1.1) k)
theorem js_l2i (C : jC p s m args meth c q D cA ad EV) (hd : decode q.2.1 pc = .ok (.l2i, npc - pc)) (hc : jchk1 q pc (.l2i) npc aux = true) (h : jstep (.l2i) aux L st mem call kf kj = some r) (hL : jokL L) (hs : jokL st) (hM : jokM mem) (hn : L.length = jMl q) (hF : jKF p l e s m args below meth c d D cA ad q r npc kf) (hJ : ∀ t, jKF p l e s m args below meth c d D cA ad q r t (kj t)) : jG p l e s m args below meth c d D cA ad q r pc L st mem := by
  obtain ⟨hx, hb, hml, hown, hts, hK, hr, hlk, hin, hev, hEV⟩ := C
  have e1 : npc = pc + 1 := Nat.eq_of_beq_eq_true hc
  subst e1
  rw [Nat.add_sub_cancel_left] at hd
  obtain ⟨x, t, rfl, h⟩ := jpJ_some h
  have o1 := jokL_c hs
  exact js_push hF h hL (jokI_w _) o1.2 hM hn (fun H locs ls Q hP hS hl k => lv_l2i hx hb hd (j_l2i o1.1) k)
theorem js_i2b (C : jC p s m args meth c q D cA ad EV) (hd : decode q.2.1 pc = .ok (.i2b, npc - pc)) (hc : jchk1 q pc (.i2b) npc aux = true) (h : jstep (.i2b) aux L st mem call kf kj = some r) (hL : jokL L) (hs : jokL st) (hM : jokM mem) (hn : L.length = jMl q) (hF : jKF p l e s m args below meth c d D cA ad q r npc kf) (hJ : ∀ t, jKF p l e s m args below meth c d D cA ad q r t (kj t)) : jG p l e s m args below meth c d D cA ad q r pc L st mem := by
  obtain ⟨hx, hb, hml, hown, hts, hK, hr, hlk, hin, hev, hEV⟩ := C
  have e1 : npc = pc + 1 := Nat.eq_of_beq_eq_true hc
  subst e1
  rw [Nat.add_sub_cancel_left] at hd
  obtain ⟨x, t, rfl, h⟩ := jpI_some h
  have o1 := jokL_c hs
  exact js_push hF h hL (jokI_8 _) o1.2 hM hn (fun H locs ls Q hP hS hl k => lv_i2b hx hb hd (j_i2b o1.1) k)
theorem js_iconst {n : Int} (C : jC p s m args meth c q D cA ad EV) (hd : decode q.2.1 pc = .ok (.iconst n, npc - pc)) (hc : jchk1 q pc (.iconst n) npc aux = true) (h : jstep (.iconst n) aux L st mem call kf kj = some r) (hL : jokL L) (hs : jokL st) (hM : jokM mem) (hn : L.length = jMl q) (hF : jKF p l e s m args below meth c d D cA ad q r npc kf) (hJ : ∀ t, jKF p l e s m args below meth c d D cA ad q r t (kj t)) : jG p l e s m args below meth c d D cA ad q r pc L st mem := by
  obtain ⟨hx, hb, hml, hown, hts, hK, hr, hlk, hin, hev, hEV⟩ := C
  have hcs := (Bool.and_eq_true_iff.mp hc)
  have e1 : npc = pc + 1 := Nat.eq_of_beq_eq_true hcs.1
  subst e1
  rw [Nat.add_sub_cancel_left] at hd
  have rg : jokI n := by
    have z := Bool.and_eq_true_iff.mp hcs.2
    exact ⟨of_decide_eq_true z.1, of_decide_eq_true z.2⟩
  exact js_push (v := vI n) hF h hL rg hs hM hn (fun H locs ls Q hP hS hl k => lv_iconst hx hb hd rfl k)
theorem js_bipush {n : Int} (C : jC p s m args meth c q D cA ad EV) (hd : decode q.2.1 pc = .ok (.bipush n, npc - pc)) (hc : jchk1 q pc (.bipush n) npc aux = true) (h : jstep (.bipush n) aux L st mem call kf kj = some r) (hL : jokL L) (hs : jokL st) (hM : jokM mem) (hn : L.length = jMl q) (hF : jKF p l e s m args below meth c d D cA ad q r npc kf) (hJ : ∀ t, jKF p l e s m args below meth c d D cA ad q r t (kj t)) : jG p l e s m args below meth c d D cA ad q r pc L st mem := by
  obtain ⟨hx, hb, hml, hown, hts, hK, hr, hlk, hin, hev, hEV⟩ := C
  have hc0 := Bool.and_eq_true_iff.mp hc
  have hc := hc0.1
  have hcs := (Bool.and_eq_true_iff.mp hc)
  have e1 : npc = pc + 2 := Nat.eq_of_beq_eq_true hcs.1
  subst e1
  rw [Nat.add_sub_cancel_left] at hd
  have rg : jokI n := by
    have z := Bool.and_eq_true_iff.mp hcs.2
    exact ⟨of_decide_eq_true z.1, of_decide_eq_true z.2⟩
  exact js_push (v := vI n) hF h hL rg hs hM hn (fun H locs ls Q hP hS hl k => lv_bipush hx hb hd (of_decide_eq_true hc0.2) k)
theorem js_sipush {n : Int} (C : jC p s m args meth c q D cA ad EV) (hd : decode q.2.1 pc = .ok (.sipush n, npc - pc)) (hc : jchk1 q pc (.sipush n) npc aux = true) (h : jstep (.sipush n) aux L st mem call kf kj = some r) (hL : jokL L) (hs : jokL st) (hM : jokM mem) (hn : L.length = jMl q) (hF : jKF p l e s m args below meth c d D cA ad q r npc kf) (hJ : ∀ t, jKF p l e s m args below meth c d D cA ad q r t (kj t)) : jG p l e s m args below meth c d D cA ad q r pc L st mem := by
  obtain ⟨hx, hb, hml, hown, hts, hK, hr, hlk, hin, hev, hEV⟩ := C
  have hc0 := Bool.and_eq_true_iff.mp hc
  have hc := hc0.1
  have hcs := (Bool.and_eq_true_iff.mp hc)
  have e1 : npc = pc + 3 := Nat.eq_of_beq_eq_true hcs.1
  subst e1
  rw [Nat.add_sub_cancel_left] at hd
  have rg : jokI n := by
    have z := Bool.and_eq_true_iff.mp hcs.2
    exact ⟨of_decide_eq_true z.1, of_decide_eq_true z.2⟩
  exact js_push (v := vI n) hF h hL rg hs hM hn (fun H locs ls Q hP hS hl k => lv_sipush hx hb hd (of_decide_eq_true hc0.2) k)
theorem js_lconst {n : Fin 2} (C : jC p s m args meth c q D cA ad EV) (hd : decode q.2.1 pc = .ok (.lconst n, npc - pc)) (hc : jchk1 q pc (.lconst n) npc aux = true) (h : jstep (.lconst n) aux L st mem call kf kj = some r) (hL : jokL L) (hs : jokL st) (hM : jokM mem) (hn : L.length = jMl q) (hF : jKF p l e s m args below meth c d D cA ad q r npc kf) (hJ : ∀ t, jKF p l e s m args below meth c d D cA ad q r t (kj t)) : jG p l e s m args below meth c d D cA ad q r pc L st mem := by
  obtain ⟨hx, hb, hml, hown, hts, hK, hr, hlk, hin, hev, hEV⟩ := C
  have e1 : npc = pc + 1 := Nat.eq_of_beq_eq_true hc
  subst e1
  rw [Nat.add_sub_cancel_left] at hd
  have z : ∀ n : Fin 2, Int64.ofNat (n : Nat) = Int64.ofInt ((n.val : Nat) : Int) := by decide
  have o : jokJ ((n.val : Nat) : Int) := ⟨by omega, by have := n.isLt; omega⟩
  exact js_push (v := vJ (n.val : Int)) hF h hL o hs hM hn (fun H locs ls Q hP hS hl k => lv_lconst hx hb hd (z n) k)
theorem js_iload {i : Nat} (C : jC p s m args meth c q D cA ad EV) (hd : decode q.2.1 pc = .ok (.iload i, npc - pc)) (hc : jchk1 q pc (.iload i) npc aux = true) (h : jstep (.iload i) aux L st mem call kf kj = some r) (hL : jokL L) (hs : jokL st) (hM : jokM mem) (hn : L.length = jMl q) (hF : jKF p l e s m args below meth c d D cA ad q r npc kf) (hJ : ∀ t, jKF p l e s m args below meth c d D cA ad q r t (kj t)) : jG p l e s m args below meth c d D cA ad q r pc L st mem := by
  obtain ⟨hx, hb, hml, hown, hts, hK, hr, hlk, hin, hev, hEV⟩ := C
  have e1 : npc = pc + 2 := Nat.eq_of_beq_eq_true hc
  subst e1
  rw [Nat.add_sub_cancel_left] at hd
  dsimp only [jstep] at h
  split at h
  · rename_i x hx2
    exact js_push hF h hL (jokL_nth hL hx2 (fun z => by cases z)) hs hM hn (fun H locs ls Q hP hS hl k => lv_iload hx hb hd (hl.2.2 i _ (jnth_get hx2 (fun z => by cases z)) (fun z => by cases z)) k)
  · cases h
theorem js_iload_n {i : Fin 4} (C : jC p s m args meth c q D cA ad EV) (hd : decode q.2.1 pc = .ok (.iload_n i, npc - pc)) (hc : jchk1 q pc (.iload_n i) npc aux = true) (h : jstep (.iload_n i) aux L st mem call kf kj = some r) (hL : jokL L) (hs : jokL st) (hM : jokM mem) (hn : L.length = jMl q) (hF : jKF p l e s m args below meth c d D cA ad q r npc kf) (hJ : ∀ t, jKF p l e s m args below meth c d D cA ad q r t (kj t)) : jG p l e s m args below meth c d D cA ad q r pc L st mem := by
  obtain ⟨hx, hb, hml, hown, hts, hK, hr, hlk, hin, hev, hEV⟩ := C
  have e1 : npc = pc + 1 := Nat.eq_of_beq_eq_true hc
  subst e1
  rw [Nat.add_sub_cancel_left] at hd
  dsimp only [jstep] at h
  split at h
  · rename_i x hx2
    exact js_push hF h hL (jokL_nth hL hx2 (fun z => by cases z)) hs hM hn (fun H locs ls Q hP hS hl k => lv_iload_n hx hb hd rfl (hl.2.2 i.val _ (jnth_get hx2 (fun z => by cases z)) (fun z => by cases z)) k)
  · cases h
theorem js_lload {i : Nat} (C : jC p s m args meth c q D cA ad EV) (hd : decode q.2.1 pc = .ok (.lload i, npc - pc)) (hc : jchk1 q pc (.lload i) npc aux = true) (h : jstep (.lload i) aux L st mem call kf kj = some r) (hL : jokL L) (hs : jokL st) (hM : jokM mem) (hn : L.length = jMl q) (hF : jKF p l e s m args below meth c d D cA ad q r npc kf) (hJ : ∀ t, jKF p l e s m args below meth c d D cA ad q r t (kj t)) : jG p l e s m args below meth c d D cA ad q r pc L st mem := by
  obtain ⟨hx, hb, hml, hown, hts, hK, hr, hlk, hin, hev, hEV⟩ := C
  have e1 : npc = pc + 2 := Nat.eq_of_beq_eq_true hc
  subst e1
  rw [Nat.add_sub_cancel_left] at hd
  dsimp only [jstep] at h
  split at h
  · rename_i x hx2
    exact js_push hF h hL (jokL_nth hL hx2 (fun z => by cases z)) hs hM hn (fun H locs ls Q hP hS hl k => lv_lload hx hb hd (hl.2.2 i _ (jnth_get hx2 (fun z => by cases z)) (fun z => by cases z)) k)
  · cases h
theorem js_lload_n {i : Fin 4} (C : jC p s m args meth c q D cA ad EV) (hd : decode q.2.1 pc = .ok (.lload_n i, npc - pc)) (hc : jchk1 q pc (.lload_n i) npc aux = true) (h : jstep (.lload_n i) aux L st mem call kf kj = some r) (hL : jokL L) (hs : jokL st) (hM : jokM mem) (hn : L.length = jMl q) (hF : jKF p l e s m args below meth c d D cA ad q r npc kf) (hJ : ∀ t, jKF p l e s m args below meth c d D cA ad q r t (kj t)) : jG p l e s m args below meth c d D cA ad q r pc L st mem := by
  obtain ⟨hx, hb, hml, hown, hts, hK, hr, hlk, hin, hev, hEV⟩ := C
  have e1 : npc = pc + 1 := Nat.eq_of_beq_eq_true hc
  subst e1
  rw [Nat.add_sub_cancel_left] at hd
  dsimp only [jstep] at h
  split at h
  · rename_i x hx2
    exact js_push hF h hL (jokL_nth hL hx2 (fun z => by cases z)) hs hM hn (fun H locs ls Q hP hS hl k => lv_lload_n hx hb hd rfl (hl.2.2 i.val _ (jnth_get hx2 (fun z => by cases z)) (fun z => by cases z)) k)
  · cases h
theorem js_aload {i : Nat} (C : jC p s m args meth c q D cA ad EV) (hd : decode q.2.1 pc = .ok (.aload i, npc - pc)) (hc : jchk1 q pc (.aload i) npc aux = true) (h : jstep (.aload i) aux L st mem call kf kj = some r) (hL : jokL L) (hs : jokL st) (hM : jokM mem) (hn : L.length = jMl q) (hF : jKF p l e s m args below meth c d D cA ad q r npc kf) (hJ : ∀ t, jKF p l e s m args below meth c d D cA ad q r t (kj t)) : jG p l e s m args below meth c d D cA ad q r pc L st mem := by
  obtain ⟨hx, hb, hml, hown, hts, hK, hr, hlk, hin, hev, hEV⟩ := C
  have e1 : npc = pc + 2 := Nat.eq_of_beq_eq_true hc
  subst e1
  rw [Nat.add_sub_cancel_left] at hd
  dsimp only [jstep] at h
  split at h
  · rename_i w hx2
    obtain ⟨f, o⟩ := w
    have ok := jokL_nth hL hx2 (fun z => by cases z)
    cases o with
    | none => exact js_push hF h hL ok hs hM hn (fun H locs ls Q hP hS hl k => lv_aloadN hx hb hd (hl.2.2 i _ (jnth_get hx2 (fun z => by cases z)) (fun z => by cases z)) k)
    | some a => exact js_push hF h hL ok hs hM hn (fun H locs ls Q hP hS hl k => lv_aload hx hb hd (hl.2.2 i _ (jnth_get hx2 (fun z => by cases z)) (fun z => by cases z)) k)
  · cases h
theorem js_aload_n {i : Fin 4} (C : jC p s m args meth c q D cA ad EV) (hd : decode q.2.1 pc = .ok (.aload_n i, npc - pc)) (hc : jchk1 q pc (.aload_n i) npc aux = true) (h : jstep (.aload_n i) aux L st mem call kf kj = some r) (hL : jokL L) (hs : jokL st) (hM : jokM mem) (hn : L.length = jMl q) (hF : jKF p l e s m args below meth c d D cA ad q r npc kf) (hJ : ∀ t, jKF p l e s m args below meth c d D cA ad q r t (kj t)) : jG p l e s m args below meth c d D cA ad q r pc L st mem := by
  obtain ⟨hx, hb, hml, hown, hts, hK, hr, hlk, hin, hev, hEV⟩ := C
  have e1 : npc = pc + 1 := Nat.eq_of_beq_eq_true hc
  subst e1
  rw [Nat.add_sub_cancel_left] at hd
  dsimp only [jstep] at h
  split at h
  · rename_i w hx2
    obtain ⟨f, o⟩ := w
    have ok := jokL_nth hL hx2 (fun z => by cases z)
    cases o with
    | none => exact js_push hF h hL ok hs hM hn (fun H locs ls Q hP hS hl k => lv_aload_nN hx hb hd rfl (hl.2.2 i.val _ (jnth_get hx2 (fun z => by cases z)) (fun z => by cases z)) k)
    | some a => exact js_push hF h hL ok hs hM hn (fun H locs ls Q hP hS hl k => lv_aload_n hx hb hd rfl (hl.2.2 i.val _ (jnth_get hx2 (fun z => by cases z)) (fun z => by cases z)) k)
  · cases h
theorem js_istore {i : Nat} (C : jC p s m args meth c q D cA ad EV) (hd : decode q.2.1 pc = .ok (.istore i, npc - pc)) (hc : jchk1 q pc (.istore i) npc aux = true) (h : jstep (.istore i) aux L st mem call kf kj = some r) (hL : jokL L) (hs : jokL st) (hM : jokM mem) (hn : L.length = jMl q) (hF : jKF p l e s m args below meth c d D cA ad q r npc kf) (hJ : ∀ t, jKF p l e s m args below meth c d D cA ad q r t (kj t)) : jG p l e s m args below meth c d D cA ad q r pc L st mem := by
  obtain ⟨hx, hb, hml, hown, hts, hK, hr, hlk, hin, hev, hEV⟩ := C
  have hcs := (Bool.and_eq_true_iff.mp hc)
  have e1 : npc = pc + 2 := Nat.eq_of_beq_eq_true hcs.1
  subst e1
  rw [Nat.add_sub_cancel_left] at hd
  obtain ⟨x, t, rfl, h2⟩ := jpI_some h
  rw [jst1_eq] at h2
  have o1 := jokL_c hs
  have g := hF _ t mem h2 (jokL_set (jokL_inv _ hL) o1.1) o1.2 hM (by rw [jset_len, jinv_len]; exact hn)
  refine fun H locs ls hP hS hl => ?_
  exact lv_istore hx hb hd (jL_has hl) (by rw [hn]; exact Nat.le_of_ble_eq_true hcs.2) rfl (fun ls' h' => g H locs ls' hP hS (jL_st1 h'))
theorem js_istore_n {i : Fin 4} (C : jC p s m args meth c q D cA ad EV) (hd : decode q.2.1 pc = .ok (.istore_n i, npc - pc)) (hc : jchk1 q pc (.istore_n i) npc aux = true) (h : jstep (.istore_n i) aux L st mem call kf kj = some r) (hL : jokL L) (hs : jokL st) (hM : jokM mem) (hn : L.length = jMl q) (hF : jKF p l e s m args below meth c d D cA ad q r npc kf) (hJ : ∀ t, jKF p l e s m args below meth c d D cA ad q r t (kj t)) : jG p l e s m args below meth c d D cA ad q r pc L st mem := by
  obtain ⟨hx, hb, hml, hown, hts, hK, hr, hlk, hin, hev, hEV⟩ := C
  have hcs := (Bool.and_eq_true_iff.mp hc)
  have e1 : npc = pc + 1 := Nat.eq_of_beq_eq_true hcs.1
  subst e1
  rw [Nat.add_sub_cancel_left] at hd
  obtain ⟨x, t, rfl, h2⟩ := jpI_some h
  rw [jst1_eq] at h2
  have o1 := jokL_c hs
  have g := hF _ t mem h2 (jokL_set (jokL_inv _ hL) o1.1) o1.2 hM (by rw [jset_len, jinv_len]; exact hn)
  refine fun H locs ls hP hS hl => ?_
  exact lv_istore_n hx hb hd rfl (jL_has hl) (by rw [hn]; exact Nat.le_of_ble_eq_true hcs.2) rfl (fun ls' h' => g H locs ls' hP hS (jL_st1 h'))
theorem js_lstore {i : Nat} (C : jC p s m args meth c q D cA ad EV) (hd : decode q.2.1 pc = .ok (.lstore i, npc - pc)) (hc : jchk1 q pc (.lstore i) npc aux = true) (h : jstep (.lstore i) aux L st mem call kf kj = some r) (hL : jokL L) (hs : jokL st) (hM : jokM mem) (hn : L.length = jMl q) (hF : jKF p l e s m args below meth c d D cA ad q r npc kf) (hJ : ∀ t, jKF p l e s m args below meth c d D cA ad q r t (kj t)) : jG p l e s m args below meth c d D cA ad q r pc L st mem := by
  obtain ⟨hx, hb, hml, hown, hts, hK, hr, hlk, hin, hev, hEV⟩ := C
  have hcs := (Bool.and_eq_true_iff.mp hc)
  have e1 : npc = pc + 2 := Nat.eq_of_beq_eq_true hcs.1
  subst e1
  rw [Nat.add_sub_cancel_left] at hd
  obtain ⟨x, t, rfl, h2⟩ := jpJ_some h
  rw [jst2_eq] at h2
  have o1 := jokL_c hs
  have g := hF _ t mem h2 (jokL_set (jokL_set (jokL_inv _ hL) o1.1) jok_vU) o1.2 hM (by rw [jset_len, jset_len, jinv_len]; exact hn)
  refine fun H locs ls hP hS hl => ?_
  exact lv_lstore hx hb hd (jL_has hl) (by rw [hn]; exact Nat.le_of_ble_eq_true hcs.2) rfl (fun ls' h' => g H locs ls' hP hS (jL_st2 h'))
theorem js_lstore_n {i : Fin 4} (C : jC p s m args meth c q D cA ad EV) (hd : decode q.2.1 pc = .ok (.lstore_n i, npc - pc)) (hc : jchk1 q pc (.lstore_n i) npc aux = true) (h : jstep (.lstore_n i) aux L st mem call kf kj = some r) (hL : jokL L) (hs : jokL st) (hM : jokM mem) (hn : L.length = jMl q) (hF : jKF p l e s m args below meth c d D cA ad q r npc kf) (hJ : ∀ t, jKF p l e s m args below meth c d D cA ad q r t (kj t)) : jG p l e s m args below meth c d D cA ad q r pc L st mem := by
  obtain ⟨hx, hb, hml, hown, hts, hK, hr, hlk, hin, hev, hEV⟩ := C
  have hcs := (Bool.and_eq_true_iff.mp hc)
  have e1 : npc = pc + 1 := Nat.eq_of_beq_eq_true hcs.1
  subst e1
  rw [Nat.add_sub_cancel_left] at hd
  obtain ⟨x, t, rfl, h2⟩ := jpJ_some h
  rw [jst2_eq] at h2
  have o1 := jokL_c hs
  have g := hF _ t mem h2 (jokL_set (jokL_set (jokL_inv _ hL) o1.1) jok_vU) o1.2 hM (by rw [jset_len, jset_len, jinv_len]; exact hn)
  refine fun H locs ls hP hS hl => ?_
  exact lv_lstore_n hx hb hd rfl (jL_has hl) (by rw [hn]; exact Nat.le_of_ble_eq_true hcs.2) rfl (fun ls' h' => g H locs ls' hP hS (jL_st2 h'))
theorem js_iinc {i : Nat} {n : Int} (C : jC p s m args meth c q D cA ad EV) (hd : decode q.2.1 pc = .ok (.iinc i n, npc - pc)) (hc : jchk1 q pc (.iinc i n) npc aux = true) (h : jstep (.iinc i n) aux L st mem call kf kj = some r) (hL : jokL L) (hs : jokL st) (hM : jokM mem) (hn : L.length = jMl q) (hF : jKF p l e s m args below meth c d D cA ad q r npc kf) (hJ : ∀ t, jKF p l e s m args below meth c d D cA ad q r t (kj t)) : jG p l e s m args below meth c d D cA ad q r pc L st mem := by
  obtain ⟨hx, hb, hml, hown, hts, hK, hr, hlk, hin, hev, hEV⟩ := C
  have e1 : npc = pc + 3 := Nat.eq_of_beq_eq_true hc
  subst e1
  rw [Nat.add_sub_cancel_left] at hd
  dsimp only [jstep] at h
  split at h
  · rename_i x hx2
    rw [jst1_eq] at h
    have hi := jnth_get hx2 (fun z => by cases z)
    have g := hF _ st mem h (jokL_set (jokL_inv _ hL) (jokI_w _)) hs hM (by rw [jset_len, jinv_len]; exact hn)
    refine fun H locs ls hP hS hl => ?_
    obtain ⟨k, hk⟩ := List.getElem?_of_mem (jlv_mem (ad := ad) hi (fun z => by cases z))
    exact lv_iinc hx hb hd (jL_has hl) hk (v := Int32.ofInt (jw32 (x + n))) (by rw [jo32, Int32.ofInt_add]) (List.getElem?_eq_some_iff.mp hi).1 rfl (fun ls' h' => g H locs ls' hP hS (jL_st1 h'))
  · cases h
theorem js_pop (C : jC p s m args meth c q D cA ad EV) (hd : decode q.2.1 pc = .ok (.pop, npc - pc)) (hc : jchk1 q pc (.pop) npc aux = true) (h : jstep (.pop) aux L st mem call kf kj = some r) (hL : jokL L) (hs : jokL st) (hM : jokM mem) (hn : L.length = jMl q) (hF : jKF p l e s m args below meth c d D cA ad q r npc kf) (hJ : ∀ t, jKF p l e s m args below meth c d D cA ad q r t (kj t)) : jG p l e s m args below meth c d D cA ad q r pc L st mem := by
  obtain ⟨hx, hb, hml, hown, hts, hK, hr, hlk, hin, hev, hEV⟩ := C
  have e1 : npc = pc + 1 := Nat.eq_of_beq_eq_true hc
  subst e1
  rw [Nat.add_sub_cancel_left] at hd
  dsimp only [jstep] at h
  split at h
  · have o1 := jokL_c hs
    have g := hF _ _ mem h hL o1.2 hM hn
    exact fun H locs ls hP hS hl => lv_pop hx hb hd rfl (g H locs ls hP hS hl)
  · rename_i w t
    have o1 := jokL_c hs
    have g := hF _ _ mem h hL o1.2 hM hn
    exact fun H locs ls hP hS hl => lv_pop hx hb hd (jcat_cv ad (.inr (.inr (.inl w)))) (g H locs ls hP hS hl)
  · cases h
theorem js_dup (C : jC p s m args meth c q D cA ad EV) (hd : decode q.2.1 pc = .ok (.dup, npc - pc)) (hc : jchk1 q pc (.dup) npc aux = true) (h : jstep (.dup) aux L st mem call kf kj = some r) (hL : jokL L) (hs : jokL st) (hM : jokM mem) (hn : L.length = jMl q) (hF : jKF p l e s m args below meth c d D cA ad q r npc kf) (hJ : ∀ t, jKF p l e s m args below meth c d D cA ad q r t (kj t)) : jG p l e s m args below meth c d D cA ad q r pc L st mem := by
  obtain ⟨hx, hb, hml, hown, hts, hK, hr, hlk, hin, hev, hEV⟩ := C
  have e1 : npc = pc + 1 := Nat.eq_of_beq_eq_true hc
  subst e1
  rw [Nat.add_sub_cancel_left] at hd
  dsimp only [jstep] at h
  split at h
  · have o1 := jokL_c hs
    exact js_push hF h hL o1.1 hs hM hn (fun H locs ls Q hP hS hl k => lv_dup hx hb hd rfl k)
  · rename_i w t
    have o1 := jokL_c hs
    exact js_push hF h hL o1.1 hs hM hn (fun H locs ls Q hP hS hl k => lv_dup hx hb hd (jcat_cv ad (.inr (.inr (.inl w)))) k)
  · cases h
theorem js_dup2 (C : jC p s m args meth c q D cA ad EV) (hd : decode q.2.1 pc = .ok (.dup2, npc - pc)) (hc : jchk1 q pc (.dup2) npc aux = true) (h : jstep (.dup2) aux L st mem call kf kj = some r) (hL : jokL L) (hs : jokL st) (hM : jokM mem) (hn : L.length = jMl q) (hF : jKF p l e s m args below meth c d D cA ad q r npc kf) (hJ : ∀ t, jKF p l e s m args below meth c d D cA ad q r t (kj t)) : jG p l e s m args below meth c d D cA ad q r pc L st mem := by
  obtain ⟨hx, hb, hml, hown, hts, hK, hr, hlk, hin, hev, hEV⟩ := C
  have e1 : npc = pc + 1 := Nat.eq_of_beq_eq_true hc
  subst e1
  rw [Nat.add_sub_cancel_left] at hd
  dsimp only [jstep] at h
  split at h
  · have o1 := jokL_c hs
    exact js_push hF h hL o1.1 hs hM hn (fun H locs ls Q hP hS hl k => lv_dup2_2 hx hb hd rfl k)
  · rename_i x w t
    have o1 := jokL_c hs
    have o2 := jokL_c o1.2
    exact js_push hF h hL o1.1 (jokL_k o2.1 hs) hM hn (fun H locs ls Q hP hS hl k => lv_dup2_11 hx hb hd rfl (jcat_cv ad (.inr (.inr (.inl w)))) k)
  · cases h
theorem js_goto {o : Int} (C : jC p s m args meth c q D cA ad EV) (hd : decode q.2.1 pc = .ok (.goto o, npc - pc)) (hc : jchk1 q pc (.goto o) npc aux = true) (h : jstep (.goto o) aux L st mem call kf kj = some r) (hL : jokL L) (hs : jokL st) (hM : jokM mem) (hn : L.length = jMl q) (hF : jKF p l e s m args below meth c d D cA ad q r npc kf) (hJ : ∀ t, jKF p l e s m args below meth c d D cA ad q r t (kj t)) : jG p l e s m args below meth c d D cA ad q r pc L st mem := by
  obtain ⟨hx, hb, hml, hown, hts, hK, hr, hlk, hin, hev, hEV⟩ := C
  dsimp only [jstep] at h
  dsimp only [jchk1] at hc
  split at h
  · rename_i t
    have hcs := Bool.and_eq_true_iff.mp hc
    have e1 : npc = pc + 3 := Nat.eq_of_beq_eq_true hcs.2
    subst e1
    rw [Nat.add_sub_cancel_left] at hd
    have g := hJ _ _ _ mem h hL hs hM hn
    exact fun H locs ls hP hS hl => lv_goto hx hb hd (of_decide_eq_true hcs.1) (g H locs ls hP hS hl)
  · cases h
theorem js_ifCond {cd : Jvm.ClassFile.Cond} {o : Int} (C : jC p s m args meth c q D cA ad EV) (hd : decode q.2.1 pc = .ok (.ifCond cd o, npc - pc)) (hc : jchk1 q pc (.ifCond cd o) npc aux = true) (h : jstep (.ifCond cd o) aux L st mem call kf kj = some r) (hL : jokL L) (hs : jokL st) (hM : jokM mem) (hn : L.length = jMl q) (hF : jKF p l e s m args below meth c d D cA ad q r npc kf) (hJ : ∀ t, jKF p l e s m args below meth c d D cA ad q r t (kj t)) : jG p l e s m args below meth c d D cA ad q r pc L st mem := by
  obtain ⟨hx, hb, hml, hown, hts, hK, hr, hlk, hin, hev, hEV⟩ := C
  dsimp only [jstep] at h
  dsimp only [jchk1] at hc
  split at h
  · rename_i t
    have hcs := Bool.and_eq_true_iff.mp hc
    have e1 : npc = pc + 3 := Nat.eq_of_beq_eq_true hcs.1
    subst e1
    rw [Nat.add_sub_cancel_left] at hd
    have ht := of_decide_eq_true hcs.2
    obtain ⟨x, tt, rfl, h⟩ := jpI_some h
    have o1 := jokL_c hs
    cases cd with
    | eq =>
      have E : (Int32.ofInt x = 0) ↔ (x = 0) := j_eq o1.1 jok0
      by_cases hq : x = 0
      · have h := (if_pos hq).symm.trans h
        have g := hJ _ _ _ mem h hL o1.2 hM hn
        exact fun H locs ls hP hS hl => lv_if_eq hx hb hd ht (fun _ => g H locs ls hP hS hl) (fun z => absurd (E.mpr hq) z)
      · have h := (if_neg hq).symm.trans h
        have g := hF _ _ mem h hL o1.2 hM hn
        exact fun H locs ls hP hS hl => lv_if_eq hx hb hd ht (fun z => absurd (E.mp z) hq) (fun _ => g H locs ls hP hS hl)
    | ne =>
      have E : (¬ Int32.ofInt x = 0) ↔ (¬ x = 0) := not_congr (j_eq o1.1 jok0)
      by_cases hq : ¬ x = 0
      · have h := (if_neg hq).symm.trans h
        have g := hJ _ _ _ mem h hL o1.2 hM hn
        exact fun H locs ls hP hS hl => lv_if_ne hx hb hd ht (fun _ => g H locs ls hP hS hl) (fun z => absurd z (E.mpr hq))
      · have h := (if_pos (Decidable.of_not_not hq)).symm.trans h
        have g := hF _ _ mem h hL o1.2 hM hn
        exact fun H locs ls hP hS hl => lv_if_ne hx hb hd ht (fun z => absurd (E.mp z) hq) (fun _ => g H locs ls hP hS hl)
    | lt =>
      have E : (Int32.ofInt x < 0) ↔ (x < 0) := j_lt o1.1 jok0
      by_cases hq : x < 0
      · have h := (if_pos hq).symm.trans h
        have g := hJ _ _ _ mem h hL o1.2 hM hn
        exact fun H locs ls hP hS hl => lv_if_lt hx hb hd ht (fun _ => g H locs ls hP hS hl) (fun z => absurd (E.mpr hq) z)
      · have h := (if_neg hq).symm.trans h
        have g := hF _ _ mem h hL o1.2 hM hn
        exact fun H locs ls hP hS hl => lv_if_lt hx hb hd ht (fun z => absurd (E.mp z) hq) (fun _ => g H locs ls hP hS hl)
    | ge =>
      have E : (0 ≤ Int32.ofInt x) ↔ (0 ≤ x) := j_le jok0 o1.1
      by_cases hq : 0 ≤ x
      · have h := (if_neg (by omega)).symm.trans h
        have g := hJ _ _ _ mem h hL o1.2 hM hn
        exact fun H locs ls hP hS hl => lv_if_ge hx hb hd ht (fun _ => g H locs ls hP hS hl) (fun z => absurd (E.mpr hq) z)
      · have h := (if_pos (by omega)).symm.trans h
        have g := hF _ _ mem h hL o1.2 hM hn
        exact fun H locs ls hP hS hl => lv_if_ge hx hb hd ht (fun z => absurd (E.mp z) hq) (fun _ => g H locs ls hP hS hl)
    | gt =>
      have E : (0 < Int32.ofInt x) ↔ (0 < x) := j_lt jok0 o1.1
      by_cases hq : 0 < x
      · have h := (if_pos hq).symm.trans h
        have g := hJ _ _ _ mem h hL o1.2 hM hn
        exact fun H locs ls hP hS hl => lv_if_gt hx hb hd ht (fun _ => g H locs ls hP hS hl) (fun z => absurd (E.mpr hq) z)
      · have h := (if_neg hq).symm.trans h
        have g := hF _ _ mem h hL o1.2 hM hn
        exact fun H locs ls hP hS hl => lv_if_gt hx hb hd ht (fun z => absurd (E.mp z) hq) (fun _ => g H locs ls hP hS hl)
    | le =>
      have E : (Int32.ofInt x ≤ 0) ↔ (x ≤ 0) := j_le o1.1 jok0
      by_cases hq : x ≤ 0
      · have h := (if_neg (by omega)).symm.trans h
        have g := hJ _ _ _ mem h hL o1.2 hM hn
        exact fun H locs ls hP hS hl => lv_if_le hx hb hd ht (fun _ => g H locs ls hP hS hl) (fun z => absurd (E.mpr hq) z)
      · have h := (if_pos (by omega)).symm.trans h
        have g := hF _ _ mem h hL o1.2 hM hn
        exact fun H locs ls hP hS hl => lv_if_le hx hb hd ht (fun z => absurd (E.mp z) hq) (fun _ => g H locs ls hP hS hl)
  · cases h
theorem js_icmp {cd : Jvm.ClassFile.Cond} {o : Int} (C : jC p s m args meth c q D cA ad EV) (hd : decode q.2.1 pc = .ok (.if_icmp cd o, npc - pc)) (hc : jchk1 q pc (.if_icmp cd o) npc aux = true) (h : jstep (.if_icmp cd o) aux L st mem call kf kj = some r) (hL : jokL L) (hs : jokL st) (hM : jokM mem) (hn : L.length = jMl q) (hF : jKF p l e s m args below meth c d D cA ad q r npc kf) (hJ : ∀ t, jKF p l e s m args below meth c d D cA ad q r t (kj t)) : jG p l e s m args below meth c d D cA ad q r pc L st mem := by
  obtain ⟨hx, hb, hml, hown, hts, hK, hr, hlk, hin, hev, hEV⟩ := C
  dsimp only [jstep] at h
  dsimp only [jchk1] at hc
  split at h
  · rename_i t
    have hcs := Bool.and_eq_true_iff.mp hc
    have e1 : npc = pc + 3 := Nat.eq_of_beq_eq_true hcs.1
    subst e1
    rw [Nat.add_sub_cancel_left] at hd
    have ht := of_decide_eq_true hcs.2
    obtain ⟨x, y, tt, rfl, h⟩ := jb1_some h
    have o1 := jokL_c hs
    have o2 := jokL_c o1.2
    cases cd with
    | eq =>
      have E : (Int32.ofInt x = Int32.ofInt y) ↔ (x = y) := j_eq o2.1 o1.1
      by_cases hq : x = y
      · have h := (if_pos hq).symm.trans h
        have g := hJ _ _ _ mem h hL o2.2 hM hn
        exact fun H locs ls hP hS hl => lv_icmp_eq hx hb hd ht (fun _ => g H locs ls hP hS hl) (fun z => absurd (E.mpr hq) z)
      · have h := (if_neg hq).symm.trans h
        have g := hF _ _ mem h hL o2.2 hM hn
        exact fun H locs ls hP hS hl => lv_icmp_eq hx hb hd ht (fun z => absurd (E.mp z) hq) (fun _ => g H locs ls hP hS hl)
    | ne =>
      have E : (¬ Int32.ofInt x = Int32.ofInt y) ↔ (¬ x = y) := not_congr (j_eq o2.1 o1.1)
      by_cases hq : ¬ x = y
      · have h := (if_neg hq).symm.trans h
        have g := hJ _ _ _ mem h hL o2.2 hM hn
        exact fun H locs ls hP hS hl => lv_icmp_ne hx hb hd ht (fun _ => g H locs ls hP hS hl) (fun z => absurd z (E.mpr hq))
      · have h := (if_pos (Decidable.of_not_not hq)).symm.trans h
        have g := hF _ _ mem h hL o2.2 hM hn
        exact fun H locs ls hP hS hl => lv_icmp_ne hx hb hd ht (fun z => absurd (E.mp z) hq) (fun _ => g H locs ls hP hS hl)
    | lt =>
      have E : (Int32.ofInt x < Int32.ofInt y) ↔ (x < y) := j_lt o2.1 o1.1
      by_cases hq : x < y
      · have h := (if_pos hq).symm.trans h
        have g := hJ _ _ _ mem h hL o2.2 hM hn
        exact fun H locs ls hP hS hl => lv_icmp_lt hx hb hd ht (fun _ => g H locs ls hP hS hl) (fun z => absurd (E.mpr hq) z)
      · have h := (if_neg hq).symm.trans h
        have g := hF _ _ mem h hL o2.2 hM hn
        exact fun H locs ls hP hS hl => lv_icmp_lt hx hb hd ht (fun z => absurd (E.mp z) hq) (fun _ => g H locs ls hP hS hl)
    | ge =>
      have E : (Int32.ofInt y ≤ Int32.ofInt x) ↔ (y ≤ x) := j_le o1.1 o2.1
      by_cases hq : y ≤ x
      · have h := (if_neg (by omega)).symm.trans h
        have g := hJ _ _ _ mem h hL o2.2 hM hn
        exact fun H locs ls hP hS hl => lv_icmp_ge hx hb hd ht (fun _ => g H locs ls hP hS hl) (fun z => absurd (E.mpr hq) z)
      · have h := (if_pos (by omega)).symm.trans h
        have g := hF _ _ mem h hL o2.2 hM hn
        exact fun H locs ls hP hS hl => lv_icmp_ge hx hb hd ht (fun z => absurd (E.mp z) hq) (fun _ => g H locs ls hP hS hl)
    | gt =>
      have E : (Int32.ofInt y < Int32.ofInt x) ↔ (y < x) := j_lt o1.1 o2.1
      by_cases hq : y < x
      · have h := (if_pos hq).symm.trans h
        have g := hJ _ _ _ mem h hL o2.2 hM hn
        exact fun H locs ls hP hS hl => lv_icmp_gt hx hb hd ht (fun _ => g H locs ls hP hS hl) (fun z => absurd (E.mpr hq) z)
      · have h := (if_neg hq).symm.trans h
        have g := hF _ _ mem h hL o2.2 hM hn
        exact fun H locs ls hP hS hl => lv_icmp_gt hx hb hd ht (fun z => absurd (E.mp z) hq) (fun _ => g H locs ls hP hS hl)
    | le =>
      have E : (Int32.ofInt x ≤ Int32.ofInt y) ↔ (x ≤ y) := j_le o2.1 o1.1
      by_cases hq : x ≤ y
      · have h := (if_neg (by omega)).symm.trans h
        have g := hJ _ _ _ mem h hL o2.2 hM hn
        exact fun H locs ls hP hS hl => lv_icmp_le hx hb hd ht (fun _ => g H locs ls hP hS hl) (fun z => absurd (E.mpr hq) z)
      · have h := (if_pos (by omega)).symm.trans h
        have g := hF _ _ mem h hL o2.2 hM hn
        exact fun H locs ls hP hS hl => lv_icmp_le hx hb hd ht (fun z => absurd (E.mp z) hq) (fun _ => g H locs ls hP hS hl)
  · cases h
theorem js_ifnull {o : Int} (C : jC p s m args meth c q D cA ad EV) (hd : decode q.2.1 pc = .ok (.ifnull o, npc - pc)) (hc : jchk1 q pc (.ifnull o) npc aux = true) (h : jstep (.ifnull o) aux L st mem call kf kj = some r) (hL : jokL L) (hs : jokL st) (hM : jokM mem) (hn : L.length = jMl q) (hF : jKF p l e s m args below meth c d D cA ad q r npc kf) (hJ : ∀ t, jKF p l e s m args below meth c d D cA ad q r t (kj t)) : jG p l e s m args below meth c d D cA ad q r pc L st mem := by
  obtain ⟨hx, hb, hml, hown, hts, hK, hr, hlk, hin, hev, hEV⟩ := C
  dsimp only [jstep] at h
  dsimp only [jchk1] at hc
  split at h
  · rename_i t f
    have hcs := Bool.and_eq_true_iff.mp hc
    have e1 : npc = pc + 3 := Nat.eq_of_beq_eq_true hcs.1
    subst e1
    rw [Nat.add_sub_cancel_left] at hd
    have ht := of_decide_eq_true hcs.2
    obtain ⟨w, tt, rfl, h2⟩ := jpR_some h
    have o1 := jokL_c hs
    cases w with
    | none =>
      have g := hJ _ _ _ mem h2 hL o1.2 hM hn
      exact fun H locs ls hP hS hl => lv_ifnullN hx hb hd ht (g H locs ls hP hS hl)
    | some i =>
      have g := hF _ _ mem h2 hL o1.2 hM hn
      exact fun H locs ls hP hS hl => lv_ifnull hx hb hd (g H locs ls hP hS hl)
  · cases h
theorem js_ifnonnull {o : Int} (C : jC p s m args meth c q D cA ad EV) (hd : decode q.2.1 pc = .ok (.ifnonnull o, npc - pc)) (hc : jchk1 q pc (.ifnonnull o) npc aux = true) (h : jstep (.ifnonnull o) aux L st mem call kf kj = some r) (hL : jokL L) (hs : jokL st) (hM : jokM mem) (hn : L.length = jMl q) (hF : jKF p l e s m args below meth c d D cA ad q r npc kf) (hJ : ∀ t, jKF p l e s m args below meth c d D cA ad q r t (kj t)) : jG p l e s m args below meth c d D cA ad q r pc L st mem := by
  obtain ⟨hx, hb, hml, hown, hts, hK, hr, hlk, hin, hev, hEV⟩ := C
  dsimp only [jstep] at h
  dsimp only [jchk1] at hc
  split at h
  · rename_i t f
    have hcs := Bool.and_eq_true_iff.mp hc
    have e1 : npc = pc + 3 := Nat.eq_of_beq_eq_true hcs.1
    subst e1
    rw [Nat.add_sub_cancel_left] at hd
    have ht := of_decide_eq_true hcs.2
    obtain ⟨w, tt, rfl, h2⟩ := jpR_some h
    have o1 := jokL_c hs
    cases w with
    | none =>
      have g := hF _ _ mem h2 hL o1.2 hM hn
      exact fun H locs ls hP hS hl => lv_ifnonnullN hx hb hd (g H locs ls hP hS hl)
    | some i =>
      have g := hJ _ _ _ mem h2 hL o1.2 hM hn
      exact fun H locs ls hP hS hl => lv_ifnonnull hx hb hd ht (g H locs ls hP hS hl)
  · cases h
theorem jsw_tab {x : Int} {D' : jR} {K : Nat → jR} {pc : Nat} : ∀ (offs : List Int) (a : Nat), jswi x D' K (jtabl pc a offs) = some r → (∃ (j : Nat) (o : Int), offs[j]? = some o ∧ x = ((a + j : Nat) : Int) ∧ K ((pc : Int) + o).toNat = some r) ∨ ((x < (a : Int) ∨ ((a + offs.length : Nat) : Int) ≤ x) ∧ D' = some r)
  | [], a, h => Or.inr ⟨by simp; omega, h⟩
  | o :: l, a, h => by
    simp only [jtabl, jswi] at h
    by_cases hq : x = (a : Int)
    · rw [if_pos hq] at h
      exact Or.inl ⟨0, o, rfl, by omega, h⟩
    · rw [if_neg hq] at h
      rcases jsw_tab l (a + 1) h with ⟨j, o', h1, h2, h3⟩ | ⟨h1, h2⟩
      · exact Or.inl ⟨j + 1, o', by simpa using h1, by omega, h3⟩
      · refine Or.inr ⟨?_, h2⟩
        simp only [List.length_cons]
        omega
theorem js_tableswitch {dflt lo hi : Int} {offs : Array Int} (C : jC p s m args meth c q D cA ad EV) (hd : decode q.2.1 pc = .ok (.tableswitch dflt lo hi offs, npc - pc)) (hc : jchk1 q pc (.tableswitch dflt lo hi offs) npc aux = true) (h : jstep (.tableswitch dflt lo hi offs) aux L st mem call kf kj = some r) (hL : jokL L) (hs : jokL st) (hM : jokM mem) (hn : L.length = jMl q) (hF : jKF p l e s m args below meth c d D cA ad q r npc kf) (hJ : ∀ t, jKF p l e s m args below meth c d D cA ad q r t (kj t)) : jG p l e s m args below meth c d D cA ad q r pc L st mem := by
  obtain ⟨hx, hb, hml, hown, hts, hK, hr, hlk, hin, hev, hEV⟩ := C
  dsimp only [jstep] at h
  dsimp only [jchk1] at hc
  simp only [Bool.and_eq_true, decide_eq_true_eq] at hc
  obtain ⟨⟨⟨⟨c1, c2⟩, c3⟩, c4⟩, c5⟩ := hc
  subst c5
  dsimp only at h
  obtain ⟨x, tt, rfl, h0⟩ := jpI_some h
  have o1 := jokL_c hs
  have elo : ((lo.toNat : Nat) : Int) = lo := by omega
  have ex := jtI o1.1
  rcases jsw_tab _ _ h0 with ⟨j, o, h1, h2, h3⟩ | ⟨h1, h2⟩
  · have g := hJ _ _ _ mem h3 hL o1.2 hM hn
    have hjl := (List.getElem?_eq_some_iff.mp h1).1
    have hpo : 0 ≤ (pc : Int) + o := of_decide_eq_true (List.all_eq_true.mp c4 o (List.mem_of_getElem? h1))
    refine fun H locs ls hP hS hl => lv_tableIn hx hb hd (by rw [ex]; omega) (by rw [ex]; omega) (off := o) ?_ (by omega) (g H locs ls hP hS hl)
    rw [ex]
    have e : (x - lo).toNat = j := by omega
    rw [e, ← Array.getElem?_toList]
    exact h1
  · have g := hJ _ _ _ mem h2 hL o1.2 hM hn
    exact fun H locs ls hP hS hl => lv_tableOut hx hb hd (by rw [ex]; omega) (by omega) (g H locs ls hP hS hl)
theorem jsw_look {x : Int} {D' : jR} {K : Nat → jR} {pc : Nat} {dflt : Int} (hD : 0 ≤ (pc : Int) + dflt) : ∀ (ps : List (Int × Int)), ps.all (fun q => decide (0 ≤ (pc : Int) + q.2) && decide (0 ≤ q.1)) = true → jswi x D' K (jlook pc ps) = some r → (Op.lookupswitch.offset ps dflt x = dflt ∧ D' = some r) ∨ (∃ o, Op.lookupswitch.offset ps dflt x = o ∧ 0 ≤ (pc : Int) + o ∧ K ((pc : Int) + o).toNat = some r)
  | [], _, h => Or.inl ⟨rfl, h⟩
  | (a, o) :: l, hq, h => by
    simp only [List.all_cons, Bool.and_eq_true, decide_eq_true_eq] at hq
    obtain ⟨⟨q1, q2⟩, q3⟩ := hq
    simp only [jlook, jswi] at h
    have ea : ((a.toNat : Nat) : Int) = a := by omega
    rw [ea] at h
    by_cases hx : x = a
    · rw [if_pos hx] at h
      exact Or.inr ⟨o, by rw [Op.lookupswitch.offset_cons, if_pos hx.symm], q1, h⟩
    · rw [if_neg hx] at h
      rw [Op.lookupswitch.offset_cons, if_neg (fun z => hx z.symm)]
      exact jsw_look hD l (by simpa using q3) h
theorem js_lookupswitch {dflt : Int} {ps : Array (Int × Int)} (C : jC p s m args meth c q D cA ad EV) (hd : decode q.2.1 pc = .ok (.lookupswitch dflt ps, npc - pc)) (hc : jchk1 q pc (.lookupswitch dflt ps) npc aux = true) (h : jstep (.lookupswitch dflt ps) aux L st mem call kf kj = some r) (hL : jokL L) (hs : jokL st) (hM : jokM mem) (hn : L.length = jMl q) (hF : jKF p l e s m args below meth c d D cA ad q r npc kf) (hJ : ∀ t, jKF p l e s m args below meth c d D cA ad q r t (kj t)) : jG p l e s m args below meth c d D cA ad q r pc L st mem := by
  obtain ⟨hx, hb, hml, hown, hts, hK, hr, hlk, hin, hev, hEV⟩ := C
  dsimp only [jstep] at h
  dsimp only [jchk1] at hc
  have c5 := Bool.and_eq_true_iff.mp hc
  have c4 := Bool.and_eq_true_iff.mp c5.1
  have c3 := Bool.and_eq_true_iff.mp c4.1
  have e5 := of_decide_eq_true c5.2
  subst e5
  dsimp only at h
  obtain ⟨x, tt, rfl, h0⟩ := jpI_some h
  have o1 := jokL_c hs
  have ex := jtI o1.1
  have hD : 0 ≤ (pc : Int) + dflt := of_decide_eq_true c3.1
  rcases jsw_look (dflt := dflt) hD ps.toList c3.2 h0 with ⟨h1, h2⟩ | ⟨o, h1, h2, h3⟩
  · have g := hJ _ _ _ mem h2 hL o1.2 hM hn
    exact fun H locs ls hP hS hl => lv_lookup (off := dflt) hx hb hd c4.2 (by rw [ex]; exact h1) (by omega) (g H locs ls hP hS hl)
  · have g := hJ _ _ _ mem h3 hL o1.2 hM hn
    exact fun H locs ls hP hS hl => lv_lookup (off := o) hx hb hd c4.2 (by rw [ex]; exact h1) (by omega) (g H locs ls hP hS hl)
theorem jhK_in {o i a b t : Nat} (h : jhK o i a b t = true) : ∃ n, (o, i, a, b, t, n) ∈ jlK := by
  obtain ⟨⟨q1, q2, q3, q4, q5, q6⟩, hm, hq⟩ := List.any_eq_true.mp h
  simp only [Bool.and_eq_true] at hq
  obtain ⟨⟨⟨⟨h1, h2⟩, h3⟩, h4⟩, h5⟩ := hq
  cases Nat.eq_of_beq_eq_true h1
  cases Nat.eq_of_beq_eq_true h2
  cases Nat.eq_of_beq_eq_true h3
  cases Nat.eq_of_beq_eq_true h4
  cases Nat.eq_of_beq_eq_true h5
  exact ⟨q6, hm⟩
theorem jhK_0 {o i a b : Nat} (h : jhK o i a b 0 = true) : Cond.constant (jown.getD o "") i (Int32.ofInt ((a : Int) - (b : Int))) ∈ jTBL := by
  obtain ⟨n, hm⟩ := jhK_in h
  have z := List.all_eq_true.mp jlK_ok _ hm
  exact jT_of (List.mem_of_getElem? (of_decide_eq_true z)) rfl
theorem jhK_1 {o i a : Nat} (h : jhK o i a 0 1 = true) : Cond.constantLong (jown.getD o "") i (Int64.ofInt (a : Int)) ∈ jTBL := by
  obtain ⟨n, hm⟩ := jhK_in h
  have z := List.all_eq_true.mp jlK_ok _ hm
  exact jT_of (List.mem_of_getElem? (of_decide_eq_true z)) rfl
theorem jhS_in {o i k : Nat} (h : jhS o i k = true) : (o, i, k) ∈ jlS := by
  obtain ⟨⟨q1, q2, q3⟩, hm, hq⟩ := List.any_eq_true.mp h
  simp only [Bool.and_eq_true] at hq
  obtain ⟨⟨h1, h2⟩, h3⟩ := hq
  cases Nat.eq_of_beq_eq_true h1
  cases Nat.eq_of_beq_eq_true h2
  cases Nat.eq_of_beq_eq_true h3
  exact hm
theorem js_ldc {i : Nat} (C : jC p s m args meth c q D cA ad EV) (hd : decode q.2.1 pc = .ok (.ldc i, npc - pc)) (hc : jchk1 q pc (.ldc i) npc aux = true) (h : jstep (.ldc i) aux L st mem call kf kj = some r) (hL : jokL L) (hs : jokL st) (hM : jokM mem) (hn : L.length = jMl q) (hF : jKF p l e s m args below meth c d D cA ad q r npc kf) (hJ : ∀ t, jKF p l e s m args below meth c d D cA ad q r t (kj t)) : jG p l e s m args below meth c d D cA ad q r pc L st mem := by
  obtain ⟨hx, hb, hml, hown, hts, hK, hr, hlk, hin, hev, hEV⟩ := C
  dsimp only [jchk1] at hc
  have hcs := Bool.and_eq_true_iff.mp hc
  have e1 : npc = pc + 2 := Nat.eq_of_beq_eq_true hcs.1
  subst e1
  rw [Nat.add_sub_cancel_left] at hd
  dsimp only [jstep] at h
  split at h
  · rename_i a b
    have hc2 := Bool.and_eq_true_iff.mp hcs.2
    have rg : jokI ((a : Int) - (b : Int)) := by
      have z := Bool.and_eq_true_iff.mp hc2.2
      exact ⟨of_decide_eq_true z.1, of_decide_eq_true z.2⟩
    exact js_push (v := vI ((a : Int) - (b : Int))) hF h hL rg hs hM hn (fun H locs ls Q hP hS hl k => lv_ldc hx hb hown (hts _ (jhK_0 hc2.1)) hd k)
  · rename_i f kk
    have hc2 := Bool.and_eq_true_iff.mp hcs.2
    have hc3 := Bool.and_eq_true_iff.mp hc2.1
    cases Nat.eq_of_beq_eq_true hc3.1
    have h7 : kk < 7 := Nat.le_of_ble_eq_true hc2.2
    have ok : jokV (vR 100 (some (kk : Int))) := fun i e => by
      cases e
      refine ⟨by omega, ?_⟩
      show (kk : Int) < ((7 : Nat) : Int)
      omega
    obtain ⟨tx, hZ⟩ := hev.2.2.1 s hEV _ (jhS_in hc3.2)
    exact js_push (v := vR 100 (some (kk : Int))) hF h hL ok hs hM hn (fun H locs ls Q hP hS hl k => va_ldcS hx hb hown hZ hd k)
  · cases h
theorem js_ldc_w {i : Nat} (C : jC p s m args meth c q D cA ad EV) (hd : decode q.2.1 pc = .ok (.ldc_w i, npc - pc)) (hc : jchk1 q pc (.ldc_w i) npc aux = true) (h : jstep (.ldc_w i) aux L st mem call kf kj = some r) (hL : jokL L) (hs : jokL st) (hM : jokM mem) (hn : L.length = jMl q) (hF : jKF p l e s m args below meth c d D cA ad q r npc kf) (hJ : ∀ t, jKF p l e s m args below meth c d D cA ad q r t (kj t)) : jG p l e s m args below meth c d D cA ad q r pc L st mem := by
  obtain ⟨hx, hb, hml, hown, hts, hK, hr, hlk, hin, hev, hEV⟩ := C
  dsimp only [jchk1] at hc
  have hcs := Bool.and_eq_true_iff.mp hc
  have e1 : npc = pc + 3 := Nat.eq_of_beq_eq_true hcs.1
  subst e1
  rw [Nat.add_sub_cancel_left] at hd
  dsimp only [jstep] at h
  split at h
  · rename_i a b
    have hc2 := Bool.and_eq_true_iff.mp hcs.2
    have rg : jokI ((a : Int) - (b : Int)) := by
      have z := Bool.and_eq_true_iff.mp hc2.2
      exact ⟨of_decide_eq_true z.1, of_decide_eq_true z.2⟩
    exact js_push (v := vI ((a : Int) - (b : Int))) hF h hL rg hs hM hn (fun H locs ls Q hP hS hl k => lv_ldcw hx hb hown (hts _ (jhK_0 hc2.1)) hd k)
  · cases h
theorem js_ldc2_w {i : Nat} (C : jC p s m args meth c q D cA ad EV) (hd : decode q.2.1 pc = .ok (.ldc2_w i, npc - pc)) (hc : jchk1 q pc (.ldc2_w i) npc aux = true) (h : jstep (.ldc2_w i) aux L st mem call kf kj = some r) (hL : jokL L) (hs : jokL st) (hM : jokM mem) (hn : L.length = jMl q) (hF : jKF p l e s m args below meth c d D cA ad q r npc kf) (hJ : ∀ t, jKF p l e s m args below meth c d D cA ad q r t (kj t)) : jG p l e s m args below meth c d D cA ad q r pc L st mem := by
  obtain ⟨hx, hb, hml, hown, hts, hK, hr, hlk, hin, hev, hEV⟩ := C
  dsimp only [jchk1] at hc
  have hcs := Bool.and_eq_true_iff.mp hc
  have e1 : npc = pc + 3 := Nat.eq_of_beq_eq_true hcs.1
  subst e1
  rw [Nat.add_sub_cancel_left] at hd
  dsimp only [jstep] at h
  split at h
  · rename_i a
    have hc2 := Bool.and_eq_true_iff.mp hcs.2
    have rg : jokJ (a : Int) := ⟨by omega, of_decide_eq_true hc2.2⟩
    exact js_push (v := vJ (a : Int)) hF h hL rg hs hM hn (fun H locs ls Q hP hS hl k => lv_ldc2 hx hb hown (hts _ (jhK_1 hc2.1)) hd k)
  · cases h
theorem js_null (C : jC p s m args meth c q D cA ad EV) (hd : decode q.2.1 pc = .ok (.aconst_null, npc - pc)) (hc : jchk1 q pc (.aconst_null) npc aux = true) (h : jstep (.aconst_null) aux L st mem call kf kj = some r) (hL : jokL L) (hs : jokL st) (hM : jokM mem) (hn : L.length = jMl q) (hF : jKF p l e s m args below meth c d D cA ad q r npc kf) (hJ : ∀ t, jKF p l e s m args below meth c d D cA ad q r t (kj t)) : jG p l e s m args below meth c d D cA ad q r pc L st mem := by
  obtain ⟨hx, hb, hml, hown, hts, hK, hr, hlk, hin, hev, hEV⟩ := C
  have e1 : npc = pc + 1 := Nat.eq_of_beq_eq_true hc
  subst e1
  rw [Nat.add_sub_cancel_left] at hd
  dsimp only [jstep] at h
  split at h
  · rename_i f
    exact js_push (v := vR f none) hF h hL (fun i e => by cases e) hs hM hn (fun H locs ls Q hP hS hl k => lv_null hx hb hd k)
  · cases h
theorem js_ireturn (C : jC p s m args meth c q D cA ad EV) (hd : decode q.2.1 pc = .ok (.ireturn, npc - pc)) (hc : jchk1 q pc (.ireturn) npc aux = true) (h : jstep (.ireturn) aux L st mem call kf kj = some r) (hL : jokL L) (hs : jokL st) (hM : jokM mem) (hn : L.length = jMl q) (hF : jKF p l e s m args below meth c d D cA ad q r npc kf) (hJ : ∀ t, jKF p l e s m args below meth c d D cA ad q r t (kj t)) : jG p l e s m args below meth c d D cA ad q r pc L st mem := by
  obtain ⟨hx, hb, hml, hown, hts, hK, hr, hlk, hin, hev, hEV⟩ := C
  dsimp only [jchk1] at hc
  have hc0 := Bool.and_eq_true_iff.mp hc
  have hcs := Bool.and_eq_true_iff.mp hc0.1
  have e1 : npc = pc + 1 := Nat.eq_of_beq_eq_true hcs.1
  subst e1
  rw [Nat.add_sub_cancel_left] at hd
  have hrk : jRk q = 1 := Nat.eq_of_beq_eq_true hcs.2
  dsimp only [jstep] at h
  split at h
  · rename_i x
    cases h
    have o1 := jokL_c hs
    refine fun H locs ls hP hS hl => ?_
    exact W.iret hx hb (hr.trans (of_decide_eq_true hc0.2)) (fun t ht _ => ⟨rfl, by rw [ht]; exact hP, hS.F ht, by rw [hrk]; exact ⟨x, rfl⟩, o1.1, hM⟩) (fun q hq => hS.2.2 q hq) hd hlk
  · rename_i x
    obtain ⟨hbo, h⟩ := jbo_some h
    cases h
    have o1 := jokL_c hs
    have hnar : narrow .boolean (.int (Int32.ofInt x)) = .int (Int32.ofInt x) := by
      rcases hbo with e | e <;> subst e <;> rfl
    refine fun H locs ls hP hS hl => ?_
    exact W.zret hx hb (hr.trans (of_decide_eq_true hc0.2)) hnar (fun t ht _ => ⟨rfl, by rw [ht]; exact hP, hS.F ht, by rw [hrk]; exact ⟨x, rfl⟩, o1.1, hM⟩) (fun q hq => hS.2.2 q hq) hd hlk
  · cases h
theorem js_lreturn (C : jC p s m args meth c q D cA ad EV) (hd : decode q.2.1 pc = .ok (.lreturn, npc - pc)) (hc : jchk1 q pc (.lreturn) npc aux = true) (h : jstep (.lreturn) aux L st mem call kf kj = some r) (hL : jokL L) (hs : jokL st) (hM : jokM mem) (hn : L.length = jMl q) (hF : jKF p l e s m args below meth c d D cA ad q r npc kf) (hJ : ∀ t, jKF p l e s m args below meth c d D cA ad q r t (kj t)) : jG p l e s m args below meth c d D cA ad q r pc L st mem := by
  obtain ⟨hx, hb, hml, hown, hts, hK, hr, hlk, hin, hev, hEV⟩ := C
  dsimp only [jchk1] at hc
  have hc0 := Bool.and_eq_true_iff.mp hc
  have hcs := Bool.and_eq_true_iff.mp hc0.1
  have e1 : npc = pc + 1 := Nat.eq_of_beq_eq_true hcs.1
  subst e1
  rw [Nat.add_sub_cancel_left] at hd
  have hrk : jRk q = 2 := Nat.eq_of_beq_eq_true hcs.2
  dsimp only [jstep] at h
  split at h
  · rename_i x
    cases h
    have o1 := jokL_c hs
    refine fun H locs ls hP hS hl => ?_
    exact W.lret hx hb (hr.trans (of_decide_eq_true hc0.2)) (fun t ht _ => ⟨rfl, by rw [ht]; exact hP, hS.F ht, by rw [hrk]; exact ⟨x, rfl⟩, o1.1, hM⟩) (fun q hq => hS.2.2 q hq) hd hlk
  · cases h
theorem js_areturn (C : jC p s m args meth c q D cA ad EV) (hd : decode q.2.1 pc = .ok (.areturn, npc - pc)) (hc : jchk1 q pc (.areturn) npc aux = true) (h : jstep (.areturn) aux L st mem call kf kj = some r) (hL : jokL L) (hs : jokL st) (hM : jokM mem) (hn : L.length = jMl q) (hF : jKF p l e s m args below meth c d D cA ad q r npc kf) (hJ : ∀ t, jKF p l e s m args below meth c d D cA ad q r t (kj t)) : jG p l e s m args below meth c d D cA ad q r pc L st mem := by
  obtain ⟨hx, hb, hml, hown, hts, hK, hr, hlk, hin, hev, hEV⟩ := C
  dsimp only [jchk1] at hc
  have hc00 := Bool.and_eq_true_iff.mp hc
  have hc0 := Bool.and_eq_true_iff.mp hc00.1
  have hcs := Bool.and_eq_true_iff.mp hc0.1
  have e1 : npc = pc + 1 := Nat.eq_of_beq_eq_true hcs.1
  subst e1
  rw [Nat.add_sub_cancel_left] at hd
  have hrk : jRk q = 3 := Nat.eq_of_beq_eq_true hcs.2
  have haux := of_decide_eq_true hc0.2
  subst haux
  have hrt : ∃ n, jRet q = some (.object n) := by
    have z := hc00.2
    split at z
    · rename_i n hn2
      exact ⟨n, hn2⟩
    · cases z
  obtain ⟨rn, hrn⟩ := hrt
  dsimp only [jstep] at h
  split at h
  · rename_i f w hf
    cases hf
    cases hbq : Nat.beq w.1 (jRf q) with
    | false => rw [hbq] at h; cases h
    | true =>
      rw [hbq] at h
      cases h
      have o1 := jokL_c hs
      have ef := Nat.eq_of_beq_eq_true hbq
      refine fun H locs ls hP hS hl => ?_
      have hty : jty (jRk q) (jRf q) (vR w.1 w.2) := by
        rw [hrk]
        exact ⟨w.2, by rw [← ef]⟩
      have hnr : jcv ad (.inr (.inr (.inl w))) = .null ∨ ∃ a, jcv ad (.inr (.inr (.inl w))) = .ref a := by
        obtain ⟨f, o⟩ := w
        cases o with
        | none => exact Or.inl rfl
        | some a => exact Or.inr ⟨_, rfl⟩
      exact W.aret (v := jcv ad (.inr (.inr (.inl w)))) hx hb (hr.trans hrn) (Or.inl ⟨rn, rfl⟩) hnr (fun t ht _ => ⟨rfl, by rw [ht]; exact hP, hS.F ht, hty, o1.1, hM⟩) (fun q hq => hS.2.2 q hq) hd hlk
  · cases h
theorem js_return_ (C : jC p s m args meth c q D cA ad EV) (hd : decode q.2.1 pc = .ok (.return_, npc - pc)) (hc : jchk1 q pc (.return_) npc aux = true) (h : jstep (.return_) aux L st mem call kf kj = some r) (hL : jokL L) (hs : jokL st) (hM : jokM mem) (hn : L.length = jMl q) (hF : jKF p l e s m args below meth c d D cA ad q r npc kf) (hJ : ∀ t, jKF p l e s m args below meth c d D cA ad q r t (kj t)) : jG p l e s m args below meth c d D cA ad q r pc L st mem := by
  obtain ⟨hx, hb, hml, hown, hts, hK, hr, hlk, hin, hev, hEV⟩ := C
  dsimp only [jchk1] at hc
  have hc0 := Bool.and_eq_true_iff.mp hc
  have hcs := Bool.and_eq_true_iff.mp hc0.1
  have e1 : npc = pc + 1 := Nat.eq_of_beq_eq_true hcs.1
  subst e1
  rw [Nat.add_sub_cancel_left] at hd
  have hrk : jRk q = 0 := Nat.eq_of_beq_eq_true hcs.2
  dsimp only [jstep] at h
  split at h
  · cases h
    refine fun H locs ls hP hS hl => ?_
    exact W.vret hx hb (hr.trans (of_decide_eq_true hc0.2)) (fun t ht _ => ⟨rfl, by rw [ht]; exact hP, hS.F ht, by rw [hrk]; rfl, trivial, hM⟩) (fun q hq => hS.2.2 q hq) hd hlk
  · cases h
end SIMS
