/-! Constructors: calls, steps, runs, contracts -/
theorem kokHb_spec {h : kH} (hb : kokHb h = true) : kokH h := fun c hc => by
  have w := List.all_eq_true.mp hb c hc
  match c, w with
  | .inl o, w =>
    have w1 := Bool.and_eq_true_iff.mp w
    have w2 := Bool.and_eq_true_iff.mp w1.1
    refine ⟨fun v hv => ?_, Nat.le_of_ble_eq_true w2.2, Nat.eq_of_beq_eq_true w1.2⟩
    have w3 := List.all_eq_true.mp w2.1 v hv
    match v, w3 with
    | .inl x, w3 =>
      have w4 := Bool.and_eq_true_iff.mp w3
      exact ⟨of_decide_eq_true w4.1, of_decide_eq_true w4.2⟩
    | .inr none, _ => exact True.intro
    | .inr (some a), w3 => exact Nat.le_of_ble_eq_true w3
  | .inr r, w => exact fun a ha => Nat.le_of_ble_eq_true (List.all_eq_true.mp w (some a) ha)
set_option maxRecDepth 100000 in
theorem kobj_in : Cond.instanceMethod objectInit ∈ jTBL ∧ Cond.code objectInit ⟨#[0xb1]⟩ 1 none ∈ jTBL := ⟨jT_of (jtb1 (List.mem_of_getElem? (i := 27) rfl)) rfl, jT_of (jtb1 (List.mem_of_getElem? (i := 28) rfl)) rfl⟩
def kext (en : kE) : Bool := match en.1, en.2.2 with
  | .putfield _, [f, j] => kputy f j
  | .getfield _, [f, j] => (match (jfds.getD f [])[j]? with
    | some q => !(Nat.beq q.1 1)
    | none => false)
  | _, _ => true
theorem kc0_ext : kc0.all (fun x => kext x.2) = true := by decide +kernel
theorem kc1_ext : kc1.all (fun x => kext x.2) = true := by decide +kernel
theorem kc2_ext : kc2.all (fun x => kext x.2) = true := by decide +kernel
theorem kc3_ext : kc3.all (fun x => kext x.2) = true := by decide +kernel
theorem kc4_ext : kc4.all (fun x => kext x.2) = true := by decide +kernel
theorem kc5_ext : kc5.all (fun x => kext x.2) = true := by decide +kernel
theorem kc6_ext : kc6.all (fun x => kext x.2) = true := by decide +kernel
theorem kc7_ext : kc7.all (fun x => kext x.2) = true := by decide +kernel
theorem kc8_ext : kc8.all (fun x => kext x.2) = true := by decide +kernel
theorem kc9_ext : kc9.all (fun x => kext x.2) = true := by decide +kernel
theorem kc10_ext : kc10.all (fun x => kext x.2) = true := by decide +kernel
theorem kc11_ext : kc11.all (fun x => kext x.2) = true := by decide +kernel
theorem kcode_in {y : Nat} (hy : y < 12) : Cond.code (kmi y).1 (kmi y).2.1 (kmi y).2.2 none ∈ jTBL := by
  match y, hy with
  | 0, _ => exact jT_of kcw0 rfl
  | 1, _ => exact jT_of kcw1 rfl
  | 2, _ => exact jT_of kcw2 rfl
  | 3, _ => exact jT_of kcw3 rfl
  | 4, _ => exact jT_of kcw4 rfl
  | 5, _ => exact jT_of kcw5 rfl
  | 6, _ => exact jT_of kcw6 rfl
  | 7, _ => exact jT_of kcw7 rfl
  | 8, _ => exact jT_of kcw8 rfl
  | 9, _ => exact jT_of kcw9 rfl
  | 10, _ => exact jT_of kcw10 rfl
  | 11, _ => exact jT_of kcw11 rfl
theorem kzip_at {y : Nat} (hy : y < 12) : ∃ w : Nat × Nat × Nat, (kinfo.zip kpi)[y]? = some (kmi y, w) := by
  match y, hy with
  | 0, _ => exact ⟨_, rfl⟩
  | 1, _ => exact ⟨_, rfl⟩
  | 2, _ => exact ⟨_, rfl⟩
  | 3, _ => exact ⟨_, rfl⟩
  | 4, _ => exact ⟨_, rfl⟩
  | 5, _ => exact ⟨_, rfl⟩
  | 6, _ => exact ⟨_, rfl⟩
  | 7, _ => exact ⟨_, rfl⟩
  | 8, _ => exact ⟨_, rfl⟩
  | 9, _ => exact ⟨_, rfl⟩
  | 10, _ => exact ⟨_, rfl⟩
  | 11, _ => exact ⟨_, rfl⟩
theorem kprog_at {y : Nat} (hy : y < 12) : ∃ cd : List (Nat × kE), kprog[y]? = some (cd, (kmi y).2.2) ∧ cd.all (fun x => kchk y x.1 x.2) = true ∧ cd.all (fun x => kext x.2) = true ∧ 1 ≤ (kmi y).2.2 := by
  match y, hy with
  | 0, _ => exact ⟨kc0, rfl, kc0_ok, kc0_ext, by decide⟩
  | 1, _ => exact ⟨kc1, rfl, kc1_ok, kc1_ext, by decide⟩
  | 2, _ => exact ⟨kc2, rfl, kc2_ok, kc2_ext, by decide⟩
  | 3, _ => exact ⟨kc3, rfl, kc3_ok, kc3_ext, by decide⟩
  | 4, _ => exact ⟨kc4, rfl, kc4_ok, kc4_ext, by decide⟩
  | 5, _ => exact ⟨kc5, rfl, kc5_ok, kc5_ext, by decide⟩
  | 6, _ => exact ⟨kc6, rfl, kc6_ok, kc6_ext, by decide⟩
  | 7, _ => exact ⟨kc7, rfl, kc7_ok, kc7_ext, by decide⟩
  | 8, _ => exact ⟨kc8, rfl, kc8_ok, kc8_ext, by decide⟩
  | 9, _ => exact ⟨kc9, rfl, kc9_ok, kc9_ext, by decide⟩
  | 10, _ => exact ⟨kc10, rfl, kc10_ok, kc10_ext, by decide⟩
  | 11, _ => exact ⟨kc11, rfl, kc11_ok, kc11_ext, by decide⟩
theorem kM_spec {y : Nat} (hy : y < 12) : Cond.code (kmi y).1 (kmi y).2.1 (kmi y).2.2 none ∈ jTBL ∧ Cond.initialized (kmi y).1.cls ∈ jTBL ∧ Cond.instanceMethod (kmi y).1 ∈ jTBL ∧ (kmi y).1.name = "<init>" ∧ (kmi y).1.cls ≠ "java/lang/invoke/MethodHandle" ∧ (kmi y).1.cls ≠ "java/lang/invoke/VarHandle" ∧ (parseMethodDescriptor (kmi y).1.desc).map (fun d => d.parameters.length) = some 0 ∧ (kmi y).2.2 ≤ 60 ∧ Jvm.plainName (kmi y).1.cls = true := by
  obtain ⟨w, hw⟩ := kzip_at hy
  have h := List.all_eq_true.mp kinfo_ok _ (List.mem_of_getElem? hw)
  simp only [Bool.and_eq_true, decide_eq_true_eq] at h
  obtain ⟨⟨⟨⟨⟨⟨⟨w1, w2⟩, w3⟩, w4⟩, w5⟩, w6⟩, w7⟩, w8⟩ := h
  exact ⟨kcode_in hy, jT_of (List.mem_of_getElem? w1) rfl, jT_of (List.mem_of_getElem? w2) rfl, w3, w4, w5, w6, w7, w8⟩
def kI (D : va_G) (lo : Nat) (as : List Nat) (cs : List ClassId) (tys : List (ClassId × FieldType)) (h : kH) : State → Prop := fun U => kRep D lo h as cs tys U.heap ∧ va_K D vwCl tys U ∧ kEV U ∧ lo ≤ U.heap.size
def kMet (l : Launch) (D : va_G) (lo d : Nat) (call : Nat → Nat → kH → Option kH) : Prop := ∀ (z a : Nat) (h h' : kH), call z a h = some h' → z < 12 → a < h.length → kokH h → kLe h h' → ∀ (as : List Nat) (cs : List ClassId) (tys : List (ClassId × FieldType)), Met l (kmi z).1 (.code (kmi z).1 (kmi z).2.1 (kmi z).2.2 none :: jTBL) (kroom d (h'.length - h.length) (kslots h' - kslots h)) (va_Pc [.ref (kad as a)] (kI D lo as cs tys h)) (kQ D lo h h' as) (h'.length - h.length) (kslots h' - kslots h) (fun q => lo ≤ q)
theorem kblind {D : va_G} {lo : Nat} {as : List Nat} {cs : List ClassId} {tys : List (ClassId × FieldType)} {h : kH} {vs : List Value} : FrameBlind (va_Pc vs (kI D lo as cs tys h)) := fun a U g mk w => by
  obtain ⟨w0, w1, w2, w3, w4⟩ := w
  exact ⟨w0, w1, va_K.moved (u := U) (U := U.calling g mk a) (Vm.Alike.refl U.vm) w2, kEV_same (u := U) (U := U.calling g mk a) rfl w3, w4⟩
theorem kcat_sum (as : List Nat) : ∀ st : List kV, ((st.map (kval as 0)).map fun v => v.category).sum = st.length
  | [] => rfl
  | v :: t => by
    rw [List.map_cons, List.map_cons, List.sum_cons, kcat_sum as t, List.length_cons]
    have e9 : (kval as 0 v).category = 1 := by
      match v with
      | .inl _ => rfl
      | .inr none => rfl
      | .inr (some _) => rfl
    rw [e9]
    omega
section KCALL
variable {p : Program} {l : Launch} {e : Env} {s : State} {m : MethodId} {args : Array Value} {below : List Frame} {meth : Method} {c : Code} {d : Nat} {D : va_G} {lo : Nat} {h0 hE : kH} {as0 : List Nat} {z : Nat}
variable {pc npc : Nat} {aux : List Nat} {L st : List kV} {h : kH} {k : Nat → List kV → List kV → kH → Option kH}
theorem kcall_go {R : Room} {H : Heap} {locs : List Loc} {ls : Array Slot} {rest st9 : List Value} {Q : State → Prop} {cells slots mc ms : Nat} {h' : kH} {as : List Nat} {a : Array Value} (hr : va_Run p l e R s m args below meth c H locs cells slots mc ms (F0 m pc ls st9) rest (kQ D lo h h' as a) (fun q => lo ≤ q)) (hS : va_S (fun q => lo ≤ q) s.heap H locs) (kk : ∀ (H1 : Heap) (locs1 : List Loc) (as' : List Nat) (cs' : List ClassId) (tys' : List (ClassId × FieldType)), kExt as as' h.length → va_K D vwCl tys' s → kRep D lo h' as' cs' tys' H1 → va_S (fun q => lo ≤ q) s.heap H1 locs1 → W p l e R s m args below meth c H1 locs1 (cells + mc) (slots + ms) Q (F0 m (pc + 3) ls rest)) : W p l e R s m args below meth c H locs cells slots Q (F0 m pc ls st9) := by
  intro T hT X
  obtain ⟨v', st₀, t, T', L', h9, X', hL, e1, e2, ⟨hoc, ⟨as', cs', tys', x1, x2, x3⟩, ⟨hz, hk⟩⟩, st⟩ := hr T hT X
  cases hoc
  rw [h9] at hz hk
  have al : s.vm.Alike t.vm := by rw [← e2]; exact X'.warmed.alike
  obtain ⟨t2, a1, b1⟩ := kk T'.heap (locs ++ L') as' cs' tys' x1 (va_K.moved al.symm x2) (by rw [e1]; exact x3)
    ⟨Nat.le_trans hS.1 (by rw [e1]; exact hz), fun q h1 h2 => by rw [e1, hk q (Nat.lt_of_lt_of_le h1 hS.1) h2]; exact hS.2.1 q h1 h2, fun q hq => by
      rcases List.mem_append.mp hq with h8 | h8
      · exact hS.2.2 q h8
      · exact hL q h8⟩ T' rfl X'
  exact ⟨t2, st t2 a1, b1⟩
theorem ks_special {ix : Nat} {call : Nat → Nat → kH → Option kH} (C : kCx p s m args meth c z lo) (hmet : kMet l D lo d call) (hd : decode (kmi z).2.1 pc = .ok (.invokespecial ix, npc - pc)) (hnp : npc = pc + 3) (hob : aux = [] → Cond.methodLink (kmi z).1.cls ix objectInit ∈ jTBL) (hcl : ∀ y, aux = [y] → y < 12 ∧ (Cond.methodLink (kmi z).1.cls ix (kmi y).1 ∈ jTBL ∨ Cond.methodLinkNest (kmi z).1.cls ix (kmi y).1 "EelThroat" ∈ knest)) (hk : kstep (.invokespecial ix) npc aux L st h call k = some hE) (hL : kokL h.length L) (hs : kokL h.length st) (hh : kokH h) (h0h : kLe h0 h) (hn : L.length = (kmi z).2.2) (hF : kKF p l e s m args below meth c d D lo h0 hE as0 z k) : kLe h hE ∧ kG p l e s m args below meth c d D lo h0 hE as0 pc L st h := by
  obtain ⟨hx, hb, hml, hown, hts, hr, hlk, hini, hlo, hEV⟩ := C
  subst hnp
  rw [Nat.add_sub_cancel_left] at hd
  dsimp only [kstep] at hk
  split at hk
  · rename_i b
    obtain ⟨g1, g2⟩ := hF _ _ _ _ hk hL (fun w hw => absurd hw List.not_mem_nil) hh h0h hn
    refine ⟨g1, fun as cs tys H locs ls cells slots hK hR hS hl he hc1 hc2 => ?_⟩
    refine W.objInit (a := kad as b) (rest := []) hx hb hown (hts _ (hob rfl)) (hts _ kobj_in.1) (hts _ kobj_in.2) rfl ((hl.1.trans hn).trans hml.symm) rfl hd (Nat.succ_le_succ (Nat.zero_le _)) (by show 2 * 0 + 0 + 12 ≤ 100 * (d + 1); omega) ?_
    exact W.eq (g2 := F0 m (pc + 3) ls []) rfl (g2 as cs tys H locs ls cells slots hK hR hS hl he hc1 hc2)
  · rename_i y b tt
    have hb9 : b < h.length := hs (.inr (some b)) List.mem_cons_self
    have hs2 : kokL h.length tt := fun w hw => hs w (List.mem_cons_of_mem _ hw)
    cases hble : Nat.ble tt.length 8 with
    | false => rw [hble] at hk; cases hk
    | true =>
    rw [hble] at hk
    simp only [cond_true] at hk
    have htl : tt.length ≤ 8 := Nat.le_of_ble_eq_true hble
    cases hcal : call y b h with
    | none => rw [hcal] at hk; cases hk
    | some h' =>
    rw [hcal] at hk
    dsimp only at hk
    cases hok : (kokHb h' && Nat.ble h.length h'.length && Nat.ble (kslots h) (kslots h')) with
    | false => rw [hok] at hk; cases hk
    | true =>
    rw [hok] at hk
    simp only [cond_true] at hk
    have ok1 := Bool.and_eq_true_iff.mp hok
    have ok2 := Bool.and_eq_true_iff.mp ok1.1
    have hh' : kokH h' := kokHb_spec ok2.1
    have hle : kLe h h' := ⟨Nat.le_of_ble_eq_true ok2.2, Nat.le_of_ble_eq_true ok1.2⟩
    obtain ⟨y12, hlk2⟩ := hcl y rfl
    have hM := hmet y b h h' hcal y12 hb9 hh hle
    obtain ⟨m1, m2, m3, m4, m5, m6, m7, m8, m9⟩ := kM_spec y12
    obtain ⟨g1, g2⟩ := hF _ _ _ _ hk (kokL_le hle.1 hL) (kokL_le hle.1 hs2) hh' (kLe_tr h0h hle) hn
    refine ⟨kLe_tr hle g1, fun as cs tys H locs ls cells slots hK hR hS hl he hc1 hc2 => ?_⟩
    have a1 := h0h.1
    have a2 := h0h.2
    have b1 := hle.1
    have b2 := hle.2
    have d1 := g1.1
    have d2 := g1.2
    have hroom : 2 * (F0 m pc ls ((.inr (some b) :: tt).map (kval as 0))).monitorRoom + ((tt.map (kval as 0)).map fun v => v.category).sum ≤ 8 := lv_room (by rw [kcat_sum]; exact htl)
    have hRm : (kroom d (h'.length - h.length) (kslots h' - kslots h)).frames + 1 ≤ (kroom (d + 1) (hE.length - h0.length) (kslots hE - kslots h0)).frames ∧ 8 + ((kmi y).2.2 + 11) + (kroom d (h'.length - h.length) (kslots h' - kslots h)).locals ≤ (kroom (d + 1) (hE.length - h0.length) (kslots hE - kslots h0)).locals := ⟨Nat.le_refl _, by show 8 + ((kmi y).2.2 + 11) + 100 * d ≤ 100 * (d + 1); omega⟩
    have hfit : cells + (h'.length - h.length) ≤ (kroom (d + 1) (hE.length - h0.length) (kslots hE - kslots h0)).cells ∧ slots + (kslots h' - kslots h) ≤ (kroom (d + 1) (hE.length - h0.length) (kslots hE - kslots h0)).slots := ⟨by show cells + (h'.length - h.length) ≤ hE.length - h0.length; omega, by show slots + (kslots h' - kslots h) ≤ kslots hE - kslots h0; omega⟩
    have hpre : PreS s H (va_Pc [.ref (kad as b)] (kI D lo as cs tys h)) (.ref (kad as b) :: []) := ⟨kblind, fun U hU hW => ⟨rfl, by rw [hU]; exact hR, va_K.moved hW.alike hK, kEV_warm hW hEV, by rw [hU]; exact Nat.le_trans hlo hS.1⟩⟩
    have kk : ∀ (H1 : Heap) (locs1 : List Loc) (as' : List Nat) (cs' : List ClassId) (tys' : List (ClassId × FieldType)), kExt as as' h.length → va_K D vwCl tys' s → kRep D lo h' as' cs' tys' H1 → va_S (fun q => lo ≤ q) s.heap H1 locs1 → W p l e (kroom (d + 1) (hE.length - h0.length) (kslots hE - kslots h0)) s m args below meth c H1 locs1 (cells + (h'.length - h.length)) (slots + (kslots h' - kslots h)) (MQ below (kQ D lo h0 hE as0) args s (hE.length - h0.length) (kslots hE - kslots h0) (fun q => lo ≤ q)) (F0 m (pc + 3) ls (tt.map (kval as 0))) := fun H1 locs1 as' cs' tys' hext hK' hR' hS' => by
      have w := g2 as' cs' tys' H1 locs1 ls (cells + (h'.length - h.length)) (slots + (kslots h' - kslots h)) hK' hR' hS' (kL_ext hext hL hl) (fun a9 h9 => (hext a9 (Nat.lt_of_lt_of_le h9 a1)).trans (he a9 h9)) (by omega) (by omega)
      rw [kst_ext hext tt hs2] at w
      exact w
    rcases hlk2 with h1 | h1
    · exact kcall_go (va_runI (As := []) (b := kad as b) (rest := tt.map (kval as 0)) ⟨hx, hb, hml, hown, hts⟩ (hM as cs tys) ⟨callB_of 0 hts (jgood m1) rfl rfl rfl (hts _ m2) (hts _ h1) ⟨m5, m6, m7⟩ hRm, m4, hts _ m3⟩ hpre rfl rfl (hl.1.trans hn) rfl hroom hd hfit) hS kk
    · exact kcall_go (va_runIN (As := []) (b := kad as b) (rest := tt.map (kval as 0)) ⟨hx, hb, hml, hown, hts⟩ (hM as cs tys) ⟨va_cnB 0 hts (jgood m1) rfl rfl rfl (hEV.1 _ h1) (hts _ m2) ⟨m5, m6, m7⟩ hRm, m4, hts _ m3⟩ hpre rfl rfl (hl.1.trans hn) rfl hroom hd hfit) hS kk
  · cases hk
theorem ks_step {ins : Instr} {call : Nat → Nat → kH → Option kH} (C : kCx p s m args meth c z lo) (hmet : kMet l D lo d call) (hc : kchk z pc (ins, npc, aux) = true) (hx9 : kext (ins, npc, aux) = true) (hk : kstep ins npc aux L st h call k = some hE) (hL : kokL h.length L) (hs : kokL h.length st) (hh : kokH h) (h0h : kLe h0 h) (hn : L.length = (kmi z).2.2) (hF : kKF p l e s m args below meth c d D lo h0 hE as0 z k) : kLe h hE ∧ kG p l e s m args below meth c d D lo h0 hE as0 pc L st h := by
  unfold kchk at hc
  have hc0 := Bool.and_eq_true_iff.mp hc
  have hd : decode (kmi z).2.1 pc = .ok (ins, npc - pc) := of_decide_eq_true hc0.1
  have hc1 := hc0.2
  cases ins
  case aload_n i => exact ks_aload C hd (Nat.eq_of_beq_eq_true hc1) hk hL hs hh h0h hn hF
  case iload_n i => exact ks_iload C hd (Nat.eq_of_beq_eq_true hc1) hk hL hs hh h0h hn hF
  case dup => exact ks_dup C hd (Nat.eq_of_beq_eq_true hc1) hk hL hs hh h0h hn hF
  case aastore => exact ks_aastore C hd (Nat.eq_of_beq_eq_true hc1) hk hL hs hh h0h hn hF
  case return_ => exact ks_return C hd (Nat.eq_of_beq_eq_true hc1) hk hL hs hh h0h hn hF
  case istore_n i => exact ks_istore C hd (Nat.eq_of_beq_eq_true (Bool.and_eq_true_iff.mp hc1).1) hk hL hs hh h0h hn hF
  case iconst n => exact ks_iconst C hd (Nat.eq_of_beq_eq_true (Bool.and_eq_true_iff.mp hc1).1) (Bool.and_eq_true_iff.mp hc1).2 hk hL hs hh h0h hn hF
  case bipush n =>
    have w := Bool.and_eq_true_iff.mp hc1
    have w1 := Bool.and_eq_true_iff.mp w.1
    exact ks_bipush C hd (Nat.eq_of_beq_eq_true w1.1) w1.2 (of_decide_eq_true w.2) hk hL hs hh h0h hn hF
  case sipush n =>
    have w := Bool.and_eq_true_iff.mp hc1
    have w1 := Bool.and_eq_true_iff.mp w.1
    exact ks_sipush C hd (Nat.eq_of_beq_eq_true w1.1) w1.2 (of_decide_eq_true w.2) hk hL hs hh h0h hn hF
  case iinc i n => exact ks_iinc C hd (Nat.eq_of_beq_eq_true (Bool.and_eq_true_iff.mp hc1).1) hk hL hs hh h0h hn hF
  case goto o =>
    have w := Bool.and_eq_true_iff.mp hc1
    exact ks_goto C hd (Nat.eq_of_beq_eq_true w.1) (fun t e9 => by
      have w2 := w.2
      rw [e9] at w2
      exact of_decide_eq_true w2) hk hL hs hh h0h hn hF
  case if_icmp cd o =>
    cases cd
    case ge =>
      have w := Bool.and_eq_true_iff.mp hc1
      exact ks_icmp C hd (Nat.eq_of_beq_eq_true w.1) (fun t e9 => by
        have w2 := w.2
        rw [e9] at w2
        exact of_decide_eq_true w2) hk hL hs hh h0h hn hF
    all_goals
      have h9 : (none : Option kH) = some hE := hk
      cases h9
  case new ix =>
    have w := Bool.and_eq_true_iff.mp hc1
    exact ks_new C hd (Nat.eq_of_beq_eq_true w.1) (fun t e9 => by
      have w2 := w.2
      rw [e9] at w2
      have w3 := Bool.and_eq_true_iff.mp w2
      exact ⟨Nat.le_of_ble_eq_true w3.1, kpos_in (of_decide_eq_true w3.2) rfl⟩) hk hL hs hh h0h hn hF
  case newarray ty =>
    have w := Bool.and_eq_true_iff.mp hc1
    exact ks_newarray C hd (Nat.eq_of_beq_eq_true w.1) (fun t e9 => by
      have w2 := w.2
      rw [e9] at w2
      have w3 := Bool.and_eq_true_iff.mp w2
      exact ⟨Nat.le_of_ble_eq_true w3.1, of_decide_eq_true w3.2⟩) hk hL hs hh h0h hn hF
  case anewarray ix =>
    have w := Bool.and_eq_true_iff.mp hc1
    exact ks_anewarray C hd (Nat.eq_of_beq_eq_true w.1) (fun t e9 => by
      have w2 := w.2
      rw [e9] at w2
      have w3 := Bool.and_eq_true_iff.mp w2
      have w4 := Bool.and_eq_true_iff.mp w3.1
      exact ⟨Nat.le_of_ble_eq_true w4.1, Nat.le_of_ble_eq_true w4.2, kpos_in (of_decide_eq_true w3.2) rfl⟩) hk hL hs hh h0h hn hF
  case getfield ix =>
    have w := Bool.and_eq_true_iff.mp hc1
    exact ks_getfield C hd (Nat.eq_of_beq_eq_true w.1) (fun f j e9 => by
      have w2 := w.2
      rw [e9] at w2
      have w3 := Bool.and_eq_true_iff.mp w2
      have w4 := Bool.and_eq_true_iff.mp w3.1
      have w5 := Bool.and_eq_true_iff.mp w4.1
      exact ⟨Nat.le_of_ble_eq_true w5.1, of_decide_eq_true w5.2, of_decide_eq_true w4.2, kpos_in (of_decide_eq_true w3.2) rfl⟩) (fun f j e9 => by
      rw [e9] at hx9
      unfold kext at hx9
      dsimp only at hx9
      split at hx9
      · rename_i u hu
        refine ⟨u, hu, fun e8 => ?_⟩
        rw [e8] at hx9
        cases hx9
      · cases hx9) hk hL hs hh h0h hn hF
  case putfield ix =>
    have w := Bool.and_eq_true_iff.mp hc1
    exact ks_putfield C hd (Nat.eq_of_beq_eq_true w.1) (fun f j e9 => by
      have w2 := w.2
      rw [e9] at w2
      have w3 := Bool.and_eq_true_iff.mp w2
      have w4 := Bool.and_eq_true_iff.mp w3.1
      have w5 := Bool.and_eq_true_iff.mp w4.1
      have w6 := Bool.and_eq_true_iff.mp w5.1
      exact ⟨Nat.le_of_ble_eq_true w6.1, of_decide_eq_true w6.2, of_decide_eq_true w5.2, of_decide_eq_true w4.2, kpos_in (of_decide_eq_true w3.2) rfl⟩) (fun f j e9 => by
      rw [e9] at hx9
      exact hx9) hk hL hs hh h0h hn hF
  case invokespecial ix =>
    have w := Bool.and_eq_true_iff.mp hc1
    exact ks_special C hmet hd (Nat.eq_of_beq_eq_true w.1) (fun e9 => by
      have w2 := w.2
      rw [e9] at w2
      exact kpos_in (of_decide_eq_true w2) rfl) (fun y e9 => by
      have w2 := w.2
      rw [e9] at w2
      have w3 := Bool.and_eq_true_iff.mp w2
      refine ⟨Nat.le_of_ble_eq_true w3.1, ?_⟩
      rcases Bool.or_eq_true_iff.mp w3.2 with w4 | w4
      · exact Or.inl (kpos_in (of_decide_eq_true w4) rfl)
      · obtain ⟨u, hu, hu2⟩ := List.any_eq_true.mp w4
        rw [of_decide_eq_true hu2] at hu
        exact Or.inr hu) hk hL hs hh h0h hn hF
  all_goals
    have h9 : (none : Option kH) = some hE := hk
    cases h9
theorem kget_mem : ∀ {cd : List (Nat × kE)} {pc : Nat} {en : kE}, kget cd pc = some en → (pc, en) ∈ cd
  | [], _, _, h => by cases h
  | (x, y) :: t, pc, en, h => by
    unfold kget at h
    cases hb : Nat.beq x pc with
    | true =>
      rw [hb] at h
      cases h
      cases Nat.eq_of_beq_eq_true hb
      exact List.mem_cons_self
    | false =>
      rw [hb] at h
      exact List.mem_cons_of_mem _ (kget_mem (cd := t) h)
theorem ksim_run {cd : List (Nat × kE)} {call : Nat → Nat → kH → Option kH} (C : kCx p s m args meth c z lo) (hmet : kMet l D lo d call) (hck : cd.all (fun x => kchk z x.1 x.2) = true) (hcx : cd.all (fun x => kext x.2) = true) : ∀ (n pc : Nat) (L st : List kV) (h : kH), krun cd call n pc L st h = some hE → kokL h.length L → kokL h.length st → kokH h → kLe h0 h → L.length = (kmi z).2.2 → kLe h hE ∧ kG p l e s m args below meth c d D lo h0 hE as0 pc L st h
  | 0, _, _, _, _, h, _, _, _, _, _ => by cases h
  | n + 1, pc, L, st, h, hk, hL, hs, hh, h0h, hn => by
    unfold krun at hk
    cases he : kget cd pc with
    | none => rw [he] at hk; cases hk
    | some en =>
      rw [he] at hk
      dsimp only at hk
      have w1 := List.all_eq_true.mp hck _ (kget_mem he)
      have w2 := List.all_eq_true.mp hcx _ (kget_mem he)
      exact ks_step (ins := en.1) (npc := en.2.1) (aux := en.2.2) C hmet w1 w2 hk hL hs hh h0h hn (fun pc' L' st' h' hk' hL' hs' hh' h0h' hn' => ksim_run C hmet hck hcx n pc' L' st' h' hk' hL' hs' hh' h0h' hn')
end KCALL
theorem kmet_all {l : Launch} {D : va_G} {lo : Nat} : ∀ d, kMet l D lo d (kSem d)
  | 0 => fun z a h h' hc => by cases hc
  | d + 1 => by
    intro z a h h' hc hz ha hh hle as cs tys
    have hmet := kmet_all (l := l) (D := D) (lo := lo) d
    obtain ⟨cd, hcd, hck, hcx, h1⟩ := kprog_at hz
    obtain ⟨m1, m2, m3, m4, m5, m6, m7, m8, m9⟩ := kM_spec hz
    have hrun : krun cd (kSem d) 400 0 (.inr (some a) :: List.replicate ((kmi z).2.2 - 1) (.inr none)) [] h = some h' := by
      have w := hc
      unfold kSem at w
      rw [hcd] at w
      exact w
    refine Met.ofW (cc := (kmi z).2.1) (maxL := (kmi z).2.2) (ret := none) m9 rfl ?_
    intro p e s m args below meth c s₁ B hml hv
    obtain ⟨rfl, hR, hK, hEV, hlo⟩ := hv
    have hts0 := atoms_spec (ws := .code (kmi z).1 (kmi z).2.1 (kmi z).2.2 none :: jTBL) B.pre
    have hown : s.vm.findClass (kmi z).1.cls = some m.cls := findClass_of_methodNamed B.named
    have hin : meth.name = "<init>" := (name_of_methodNamed B.named B.method).1.trans m4
    have C : kCx p s m [Value.ref (kad as a)].toArray meth c z lo := ⟨B.exec, B.bytes, hml, hown, fun w hw => hts0 w (List.mem_cons_of_mem _ hw), B.returns, B.notSynchronized, hin, hlo, hEV⟩
    have hl := lv_entry [Value.ref (kad as a)] (n := (kmi z).2.2) h1
    rw [lg_entry_eq]
    generalize (lg_sl [Value.ref (kad as a)] ++ List.replicate ((kmi z).2.2 - (lg_sl [Value.ref (kad as a)]).length) Slot.unset).toArray = ls at hl ⊢
    have hlen : (.inr (some a) :: List.replicate ((kmi z).2.2 - 1) (.inr none) : List kV).length = (kmi z).2.2 := by
      rw [List.length_cons, List.length_replicate]
      omega
    have hkL : kL as (.inr (some a) :: List.replicate ((kmi z).2.2 - 1) (.inr none)) ls := by
      refine ⟨by rw [hl.1, hlen], hl.2.1, fun i v hi hv => ?_⟩
      match i, hi with
      | 0, hi =>
        have e9 : v = .inr (some a) := (Option.some.inj hi).symm
        rw [e9]
        exact hl.2.2 (0, Value.ref (kad as a)) List.mem_cons_self
      | j + 1, hi =>
        rw [List.getElem?_cons_succ, List.getElem?_replicate] at hi
        split at hi
        · exact absurd (Option.some.inj hi).symm hv
        · cases hi
    have hok : kokL h.length (.inr (some a) :: List.replicate ((kmi z).2.2 - 1) (.inr none)) := fun v hv => by
      rcases List.mem_cons.mp hv with e9 | e9
      · rw [e9]; exact ha
      · rw [List.eq_of_mem_replicate e9]; exact True.intro
    exact (ksim_run (h0 := h) (hE := h') (as0 := as) C hmet hck hcx 400 0 _ [] h hrun hok (fun v hv => absurd hv List.not_mem_nil) hh (kLe_rf h) hlen).2 as cs tys s.heap [] ls 0 0 hK hR va_S.rf hkL (fun a9 _ => rfl) (Nat.zero_add _) (Nat.zero_add _)
