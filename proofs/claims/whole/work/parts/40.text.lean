/-! Texts: String.length and String.charAt of the program's own texts -/
def tlen : List Nat := jtexts.map List.length
def tbyt : List (List Int32) := jtexts.map fun t => t.map Int32.ofInt
abbrev tSt : String := "java/lang/String"
abbrev tLa : String := "java/lang/StringLatin1"
abbrev tPr : String := "jdk/internal/util/Preconditions"
abbrev tFo : String := "Ljava/util/function/BiFunction;"
def tyCo : MethodName := ⟨"java/lang/String", "coder", "()B"⟩
def tyIs : MethodName := ⟨"java/lang/String", "isLatin1", "()Z"⟩
def tyCh : MethodName := ⟨"java/lang/StringLatin1", "charAt", "([BI)C"⟩
def tyCk : MethodName := ⟨"java/lang/String", "checkIndex", "(II)V"⟩
def tyCp : MethodName := ⟨"jdk/internal/util/Preconditions", "checkIndex", "(IILjava/util/function/BiFunction;)I"⟩
/-- what holds outside memory: links to nest mates, the texts -/
def tEV (ad : Nat → Int → Nat) (adV : Nat → Nat) (fo : Option Nat) (U : State) : Prop :=
  (∀ q ∈ jlN, va_Nw (.methodLinkNest (jown.getD q.1 "") q.2.1 (jnm q.2.2.1) "EelThroat") U) ∧ (∀ q ∈ jlS, ∃ tx, vk_R (jown.getD q.1 "") q.2.1 tx (ad 100 (q.2.2 : Int)) U) ∧ vk_S 7 tlen tbyt (fun i => ad 100 (i : Int)) adV (jA ad) U U.heap ∧ va_Z "java/lang/String" "COMPACT_STRINGS" "Z" (.int 1) (jA ad) U U.heap ∧ va_Z "jdk/internal/util/Preconditions" "SIOOBE_FORMATTER" "Ljava/util/function/BiFunction;" (va_rf fo) (jA ad) U U.heap
theorem tEV_ok (ad : Nat → Int → Nat) (adV : Nat → Nat) (fo : Option Nat) : jEVok (tEV ad adV fo) ad := by
  refine ⟨fun U g mk a h => ?_, fun s U h hW hF => ?_, fun s h => h.2.1, fun s h => h.1, fun s h i hi H locs hS => ?_⟩
  · obtain ⟨h1, h2, h3, h4, h5⟩ := h
    refine ⟨fun q hq => va_Nw.same (u := U) rfl rfl (h1 q hq), fun q hq => ?_, ?_, ?_, ?_⟩
    · obtain ⟨tx, ht⟩ := h2 q hq
      exact ⟨tx, vk_R.same (u := U) rfl ht⟩
    · exact vk_S.moved (u := U) (Vm.Alike.refl U.vm) h3
    · exact va_Z.moved (u := U) (Vm.Alike.refl U.vm) h4
    · exact va_Z.moved (u := U) (Vm.Alike.refl U.vm) h5
  · obtain ⟨h1, h2, h3, h4, h5⟩ := h
    refine ⟨fun q hq => va_Nw.warmM hW (h1 q hq), fun q hq => ?_, ?_, ?_, ?_⟩
    · obtain ⟨tx, ht⟩ := h2 q hq
      exact ⟨tx, vk_R.warm hW ht⟩
    · exact (vk_S.moved hW.alike h3).kept hF.2
    · exact (va_Z.moved hW.alike h4).kept hF.2
    · exact (va_Z.moved hW.alike h5).kept hF.2
  · obtain ⟨h1, h2, h3, h4, h5⟩ := h
    have h0 := hi.1
    have h7 : i < 7 := hi.2
    have e : ad 100 i = (fun i : Nat => ad 100 (i : Int)) i.toNat := by
      show ad 100 i = ad 100 (i.toNat : Int)
      rw [Int.toNat_of_nonneg h0]
    rw [e]
    exact vk_recv h3 (by omega) hS
def tQ (D : va_G) (cA : Nat → ClassId) (ad : Nat → Int → Nat) (v : Option Value) (mem : jMem) : Array Value → State → Outcome → State → Prop := fun _ st oc t => oc = .returned v ∧ va_P D vwCl (jws ad cA mem) t.heap ∧ va_F (jA ad) st t
set_option maxRecDepth 100000 in
theorem tw_fcs : Cond.fieldLink tSt 38 tSt "COMPACT_STRINGS" "Z" ∈ jTBL := jT_of (jtb2 (List.mem_of_getElem? (i := 235) rfl)) rfl
set_option maxRecDepth 100000 in
theorem tw_fco : Cond.fieldLink tSt 15 tSt "coder" "B" ∈ jTBL := jT_of (List.mem_of_getElem? (i := 1780) (by decide +kernel)) rfl
set_option maxRecDepth 100000 in
theorem tw_fva : Cond.fieldLink tSt 9 tSt "value" "[B" ∈ jTBL := jT_of (List.mem_of_getElem? (i := 1779) (by decide +kernel)) rfl
set_option maxRecDepth 100000 in
theorem tw_ffo : Cond.fieldLink tSt 1053 tPr "SIOOBE_FORMATTER" tFo ∈ jTBL := jT_of (List.mem_of_getElem? (i := 599) (by decide +kernel)) rfl
set_option maxRecDepth 100000 in
theorem tw_mco : Cond.methodLink tSt 335 tyCo ∈ jTBL ∧ Cond.instanceMethod tyCo ∈ jTBL ∧ Cond.selects tSt tyCo tyCo ∈ jTBL := ⟨jT_of (List.mem_of_getElem? (i := 579) (by decide +kernel)) rfl, jT_of (List.mem_of_getElem? (i := 580) (by decide +kernel)) rfl, jT_of (List.mem_of_getElem? (i := 581) (by decide +kernel)) rfl⟩
set_option maxRecDepth 100000 in
theorem tw_mis : Cond.methodLink tSt 492 tyIs ∈ jTBL ∧ Cond.instanceMethod tyIs ∈ jTBL ∧ Cond.selects tSt tyIs tyIs ∈ jTBL := ⟨jT_of (List.mem_of_getElem? (i := 589) (by decide +kernel)) rfl, jT_of (List.mem_of_getElem? (i := 590) (by decide +kernel)) rfl, jT_of (List.mem_of_getElem? (i := 591) (by decide +kernel)) rfl⟩
set_option maxRecDepth 100000 in
theorem tw_mch : Cond.methodLink tSt 495 tyCh ∈ jTBL ∧ Cond.static tyCh ∈ jTBL := ⟨jT_of (List.mem_of_getElem? (i := 593) (by decide +kernel)) rfl, jT_of (List.mem_of_getElem? (i := 594) (by decide +kernel)) rfl⟩
set_option maxRecDepth 100000 in
theorem tw_mck : Cond.methodLink tLa 9 tyCk ∈ jTBL ∧ Cond.static tyCk ∈ jTBL := ⟨jT_of (List.mem_of_getElem? (i := 596) (by decide +kernel)) rfl, jT_of (List.mem_of_getElem? (i := 597) (by decide +kernel)) rfl⟩
set_option maxRecDepth 100000 in
theorem tw_mcp : Cond.methodLink tSt 1059 tyCp ∈ jTBL ∧ Cond.static tyCp ∈ jTBL := ⟨jT_of (List.mem_of_getElem? (i := 601) (by decide +kernel)) rfl, jT_of (List.mem_of_getElem? (i := 602) (by decide +kernel)) rfl⟩
set_option maxRecDepth 100000 in
theorem tw_ini : Cond.initialized tSt ∈ jTBL ∧ Cond.initialized tLa ∈ jTBL ∧ Cond.initialized tPr ∈ jTBL := ⟨jT_of (List.mem_of_getElem? (i := 121) (by decide +kernel)) rfl, jT_of (List.mem_of_getElem? (i := 122) (by decide +kernel)) rfl, jT_of (List.mem_of_getElem? (i := 123) (by decide +kernel)) rfl⟩
set_option maxRecDepth 100000 in
theorem tc_co : Cond.code tyCo prog_17_method_152_code 1 (some .byte) ∈ jTBL := jT_of (jtb2 (List.mem_of_getElem? (i := 234) rfl)) rfl
set_option maxRecDepth 100000 in
theorem tc_is : Cond.code tyIs prog_17_method_154_code 1 (some .boolean) ∈ jTBL := jT_of (jtb3 (List.mem_of_getElem? (i := 4) rfl)) rfl
set_option maxRecDepth 100000 in
theorem tc_ch : Cond.code tyCh prog_18_method_2_code 2 (some .char) ∈ jTBL := jT_of (jtb3 (List.mem_of_getElem? (i := 7) rfl)) rfl
set_option maxRecDepth 100000 in
theorem tc_ck : Cond.code tyCk prog_17_method_155_code 2 none ∈ jTBL := jT_of (jtb3 (List.mem_of_getElem? (i := 10) rfl)) rfl
set_option maxRecDepth 100000 in
theorem tc_cp : Cond.code tyCp prog_21_method_11_code 3 (some .int) ∈ jTBL := jT_of (jtb3 (List.mem_of_getElem? (i := 15) rfl)) rfl
theorem td_co : decode prog_17_method_152_code 0 = .ok (.getstatic 38, 3) ∧ decode prog_17_method_152_code 3 = .ok (.ifCond .eq 10, 3) ∧ decode prog_17_method_152_code 6 = .ok (.aload_n 0, 1) ∧ decode prog_17_method_152_code 7 = .ok (.getfield 15, 3) ∧ decode prog_17_method_152_code 10 = .ok (.goto 4, 3) ∧ decode prog_17_method_152_code 14 = .ok (.ireturn, 1) := by decide +kernel
theorem td_is : decode prog_17_method_154_code 0 = .ok (.getstatic 38, 3) ∧ decode prog_17_method_154_code 3 = .ok (.ifCond .eq 14, 3) ∧ decode prog_17_method_154_code 6 = .ok (.aload_n 0, 1) ∧ decode prog_17_method_154_code 7 = .ok (.getfield 15, 3) ∧ decode prog_17_method_154_code 10 = .ok (.ifCond .ne 7, 3) ∧ decode prog_17_method_154_code 13 = .ok (.iconst 1, 1) ∧ decode prog_17_method_154_code 14 = .ok (.goto 4, 3) ∧ decode prog_17_method_154_code 18 = .ok (.ireturn, 1) := by decide +kernel
theorem td_ch : decode prog_18_method_2_code 0 = .ok (.iload_n 1, 1) ∧ decode prog_18_method_2_code 1 = .ok (.aload_n 0, 1) ∧ decode prog_18_method_2_code 2 = .ok (.arraylength, 1) ∧ decode prog_18_method_2_code 3 = .ok (.invokestatic 9, 3) ∧ decode prog_18_method_2_code 6 = .ok (.aload_n 0, 1) ∧ decode prog_18_method_2_code 7 = .ok (.iload_n 1, 1) ∧ decode prog_18_method_2_code 8 = .ok (.baload, 1) ∧ decode prog_18_method_2_code 9 = .ok (.sipush 255, 3) ∧ decode prog_18_method_2_code 12 = .ok (.iand, 1) ∧ decode prog_18_method_2_code 13 = .ok (.i2c, 1) ∧ decode prog_18_method_2_code 14 = .ok (.ireturn, 1) := by decide +kernel
theorem td_ck : decode prog_17_method_155_code 0 = .ok (.iload_n 0, 1) ∧ decode prog_17_method_155_code 1 = .ok (.iload_n 1, 1) ∧ decode prog_17_method_155_code 2 = .ok (.getstatic 1053, 3) ∧ decode prog_17_method_155_code 5 = .ok (.invokestatic 1059, 3) ∧ decode prog_17_method_155_code 8 = .ok (.pop, 1) ∧ decode prog_17_method_155_code 9 = .ok (.return_, 1) := by decide +kernel
theorem td_cp : decode prog_21_method_11_code 0 = .ok (.iload_n 0, 1) ∧ decode prog_21_method_11_code 1 = .ok (.ifCond .lt 8, 3) ∧ decode prog_21_method_11_code 4 = .ok (.iload_n 0, 1) ∧ decode prog_21_method_11_code 5 = .ok (.iload_n 1, 1) ∧ decode prog_21_method_11_code 6 = .ok (.if_icmp .lt 10, 3) ∧ decode prog_21_method_11_code 16 = .ok (.iload_n 0, 1) ∧ decode prog_21_method_11_code 17 = .ok (.ireturn, 1) := by decide +kernel
theorem td_le : decode prog_17_method_54_code 0 = .ok (.aload_n 0, 1) ∧ decode prog_17_method_54_code 1 = .ok (.getfield 9, 3) ∧ decode prog_17_method_54_code 4 = .ok (.arraylength, 1) ∧ decode prog_17_method_54_code 5 = .ok (.aload_n 0, 1) ∧ decode prog_17_method_54_code 6 = .ok (.invokevirtual 335, 3) ∧ decode prog_17_method_54_code 9 = .ok (.ishr, 1) ∧ decode prog_17_method_54_code 10 = .ok (.ireturn, 1) := by decide +kernel
theorem td_at : decode prog_17_method_56_code 0 = .ok (.aload_n 0, 1) ∧ decode prog_17_method_56_code 1 = .ok (.invokevirtual 492, 3) ∧ decode prog_17_method_56_code 4 = .ok (.ifCond .eq 12, 3) ∧ decode prog_17_method_56_code 7 = .ok (.aload_n 0, 1) ∧ decode prog_17_method_56_code 8 = .ok (.getfield 9, 3) ∧ decode prog_17_method_56_code 11 = .ok (.iload_n 1, 1) ∧ decode prog_17_method_56_code 12 = .ok (.invokestatic 495, 3) ∧ decode prog_17_method_56_code 15 = .ok (.ireturn, 1) := by decide +kernel
theorem tlen_sh : ∀ i : Nat, i < 7 → Int32.ofNat (tlen.getD i 0) >>> ((0 : Int32) &&& 31) = Int32.ofInt ((tlen.getD i 0 : Nat) : Int) := by decide +kernel
theorem tlen_ok : ∀ i : Nat, i < 7 → -2147483648 ≤ ((tlen.getD i 0 : Nat) : Int) ∧ ((tlen.getD i 0 : Nat) : Int) < 2147483648 := by decide +kernel
section TX
variable {l : Launch} {D : va_G} {cA : Nat → ClassId} {ad : Nat → Int → Nat} {adV : Nat → Nat} {fo : Option Nat} {mem : jMem}
theorem tmet_co (d : Nat) {i : Nat} (hi : i < 7) : Met l tyCo (.code tyCo prog_17_method_152_code 1 (some .byte) :: jTBL) (jroom d) (va_Pc [.ref (ad 100 (i : Int))] (jI (tEV ad adV fo) D cA ad mem)) (tQ D cA ad (some (.int 0)) mem) 0 0 (jA ad) := by
  refine Met.ofW (cc := prog_17_method_152_code) (maxL := 1) (ret := some .byte) (by decide) rfl ?_
  intro p e s m args below meth c s₁ B hml hv
  obtain ⟨rfl, hP, hK, h1, h2, h3, h4, h5⟩ := hv
  have hts0 := atoms_spec (ws := .code tyCo prog_17_method_152_code 1 (some .byte) :: jTBL) B.pre
  have hts : ∀ w ∈ jTBL, w.before [Value.ref (ad 100 (i : Int))].toArray s = true := fun w hw => hts0 w (List.mem_cons_of_mem _ hw)
  have hown : s.vm.findClass "java/lang/String" = some m.cls := findClass_of_methodNamed B.named
  have hx := B.exec
  have hb := B.bytes
  have hl := lv_entry [Value.ref (ad 100 (i : Int))] (n := 1) (Nat.le_refl 1)
  rw [lg_entry_eq]
  generalize (lg_sl [Value.ref (ad 100 (i : Int))] ++ List.replicate (1 - (lg_sl [Value.ref (ad 100 (i : Int))]).length) Slot.unset).toArray = ls at hl ⊢
  obtain ⟨d0, d3, d6, d7, d10, d14⟩ := td_co
  refine va_gets hx hb h4 va_S.rf hown (hts _ tw_fcs) (fun x hx => hx) d0 ?_
  refine lv_if_eq hx hb (tgt := 13) d3 rfl (fun h => absurd h (by decide)) (fun _ => ?_)
  refine lv_aload_n hx hb d6 rfl (lv_at hl 0 rfl) ?_
  refine vk_getf hx hb (h3.1 i hi).2.1 va_S.rf hown (hts _ tw_fco) (fun x hx => hx) d7 ?_
  refine lv_goto hx hb (tgt := 14) d10 rfl ?_
  exact W.zret hx hb B.returns rfl (fun t ht _ => ⟨rfl, by rw [ht]; exact hP, va_S.rf.F ht⟩) (fun q hq => absurd hq List.not_mem_nil) d14 B.notSynchronized
theorem tmet_is (d : Nat) {i : Nat} (hi : i < 7) : Met l tyIs (.code tyIs prog_17_method_154_code 1 (some .boolean) :: jTBL) (jroom d) (va_Pc [.ref (ad 100 (i : Int))] (jI (tEV ad adV fo) D cA ad mem)) (tQ D cA ad (some (.int 1)) mem) 0 0 (jA ad) := by
  refine Met.ofW (cc := prog_17_method_154_code) (maxL := 1) (ret := some .boolean) (by decide) rfl ?_
  intro p e s m args below meth c s₁ B hml hv
  obtain ⟨rfl, hP, hK, h1, h2, h3, h4, h5⟩ := hv
  have hts0 := atoms_spec (ws := .code tyIs prog_17_method_154_code 1 (some .boolean) :: jTBL) B.pre
  have hts : ∀ w ∈ jTBL, w.before [Value.ref (ad 100 (i : Int))].toArray s = true := fun w hw => hts0 w (List.mem_cons_of_mem _ hw)
  have hown : s.vm.findClass "java/lang/String" = some m.cls := findClass_of_methodNamed B.named
  have hx := B.exec
  have hb := B.bytes
  have hl := lv_entry [Value.ref (ad 100 (i : Int))] (n := 1) (Nat.le_refl 1)
  rw [lg_entry_eq]
  generalize (lg_sl [Value.ref (ad 100 (i : Int))] ++ List.replicate (1 - (lg_sl [Value.ref (ad 100 (i : Int))]).length) Slot.unset).toArray = ls at hl ⊢
  obtain ⟨d0, d3, d6, d7, d10, d13, d14, d18⟩ := td_is
  refine va_gets hx hb h4 va_S.rf hown (hts _ tw_fcs) (fun x hx => hx) d0 ?_
  refine lv_if_eq hx hb (tgt := 17) d3 rfl (fun h => absurd h (by decide)) (fun _ => ?_)
  refine lv_aload_n hx hb d6 rfl (lv_at hl 0 rfl) ?_
  refine vk_getf hx hb (h3.1 i hi).2.1 va_S.rf hown (hts _ tw_fco) (fun x hx => hx) d7 ?_
  refine lv_if_ne hx hb (tgt := 17) d10 rfl (fun h => absurd rfl h) (fun _ => ?_)
  refine lv_iconst hx hb (v := 1) d13 rfl ?_
  refine lv_goto hx hb (tgt := 18) d14 rfl ?_
  exact W.zret hx hb B.returns rfl (fun t ht _ => ⟨rfl, by rw [ht]; exact hP, va_S.rf.F ht⟩) (fun q hq => absurd hq List.not_mem_nil) d18 B.notSynchronized
theorem tcall_go {p : Program} {e : Env} {s : State} {m : MethodId} {args : Array Value} {below : List Frame} {meth : Method} {c : Code} {pc : Nat} {R : Room} {H : Heap} {locs : List Loc} {ls : Array Slot} {rest st0 : List Value} {Q : State → Prop} {v : Option Value} {a : Array Value} (hr : va_Run p l e R s m args below meth c H locs 0 0 0 0 (F0 m pc ls st0) rest (tQ D cA ad v mem a) (jA ad)) (hS : va_S (jA ad) s.heap H locs) (kk : ∀ (H1 : Heap) (locs1 : List Loc), va_P D vwCl (jws ad cA mem) H1 → va_S (jA ad) s.heap H1 locs1 → W p l e R s m args below meth c H1 locs1 0 0 Q (F0 m (pc + 3) ls (v.toList ++ rest))) : W p l e R s m args below meth c H locs 0 0 Q (F0 m pc ls st0) := by
  intro T hT X
  obtain ⟨v', st₀, t, T', L', h0, X', hL, e1, e2, ⟨hoc, hP', ⟨hz, hk⟩⟩, st⟩ := hr T hT X
  cases hoc
  rw [h0] at hz hk
  obtain ⟨t2, a1, b1⟩ := kk T'.heap (locs ++ L') (by rw [e1]; exact hP')
    ⟨Nat.le_trans hS.1 (by rw [e1]; exact hz), fun q h1 h2 => by rw [e1, hk q (Nat.lt_of_lt_of_le h1 hS.1) h2]; exact hS.2.1 q h1 h2, fun q hq => by
      rcases List.mem_append.mp hq with h | h
      · exact hS.2.2 q h
      · exact hL q h⟩ T' rfl X'
  exact ⟨t2, st t2 a1, b1⟩
theorem tblind (vs : List Value) : FrameBlind (va_Pc vs (jI (tEV ad adV fo) D cA ad mem)) := fun a U g mk w => by
  obtain ⟨w0, w1, w2, w3⟩ := w
  exact ⟨w0, w1, va_K.moved (u := U) (U := U.calling g mk a) (Vm.Alike.refl U.vm) w2, (tEV_ok ad adV fo).1 U g mk a w3⟩
theorem tpre {s : State} (hEV : tEV ad adV fo s) (hK : va_K D vwCl (jtys cA) s) {H : Heap} {locs : List Loc} (hP : va_P D vwCl (jws ad cA mem) H) (hS : va_S (jA ad) s.heap H locs) (vs : List Value) : ∀ U : State, U.heap = H → s.WarmedH U.vm → va_Pc vs (jI (tEV ad adV fo) D cA ad mem) vs.toArray U := fun U hU hW => ⟨rfl, by rw [hU]; exact hP, va_K.moved hW.alike hK, (tEV_ok ad adV fo).2.1 s U hEV hW (hS.F hU)⟩
theorem tmet_cp (d : Nat) {x n : Int32} (h0 : ¬ x < 0) (hxn : x < n) : Met l tyCp (.code tyCp prog_21_method_11_code 3 (some .int) :: jTBL) (jroom d) (va_Pc [.int x, .int n, va_rf fo] (jI (tEV ad adV fo) D cA ad mem)) (tQ D cA ad (some (.int x)) mem) 0 0 (jA ad) := by
  refine Met.ofW (cc := prog_21_method_11_code) (maxL := 3) (ret := some .int) (by decide) rfl ?_
  intro p e s m args below meth c s₁ B hml hv
  obtain ⟨rfl, hP, hK, h1, h2, h3, h4, h5⟩ := hv
  have hx := B.exec
  have hb := B.bytes
  have hlen : (lg_sl [.int x, .int n, va_rf fo]).length ≤ 3 := by
    cases fo with
    | none => exact Nat.le_refl 3
    | some _ => exact Nat.le_refl 3
  have hl := lv_entry [.int x, .int n, va_rf fo] (n := 3) hlen
  rw [lg_entry_eq]
  generalize (lg_sl [.int x, .int n, va_rf fo] ++ List.replicate (3 - (lg_sl [.int x, .int n, va_rf fo]).length) Slot.unset).toArray = ls at hl ⊢
  obtain ⟨d0, d1, d4, d5, d6, d16, d17⟩ := td_cp
  refine lv_iload_n hx hb d0 rfl (lv_at hl 0 rfl) ?_
  refine lv_if_lt hx hb (tgt := 9) d1 rfl (fun h => absurd h h0) (fun _ => ?_)
  refine lv_iload_n hx hb d4 rfl (lv_at hl 0 rfl) ?_
  refine lv_iload_n hx hb d5 rfl (lv_at hl 1 rfl) ?_
  refine lv_icmp_lt hx hb (tgt := 16) d6 rfl (fun _ => ?_) (fun h => absurd hxn h)
  refine lv_iload_n hx hb d16 rfl (lv_at hl 0 rfl) ?_
  exact W.iret hx hb B.returns (fun t ht _ => ⟨rfl, by rw [ht]; exact hP, va_S.rf.F ht⟩) (fun q hq => absurd hq List.not_mem_nil) d17 B.notSynchronized
theorem tmet_ck (d : Nat) {x n : Int32} (h0 : ¬ x < 0) (hxn : x < n) : Met l tyCk (.code tyCk prog_17_method_155_code 2 none :: jTBL) (jroom (d + 1)) (va_Pc [.int x, .int n] (jI (tEV ad adV fo) D cA ad mem)) (tQ D cA ad none mem) 0 0 (jA ad) := by
  refine Met.ofW (cc := prog_17_method_155_code) (maxL := 2) (ret := none) (by decide) rfl ?_
  intro p e s m args below meth c s₁ B hml hv
  obtain ⟨rfl, hP, hK, hEV⟩ := hv
  have hts0 := atoms_spec (ws := .code tyCk prog_17_method_155_code 2 none :: jTBL) B.pre
  have hts : ∀ w ∈ jTBL, w.before [Value.int x, Value.int n].toArray s = true := fun w hw => hts0 w (List.mem_cons_of_mem _ hw)
  have hown : s.vm.findClass "java/lang/String" = some m.cls := findClass_of_methodNamed B.named
  have hx := B.exec
  have hb := B.bytes
  have hl := lv_entry [Value.int x, Value.int n] (n := 2) (Nat.le_refl 2)
  rw [lg_entry_eq]
  generalize (lg_sl [Value.int x, Value.int n] ++ List.replicate (2 - (lg_sl [Value.int x, Value.int n]).length) Slot.unset).toArray = ls at hl ⊢
  obtain ⟨d0, d1, d2, d5, d8, d9⟩ := td_ck
  refine lv_iload_n hx hb d0 rfl (lv_at hl 0 rfl) ?_
  refine lv_iload_n hx hb d1 rfl (lv_at hl 1 rfl) ?_
  refine va_gets hx hb hEV.2.2.2.2 va_S.rf hown (hts _ tw_ffo) (fun x hx => hx) d2 ?_
  refine tcall_go (rest := []) (va_runS (As := [.int x, .int n, va_rf fo]) ⟨hx, hb, hml, hown, hts⟩ (tmet_cp d h0 hxn) ⟨callB_of 3 hts (jgood tc_cp) rfl rfl rfl (hts _ tw_ini.2.2) (hts _ tw_mcp.1) ⟨by decide, by decide, by decide +kernel⟩ ⟨Nat.le_refl _, by show 8 + (3 + 11) + 100 * d ≤ 100 * (d + 1); omega⟩, hts _ tw_mcp.2⟩ ⟨tblind _, tpre hEV hK hP va_S.rf _⟩ rfl rfl hl.1 rfl (lv_room (Nat.zero_le _)) d5 ⟨Nat.le_refl _, Nat.le_refl _⟩) va_S.rf (fun H1 locs1 hP1 hS1 => ?_)
  refine lv_pop hx hb d8 rfl ?_
  exact W.vret hx hb B.returns (fun t ht _ => ⟨rfl, by rw [ht]; exact hP1, hS1.F ht⟩) (fun q hq => hS1.2.2 q hq) d9 B.notSynchronized
theorem tmet_ch (d : Nat) {i : Nat} (hi : i < 7) {x : Int32} {v : Int32} (hin : vp_in x (tlen.getD i 0)) (h0 : ¬ x < 0) (hxn : x < Int32.ofNat (tlen.getD i 0)) (hv : ((tbyt.getD i []).getD x.toNatClampNeg 0 &&& 255).toUInt32 % 65536 = v.toUInt32) (hc : narrow .char (.int v) = .int v) : Met l tyCh (.code tyCh prog_18_method_2_code 2 (some .char) :: jTBL) (jroom (d + 2)) (va_Pc [.ref (adV i), .int x] (jI (tEV ad adV fo) D cA ad mem)) (tQ D cA ad (some (.int v)) mem) 0 0 (jA ad) := by
  refine Met.ofW (cc := prog_18_method_2_code) (maxL := 2) (ret := some .char) (by decide) rfl ?_
  intro p e s m args below meth c s₁ B hml hq
  obtain ⟨rfl, hP, hK, hEV⟩ := hq
  have hts0 := atoms_spec (ws := .code tyCh prog_18_method_2_code 2 (some .char) :: jTBL) B.pre
  have hts : ∀ w ∈ jTBL, w.before [Value.ref (adV i), Value.int x].toArray s = true := fun w hw => hts0 w (List.mem_cons_of_mem _ hw)
  have hown : s.vm.findClass "java/lang/StringLatin1" = some m.cls := findClass_of_methodNamed B.named
  have hx := B.exec
  have hb := B.bytes
  have hT := (hEV.2.2.1.1 i hi).2.2.2
  have hl := lv_entry [Value.ref (adV i), Value.int x] (n := 2) (Nat.le_refl 2)
  rw [lg_entry_eq]
  generalize (lg_sl [Value.ref (adV i), Value.int x] ++ List.replicate (2 - (lg_sl [Value.ref (adV i), Value.int x]).length) Slot.unset).toArray = ls at hl ⊢
  obtain ⟨d0, d1, d2, d3, d6, d7, d8, d9, d12, d13, d14⟩ := td_ch
  refine lv_iload_n hx hb d0 rfl (lv_at hl 1 rfl) ?_
  refine lv_aload_n hx hb d1 rfl (lv_at hl 0 rfl) ?_
  refine va_tlen hx hb hT va_S.rf rfl d2 ?_
  refine tcall_go (rest := []) (va_runS (As := [.int x, .int (Int32.ofNat (tlen.getD i 0))]) ⟨hx, hb, hml, hown, hts⟩ (tmet_ck d h0 hxn) ⟨callB_of 2 hts (jgood tc_ck) rfl rfl rfl (hts _ tw_ini.1) (hts _ tw_mck.1) ⟨by decide, by decide, by decide +kernel⟩ ⟨Nat.le_refl _, by show 8 + (2 + 11) + 100 * (d + 1) ≤ 100 * (d + 2); omega⟩, hts _ tw_mck.2⟩ ⟨tblind _, tpre hEV hK hP va_S.rf _⟩ rfl rfl hl.1 rfl (lv_room (Nat.zero_le _)) d3 ⟨Nat.le_refl _, Nat.le_refl _⟩) va_S.rf (fun H1 locs1 hP1 hS1 => ?_)
  refine lv_aload_n hx hb d6 rfl (lv_at hl 0 rfl) ?_
  refine lv_iload_n hx hb d7 rfl (lv_at hl 1 rfl) ?_
  refine va_tb hx hb hT hS1 hin rfl d8 ?_
  refine lv_sipush hx hb (v := 255) d9 rfl ?_
  refine lv_iand hx hb d12 ?_
  refine lv_i2c hx hb (v := v) d13 (by rw [hv]; rfl) ?_
  exact W.zret hx hb B.returns hc (fun t ht _ => ⟨rfl, by rw [ht]; exact hP1, hS1.F ht⟩) (fun q hq => hS1.2.2 q hq) d14 B.notSynchronized
theorem tmet_le (d : Nat) {i : Nat} (hi : i < 7) (hM : jokM mem) : Met l yJ0_length_8abf5 (.code yJ0_length_8abf5 prog_17_method_54_code 1 (some .int) :: jTBL) (jroom (d + 3 + 1)) (va_Pc [.ref (ad 100 (i : Int))] (jI (tEV ad adV fo) D cA ad mem)) (jQ D cA ad 1 0 (vI ((tlen.getD i 0 : Nat) : Int)) mem) 0 0 (jA ad) := by
  refine Met.ofW (cc := prog_17_method_54_code) (maxL := 1) (ret := some .int) (by decide) rfl ?_
  intro p e s m args below meth c s₁ B hml hq
  obtain ⟨rfl, hP, hK, hEV⟩ := hq
  have hts0 := atoms_spec (ws := .code yJ0_length_8abf5 prog_17_method_54_code 1 (some .int) :: jTBL) B.pre
  have hts : ∀ w ∈ jTBL, w.before [Value.ref (ad 100 (i : Int))].toArray s = true := fun w hw => hts0 w (List.mem_cons_of_mem _ hw)
  have hown : s.vm.findClass "java/lang/String" = some m.cls := findClass_of_methodNamed B.named
  have hx := B.exec
  have hb := B.bytes
  have h3 := hEV.2.2.1
  have hl := lv_entry [Value.ref (ad 100 (i : Int))] (n := 1) (Nat.le_refl 1)
  rw [lg_entry_eq]
  generalize (lg_sl [Value.ref (ad 100 (i : Int))] ++ List.replicate (1 - (lg_sl [Value.ref (ad 100 (i : Int))]).length) Slot.unset).toArray = ls at hl ⊢
  obtain ⟨d0, d1, d4, d5, d6, d9, d10⟩ := td_le
  refine lv_aload_n hx hb d0 rfl (lv_at hl 0 rfl) ?_
  refine vk_getf hx hb (h3.1 i hi).2.2.1 va_S.rf hown (hts _ tw_fva) (fun x hx => hx) d1 ?_
  refine va_tlen hx hb (h3.1 i hi).2.2.2 va_S.rf rfl d4 ?_
  refine lv_aload_n hx hb d5 rfl (lv_at hl 0 rfl) ?_
  refine tcall_go (rest := [.int (Int32.ofNat (tlen.getD i 0))]) (va_runV (As := []) (C := tSt) ⟨hx, hb, hml, hown, hts⟩ (tmet_co (d + 3) hi) ⟨callB_of 0 hts (jgood tc_co) rfl rfl rfl (hts _ tw_ini.1) (hts _ tw_mco.1) ⟨by decide, by decide, by decide +kernel⟩ ⟨Nat.le_refl _, by show 8 + (1 + 11) + 100 * (d + 3) ≤ 100 * (d + 3 + 1); omega⟩, hts _ tw_mco.2.1, hts _ tw_mco.2.2⟩ ⟨tblind _, vk_recv h3 hi va_S.rf, tpre hEV hK hP va_S.rf _⟩ rfl rfl hl.1 rfl (lv_room (Nat.le_of_ble_eq_true rfl)) d6 ⟨Nat.le_refl _, Nat.le_refl _⟩) va_S.rf (fun H1 locs1 hP1 hS1 => ?_)
  refine lv_ishr hx hb d9 ?_
  rw [tlen_sh i hi]
  exact W.iret hx hb B.returns (fun t ht _ => ⟨rfl, by rw [ht]; exact hP1, hS1.F ht, ⟨_, rfl⟩, tlen_ok i hi, hM⟩) (fun q hq => hS1.2.2 q hq) d10 B.notSynchronized
theorem tmet_at (d : Nat) {i : Nat} (hi : i < 7) (hM : jokM mem) {x : Int32} {v : Int} (hin : vp_in x (tlen.getD i 0)) (h0 : ¬ x < 0) (hxn : x < Int32.ofNat (tlen.getD i 0)) (hv : ((tbyt.getD i []).getD x.toNatClampNeg 0 &&& 255).toUInt32 % 65536 = (Int32.ofInt v).toUInt32) (hc : narrow .char (.int (Int32.ofInt v)) = .int (Int32.ofInt v)) (hok : jokI v) : Met l yJ0_charAt_5068e (.code yJ0_charAt_5068e prog_17_method_56_code 2 (some .char) :: jTBL) (jroom (d + 3 + 1)) (va_Pc [.ref (ad 100 (i : Int)), .int x] (jI (tEV ad adV fo) D cA ad mem)) (jQ D cA ad 1 0 (vI v) mem) 0 0 (jA ad) := by
  refine Met.ofW (cc := prog_17_method_56_code) (maxL := 2) (ret := some .char) (by decide) rfl ?_
  intro p e s m args below meth c s₁ B hml hq
  obtain ⟨rfl, hP, hK, hEV⟩ := hq
  have hts0 := atoms_spec (ws := .code yJ0_charAt_5068e prog_17_method_56_code 2 (some .char) :: jTBL) B.pre
  have hts : ∀ w ∈ jTBL, w.before [Value.ref (ad 100 (i : Int)), Value.int x].toArray s = true := fun w hw => hts0 w (List.mem_cons_of_mem _ hw)
  have hown : s.vm.findClass "java/lang/String" = some m.cls := findClass_of_methodNamed B.named
  have hx := B.exec
  have hb := B.bytes
  have h3 := hEV.2.2.1
  have hl := lv_entry [Value.ref (ad 100 (i : Int)), Value.int x] (n := 2) (Nat.le_refl 2)
  rw [lg_entry_eq]
  generalize (lg_sl [Value.ref (ad 100 (i : Int)), Value.int x] ++ List.replicate (2 - (lg_sl [Value.ref (ad 100 (i : Int)), Value.int x]).length) Slot.unset).toArray = ls at hl ⊢
  obtain ⟨d0, d1, d4, d7, d8, d11, d12, d15⟩ := td_at
  refine lv_aload_n hx hb d0 rfl (lv_at hl 0 rfl) ?_
  refine tcall_go (rest := []) (va_runV (As := []) (C := tSt) ⟨hx, hb, hml, hown, hts⟩ (tmet_is (d + 3) hi) ⟨callB_of 0 hts (jgood tc_is) rfl rfl rfl (hts _ tw_ini.1) (hts _ tw_mis.1) ⟨by decide, by decide, by decide +kernel⟩ ⟨Nat.le_refl _, by show 8 + (1 + 11) + 100 * (d + 3) ≤ 100 * (d + 3 + 1); omega⟩, hts _ tw_mis.2.1, hts _ tw_mis.2.2⟩ ⟨tblind _, vk_recv h3 hi va_S.rf, tpre hEV hK hP va_S.rf _⟩ rfl rfl hl.1 rfl (lv_room (Nat.zero_le _)) d1 ⟨Nat.le_refl _, Nat.le_refl _⟩) va_S.rf (fun H1 locs1 hP1 hS1 => ?_)
  refine lv_if_eq hx hb (tgt := 16) d4 rfl (fun h => absurd h (by decide)) (fun _ => ?_)
  refine lv_aload_n hx hb d7 rfl (lv_at hl 0 rfl) ?_
  refine vk_getf hx hb (h3.1 i hi).2.2.1 hS1 hown (hts _ tw_fva) (fun x hx => hx) d8 ?_
  refine lv_iload_n hx hb d11 rfl (lv_at hl 1 rfl) ?_
  refine tcall_go (rest := []) (va_runS (As := [.ref (adV i), .int x]) ⟨hx, hb, hml, hown, hts⟩ (tmet_ch (d + 1) hi hin h0 hxn hv hc) ⟨callB_of 2 hts (jgood tc_ch) rfl rfl rfl (hts _ tw_ini.2.1) (hts _ tw_mch.1) ⟨by decide, by decide, by decide +kernel⟩ ⟨Nat.le_refl _, by show 8 + (2 + 11) + 100 * (d + 3) ≤ 100 * (d + 3 + 1); omega⟩, hts _ tw_mch.2⟩ ⟨tblind _, tpre hEV hK hP1 hS1 _⟩ rfl rfl hl.1 rfl (lv_room (Nat.zero_le _)) d12 ⟨Nat.le_refl _, Nat.le_refl _⟩) hS1 (fun H2 locs2 hP2 hS2 => ?_)
  exact W.zret hx hb B.returns hc (fun t ht _ => ⟨rfl, by rw [ht]; exact hP2, hS2.F ht, ⟨_, rfl⟩, hok, hM⟩) (fun q hq => hS2.2.2 q hq) d15 B.notSynchronized
end TX
theorem jmi248 : jmi 248 = (yJ0_length_8abf5, cJ0_length_8abf5, 1, (some .int), 1, false, 1, 0, 99) := rfl
theorem jmi249 : jmi 249 = (yJ0_charAt_5068e, cJ0_charAt_5068e, 2, (some .char), 2, false, 1, 0, 99) := rfl
theorem jchar_some : ∀ {t : List Int} {x c : Int}, jchar t x = some c → ∃ j : Nat, x = (j : Int) ∧ t[j]? = some c
  | [], _, _, h => by cases h
  | a :: t, x, c, h => by
    unfold jchar at h
    by_cases hx : x = 0
    · rw [if_pos hx] at h
      exact ⟨0, by rw [hx]; rfl, by rw [List.getElem?_cons_zero]; exact h⟩
    · rw [if_neg hx] at h
      obtain ⟨j, h1, h2⟩ := jchar_some h
      exact ⟨j + 1, by rw [Int.natCast_add]; omega, by rw [List.getElem?_cons_succ]; exact h2⟩
def tchk (c : Int) : Bool := decide (((Int32.ofInt c &&& 255).toUInt32 % 65536) = (Int32.ofInt c).toUInt32) && decide ((Int32.ofInt c).toUInt32.toUInt16.toUInt32.toInt32 = Int32.ofInt c) && decide (0 ≤ c) && decide (c < 128)
theorem tchk_all : jtexts.all (fun t => t.all tchk && Nat.blt t.length 100) = true := by decide +kernel
theorem jtext_at : ∀ i : Nat, i < 7 → jtexts[i]? = some (jtext jtexts (i : Int)) := by
  intro i hi
  match i, hi with
  | 0, _ => rfl
  | 1, _ => rfl
  | 2, _ => rfl
  | 3, _ => rfl
  | 4, _ => rfl
  | 5, _ => rfl
  | 6, _ => rfl
theorem tprim (l : Launch) (D : va_G) (cA : Nat → ClassId) (ad : Nat → Int → Nat) (adV : Nat → Nat) (fo : Option Nat) : jPrim l (tEV ad adV fo) D cA ad := by
  intro d z as mem v mem' h1 h2 h oks hM
  unfold jprim at h
  split at h
  · rename_i f i
    cases hb : (Nat.beq z 248 && Nat.beq f 100) with
    | false => rw [hb] at h; cases h
    | true =>
      rw [hb] at h
      have hb2 := Bool.and_eq_true_iff.mp hb
      cases Nat.eq_of_beq_eq_true hb2.1
      cases Nat.eq_of_beq_eq_true hb2.2
      have hi : jval 100 i := oks _ List.mem_cons_self i rfl
      have h0 := hi.1
      have h7 : i < 7 := hi.2
      obtain ⟨k, rfl⟩ := Int.eq_ofNat_of_zero_le h0
      have hk : k < 7 := by omega
      have e1 : tlen.getD k 0 = (jtext jtexts (k : Int)).length := by
        unfold tlen
        rw [List.getD_eq_getElem?_getD, List.getElem?_map, jtext_at k hk]
        rfl
      cases h
      rw [jmi248]
      have w := tmet_le (l := l) (D := D) (cA := cA) (ad := ad) (adV := adV) (fo := fo) d hk hM
      rw [e1] at w
      exact w
  · rename_i f i x
    cases hb : (Nat.beq z 249 && Nat.beq f 100) with
    | false => rw [hb] at h; cases h
    | true =>
      rw [hb] at h
      have hb2 := Bool.and_eq_true_iff.mp hb
      cases Nat.eq_of_beq_eq_true hb2.1
      cases Nat.eq_of_beq_eq_true hb2.2
      have hi : jval 100 i := oks _ List.mem_cons_self i rfl
      have h0 := hi.1
      have h7 : i < 7 := hi.2
      obtain ⟨k, rfl⟩ := Int.eq_ofNat_of_zero_le h0
      have hk : k < 7 := by omega
      simp only [cond_true] at h
      cases hc : jchar (jtext jtexts (k : Int)) x with
      | none => rw [hc] at h; cases h
      | some c =>
        rw [hc] at h
        cases h
        obtain ⟨j, rfl, hj⟩ := jchar_some hc
        have e0 := jtext_at k hk
        have hall := List.all_eq_true.mp tchk_all _ (List.mem_of_getElem? e0)
        have hall2 := Bool.and_eq_true_iff.mp hall
        have hlt : (jtext jtexts (k : Int)).length < 100 := Nat.le_of_ble_eq_true hall2.2
        have hck := List.all_eq_true.mp hall2.1 c (List.mem_of_getElem? hj)
        simp only [tchk, Bool.and_eq_true, decide_eq_true_eq] at hck
        obtain ⟨⟨⟨k1, k2⟩, k3⟩, k4⟩ := hck
        have hjl : j < (jtext jtexts (k : Int)).length := (List.getElem?_eq_some_iff.mp hj).1
        have e1 : tlen.getD k 0 = (jtext jtexts (k : Int)).length := by
          unfold tlen
          rw [List.getD_eq_getElem?_getD, List.getElem?_map, e0]
          rfl
        have hoj : jokI (j : Int) := ⟨by omega, by omega⟩
        have hcl := j_cl (x := (j : Int)) (by omega) hoj
        have hcl2 : (Int32.ofInt (j : Int)).toNatClampNeg = j := by omega
        have e2 : (tbyt.getD k []).getD (Int32.ofInt (j : Int)).toNatClampNeg 0 = Int32.ofInt c := by
          rw [hcl2]
          unfold tbyt
          rw [List.getD_eq_getElem?_getD, List.getD_eq_getElem?_getD, List.getElem?_map, e0]
          simp only [Option.map_some, Option.getD_some]
          rw [List.getElem?_map, hj]
          rfl
        have ng : ¬ Int32.ofInt (j : Int) < 0 := fun w => by
          have w2 : (j : Int) < 0 := (j_lt hoj jok0).mp w
          omega
        rw [jmi249]
        refine tmet_at d hk hM ?_ ng ?_ (by rw [e2]; exact k1) ?_ ⟨by omega, by omega⟩
        · rintro (w | w)
          · exact ng w
          · rw [hcl2, e1] at w
            omega
        · rw [e1, ← Int32.ofInt_eq_ofNat]
          exact (j_lt hoj ⟨by omega, by omega⟩).mpr (by omega)
        · show Value.int (Int32.ofInt c).toUInt32.toUInt16.toUInt32.toInt32 = _
          rw [k2]
  · cases h
