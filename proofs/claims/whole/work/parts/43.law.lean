/-! The law's loop, over what is owed of the methods' pure meanings -/
def R_law : String := "EelThroatLaw"
def lw_P (b : Addr) (xs : List Int32) (args : Array Value) (s : State) : Prop := args = #[.ref b] ∧ s.IntsAt b xs ∧ xs.length ≤ 3072 ∧ (Jvm.Cond.and given_1 narrow_1).before args s = true
def lw_Q (_ : Array Value) (s : State) (o : Outcome) (t : State) : Prop := o = .returned (some (.int 1)) ∧ Framed s o t [] 600000 7302250
def lw_Z (below : List Frame) (a : Array Value) (s : State) : State → Prop := fun t => ∃ o, t.status = .running ∧ Ended t below o ∧ lw_Q a s o t
/-- the law's own end, with 1 on the stack, nothing written that was there before, its room as the claim has it -/
theorem lw_ret {p : Program} {l : Launch} {e : Env} {s : State} {m : MethodId} {below : List Frame} {meth : Method} {c : Code} {b : Nat} (hx : p.tables.exec = Jvm.exec) (hb : c.code = code) (hr : meth.sig.returnType = ret) (hlocks : meth.locks = false) {pc : Nat} {H : Heap} {ls : Array Slot} (hdg : decode code pc = .ok (.ireturn, 1)) : W p l e room_1 s m #[Value.ref b] below meth c H [] 600000 7302250 (lw_Z below #[Value.ref b] s) (F0 m pc ls [.int 1]) := by
  intro T hT X
  obtain ⟨fs, hret, hrun, hended, hW, hframe⟩ := X.leave (v := some (.int 1)) (hlocks := hlocks) (fun h => by rw [hr] at h; cases h)
  have hmeth' : T.vm.method? m = some meth := X.method'
  refine ⟨T.setFrames fs, ?_, .returned (some (.int 1)), hrun, hended, rfl, ⟨_, rfl⟩, hW, hframe⟩
  jvm_step X.here [X.here.top, hx, hb, hdg, hmeth', hr, ret, narrow_b1]
  (try refine ⟨rfl, ?_⟩); (try refine ⟨rfl, ?_⟩)
  first | (intro acts; rw [hret _ acts rfl rfl rfl]) | rw [hret _ _ rfl rfl rfl]
  exact Steps.refl _
/-- what holds at the law's entry -/
def lw_At (p : Program) (s : State) (m : MethodId) (meth : Method) (c : Code) (b L : Nat) (xs : Nat → Int32) : Prop :=
  p.tables.exec = Jvm.exec ∧ c.code = code ∧ meth.sig.returnType = ret ∧ c.maxLocals = 4 ∧ s.vm.findClass R_law = some m.cls ∧ (∀ w ∈ lw_tbl, w.before #[Value.ref b] s = true) ∧ va_X b L xs s s.heap ∧ b < s.heap.size ∧ meth.locks = false ∧ (Jvm.Cond.and given_1 narrow_1).before #[Value.ref b] s = true
/-- what is owed of the methods -/
def lHyp (Inv : jMem → Prop) : Prop := ∀ q ∈ ltab, ∀ as : List Int, as.length = q.2.1 → (∀ x ∈ as, jokI x) → ∀ mem, Inv mem → jokM mem → ∃ r mem1, jSem 60 q.2.2.2.1 (vR 10 (some 0) :: as.map vI) mem = some (vI r, mem1) ∧ (jokM mem1 → ∃ mem2, jSem 60 q.2.2.2.2.2.2.1 (vR 11 (some 0) :: as.map vI) mem1 = some (vI r, mem2) ∧ Inv mem2)
def largs (xs : Nat → Int32) (i n : Nat) : List Int := (List.range n).map fun j => (xs (i + 1 + j)).toInt
theorem largs_ok (xs : Nat → Int32) (i n : Nat) : ∀ x ∈ largs xs i n, jokI x := fun x hx => by
  obtain ⟨j, -, rfl⟩ := List.mem_map.mp hx
  have h1 := Int32.le_toInt (xs (i + 1 + j))
  have h2 := Int32.toInt_lt (xs (i + 1 + j))
  exact ⟨by omega, by omega⟩
section LAW
variable {p : Program} {l : Launch} {e : Env} {s : State} {m : MethodId} {below : List Frame} {meth : Method} {c : Code} {b L : Nat} {xs : Nat → Int32}
variable {D : va_G} {cA : Nat → ClassId} {ad : Nat → Int → Nat} {adV : Nat → Nat} {fo : Option Nat} {mem : jMem} {H : Heap} {locs : List Loc} {ls : Array Slot} {Q : State → Prop}
theorem lpush (C0 : lw_At p s m meth c b L xs) (hL : L ≤ 3072) {i : Nat} (hi : i + 6 ≤ L) {lv : List (Nat × Value)} (hl : lv_has ls 4 lv) {k0 k3 : Nat} (h0 : lv[k0]? = some (0, .ref b)) (h3 : lv[k3]? = some (3, .int (Int32.ofInt (i : Int)))) (hS : va_S (fun q => s.heap.size ≤ q) s.heap H locs) (pc : Nat) (st : List Value) : ∀ n, n ≤ 5 → lArgs pc n = true → W p l e room_1 s m #[Value.ref b] below meth c H locs 349 12557 Q (F0 m (pc + 5 * n) ls (((largs xs i n).map fun x => Value.int (Int32.ofInt x)).reverse ++ st)) → W p l e room_1 s m #[Value.ref b] below meth c H locs 349 12557 Q (F0 m pc ls st)
  | 0, _, _, k => k
  | n + 1, hn, hc, k => by
    obtain ⟨hx, hb, hr, hml, hown, hts, hX, hbl, hlocks, hgv⟩ := id C0
    have hbA : ¬ (fun q : Nat => s.heap.size ≤ q) b := Nat.not_le.mpr hbl
    have hc0 := Bool.and_eq_true_iff.mp hc
    simp only [Bool.and_eq_true, decide_eq_true_eq] at hc0
    obtain ⟨hc1, ⟨⟨⟨d0, d1⟩, d2⟩, d3⟩, d4⟩ := hc0
    refine lpush C0 hL hi hl h0 h3 hS pc st n (by omega) hc1 ?_
    refine lv_aload_n hx hb d0 rfl (lv_at hl k0 h0) ?_
    refine lv_iload_n hx hb d1 rfl (lv_at hl k3 h3) ?_
    refine lv_iconst hx hb (v := Int32.ofInt ((n : Int) + 1)) d2 rfl ?_
    refine lv_iadd hx hb d3 ?_
    rw [← Int32.ofInt_add]
    have hok : jokI ((i : Int) + ((n : Int) + 1)) := ⟨by omega, by omega⟩
    have hcl := j_cl (x := (i : Int) + ((n : Int) + 1)) (by omega) hok
    have hcl2 : (Int32.ofInt ((i : Int) + ((n : Int) + 1))).toNatClampNeg = i + 1 + n := by omega
    have hng : ¬ Int32.ofInt ((i : Int) + ((n : Int) + 1)) < 0 := fun w => by
      have w2 : ((i : Int) + ((n : Int) + 1)) < 0 := (j_lt hok jok0).mp w
      omega
    refine va_sld hx hb hX hbl hbA hS (fun w => by
      rcases w with w | w
      · exact hng w
      · omega) d4 ?_
    rw [hcl2]
    have e1 : ((largs xs i (n + 1)).map fun x => Value.int (Int32.ofInt x)).reverse = Value.int (xs (i + 1 + n)) :: ((largs xs i n).map fun x => Value.int (Int32.ofInt x)).reverse := by
      unfold largs
      rw [List.range_succ, List.map_append, List.map_append, List.reverse_append]
      simp only [List.map_cons, List.map_nil, List.reverse_cons, List.reverse_nil, List.nil_append, List.singleton_append, Int32.ofInt_toInt]
    rw [e1] at k
    exact k
theorem lcall_go {pc : Nat} {rest st0 : List Value} {rk rf : Nat} {v : jV} {mem' : jMem} {a : Array Value} (hA : ∀ a, jA ad a → s.heap.size ≤ a) (hr : va_Run p l e room_1 s m #[Value.ref b] below meth c H locs 349 12557 0 0 (F0 m pc ls st0) rest (jQ D cA ad rk rf v mem' a) (jA ad)) (hS : va_S (fun q => s.heap.size ≤ q) s.heap H locs) (kk : ∀ (H1 : Heap) (locs1 : List Loc), va_P D vwCl (jws ad cA mem') H1 → va_S (fun q => s.heap.size ≤ q) s.heap H1 locs1 → jokM mem' → W p l e room_1 s m #[Value.ref b] below meth c H1 locs1 349 12557 Q (F0 m (pc + 3) ls ((jrv ad v).toList ++ rest))) : W p l e room_1 s m #[Value.ref b] below meth c H locs 349 12557 Q (F0 m pc ls st0) := by
  intro T hT X
  obtain ⟨v', st₀, t, T', L', h0, X', hL, e1, e2, ⟨hoc, hP', ⟨hz, hk⟩, hy1, hy2, hy3⟩, st⟩ := hr T hT X
  cases hoc
  rw [h0] at hz hk
  obtain ⟨t2, a1, b1⟩ := kk T'.heap (locs ++ L') (by rw [e1]; exact hP')
    ⟨Nat.le_trans hS.1 (by rw [e1]; exact hz), fun q h1 h2 => by rw [e1, hk q (Nat.lt_of_lt_of_le h1 hS.1) (fun w => h2 (hA q w))]; exact hS.2.1 q h1 h2, fun q hq => by
      rcases List.mem_append.mp hq with h | h
      · exact hS.2.2 q h
      · exact hA _ (hL q h)⟩ hy3 T' rfl X'
  exact ⟨t2, st t2 a1, b1⟩
theorem lcall (C0 : lw_At p s m meth c b L xs) (hin : jInj ad) (hA : ∀ a, jA ad a → s.heap.size ≤ a) (hK : va_K D vwCl (jtys cA) s) (hEV : ∀ (H : Heap) (locs : List Loc), va_S (fun q => s.heap.size ≤ q) s.heap H locs → ∀ U : State, U.heap = H → s.WarmedH U.vm → tEV ad adV fo U) {z f n ix pz pc : Nat} {as : List Int} {v : jV} {mem' : jMem} {rest : List Value} (hsem : jSem 60 z (vR f (some 0) :: as.map vI) mem = some (v, mem')) (hf : f < 12) (hf0 : jval f 0) (hz : z < 246) (hlw : lw_tbl[pz]? = some (.methodLink "EelThroatLaw" ix (jmi z).1)) (hna : jNa (jmi z) = n + 1) (hst : jSt (jmi z) = false) (hcls : (jmi z).1.cls = (jcl f).1) (hlen : as.length = n) (hok : ∀ x ∈ as, jokI x) (hM : jokM mem) (hP : va_P D vwCl (jws ad cA mem) H) (hS : va_S (fun q => s.heap.size ≤ q) s.heap H locs) (hls : ls.size = 4) (hrest : (rest.map fun v => v.category).sum ≤ 8) (hd : decode code pc = .ok (.invokevirtual ix, 3))
    (kk : ∀ (H1 : Heap) (locs1 : List Loc), va_P D vwCl (jws ad cA mem') H1 → va_S (fun q => s.heap.size ≤ q) s.heap H1 locs1 → jokM mem' → W p l e room_1 s m #[Value.ref b] below meth c H1 locs1 349 12557 Q (F0 m (pc + 3) ls ((jrv ad v).toList ++ rest))) : W p l e room_1 s m #[Value.ref b] below meth c H locs 349 12557 Q (F0 m pc ls ((as.map fun x => Value.int (Int32.ofInt x)).reverse ++ .ref (ad f 0) :: rest)) := by
  obtain ⟨hx, hb, hr, hml, hown, hts0, hX, hbl, hlocks, hgv⟩ := id C0
  have hts : ∀ w ∈ jTBL, w.before #[Value.ref b] s = true := fun w hw => hts0 w (jT_good hw).1
  have oks : jokL (vR f (some 0) :: as.map vI) := fun v hv => by
    rcases List.mem_cons.mp hv with e | e
    · rw [e]
      intro i hi
      cases hi
      exact hf0
    · obtain ⟨x, hx, rfl⟩ := List.mem_map.mp e
      exact hok x hx
  have hMt := jmet_all hin (tEV_ok ad adV fo) (tprim l D cA ad adV fo) 60 z _ mem v mem' hsem (by omega) (by omega) (by omega) oks hM
  obtain ⟨m1, m2, m3, m4, m5, m6, m7, m8⟩ := jM_spec (z := z) (by omega)
  obtain ⟨m4a, m4b, m4c⟩ := m4 hst
  rw [hst, hna] at m7
  have hlk : Cond.methodLink "EelThroatLaw" ix (jmi z).1 ∈ lw_tbl := List.mem_of_getElem? hlw
  obtain ⟨n0, hn1, hn2⟩ := jws_at ad cA mem (jall_mem (by omega) hf0)
  rw [jcell_obj hf] at hn2
  have hrecv : ∃ cellB : Cell, H[ad f 0]? = some cellB ∧ cellB.vm.isStatics = false ∧ s.vm.findClass (jmi z).1.cls = some cellB.cls := by
    rw [hcls]
    exact va_recv hK hP (jcl_get hf) hn2
  have e0 : (vR f (some 0) :: as.map vI).map (jcv ad) = Value.ref (ad f 0) :: as.map fun x => Value.int (Int32.ofInt x) := by
    rw [List.map_cons, List.map_map]
    rfl
  rw [e0] at hMt
  refine lcall_go (rest := rest) hA (va_runV (As := as.map fun x => Value.int (Int32.ofInt x)) (C := (jmi z).1.cls) ⟨hx, hb, hml, hown, hts⟩ hMt ⟨callB_of n hts (jgood m1) rfl rfl rfl (hts _ m2) (hts0 _ hlk) ⟨m5, m6, m7⟩ ⟨Nat.le_of_ble_eq_true rfl, ?_⟩, hts _ m4a, hts _ m4b⟩ ⟨?_, hrecv, ?_⟩ rfl (by rw [List.length_map]; exact hlen) hls rfl (lv_room hrest) hd ⟨Nat.le_of_ble_eq_true rfl, Nat.le_of_ble_eq_true rfl⟩) hS kk
  · show 8 + (jMl (jmi z) + 11) + 100 * (60 + 3) ≤ 84000
    omega
  · rw [← e0]
    exact jblind (tEV_ok ad adV fo) _ mem
  · exact fun U hU hW => ⟨rfl, by rw [hU]; exact hP, va_K.moved hW.alike hK, hEV H locs hS U hU hW⟩
theorem lcase (C0 : lw_At p s m meth c b L xs) (hL : L ≤ 3072) {i : Nat} (hi : i + 6 ≤ L) (hin : jInj ad) (hA : ∀ a, jA ad a → s.heap.size ≤ a) (hK : va_K D vwCl (jtys cA) s) (hEV : ∀ (H : Heap) (locs : List Loc), va_S (fun q => s.heap.size ≤ q) s.heap H locs → ∀ U : State, U.heap = H → s.WarmedH U.vm → tEV ad adV fo U) {Inv : jMem → Prop} (hyp : lHyp Inv) {q : lT} (hq : q ∈ ltab) (hI : Inv mem) (hM : jokM mem) (hP : va_P D vwCl (jws ad cA mem) H) (hS : va_S (fun q => s.heap.size ≤ q) s.heap H locs) (hl : lv_has ls 4 [(3, .int (Int32.ofInt (i : Int))), (2, .ref (ad 11 0)), (1, .ref (ad 10 0)), (0, .ref b)])
    (kk : ∀ (mem2 : jMem) (H1 : Heap) (locs1 : List Loc), Inv mem2 → jokM mem2 → va_P D vwCl (jws ad cA mem2) H1 → va_S (fun q => s.heap.size ≤ q) s.heap H1 locs1 → W p l e room_1 s m #[Value.ref b] below meth c H1 locs1 349 12557 Q (F0 m 1267 ls [])) : W p l e room_1 s m #[Value.ref b] below meth c H locs 349 12557 Q (F0 m q.1 ls []) := by
  obtain ⟨hx, hb, hr, hml, hown, hts0, hX, hbl, hlocks, hgv⟩ := id C0
  have hc1 := ltab_1 hq
  have hc2 := List.all_eq_true.mp ltab_2 q hq
  have hy := hyp q hq (largs xs i q.2.1) (by unfold largs; rw [List.length_map, List.length_range]) (largs_ok xs i _) mem hI hM
  obtain ⟨pc, n, ixE, zE, pE, ixM, zM, pM⟩ := q
  dsimp only at hy ⊢
  simp only [lchk1, Bool.and_eq_true, decide_eq_true_eq] at hc1
  obtain ⟨⟨⟨⟨⟨⟨d0, a1⟩, d1⟩, d2⟩, a2⟩, d3⟩, d4⟩ := hc1
  simp only [lchk2, Bool.and_eq_true, decide_eq_true_eq, Bool.not_eq_true'] at hc2
  obtain ⟨⟨⟨⟨⟨⟨⟨⟨⟨⟨w1, w2⟩, w3⟩, w4⟩, w5⟩, w6⟩, w7⟩, w8⟩, w9⟩, w10⟩, w11⟩ := hc2
  have n5 : n ≤ 5 := Nat.le_of_ble_eq_true w11
  have hlen : (largs xs i n).length = n := by unfold largs; rw [List.length_map, List.length_range]
  obtain ⟨r, mem1, hE, hy2⟩ := hy
  refine lv_aload_n hx hb d0 rfl (lv_at hl 2 rfl) ?_
  refine lpush C0 hL hi hl (k0 := 3) (k3 := 0) rfl rfl hS (pc + 1) _ n n5 a1 ?_
  refine lcall C0 hin hA hK hEV (rest := []) hE (by omega) ⟨by decide, by decide⟩ (Nat.le_of_ble_eq_true w3) w1 (Nat.eq_of_beq_eq_true w5) w7 w9 hlen (largs_ok xs i n) hM hP hS hl.1 (Nat.zero_le _) d1 (fun H1 locs1 hP1 hS1 hM1 => ?_)
  obtain ⟨mem2, hMm, hI2⟩ := hy2 hM1
  refine lv_aload_n hx hb d2 rfl (lv_at hl 1 rfl) ?_
  refine lpush C0 hL hi hl (k0 := 3) (k3 := 0) rfl rfl hS1 (pc + 1 + 5 * n + 3 + 1) _ n n5 a2 ?_
  refine lcall C0 hin hA hK hEV (rest := [.int (Int32.ofInt r)]) hMm (by omega) ⟨by decide, by decide⟩ (Nat.le_of_ble_eq_true w4) w2 (Nat.eq_of_beq_eq_true w6) w8 w10 hlen (largs_ok xs i n) hM1 hP1 hS1 hl.1 (Nat.le_of_ble_eq_true rfl) d3 (fun H2 locs2 hP2 hS2 hM2 => ?_)
  refine lv_icmp_eq hx hb (tgt := 1267) d4 (by omega) (fun _ => ?_) (fun h => absurd rfl h)
  exact kk mem2 H2 locs2 hI2 hM2 hP2 hS2
theorem land63 (x : Int32) : 0 ≤ (x &&& 63).toInt ∧ (x &&& 63).toInt < 64 := by
  have h : (x &&& 63).toBitVec.toNat ≤ 63 := by
    rw [Int32.toBitVec_and, BitVec.toNat_and]
    exact Nat.and_le_right
  have e : (x &&& 63).toInt = ((x &&& 63).toBitVec.toNat : Int) := BitVec.toInt_eq_toNat_of_lt (by omega)
  rw [e]
  omega
set_option maxRecDepth 100000 in
theorem lloop (C0 : lw_At p s m meth c b L xs) (hL : L ≤ 3072) (hin : jInj ad) (hA : ∀ a, jA ad a → s.heap.size ≤ a) (hK : va_K D vwCl (jtys cA) s) (hEV : ∀ (H : Heap) (locs : List Loc), va_S (fun q => s.heap.size ≤ q) s.heap H locs → ∀ U : State, U.heap = H → s.WarmedH U.vm → tEV ad adV fo U) {Inv : jMem → Prop} (hyp : lHyp Inv) : ∀ (n i : Nat), i ≤ L → L + 6 ≤ i + 6 * n + 5 → ∀ (mem : jMem) (H : Heap) (locs : List Loc) (ls : Array Slot), Inv mem → jokM mem → va_P D vwCl (jws ad cA mem) H → va_S (fun q => s.heap.size ≤ q) s.heap H locs → lv_has ls 4 [(3, .int (Int32.ofInt (i : Int))), (2, .ref (ad 11 0)), (1, .ref (ad 10 0)), (0, .ref b)] → W p l e room_1 s m #[Value.ref b] below meth c H locs 349 12557 (lw_Z below #[Value.ref b] s) (F0 m 18 ls []) := by
  obtain ⟨hx, hb, hr, hml, hown, hts0, hX, hbl, hlocks, hgv⟩ := id C0
  have hbA : ¬ (fun q : Nat => s.heap.size ≤ q) b := Nat.not_le.mpr hbl
  obtain ⟨d18, d19, d20, d21, d23, d24, d27, d28, d29, d30, d32⟩ := ld_b
  obtain ⟨d1267, d1270, d1273, d1274⟩ := ld_c
  intro n
  induction n with
  | zero =>
    intro i h1 h2 mem H locs ls hI hM hP hS hl
    exact absurd h2 (by omega)
  | succ n ih =>
    intro i hiL hin2 mem H locs ls hI hM hP hS hl
    have hoi : jokI (i : Int) := ⟨by omega, by omega⟩
    refine lv_iload_n hx hb d18 rfl (lv_at hl 0 rfl) ?_
    refine lv_aload_n hx hb d19 rfl (lv_at hl 3 rfl) ?_
    refine va_slen hx hb hX hbl hbA hS d20 ?_
    refine lv_bipush hx hb (v := Int32.ofInt 6) d21 rfl ?_
    refine lv_isub hx hb d23 ?_
    rw [← Int32.ofInt_eq_ofNat, ← Int32.ofInt_sub]
    have hlt : Int32.ofInt ((L : Int) - 6) < Int32.ofInt (i : Int) ↔ (L : Int) - 6 < (i : Int) := j_lt ⟨by omega, by omega⟩ hoi
    refine lv_icmp_gt hx hb (tgt := 1273) d24 (by omega) (fun hq => ?_) (fun hq => ?_)
    · refine lv_iconst hx hb (v := 1) d1273 rfl ?_
      refine va_forget (fun q hq => hS.2.2 q hq) ?_
      refine W.widen (k := 600000) (n := 7302250) (Nat.le_of_ble_eq_true rfl) (Nat.le_of_ble_eq_true rfl) ?_
      exact lw_ret hx hb hr hlocks d1274
    · have hi6 : i + 6 ≤ L := by
        have h9 : ¬ ((L : Int) - 6 < (i : Int)) := fun w => hq (hlt.mpr w)
        omega
      have k18 : ∀ (mem2 : jMem) (H1 : Heap) (locs1 : List Loc), Inv mem2 → jokM mem2 → va_P D vwCl (jws ad cA mem2) H1 → va_S (fun q => s.heap.size ≤ q) s.heap H1 locs1 → W p l e room_1 s m #[Value.ref b] below meth c H1 locs1 349 12557 (lw_Z below #[Value.ref b] s) (F0 m 1267 ls []) := fun mem2 H1 locs1 hI1 hM1 hP1 hS1 => by
        refine lv_iinc hx hb (v := Int32.ofInt (((i + 6 : Nat)) : Int)) (lv' := [(3, .int (Int32.ofInt (((i + 6 : Nat)) : Int))), (2, .ref (ad 11 0)), (1, .ref (ad 10 0)), (0, .ref b)]) d1267 hl (k := 0) rfl (by rw [← Int32.ofInt_add]; congr 1) (by decide) rfl (fun ls' hl' => ?_)
        refine lv_goto hx hb (tgt := 18) d1270 (by omega) ?_
        exact ih (i + 6) (by omega) (by omega) mem2 H1 locs1 ls' hI1 hM1 hP1 hS1 hl'
      refine lv_aload_n hx hb d27 rfl (lv_at hl 3 rfl) ?_
      refine lv_iload_n hx hb d28 rfl (lv_at hl 0 rfl) ?_
      have hcl := j_cl (x := (i : Int)) (by omega) hoi
      have hng : ¬ Int32.ofInt (i : Int) < 0 := fun w => by
        have w2 : (i : Int) < 0 := (j_lt hoi jok0).mp w
        omega
      refine va_sld hx hb hX hbl hbA hS (fun w => by
        rcases w with w | w
        · exact hng w
        · omega) d29 ?_
      generalize xs (Int32.ofInt (i : Int)).toNatClampNeg = y
      refine lv_bipush hx hb (v := 63) d30 rfl ?_
      refine lv_iand hx hb d32 ?_
      obtain ⟨b1, b2⟩ := land63 y
      generalize y &&& 63 = x at b1 b2 ⊢
      by_cases h37 : x.toInt < 37
      · have hk : x.toInt.toNat < 37 := by omega
        have hmem : ltab.getD x.toInt.toNat (0, 0, 0, 0, 0, 0, 0, 0) ∈ ltab := by
          rw [List.getD_eq_getElem?_getD, List.getElem?_eq_getElem (by rw [ltab_len]; exact hk)]
          exact List.getElem_mem _
        have ho := loffs_at x.toInt.toNat hk
        refine lv_tableIn hx hb (tgt := (ltab.getD x.toInt.toNat (0, 0, 0, 0, 0, 0, 0, 0)).1) (off := (((ltab.getD x.toInt.toNat (0, 0, 0, 0, 0, 0, 0, 0)).1 : Nat) : Int) - 33) ld_sw (by omega) (by omega) (by rw [Int.sub_zero]; exact ho) (by omega) ?_
        exact lcase C0 hL hi6 hin hA hK hEV hyp hmem hI hM hP hS hl k18
      · refine lv_tableOut hx hb (tgt := 1267) ld_sw (Or.inr (by omega)) (by omega) ?_
        exact k18 mem H locs hI hM hP hS
end LAW
