/-! The law's start: texts, constructors, then the loop -/
def tloc : List (String × Nat) := [("EelThroat$River", 85), ("EelThroat$Rule", 37), ("EelThroat$Rule", 123), ("EelThroat$Rule", 57), ("EelThroat$Rule", 89), ("EelThroat$Rule", 87), ("EelThroat$Rule", 82)]
def ttm (i : Nat) : Term := .string (tloc.getD i ("", 0)).1 (tloc.getD i ("", 0)).2
def tflat : List Cond := flatC (Jvm.Cond.and given_1 narrow_1)
theorem tf_ex : ∀ i : Nat, i < 7 → Cond.exactly (ttm i) "java/lang/String" ∈ tflat := by decide +kernel
theorem tf_co : ∀ i : Nat, i < 7 → Cond.eq (.field (ttm i) "java/lang/String" "coder" "B") (.int 0) ∈ tflat := by decide +kernel
theorem tf_ar : ∀ i : Nat, i < 7 → Cond.arrayOf (.field (ttm i) "java/lang/String" "value" "[B") .byte ∈ tflat := by decide +kernel
theorem tf_le : ∀ i : Nat, i < 7 → Cond.eq (.length (.field (ttm i) "java/lang/String" "value" "[B")) (.int (Int32.ofNat (tlen.getD i 0))) ∈ tflat := by decide +kernel
theorem tf_el : ∀ i : Nat, i < 7 → ∀ j : Nat, j < tlen.getD i 0 → Cond.eq (.elem (.field (ttm i) "java/lang/String" "value" "[B") (.int (Int32.ofNat j))) (.int ((tbyt.getD i []).getD j 0)) ∈ tflat := by decide +kernel
theorem tf_ne : ∀ i : Nat, i < 7 → ∀ j : Nat, j < 7 → i ≠ j → (Cond.not (Cond.eq (ttm i) (ttm j)) ∈ tflat ∨ Cond.not (Cond.eq (ttm j) (ttm i)) ∈ tflat) := by decide +kernel
theorem tf_st : Cond.eq (.static "java/lang/String" "COMPACT_STRINGS" "Z") (.int 1) ∈ tflat ∧ Cond.isRef (.static "jdk/internal/util/Preconditions" "SIOOBE_FORMATTER" "Ljava/util/function/BiFunction;") ∈ tflat := by decide +kernel
theorem tw_lays : Cond.laysStatic "java/lang/String" "COMPACT_STRINGS" "Z" ∈ lw_tbl ∧ Cond.laysStatic "jdk/internal/util/Preconditions" "SIOOBE_FORMATTER" "Ljava/util/function/BiFunction;" ∈ lw_tbl := ⟨List.mem_of_getElem? (i := 584) (by decide +kernel), List.mem_of_getElem? (i := 600) (by decide +kernel)⟩
theorem tw_over : Cond.arrayOver (.object "EelThroat$Rule") ∈ lw_tbl ∧ Cond.arrayOver (.object "EelThroat$Scene") ∈ lw_tbl ∧ Cond.arrayOver (.object "EelThroat$Water") ∈ lw_tbl := ⟨List.mem_of_getElem? (i := 164) (by decide +kernel), List.mem_of_getElem? (i := 367) (by decide +kernel), List.mem_of_getElem? (i := 377) (by decide +kernel)⟩
def tsr : List (String × Nat × String × Nat) := [("EelThroat$River", 85, "river moon person memory trap", 570), ("EelThroat$Rule", 37, "go", 678), ("EelThroat$Rule", 123, "memory pool from size smell bait traps with light next whose night", 704), ("EelThroat$Rule", 57, "if", 711), ("EelThroat$Rule", 89, "not", 730), ("EelThroat$Rule", 87, "and", 738), ("EelThroat$Rule", 82, "or", 739)]
theorem tsr_ok : tsr.all (fun q => decide (lw_tbl[q.2.2.2]? = some (.stringRef q.1 q.2.1 q.2.2.1))) = true := by decide +kernel
theorem tsr_jlS : jlS.all (fun q => decide (q.2.2 < 7) && decide (jown.getD q.1 "" = (tsr.getD q.2.2 ("", 0, "", 0)).1) && decide (q.2.1 = (tsr.getD q.2.2 ("", 0, "", 0)).2.1) && decide (ttm q.2.2 = .string (jown.getD q.1 "") q.2.1)) = true := by decide +kernel
theorem knest_in : ∀ w ∈ knest, w ∈ lw_tbl := by
  have h : (knest.zip [139, 167, 369, 392, 436, 465, 487, 378, 441, 443, 470, 472, 173, 266, 318]).all (fun q => decide (lw_tbl[q.2]? = some q.1)) = true := by decide +kernel
  have hl : knest.length = 15 := rfl
  intro w hw
  obtain ⟨i, hi⟩ := List.getElem?_of_mem hw
  have hi15 : i < 15 := by
    have := (List.getElem?_eq_some_iff.mp hi).1
    omega
  have e2 : [139, 167, 369, 392, 436, 465, 487, 378, 441, 443, 470, 472, 173, 266, 318][i]? = some ([139, 167, 369, 392, 436, 465, 487, 378, 441, 443, 470, 472, 173, 266, 318][i]'hi15) := List.getElem?_eq_getElem _
  have hz := List.all_eq_true.mp h (w, _) (List.mem_of_getElem? (i := i) (List.getElem?_zip_eq_some.mpr ⟨hi, e2⟩))
  exact List.mem_of_getElem? (of_decide_eq_true hz)
theorem knest_tab : knest.all (fun w => w.onTables) = true := by decide +kernel
theorem kE0_ok : kokH kE0 := kokHb_spec (by decide +kernel)
theorem kE1_ok : kokH kE1 := kokHb_spec (by decide +kernel)
theorem kE1_ok2 : kokH (kE1 ++ [.inl (11, kblank.getD 11 [])]) := kokHb_spec (by decide +kernel)
theorem kLen : kE0.length = 1 ∧ kE1.length = 327 ∧ kHE.length = 349 ∧ kslots kE0 = 10 ∧ kslots (kE1 ++ [.inl (11, kblank.getD 11 [])]) = 7463 ∧ kslots kE1 = 7426 ∧ kslots kHE = 12557 ∧ kidx 10 0 = 0 ∧ kidx 11 0 = 327 ∧ (jcl 10).2.2 = 10 ∧ (jcl 11).2.2 = 37 := by decide +kernel
section LST
variable {p : Program} {l : Launch} {e : Env} {s : State} {m : MethodId} {args : Array Value} {below : List Frame} {meth : Method} {c : Code} {R : Room} {D : va_G} {h : kH} {as : List Nat} {cs : List ClassId} {tys : List (ClassId × FieldType)} {H : Heap} {locs : List Loc} {ls : Array Slot} {cells slots pc ix : Nat} {st : List Value} {Q : State → Prop} {cc : ByteArray} {own : String}
theorem lnew {t : Nat} (t12 : t < 12) (hx : p.tables.exec = Jvm.exec) (hb : c.code = cc) (hown : s.vm.findClass own = some m.cls) (hts : ∀ w ∈ lw_tbl, w.before args s = true) (hlk : Cond.classLink own ix (jcl t).1 ∈ lw_tbl) (hK : va_K D vwCl tys s) (hR : kRep D s.heap.size h as cs tys H) (hh : kokH h) (hS : va_S (fun q => s.heap.size ≤ q) s.heap H locs) (hc1 : cells + 1 ≤ R.cells) (hc2 : slots + (jcl t).2.2 ≤ R.slots) (hd : decode cc pc = .ok (.new ix, 3))
    (kk : ∀ (q : Nat) (H1 : Heap), kRep D s.heap.size (h ++ [.inl (t, kblank.getD t [])]) (as ++ [q]) (cs ++ [0]) tys H1 → va_S (fun q => s.heap.size ≤ q) s.heap H1 locs → W p l e R s m args below meth c H1 locs (cells + 1) (slots + (jcl t).2.2) Q (F0 m (pc + 3) ls (.ref q :: st))) : W p l e R s m args below meth c H locs cells slots Q (F0 m pc ls st) := by
  have htj : ∀ w ∈ jTBL, w.before args s = true := fun w hw => hts w (jT_good hw).1
  obtain ⟨r1, r2, r3, r4, r5⟩ := hR
  obtain ⟨ty0, hty, hdf⟩ := kdef_all t12
  refine va_new (ci := t) (C := (jcl t).1) (T := (jcl t).2.1) (N := (jcl t).2.2) (fs := kvals [] (jfds.getD t []) (kblank.getD t [])) hx hb htj (jin_all t12) ty0 hty hown (hts _ hlk) (htj _ (kinst t12).1) (htj _ (kinst t12).2) hK r3 r4 hS (fun q hq => hq) (jcl_get t12) hdf hc1 hc2 hd (fun q H1 hP1 hD1 hS1 => ?_)
  have hpush := kws_push (q := q) (cA := 0) (c := .inl (t, kblank.getD t [])) r1 r2 hh (kblank_ok t12 _)
  have hcell : kcell as [0] 0 (.inl (t, kblank.getD t [])) = .inr (t, kvals [] (jfds.getD t []) (kblank.getD t [])) := by
    unfold kcell
    dsimp only
    rw [kblank_as t12]
  rw [hcell] at hpush
  rw [← hpush] at hP1 hD1
  have hrep : kRep D s.heap.size (h ++ [.inl (t, kblank.getD t [])]) (as ++ [q]) (cs ++ [0]) tys H1 := by
    refine ⟨by simp; exact r1, by simp; exact r2, hP1, hD1, fun k9 t9 n9 rs9 hk9 => ?_⟩
    by_cases hlt : k9 < h.length
    · rw [List.getElem?_append_left hlt] at hk9
      obtain ⟨x9, hx9⟩ := r5 k9 t9 n9 rs9 hk9
      refine ⟨x9, ?_⟩
      rw [List.getD_eq_getElem?_getD, List.getElem?_append_left (by omega), ← List.getD_eq_getElem?_getD]
      exact hx9
    · rw [List.getElem?_append_right (by omega)] at hk9
      have hz9 : k9 - h.length = 0 := by
        have := (List.getElem?_eq_some_iff.mp hk9).1
        simp at this
        omega
      rw [hz9] at hk9
      cases hk9
  exact kk q H1 hrep hS1
theorem linit {z a : Nat} {h' : kH} (z12 : z < 12) (hx : p.tables.exec = Jvm.exec) (hb : c.code = cc) (hml : c.maxLocals = 4) (hls : ls.size = 4) (hown : s.vm.findClass own = some m.cls) (hts : ∀ w ∈ lw_tbl, w.before args s = true) (hlk : Cond.methodLink own ix (kmi z).1 ∈ lw_tbl) (hEV : kEV s) (hK : va_K D vwCl tys s) (hR : kRep D s.heap.size h as cs tys H) (hh : kokH h) (hle : kLe h h') (ha : a < h.length) (hrun : kSem 4 z a h = some h') (hS : va_S (fun q => s.heap.size ≤ q) s.heap H locs) (hst : (st.map fun v => v.category).sum ≤ 8) (hr1 : 5 ≤ R.frames ∧ 600 ≤ R.locals) (hc1 : cells + (h'.length - h.length) ≤ R.cells) (hc2 : slots + (kslots h' - kslots h) ≤ R.slots) (hd : decode cc pc = .ok (.invokespecial ix, 3))
    (kk : ∀ (H1 : Heap) (locs1 : List Loc) (as' : List Nat) (cs' : List ClassId) (tys' : List (ClassId × FieldType)), kExt as as' h.length → va_K D vwCl tys' s → kRep D s.heap.size h' as' cs' tys' H1 → va_S (fun q => s.heap.size ≤ q) s.heap H1 locs1 → W p l e R s m args below meth c H1 locs1 (cells + (h'.length - h.length)) (slots + (kslots h' - kslots h)) Q (F0 m (pc + 3) ls st)) : W p l e R s m args below meth c H locs cells slots Q (F0 m pc ls (.ref (kad as a) :: st)) := by
  have htj : ∀ w ∈ jTBL, w.before args s = true := fun w hw => hts w (jT_good hw).1
  have hM := kmet_all (l := l) (D := D) (lo := s.heap.size) 4 z a h h' hrun z12 ha hh hle as cs tys
  obtain ⟨m1, m2, m3, m4, m5, m6, m7, m8, m9⟩ := kM_spec z12
  have hpre : PreS s H (va_Pc [.ref (kad as a)] (kI D s.heap.size as cs tys h)) (.ref (kad as a) :: []) := ⟨kblind, fun U hU hW => ⟨rfl, by rw [hU]; exact hR, va_K.moved hW.alike hK, kEV_warm hW hEV, by rw [hU]; exact hS.1⟩⟩
  refine kcall_go (va_runI (As := []) (b := kad as a) (rest := st) ⟨hx, hb, hml, hown, htj⟩ hM ⟨callB_of 0 htj (jgood m1) rfl rfl rfl (htj _ m2) (hts _ hlk) ⟨m5, m6, m7⟩ ⟨hr1.1, ?_⟩, m4, htj _ m3⟩ hpre rfl rfl hls rfl (lv_room hst) hd ⟨hc1, hc2⟩) hS kk
  show 8 + ((kmi z).2.2 + 11) + 100 * 4 ≤ R.locals
  have := hr1.2
  omega
end LST
set_option maxRecDepth 100000 in
theorem lstart {p : Program} {e : Env} {s : State} {m : MethodId} {below : List Frame} {meth : Method} {c : Code} (l : Launch) {b L : Nat} {xs : Nat → Int32} (hL : L ≤ 3072) (C0 : lw_At p s m meth c b L xs) {Inv : jMem → Prop} (hyp : lHyp Inv) (h0 : Inv kmem0) : W p l e room_1 s m #[Value.ref b] below meth c s.heap [] 0 0 (lw_Z below #[Value.ref b] s) (entryFrame m ([Value.ref b] : List Value).toArray 4) := by
  obtain ⟨hx, hb, hr, hml, hown, hts, hX, hbl, hlocks, hgv⟩ := id C0
  have htj : ∀ w ∈ jTBL, w.before #[Value.ref b] s = true := fun w hw => hts w (jT_good hw).1
  have hfl := flat_of_before _ hgv
  have hAo : ∀ a : Nat, a < s.heap.size → ¬ (fun q : Nat => s.heap.size ≤ q) a := fun a ha w => absurd ha (Nat.not_lt.mpr w)
  obtain ⟨adK, adV, hvS, hvE⟩ := vk_Sof (args := #[Value.ref b]) (s := s) (N := 7) (tm := ttm) (len := tlen) (byt := tbyt) (A := fun q : Nat => s.heap.size ≤ q) (fun i hi => by have := (tlen_ok i hi).2; omega) (fun i hi => hfl _ (tf_ex i hi)) (fun i hi => hfl _ (tf_co i hi)) (fun i hi => hfl _ (tf_ar i hi)) (fun i hi => hfl _ (tf_le i hi)) (fun i hi j hj => hfl _ (tf_el i hi j hj)) (fun i j hi hj hij => by
    rcases tf_ne i hi j hj hij with w | w
    · exact Or.inl (hfl _ w)
    · exact Or.inr (hfl _ w)) hAo
  have hZ1 : va_Z "java/lang/String" "COMPACT_STRINGS" "Z" (.int 1) (fun q : Nat => s.heap.size ≤ q) s s.heap := va_Zof (hts _ tw_lays.1) (htj _ tw_ini.1) (va_eqi (hfl _ tf_st.1)) hAo
  obtain ⟨fo, hZ2⟩ : ∃ fo : Option Nat, va_Z "jdk/internal/util/Preconditions" "SIOOBE_FORMATTER" "Ljava/util/function/BiFunction;" (va_rf fo) (fun q : Nat => s.heap.size ≤ q) s s.heap := by
    rcases va_Zqof (hts _ tw_lays.2) (htj _ tw_ini.2.2) (hfl _ tf_st.2) hAo with w | ⟨t, w⟩
    · exact ⟨none, w⟩
    · exact ⟨some t, w⟩
  have hEV : kEV s := ⟨fun w hw => va_Nw.of (List.all_eq_true.mp knest_tab w hw) (hts _ (knest_in w hw)), va_AO.of (hts _ tw_over.1), va_AO.of (hts _ tw_over.2.1), va_AO.of (hts _ tw_over.2.2)⟩
  obtain ⟨D, hKc⟩ : ∃ D : va_G, ∀ (k : Nat) (q : vw_C), vwCl[k]? = some q → u_Kn s q.1 q.2.1 q.2.2 (D.1 k) (D.2 k) := by
    have h1 : ∀ k : Nat, ∃ q : ClassId × (Nat → Nat), k < 12 → u_Kn s (jcl k).1 (jcl k).2.1 (jcl k).2.2 q.1 q.2 := fun k => by
      by_cases hk : k < 12
      · obtain ⟨c0, iS0, hKn⟩ := u_known (C := (jcl k).1) (T := (jcl k).2.1) (N := (jcl k).2.2) (n := (jcl k).2.2) htj (jin_all hk) (htj _ (kinst hk).1)
        exact ⟨(c0, iS0), fun _ => hKn⟩
      · exact ⟨(0, fun _ => 0), fun h => absurd h hk⟩
    obtain ⟨f, hf⟩ := Classical.axiomOfChoice h1
    refine ⟨(fun k => (f k).1, fun k => (f k).2), fun k q hq => ?_⟩
    have hk : k < 12 := (List.getElem?_eq_some_iff.mp hq).1
    have e1 : q = jcl k := Option.some.inj (hq.symm.trans (jcl_get hk))
    rw [e1]
    exact hf k hk
  have hK0 : va_K D vwCl [] s := ⟨hKc, fun k q h => by simp at h⟩
  have hR0 : kRep D s.heap.size [] [] [] [] s.heap := ⟨rfl, rfl, fun k q h => by simp [kws] at h, ⟨fun i j p q h => by simp [kws] at h, fun k q h => by simp [kws] at h⟩, fun k t n rs h => by simp at h⟩
  obtain ⟨k1, k2, k3, k4, k5, k6, k7, k8, k9, k10, k11⟩ := kLen
  obtain ⟨n1, n2, n3, n4⟩ := lw_news
  obtain ⟨d0, d3, d4, d7, d8, d11, d12, d15, d16, d17⟩ := ld_a
  have hl := lv_entry ([.ref b]) (n := 4) (Nat.le_of_ble_eq_true rfl)
  rw [lg_entry_eq]
  generalize (lg_sl ([.ref b]) ++ List.replicate (4 - (lg_sl ([.ref b])).length) Slot.unset).toArray = ls at hl ⊢
  have hl : lv_has ls 4 [(0, .ref b)] := hl
  refine lnew (t := 10) (by decide) hx hb hown hts n1 hK0 hR0 (fun c hc => absurd hc List.not_mem_nil) va_S.rf (Nat.le_of_ble_eq_true rfl) (by rw [k10]; exact Nat.le_of_ble_eq_true rfl) d0 (fun q1 H1 hR1 hS1 => ?_)
  have hR1 : kRep D s.heap.size kE0 [q1] [0] [] H1 := hR1
  refine lv_dup hx hb d3 rfl ?_
  refine linit (a := 0) (as := [q1]) (h := kE0) (h' := kE1) (z := 10) (by decide) hx hb hml hl.1 hown hts n3 hEV hK0 hR1 kE0_ok ⟨by rw [k1, k2]; decide, by rw [k4, k6]; decide⟩ (by rw [k1]; decide) kE_run hS1 (Nat.le_of_ble_eq_true rfl) ⟨Nat.le_of_ble_eq_true rfl, Nat.le_of_ble_eq_true rfl⟩ (by rw [k1, k2]; exact Nat.le_of_ble_eq_true rfl) (by rw [k4, k6, k10]; exact Nat.le_of_ble_eq_true rfl) d4 (fun H2 locs2 as2 cs2 tys2 he2 hK2 hR2 hS2 => ?_)
  refine lv_astore_n (lv' := [(1, .ref q1), (0, .ref b)]) hx hb d7 rfl hl (by decide) rfl (fun ls hl => ?_)
  refine lnew (t := 11) (by decide) hx hb hown hts n2 hK2 hR2 kE1_ok hS2 (by rw [k1, k2]; exact Nat.le_of_ble_eq_true rfl) (by rw [k4, k6, k10, k11]; exact Nat.le_of_ble_eq_true rfl) d8 (fun q2 H3 hR3 hS3 => ?_)
  refine lv_dup hx hb d11 rfl ?_
  have hlen3 : (kE1 ++ [(.inl (11, kblank.getD 11 []) : kC)]).length = 328 := by rw [List.length_append, k2]; rfl
  have ea : kad (as2 ++ [q2]) 327 = q2 := by
    have e1 : as2.length = 327 := by rw [hR2.1, k2]
    rw [← e1]
    exact kad_last
  have e9 : Value.ref q2 = Value.ref (kad (as2 ++ [q2]) 327) := by rw [ea]
  rw [show (F0 m (8 + 3 + 1) ls [Value.ref q2, Value.ref q2]) = F0 m (8 + 3 + 1) ls [Value.ref (kad (as2 ++ [q2]) 327), Value.ref q2] by rw [ea]]
  refine linit (a := 327) (as := as2 ++ [q2]) (h := kE1 ++ [.inl (11, kblank.getD 11 [])]) (h' := kHE) (z := 11) (by decide) hx hb hml hl.1 hown hts n4 hEV hK2 hR3 kE1_ok2 ⟨by rw [hlen3, k3]; decide, by rw [k5, k7]; decide⟩ (by rw [hlen3]; decide) kM_run hS3 (Nat.le_of_ble_eq_true rfl) ⟨Nat.le_of_ble_eq_true rfl, Nat.le_of_ble_eq_true rfl⟩ (by rw [hlen3, k1, k2, k3]; exact Nat.le_of_ble_eq_true rfl) (by rw [k4, k5, k6, k7, k10, k11]; exact Nat.le_of_ble_eq_true rfl) d12 (fun H4 locs4 as4 cs4 tys4 he4 hK4 hR4 hS4 => ?_)
  refine lv_astore_n (lv' := [(2, .ref q2), (1, .ref q1), (0, .ref b)]) hx hb d15 rfl hl (by decide) rfl (fun ls hl => ?_)
  refine lv_iconst hx hb (v := Int32.ofInt ((0 : Nat) : Int)) d16 rfl ?_
  refine lv_istore_n (lv' := [(3, .int (Int32.ofInt ((0 : Nat) : Int))), (2, .ref q2), (1, .ref q1), (0, .ref b)]) hx hb d17 rfl hl (by decide) rfl (fun ls hl => ?_)
  obtain ⟨cA, g1, g2, g3, g4⟩ := kend hR4 hK4 adK
  have a10 : kad2 as4 adK 10 0 = q1 := by
    rw [kad2_f (by decide), k8, he4 0 (by rw [hlen3]; decide), kad_app (by rw [hR2.1, k2]; decide), he2 0 (by rw [k1]; decide)]
    rfl
  have a11 : kad2 as4 adK 11 0 = q2 := by
    rw [kad2_f (by decide), k9, he4 327 (by rw [hlen3]; decide)]
    exact ea
  refine W.widen (k := 349) (n := 12557) (by rw [hlen3, k1, k2, k3]; exact Nat.le_of_ble_eq_true rfl) (by rw [k4, k5, k6, k7, k10, k11]; exact Nat.le_of_ble_eq_true rfl) ?_
  rw [← a10, ← a11] at hl
  refine lloop (adV := adV) (fo := fo) C0 hL g1 g4 g3 (fun H locs hS U hU hW => ?_) hyp (L + 1) 0 (Nat.zero_le _) (by omega) kmem0 H4 locs4 ls h0 kmem0_ok g2 hS4 hl
  subst hU
  refine ⟨fun q hq => ?_, fun q hq => ?_, ?_, ?_, ?_⟩
  · have w := of_decide_eq_true (List.all_eq_true.mp jlN_ok q hq)
    exact va_Nw.warmM hW (va_Nw.of rfl (hts _ (List.mem_of_getElem? w)))
  · have w := List.all_eq_true.mp tsr_jlS q hq
    simp only [Bool.and_eq_true, decide_eq_true_eq] at w
    obtain ⟨⟨⟨w1, w2⟩, w3⟩, w4⟩ := w
    have ht : tsr[q.2.2]? = some (tsr.getD q.2.2 ("", 0, "", 0)) := by
      rw [List.getD_eq_getElem?_getD, List.getElem?_eq_getElem (show q.2.2 < tsr.length from w1)]
      rfl
    have w5 := of_decide_eq_true (List.all_eq_true.mp tsr_ok _ (List.mem_of_getElem? ht))
    rw [← w2, ← w3] at w5
    have w6 := hvE q.2.2 w1
    rw [w4] at w6
    exact ⟨_, vk_R.warm hW (vk_R.of (hts _ (List.mem_of_getElem? w5)) w6)⟩
  · exact ((vk_S.moved hW.alike hvS).kept hS.2.1).narrow g4
  · exact ((va_Z.moved hW.alike hZ1).kept hS.2.1).narrow g4
  · exact ((va_Z.moved hW.alike hZ2).kept hS.2.1).narrow g4
