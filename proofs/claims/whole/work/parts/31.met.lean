/-! Every method's contract, at every depth -/
theorem jfind_get : ∀ (t : List (jCode × Nat)) (n : Nat), jfind t n = t[n]?
  | [], _ => by simp [jfind]
  | _ :: _, 0 => rfl
  | _ :: t, n + 1 => by simp [jfind, jfind_get t n]
theorem jcons2 {P : (jCode × Nat) × Nat → Prop} {a : jCode × Nat} {t : List (jCode × Nat)} {k : Nat} (h : P (a, k)) (ht : ∀ x ∈ t.zipIdx (k + 1), P x) : ∀ x ∈ (a :: t).zipIdx k, P x := by
  rw [List.zipIdx_cons]
  exact List.forall_mem_cons.mpr ⟨h, ht⟩
def jpP (x : (jCode × Nat) × Nat) : Prop := jchks x.2 x.1.1 = true
set_option maxRecDepth 100000 in
theorem jprog_chk : ∀ x ∈ jprog.zipIdx, jpP x := jcons2 (P := jpP) jc0_ok (jcons2 (P := jpP) jc1_ok (jcons2 (P := jpP) jc2_ok (jcons2 (P := jpP) jc3_ok (jcons2 (P := jpP) jc4_ok (jcons2 (P := jpP) jc5_ok (jcons2 (P := jpP) jc6_ok (jcons2 (P := jpP) jc7_ok (jcons2 (P := jpP) jc8_ok (jcons2 (P := jpP) jc9_ok (jcons2 (P := jpP) jc10_ok (jcons2 (P := jpP) jc11_ok (jcons2 (P := jpP) jc12_ok (jcons2 (P := jpP) jc13_ok (jcons2 (P := jpP) jc14_ok (jcons2 (P := jpP) jc15_ok (jcons2 (P := jpP) jc16_ok (jcons2 (P := jpP) jc17_ok (jcons2 (P := jpP) jc18_ok (jcons2 (P := jpP) jc19_ok (jcons2 (P := jpP) jc20_ok (jcons2 (P := jpP) jc21_ok (jcons2 (P := jpP) jc22_ok (jcons2 (P := jpP) jc23_ok (jcons2 (P := jpP) jc24_ok (jcons2 (P := jpP) jc25_ok (jcons2 (P := jpP) jc26_ok (jcons2 (P := jpP) jc27_ok (jcons2 (P := jpP) jc28_ok (jcons2 (P := jpP) jc29_ok (jcons2 (P := jpP) jc30_ok (jcons2 (P := jpP) jc31_ok (jcons2 (P := jpP) jc32_ok (jcons2 (P := jpP) jc33_ok (jcons2 (P := jpP) jc34_ok (jcons2 (P := jpP) jc35_ok (jcons2 (P := jpP) jc36_ok (jcons2 (P := jpP) jc37_ok (jcons2 (P := jpP) jc38_ok (jcons2 (P := jpP) jc39_ok (jcons2 (P := jpP) jc40_ok (jcons2 (P := jpP) jc41_ok (jcons2 (P := jpP) jc42_ok (jcons2 (P := jpP) jc43_ok (jcons2 (P := jpP) jc44_ok (jcons2 (P := jpP) jc45_ok (jcons2 (P := jpP) jc46_ok (jcons2 (P := jpP) jc47_ok (jcons2 (P := jpP) jc48_ok (jcons2 (P := jpP) jc49_ok (jcons2 (P := jpP) jc50_ok (jcons2 (P := jpP) jc51_ok (jcons2 (P := jpP) jc52_ok (jcons2 (P := jpP) jc53_ok (jcons2 (P := jpP) jc54_ok (jcons2 (P := jpP) jc55_ok (jcons2 (P := jpP) jc56_ok (jcons2 (P := jpP) jc57_ok (jcons2 (P := jpP) jc58_ok (jcons2 (P := jpP) jc59_ok (jcons2 (P := jpP) jc60_ok (jcons2 (P := jpP) jc61_ok (jcons2 (P := jpP) jc62_ok (jcons2 (P := jpP) jc63_ok (jcons2 (P := jpP) jc64_ok (jcons2 (P := jpP) jc65_ok (jcons2 (P := jpP) jc66_ok (jcons2 (P := jpP) jc67_ok (jcons2 (P := jpP) jc68_ok (jcons2 (P := jpP) jc69_ok (jcons2 (P := jpP) jc70_ok (jcons2 (P := jpP) jc71_ok (jcons2 (P := jpP) jc72_ok (jcons2 (P := jpP) jc73_ok (jcons2 (P := jpP) jc74_ok (jcons2 (P := jpP) jc75_ok (jcons2 (P := jpP) jc76_ok (jcons2 (P := jpP) jc77_ok (jcons2 (P := jpP) jc78_ok (jcons2 (P := jpP) jc79_ok (jcons2 (P := jpP) jc80_ok (jcons2 (P := jpP) jc81_ok (jcons2 (P := jpP) jc82_ok (jcons2 (P := jpP) jc83_ok (jcons2 (P := jpP) jc84_ok (jcons2 (P := jpP) jc85_ok (jcons2 (P := jpP) jc86_ok (jcons2 (P := jpP) jc87_ok (jcons2 (P := jpP) jc88_ok (jcons2 (P := jpP) jc89_ok (jcons2 (P := jpP) jc90_ok (jcons2 (P := jpP) jc91_ok (jcons2 (P := jpP) jc92_ok (jcons2 (P := jpP) jc93_ok (jcons2 (P := jpP) jc94_ok (jcons2 (P := jpP) jc95_ok (jcons2 (P := jpP) jc96_ok (jcons2 (P := jpP) jc97_ok (jcons2 (P := jpP) jc98_ok (jcons2 (P := jpP) jc99_ok (jcons2 (P := jpP) jc100_ok (jcons2 (P := jpP) jc101_ok (jcons2 (P := jpP) jc102_ok (jcons2 (P := jpP) jc103_ok (jcons2 (P := jpP) jc104_ok (jcons2 (P := jpP) jc105_ok (jcons2 (P := jpP) jc106_ok (jcons2 (P := jpP) jc107_ok (jcons2 (P := jpP) jc108_ok (jcons2 (P := jpP) jc109_ok (jcons2 (P := jpP) jc110_ok (jcons2 (P := jpP) jc111_ok (jcons2 (P := jpP) jc112_ok (jcons2 (P := jpP) jc113_ok (jcons2 (P := jpP) jc114_ok (jcons2 (P := jpP) jc115_ok (jcons2 (P := jpP) jc116_ok (jcons2 (P := jpP) jc117_ok (jcons2 (P := jpP) jc118_ok (jcons2 (P := jpP) jc119_ok (jcons2 (P := jpP) jc120_ok (jcons2 (P := jpP) jc121_ok (jcons2 (P := jpP) jc122_ok (jcons2 (P := jpP) jc123_ok (jcons2 (P := jpP) jc124_ok (jcons2 (P := jpP) jc125_ok (jcons2 (P := jpP) jc126_ok (jcons2 (P := jpP) jc127_ok (jcons2 (P := jpP) jc128_ok (jcons2 (P := jpP) jc129_ok (jcons2 (P := jpP) jc130_ok (jcons2 (P := jpP) jc131_ok (jcons2 (P := jpP) jc132_ok (jcons2 (P := jpP) jc133_ok (jcons2 (P := jpP) jc134_ok (jcons2 (P := jpP) jc135_ok (jcons2 (P := jpP) jc136_ok (jcons2 (P := jpP) jc137_ok (jcons2 (P := jpP) jc138_ok (jcons2 (P := jpP) jc139_ok (jcons2 (P := jpP) jc140_ok (jcons2 (P := jpP) jc141_ok (jcons2 (P := jpP) jc142_ok (jcons2 (P := jpP) jc143_ok (jcons2 (P := jpP) jc144_ok (jcons2 (P := jpP) jc145_ok (jcons2 (P := jpP) jc146_ok (jcons2 (P := jpP) jc147_ok (jcons2 (P := jpP) jc148_ok (jcons2 (P := jpP) jc149_ok (jcons2 (P := jpP) jc150_ok (jcons2 (P := jpP) jc151_ok (jcons2 (P := jpP) jc152_ok (jcons2 (P := jpP) jc153_ok (jcons2 (P := jpP) jc154_ok (jcons2 (P := jpP) jc155_ok (jcons2 (P := jpP) jc156_ok (jcons2 (P := jpP) jc157_ok (jcons2 (P := jpP) jc158_ok (jcons2 (P := jpP) jc159_ok (jcons2 (P := jpP) jc160_ok (jcons2 (P := jpP) jc161_ok (jcons2 (P := jpP) jc162_ok (jcons2 (P := jpP) jc163_ok (jcons2 (P := jpP) jc164_ok (jcons2 (P := jpP) jc165_ok (jcons2 (P := jpP) jc166_ok (jcons2 (P := jpP) jc167_ok (jcons2 (P := jpP) jc168_ok (jcons2 (P := jpP) jc169_ok (jcons2 (P := jpP) jc170_ok (jcons2 (P := jpP) jc171_ok (jcons2 (P := jpP) jc172_ok (jcons2 (P := jpP) jc173_ok (jcons2 (P := jpP) jc174_ok (jcons2 (P := jpP) jc175_ok (jcons2 (P := jpP) jc176_ok (jcons2 (P := jpP) jc177_ok (jcons2 (P := jpP) jc178_ok (jcons2 (P := jpP) jc179_ok (jcons2 (P := jpP) jc180_ok (jcons2 (P := jpP) jc181_ok (jcons2 (P := jpP) jc182_ok (jcons2 (P := jpP) jc183_ok (jcons2 (P := jpP) jc184_ok (jcons2 (P := jpP) jc185_ok (jcons2 (P := jpP) jc186_ok (jcons2 (P := jpP) jc187_ok (jcons2 (P := jpP) jc188_ok (jcons2 (P := jpP) jc189_ok (jcons2 (P := jpP) jc190_ok (jcons2 (P := jpP) jc191_ok (jcons2 (P := jpP) jc192_ok (jcons2 (P := jpP) jc193_ok (jcons2 (P := jpP) jc194_ok (jcons2 (P := jpP) jc195_ok (jcons2 (P := jpP) jc196_ok (jcons2 (P := jpP) jc197_ok (jcons2 (P := jpP) jc198_ok (jcons2 (P := jpP) jc199_ok (jcons2 (P := jpP) jc200_ok (jcons2 (P := jpP) jc201_ok (jcons2 (P := jpP) jc202_ok (jcons2 (P := jpP) jc203_ok (jcons2 (P := jpP) jc204_ok (jcons2 (P := jpP) jc205_ok (jcons2 (P := jpP) jc206_ok (jcons2 (P := jpP) jc207_ok (jcons2 (P := jpP) jc208_ok (jcons2 (P := jpP) jc209_ok (jcons2 (P := jpP) jc210_ok (jcons2 (P := jpP) jc211_ok (jcons2 (P := jpP) jc212_ok (jcons2 (P := jpP) jc213_ok (jcons2 (P := jpP) jc214_ok (jcons2 (P := jpP) jc215_ok (jcons2 (P := jpP) jc216_ok (jcons2 (P := jpP) jc217_ok (jcons2 (P := jpP) jc218_ok (jcons2 (P := jpP) jc219_ok (jcons2 (P := jpP) jc220_ok (jcons2 (P := jpP) jc221_ok (jcons2 (P := jpP) jc222_ok (jcons2 (P := jpP) jc223_ok (jcons2 (P := jpP) jc224_ok (jcons2 (P := jpP) jc225_ok (jcons2 (P := jpP) jc226_ok (jcons2 (P := jpP) jc227_ok (jcons2 (P := jpP) jc228_ok (jcons2 (P := jpP) jc229_ok (jcons2 (P := jpP) jc230_ok (jcons2 (P := jpP) jc231_ok (jcons2 (P := jpP) jc232_ok (jcons2 (P := jpP) jc233_ok (jcons2 (P := jpP) jc234_ok (jcons2 (P := jpP) jc235_ok (jcons2 (P := jpP) jc236_ok (jcons2 (P := jpP) jc237_ok (jcons2 (P := jpP) jc238_ok (jcons2 (P := jpP) jc239_ok (jcons2 (P := jpP) jc240_ok (jcons2 (P := jpP) jc241_ok (jcons2 (P := jpP) jc242_ok (jcons2 (P := jpP) jc243_ok (jcons2 (P := jpP) jc244_ok (jcons2 (P := jpP) jc245_ok (jcons2 (P := jpP) jc246_ok (jcons2 (P := jpP) jc247_ok ((fun x h => absurd h List.not_mem_nil)))))))))))))))))))))))))))))))))))))))))))))))))))))))))))))))))))))))))))))))))))))))))))))))))))))))))))))))))))))))))))))))))))))))))))))))))))))))))))))))))))))))))))))))))))))))))))))))))))))))))))))))))))))))))))))))))))))))))))))))))))))))))
theorem jprog_len : jprog.length = 248 := by decide +kernel
theorem jprog_st : jprog.zipIdx.all (fun x => decide (x.1.2 = jMl (jmi x.2)) && decide (jown.getD (jOwn (jmi x.2)) "" = (jmi x.2).1.cls) && (Jvm.plainName (jmi x.2).1.cls || Nat.beq x.2 246 || Nat.beq x.2 247)) = true := by decide +kernel
theorem jprog_z {z : Nat} (h : z < 248) : ∃ cd, jprog[z]? = some (cd, jMl (jmi z)) ∧ cd.all (fun x => jchk (jmi z) x.1 x.2) = true ∧ jown.getD (jOwn (jmi z)) "" = (jmi z).1.cls ∧ (z ≠ 246 → z ≠ 247 → Jvm.plainName (jmi z).1.cls = true) := by
  have e : jprog[z]? = some (jprog[z]'(by rw [jprog_len]; exact h)) := List.getElem?_eq_getElem _
  generalize jprog[z]'(by rw [jprog_len]; exact h) = x at e
  have hm : (x, z) ∈ jprog.zipIdx := by
    refine List.mem_of_getElem? (i := z) ?_
    rw [List.getElem?_zipIdx, e]
    simp
  have h1 := jprog_chk _ hm
  have h2 := List.all_eq_true.mp jprog_st _ hm
  simp only [Bool.and_eq_true, decide_eq_true_eq] at h2
  obtain ⟨⟨a1, a2⟩, a3⟩ := h2
  refine ⟨x.1, ?_, h1, a2, fun n1 n2 => ?_⟩
  · rw [e]
    obtain ⟨cd, nl⟩ := x
    dsimp only at a1
    rw [a1]
  · simp only [Bool.or_eq_true] at a3
    rcases a3 with (a3 | a3) | a3
    · exact a3
    · exact absurd (Nat.eq_of_beq_eq_true a3) n1
    · exact absurd (Nat.eq_of_beq_eq_true a3) n2
theorem jSem_s (d z : Nat) (as : List jV) (mem : jMem) : jSem (d + 1) z as mem = match jfind jprog z with
    | some q => bif Nat.ble (jexp as).length q.2 then jAtC q.1 (jSem d) 0 (jlocs q.2 as) [] mem else none
    | none => jprim z as mem := rfl
theorem jSem_z {d z : Nat} (as : List jV) (mem : jMem) {cd : jCode} {nl : Nat} (h : jprog[z]? = some (cd, nl)) : jSem (d + 1) z as mem = bif Nat.ble (jexp as).length nl then jAtC cd (jSem d) 0 (jlocs nl as) [] mem else none := by
  rw [jSem_s, jfind_get, h]
/-- String.length and String.charAt: their contracts -/
def jPrim (l : Launch) (EV : State → Prop) (D : va_G) (cA : Nat → ClassId) (ad : Nat → Int → Nat) : Prop := ∀ (d z : Nat) (as : List jV) (mem : jMem) (v : jV) (mem' : jMem), 248 ≤ z → z < 250 → jprim z as mem = some (v, mem') → jokL as → jokM mem → Met l (jmi z).1 (.code (jmi z).1 (jmi z).2.1 (jMl (jmi z)) (jRet (jmi z)) :: jTBL) (jroom (d + 3 + 1)) (va_Pc (as.map (jcv ad)) (jI EV D cA ad mem)) (jQ D cA ad (jRk (jmi z)) (jRf (jmi z)) v mem') 0 0 (jA ad)
theorem jmm_max {d : Nat} {a b : jV} {mem : jMem} {r : jV × jMem} (h : jSem (d + 1) 246 [a, b] mem = some r) : ∃ x y, [a, b] = [vI x, vI y] ∧ r = (vI (if x < y then y else x), mem) := by
  match a, b, h with
  | .inl x, .inl y, h =>
    refine ⟨x, y, rfl, ?_⟩
    have e := q_J_max d x y mem
    have h2 : J_max (d + 1) x y mem = some r := h
    rw [e] at h2
    by_cases hq : x < y
    · rw [if_pos hq] at h2 ⊢
      exact (Option.some.inj h2).symm
    · rw [if_neg hq] at h2 ⊢
      exact (Option.some.inj h2).symm
  | .inr (.inl x), .inl y, h => exact absurd h (by intro w; cases w)
  | .inr (.inl x), .inr (.inl y), h => exact absurd h (by intro w; cases w)
  | .inr (.inl x), .inr (.inr y), h =>
    match y, h with
    | .inl y, h => exact absurd h (by intro w; cases w)
    | .inr y, h => exact absurd h (by intro w; cases w)
  | .inl x, .inr (.inl y), h => exact absurd h (by intro w; cases w)
  | .inr (.inr (.inl x)), .inr (.inl y), h => exact absurd h (by intro w; cases w)
  | .inr (.inr (.inr x)), .inr (.inl y), h => exact absurd h (by intro w; cases w)
  | .inl x, .inr (.inr (.inl y)), h =>
    have h2 : jAtC jc246 (jSem d) 0 [vI x, .inr (.inr (.inl y))] [] mem = some r := h
    rw [jfrom_eq jc246 (jSem d) [] 3] at h2
    exact absurd h2 (by intro w; cases w)
  | .inl x, .inr (.inr (.inr y)), h =>
    have h2 : jAtC jc246 (jSem d) 0 [vI x, .inr (.inr (.inr y))] [] mem = some r := h
    rw [jfrom_eq jc246 (jSem d) [] 3] at h2
    exact absurd h2 (by intro w; cases w)
  | .inr (.inr (.inl x)), .inl y, h =>
    have h2 : jAtC jc246 (jSem d) 0 [.inr (.inr (.inl x)), vI y] [] mem = some r := h
    rw [jfrom_eq jc246 (jSem d) [] 3] at h2
    exact absurd h2 (by intro w; cases w)
  | .inr (.inr (.inr x)), .inl y, h =>
    have h2 : jAtC jc246 (jSem d) 0 [.inr (.inr (.inr x)), vI y] [] mem = some r := h
    rw [jfrom_eq jc246 (jSem d) [] 3] at h2
    exact absurd h2 (by intro w; cases w)
  | .inr (.inr (.inl x)), .inr (.inr y), h =>
    match y, h with
    | .inl y, h =>
      have h2 : jAtC jc246 (jSem d) 0 [.inr (.inr (.inl x)), .inr (.inr (.inl y))] [] mem = some r := h
      rw [jfrom_eq jc246 (jSem d) [] 3] at h2
      exact absurd h2 (by intro w; cases w)
    | .inr y, h =>
      have h2 : jAtC jc246 (jSem d) 0 [.inr (.inr (.inl x)), .inr (.inr (.inr y))] [] mem = some r := h
      rw [jfrom_eq jc246 (jSem d) [] 3] at h2
      exact absurd h2 (by intro w; cases w)
  | .inr (.inr (.inr x)), .inr (.inr y), h =>
    match y, h with
    | .inl y, h =>
      have h2 : jAtC jc246 (jSem d) 0 [.inr (.inr (.inr x)), .inr (.inr (.inl y))] [] mem = some r := h
      rw [jfrom_eq jc246 (jSem d) [] 3] at h2
      exact absurd h2 (by intro w; cases w)
    | .inr y, h =>
      have h2 : jAtC jc246 (jSem d) 0 [.inr (.inr (.inr x)), .inr (.inr (.inr y))] [] mem = some r := h
      rw [jfrom_eq jc246 (jSem d) [] 3] at h2
      exact absurd h2 (by intro w; cases w)
theorem jmm_min {d : Nat} {a b : jV} {mem : jMem} {r : jV × jMem} (h : jSem (d + 1) 247 [a, b] mem = some r) : ∃ x y, [a, b] = [vI x, vI y] ∧ r = (vI (if y < x then y else x), mem) := by
  match a, b, h with
  | .inl x, .inl y, h =>
    refine ⟨x, y, rfl, ?_⟩
    have e := q_J_min d x y mem
    have h2 : J_min (d + 1) x y mem = some r := h
    rw [e] at h2
    by_cases hq : y < x
    · rw [if_pos hq] at h2 ⊢
      exact (Option.some.inj h2).symm
    · rw [if_neg hq] at h2 ⊢
      exact (Option.some.inj h2).symm
  | .inr (.inl x), .inl y, h => exact absurd h (by intro w; cases w)
  | .inr (.inl x), .inr (.inl y), h => exact absurd h (by intro w; cases w)
  | .inr (.inl x), .inr (.inr y), h =>
    match y, h with
    | .inl y, h => exact absurd h (by intro w; cases w)
    | .inr y, h => exact absurd h (by intro w; cases w)
  | .inl x, .inr (.inl y), h => exact absurd h (by intro w; cases w)
  | .inr (.inr (.inl x)), .inr (.inl y), h => exact absurd h (by intro w; cases w)
  | .inr (.inr (.inr x)), .inr (.inl y), h => exact absurd h (by intro w; cases w)
  | .inl x, .inr (.inr (.inl y)), h =>
    have h2 : jAtC jc247 (jSem d) 0 [vI x, .inr (.inr (.inl y))] [] mem = some r := h
    rw [jfrom_eq jc247 (jSem d) [] 3] at h2
    exact absurd h2 (by intro w; cases w)
  | .inl x, .inr (.inr (.inr y)), h =>
    have h2 : jAtC jc247 (jSem d) 0 [vI x, .inr (.inr (.inr y))] [] mem = some r := h
    rw [jfrom_eq jc247 (jSem d) [] 3] at h2
    exact absurd h2 (by intro w; cases w)
  | .inr (.inr (.inl x)), .inl y, h =>
    have h2 : jAtC jc247 (jSem d) 0 [.inr (.inr (.inl x)), vI y] [] mem = some r := h
    rw [jfrom_eq jc247 (jSem d) [] 3] at h2
    exact absurd h2 (by intro w; cases w)
  | .inr (.inr (.inr x)), .inl y, h =>
    have h2 : jAtC jc247 (jSem d) 0 [.inr (.inr (.inr x)), vI y] [] mem = some r := h
    rw [jfrom_eq jc247 (jSem d) [] 3] at h2
    exact absurd h2 (by intro w; cases w)
  | .inr (.inr (.inl x)), .inr (.inr y), h =>
    match y, h with
    | .inl y, h =>
      have h2 : jAtC jc247 (jSem d) 0 [.inr (.inr (.inl x)), .inr (.inr (.inl y))] [] mem = some r := h
      rw [jfrom_eq jc247 (jSem d) [] 3] at h2
      exact absurd h2 (by intro w; cases w)
    | .inr y, h =>
      have h2 : jAtC jc247 (jSem d) 0 [.inr (.inr (.inl x)), .inr (.inr (.inr y))] [] mem = some r := h
      rw [jfrom_eq jc247 (jSem d) [] 3] at h2
      exact absurd h2 (by intro w; cases w)
  | .inr (.inr (.inr x)), .inr (.inr y), h =>
    match y, h with
    | .inl y, h =>
      have h2 : jAtC jc247 (jSem d) 0 [.inr (.inr (.inr x)), .inr (.inr (.inl y))] [] mem = some r := h
      rw [jfrom_eq jc247 (jSem d) [] 3] at h2
      exact absurd h2 (by intro w; cases w)
    | .inr y, h =>
      have h2 : jAtC jc247 (jSem d) 0 [.inr (.inr (.inr x)), .inr (.inr (.inr y))] [] mem = some r := h
      rw [jfrom_eq jc247 (jSem d) [] 3] at h2
      exact absurd h2 (by intro w; cases w)
theorem jmm_all : ∀ d, jMMs (jSem d)
  | 0 => ⟨fun as mem r _ h => (by cases h), fun as mem r _ h => (by cases h)⟩
  | d + 1 => by
    refine ⟨fun as mem r hl h => ?_, fun as mem r hl h => ?_⟩
    · match as, hl, h with
      | [a, b], _, h => exact jmm_max h
    · match as, hl, h with
      | [a, b], _, h => exact jmm_min h
theorem jmet_all {l : Launch} {EV : State → Prop} {D : va_G} {cA : Nat → ClassId} {ad : Nat → Int → Nat} (hin : jInj ad) (hev : jEVok EV ad) (hpr : jPrim l EV D cA ad) : ∀ d, jMet l EV D cA ad (d + 3) (jSem d)
  | 0 => fun z as mem v mem' h => by cases h
  | d + 1 => by
    intro z as mem v mem' h n1 n2 hz oks hM
    have hmet := jmet_all (l := l) (D := D) (cA := cA) hin hev hpr d
    have hmm := jmm_all d
    by_cases hz2 : z < 248
    · obtain ⟨cd, c1, c2, c3, c4⟩ := jprog_z hz2
      rw [jSem_z as mem c1] at h
      cases hble : Nat.ble (jexp as).length (jMl (jmi z)) with
      | false => rw [hble] at h; cases h
      | true =>
      rw [hble] at h
      simp only [cond_true] at h
      have hlen : (jexp as).length ≤ jMl (jmi z) := Nat.le_of_ble_eq_true hble
      obtain ⟨n, hn⟩ := jlim_ex h
      refine Met.ofW (cc := (jmi z).2.1) (maxL := jMl (jmi z)) (ret := jRet (jmi z)) (c4 n1 n2) rfl ?_
      intro p e s m args below meth c s₁ B hml hv
      obtain ⟨rfl, hP, hK, hEV⟩ := hv
      have hts0 := atoms_spec (ws := .code (jmi z).1 (jmi z).2.1 (jMl (jmi z)) (jRet (jmi z)) :: jTBL) B.pre
      have hown : s.vm.findClass (jmi z).1.cls = some m.cls := findClass_of_methodNamed B.named
      have C : jC p s m (as.map (jcv ad)).toArray meth c (jmi z) D cA ad EV := ⟨B.exec, B.bytes, hml, by rw [c3]; exact hown, fun w hw => hts0 w (List.mem_cons_of_mem _ hw), hK, B.returns, B.notSynchronized, hin, hev, hEV⟩
      have hl := lv_entry (as.map (jcv ad)) (n := jMl (jmi z)) (by rw [jexp_sl]; exact hlen)
      rw [lg_entry_eq]
      generalize (lg_sl (as.map (jcv ad)) ++ List.replicate (jMl (jmi z) - (lg_sl (as.map (jcv ad))).length) Slot.unset).toArray = ls at hl ⊢
      have hL : jL ad (jlocs (jMl (jmi z)) as) ls := by
        refine ⟨by rw [hl.1]; exact (jpad_len _ _).symm, hl.2.1, fun i w hi hw => ?_⟩
        have := jargs ad as 0 i w (jpad_get _ _ i w hi hw) hw
        rw [Nat.zero_add] at this
        exact hl.2.2 _ this
      exact jsim_run (r := (v, mem')) C hmet hmm c2 n 0 (jlocs (jMl (jmi z)) as) [] mem hn (jlocs_ok oks) (fun w hw => absurd hw List.not_mem_nil) hM (jpad_len _ _) s.heap [] ls hP va_S.rf hL
    · have hnone : jfind jprog z = none := by
        rw [jfind_get]
        exact List.getElem?_eq_none (by rw [jprog_len]; omega)
      rw [jSem_s, hnone] at h
      exact hpr d z as mem v mem' (by omega) hz h oks hM
