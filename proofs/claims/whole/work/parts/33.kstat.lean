/-! Constructors: static facts, each entry checked by the kernel -/
def kx : List (Nat × Nat × Nat) := [(0, 1, 375), (0, 7, 376), (0, 10, 379), (0, 22, 379), (0, 26, 376), (0, 30, 378), (1, 1, 439), (1, 5, 440), (1, 9, 441), (1, 12, 444), (1, 16, 442), (1, 20, 443), (1, 23, 445), (1, 31, 446), (1, 39, 447), (1, 47, 448), (2, 1, 468), (2, 5, 469), (2, 9, 470), (2, 12, 473), (2, 16, 471), (2, 20, 472), (2, 23, 474), (2, 31, 475), (2, 39, 476), (3, 1, 321), (3, 9, 324), (3, 17, 325), (3, 25, 326), (4, 1, 176), (4, 9, 201), (4, 16, 202), (4, 24, 204), (4, 32, 206), (4, 40, 211), (4, 48, 215), (4, 55, 219), (4, 62, 221), (4, 69, 224), (4, 76, 226), (5, 1, 490), (5, 10, 491), (5, 19, 493), (6, 1, 170), (6, 5, 171), (6, 9, 173), (6, 12, 336), (6, 16, 264), (6, 20, 266), (6, 23, 341), (6, 27, 316), (6, 31, 318), (6, 34, 345), (6, 39, 348), (7, 1, 395), (7, 9, 396), (7, 17, 397), (7, 25, 398), (7, 33, 399), (8, 1, 142), (8, 10, 143), (9, 1, 269), (9, 9, 275), (9, 17, 283), (9, 24, 286), (9, 31, 290), (9, 38, 293), (9, 45, 297), (10, 1, 134), (10, 5, 137), (10, 9, 139), (10, 12, 511), (10, 18, 163), (10, 21, 512), (10, 25, 165), (10, 29, 167), (10, 32, 514), (10, 37, 165), (10, 40, 515), (10, 44, 368), (10, 48, 369), (10, 51, 516), (10, 55, 370), (10, 59, 372), (10, 62, 517), (10, 66, 390), (10, 70, 392), (10, 73, 518), (10, 77, 434), (10, 81, 436), (10, 84, 519), (10, 88, 463), (10, 92, 465), (10, 95, 520), (10, 107, 512), (10, 111, 163), (10, 115, 487), (10, 133, 515), (10, 137, 165), (10, 141, 167), (11, 1, 1154), (11, 10, 1155), (11, 19, 1158), (11, 27, 1159), (11, 36, 1160), (11, 44, 1161), (11, 52, 1162), (11, 61, 1170), (11, 69, 1172), (11, 77, 1174), (11, 85, 1175), (11, 90, 1176), (11, 95, 1178), (11, 103, 1179), (11, 112, 1180), (11, 120, 1182), (11, 129, 1183), (11, 138, 1184), (11, 146, 1185), (11, 154, 1186), (11, 163, 1188), (11, 170, 1189), (11, 177, 1190), (11, 184, 1191)]
def kinfo : List (MethodName × ByteArray × Nat) := [(yX0_init, cX0_init, 2), (yX1_init, cX1_init, 1), (yX2_init, cX2_init, 1), (yX4_init, cX4_init, 1), (yX5_init, cX5_init, 1), (yX6_init, cX6_init, 1), (yX7_init, cX7_init, 1), (yX8_init, cX8_init, 1), (yX9_init, cX9_init, 1), (yX10_init, cX10_init, 1), (yX11_init, cX11_init, 2), (yX12_init, cX12_init, 1)]
def kmi (z : Nat) : MethodName × ByteArray × Nat := match kinfo[z]? with
  | some q => q
  | none => (⟨"", "", ""⟩, ByteArray.empty, 0)
def knest : List Cond := [(.methodLinkNest "EelThroat" 9 (kmi 8).1 "EelThroat"), (.methodLinkNest "EelThroat" 24 (kmi 6).1 "EelThroat"), (.methodLinkNest "EelThroat" 35 (kmi 4).1 "EelThroat"), (.methodLinkNest "EelThroat" 49 (kmi 7).1 "EelThroat"), (.methodLinkNest "EelThroat" 56 (kmi 1).1 "EelThroat"), (.methodLinkNest "EelThroat" 63 (kmi 2).1 "EelThroat"), (.methodLinkNest "EelThroat" 68 (kmi 5).1 "EelThroat"), (.methodLinkNest "EelThroat$Acts" 17 (kmi 9).1 "EelThroat"), (.methodLinkNest "EelThroat$Asking" 11 (kmi 7).1 "EelThroat"), (.methodLinkNest "EelThroat$Asking" 20 (kmi 9).1 "EelThroat"), (.methodLinkNest "EelThroat$Guessing" 11 (kmi 7).1 "EelThroat"), (.methodLinkNest "EelThroat$Guessing" 20 (kmi 9).1 "EelThroat"), (.methodLinkNest "EelThroat$Scene" 11 (kmi 4).1 "EelThroat"), (.methodLinkNest "EelThroat$Scene" 20 (kmi 9).1 "EelThroat"), (.methodLinkNest "EelThroat$Scene" 27 (kmi 3).1 "EelThroat")]
def kpos (z pc : Nat) : Option Cond := match kx.find? (fun q => Nat.beq q.1 z && Nat.beq q.2.1 pc) with
  | some q => lw_tbl[q.2.2]?
  | none => none
def karr (t : Nat) : FieldType := match t with
  | 0 => .int
  | 1 => .long
  | 2 => .byte
  | 3 => .boolean
  | 4 => .object "EelThroat$Rule"
  | 5 => .object "EelThroat$Scene"
  | _ => .object "EelThroat$Water"
def kcls (t : Nat) : String := match t with
  | 4 => "EelThroat$Rule"
  | 5 => "EelThroat$Scene"
  | _ => "EelThroat$Water"
def kchk (z pc : Nat) (e : kE) : Bool := decide (decode (kmi z).2.1 pc = .ok (e.1, e.2.1 - pc)) && (match e.1 with
  | .aload_n _ | .iload_n _ | .dup | .aastore | .return_ => Nat.beq e.2.1 (pc + 1)
  | .istore_n i => Nat.beq e.2.1 (pc + 1) && Nat.blt i.val (kmi z).2.2
  | .iconst n => Nat.beq e.2.1 (pc + 1) && jrg n
  | .bipush n => Nat.beq e.2.1 (pc + 2) && jrg n && decide ((Int8.ofInt n).toInt32 = Int32.ofInt n)
  | .sipush n => Nat.beq e.2.1 (pc + 3) && jrg n && decide ((Int16.ofInt n).toInt32 = Int32.ofInt n)
  | .iinc _ n => Nat.beq e.2.1 (pc + 3) && jrg n
  | .if_icmp .ge off => Nat.beq e.2.1 (pc + 3) && (match e.2.2 with
    | [t] => decide ((pc : Int) + off = (t : Int))
    | _ => false)
  | .goto off => Nat.beq e.2.1 (pc + 3) && (match e.2.2 with
    | [t] => decide ((pc : Int) + off = (t : Int))
    | _ => false)
  | .new i => Nat.beq e.2.1 (pc + 3) && (match e.2.2 with
    | [c] => Nat.blt c 12 && decide (kpos z pc = some (.classLink (kmi z).1.cls i (jcl c).1))
    | _ => false)
  | .newarray ty => Nat.beq e.2.1 (pc + 2) && (match e.2.2 with
    | [t] => Nat.blt t 4 && decide (newarray.typeOf ty = karr t)
    | _ => false)
  | .anewarray i => Nat.beq e.2.1 (pc + 3) && (match e.2.2 with
    | [t] => Nat.ble 4 t && Nat.ble t 6 && decide (kpos z pc = some (.classLink (kmi z).1.cls i (kcls t)))
    | _ => false)
  | .getfield i => Nat.beq e.2.1 (pc + 3) && (match e.2.2 with
    | [f, k] => Nat.blt f 12 && decide (k < (jcl f).2.2) && decide (((jcl f).2.1 k).1 = (jcl f).1) && decide (kpos z pc = some (.fieldLink (kmi z).1.cls i (jcl f).1 ((jcl f).2.1 k).2.1 ((jcl f).2.1 k).2.2.1))
    | _ => false)
  | .putfield i => Nat.beq e.2.1 (pc + 3) && (match e.2.2 with
    | [f, k] => Nat.blt f 12 && decide (k < (jcl f).2.2) && decide (((jcl f).2.1 k).1 = (jcl f).1) && decide ((jcl f).1 = (kmi z).1.cls) && decide (kpos z pc = some (.fieldLink (kmi z).1.cls i (jcl f).1 ((jcl f).2.1 k).2.1 ((jcl f).2.1 k).2.2.1))
    | _ => false)
  | .invokespecial i => Nat.beq e.2.1 (pc + 3) && (match e.2.2 with
    | [] => decide (kpos z pc = some (.methodLink (kmi z).1.cls i objectInit))
    | [y] => Nat.blt y 12 && (decide (kpos z pc = some (.methodLink (kmi z).1.cls i (kmi y).1)) || knest.any (fun w => decide (w = .methodLinkNest (kmi z).1.cls i (kmi y).1 "EelThroat")))
    | _ => false)
  | _ => false)
set_option maxRecDepth 100000 in
theorem kc0_ok : kc0.all (fun x => kchk 0 x.1 x.2) = true := by decide +kernel
set_option maxRecDepth 100000 in
theorem kc1_ok : kc1.all (fun x => kchk 1 x.1 x.2) = true := by decide +kernel
set_option maxRecDepth 100000 in
theorem kc2_ok : kc2.all (fun x => kchk 2 x.1 x.2) = true := by decide +kernel
set_option maxRecDepth 100000 in
theorem kc3_ok : kc3.all (fun x => kchk 3 x.1 x.2) = true := by decide +kernel
set_option maxRecDepth 100000 in
theorem kc4_ok : kc4.all (fun x => kchk 4 x.1 x.2) = true := by decide +kernel
set_option maxRecDepth 100000 in
theorem kc5_ok : kc5.all (fun x => kchk 5 x.1 x.2) = true := by decide +kernel
set_option maxRecDepth 100000 in
theorem kc6_ok : kc6.all (fun x => kchk 6 x.1 x.2) = true := by decide +kernel
set_option maxRecDepth 100000 in
theorem kc7_ok : kc7.all (fun x => kchk 7 x.1 x.2) = true := by decide +kernel
set_option maxRecDepth 100000 in
theorem kc8_ok : kc8.all (fun x => kchk 8 x.1 x.2) = true := by decide +kernel
set_option maxRecDepth 100000 in
theorem kc9_ok : kc9.all (fun x => kchk 9 x.1 x.2) = true := by decide +kernel
set_option maxRecDepth 100000 in
theorem kc10_ok : kc10.all (fun x => kchk 10 x.1 x.2) = true := by decide +kernel
set_option maxRecDepth 100000 in
theorem kc11_ok : kc11.all (fun x => kchk 11 x.1 x.2) = true := by decide +kernel
def kpi : List (Nat × Nat × Nat) := [(115, 373, 371), (117, 437, 435), (118, 466, 464), (114, 319, 317), (112, 174, 172), (119, 488, 486), (111, 168, 166), (116, 393, 391), (110, 140, 138), (113, 267, 265), (109, 132, 130), (120, 1152, 1150)]
theorem kinfo_ok : (kinfo.zip kpi).all (fun q => decide (lw_tbl[q.2.1]? = some (.initialized q.1.1.cls)) && decide (lw_tbl[q.2.2.1]? = some (.instanceMethod q.1.1)) && decide (q.1.1.name = "<init>") && decide (q.1.1.cls ≠ "java/lang/invoke/MethodHandle") && decide (q.1.1.cls ≠ "java/lang/invoke/VarHandle") && decide ((parseMethodDescriptor q.1.1.desc).map (fun d => d.parameters.length) = some 0) && decide (q.1.2.2 ≤ 60) && Jvm.plainName q.1.1.cls) = true := by decide +kernel
theorem kinst_ok : ((List.range 12).zip [(371, 115), (435, 117), (464, 118), (317, 114), (172, 112), (486, 119), (166, 111), (391, 116), (138, 110), (265, 113), (130, 109), (1150, 120)]).all (fun q => decide (lw_tbl[q.2.1]? = some (.instantiable (jcl q.1).1 (jcl q.1).2.2)) && decide (lw_tbl[q.2.2]? = some (.initialized (jcl q.1).1))) = true := by decide +kernel
theorem karr_ok : ((List.range 4).zip [263, 433, 162, 1267]).all (fun q => decide (lw_tbl[q.2]? = some (.arrayClass (karr q.1)))) = true := by decide +kernel
set_option maxRecDepth 100000 in
theorem kcw0 : Cond.code yX0_init cX0_init 2 none ∈ lw_tbl := jtb2 (List.mem_of_getElem? (i := 26) rfl)
set_option maxRecDepth 100000 in
theorem kcw1 : Cond.code yX1_init cX1_init 1 none ∈ lw_tbl := jtb2 (List.mem_of_getElem? (i := 90) rfl)
set_option maxRecDepth 100000 in
theorem kcw2 : Cond.code yX2_init cX2_init 1 none ∈ lw_tbl := jtb2 (List.mem_of_getElem? (i := 119) rfl)
set_option maxRecDepth 100000 in
theorem kcw3 : Cond.code yX4_init cX4_init 1 none ∈ lw_tbl := jtb1 (List.mem_of_getElem? (i := 212) rfl)
set_option maxRecDepth 100000 in
theorem kcw4 : Cond.code yX5_init cX5_init 1 none ∈ lw_tbl := jtb1 (List.mem_of_getElem? (i := 67) rfl)
set_option maxRecDepth 100000 in
theorem kcw5 : Cond.code yX6_init cX6_init 1 none ∈ lw_tbl := jtb2 (List.mem_of_getElem? (i := 141) rfl)
set_option maxRecDepth 100000 in
theorem kcw6 : Cond.code yX7_init cX7_init 1 none ∈ lw_tbl := jtb1 (List.mem_of_getElem? (i := 61) rfl)
set_option maxRecDepth 100000 in
theorem kcw7 : Cond.code yX8_init cX8_init 1 none ∈ lw_tbl := jtb2 (List.mem_of_getElem? (i := 46) rfl)
set_option maxRecDepth 100000 in
theorem kcw8 : Cond.code yX9_init cX9_init 1 none ∈ lw_tbl := jtb1 (List.mem_of_getElem? (i := 33) rfl)
set_option maxRecDepth 100000 in
theorem kcw9 : Cond.code yX10_init cX10_init 1 none ∈ lw_tbl := jtb1 (List.mem_of_getElem? (i := 160) rfl)
set_option maxRecDepth 100000 in
theorem kcw10 : Cond.code yX11_init cX11_init 2 none ∈ lw_tbl := jtb1 (List.mem_of_getElem? (i := 25) rfl)
set_option maxRecDepth 100000 in
theorem kcw11 : Cond.code yX12_init cX12_init 1 none ∈ lw_tbl := jtb5 (List.mem_of_getElem? (i := 85) rfl)
