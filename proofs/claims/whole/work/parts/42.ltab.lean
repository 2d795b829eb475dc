/-! The law: its cases, each checked by the kernel -/
/-- a case: its place, how many numbers it takes, the class's method (link, number, place of the word), the reference's -/
abbrev lT : Type := Nat × Nat × Nat × Nat × Nat × Nat × Nat × Nat
def ltab : List lT := [(196, 5, 13, 78, 542, 17, 129, 1268), (259, 1, 18, 79, 550, 22, 130, 1276), (282, 0, 23, 80, 554, 27, 165, 1440), (295, 0, 28, 81, 668, 31, 164, 1280), (308, 1, 32, 82, 741, 35, 186, 1448), (331, 2, 36, 83, 745, 40, 187, 1456), (364, 2, 41, 84, 756, 44, 188, 1465), (397, 1, 45, 85, 764, 48, 189, 1485), (420, 1, 49, 86, 780, 52, 190, 1497), (443, 0, 53, 87, 795, 56, 201, 1513), (456, 1, 57, 88, 852, 60, 202, 1577), (479, 3, 61, 89, 856, 65, 203, 1581), (522, 2, 66, 90, 868, 69, 204, 1590), (555, 2, 70, 91, 876, 73, 205, 1598), (588, 0, 74, 92, 880, 77, 200, 1509), (601, 2, 78, 93, 888, 81, 208, 1602), (634, 2, 82, 94, 906, 85, 209, 1619), (667, 1, 86, 95, 921, 89, 210, 1626), (690, 0, 90, 96, 926, 93, 212, 1630), (703, 3, 94, 97, 938, 97, 214, 1641), (746, 4, 98, 98, 950, 102, 215, 1651), (799, 2, 103, 99, 964, 106, 216, 1655), (832, 0, 107, 100, 972, 110, 218, 1659), (845, 1, 111, 101, 979, 114, 221, 1667), (868, 1, 115, 102, 991, 118, 222, 1679), (891, 1, 119, 103, 995, 122, 234, 1718), (914, 4, 123, 104, 1024, 126, 225, 1683), (967, 1, 127, 105, 1040, 130, 227, 1696), (990, 2, 131, 106, 1055, 134, 229, 1704), (1023, 3, 135, 107, 1065, 138, 230, 1713), (1066, 1, 139, 108, 1073, 142, 236, 1734), (1089, 2, 143, 109, 1085, 146, 238, 1742), (1122, 1, 147, 110, 1097, 150, 239, 1750), (1145, 4, 151, 111, 1101, 154, 241, 1754), (1198, 1, 155, 112, 1121, 158, 242, 1767), (1221, 1, 159, 113, 1130, 162, 243, 1771), (1244, 1, 163, 114, 1145, 166, 244, 1775)]
def lArgs (pc : Nat) : Nat → Bool
  | 0 => true
  | n + 1 => lArgs pc n && (decide (decode code (pc + 5 * n) = .ok (.aload_n 0, 1)) && decide (decode code (pc + 5 * n + 1) = .ok (.iload_n 3, 1)) && decide (decode code (pc + 5 * n + 2) = .ok (.iconst ((n : Int) + 1), 1)) && decide (decode code (pc + 5 * n + 3) = .ok (.iadd, 1)) && decide (decode code (pc + 5 * n + 4) = .ok (.iaload, 1)))
def lchk1 (q : lT) : Bool := match q with
  | (pc, n, ixE, zE, pE, ixM, zM, pM) => decide (decode code pc = .ok (.aload_n 1, 1)) && lArgs (pc + 1) n && decide (decode code (pc + 1 + 5 * n) = .ok (.invokevirtual ixE, 3)) && decide (decode code (pc + 1 + 5 * n + 3) = .ok (.aload_n 2, 1)) && lArgs (pc + 1 + 5 * n + 3 + 1) n && decide (decode code (pc + 1 + 5 * n + 3 + 1 + 5 * n) = .ok (.invokevirtual ixM, 3)) && decide (decode code (pc + 1 + 5 * n + 3 + 1 + 5 * n + 3) = .ok (.if_icmp .eq (1267 - ((pc + 1 + 5 * n + 3 + 1 + 5 * n + 3 : Nat) : Int)), 3))
def lchk2 (q : lT) : Bool := match q with
  | (pc, n, ixE, zE, pE, ixM, zM, pM) => decide (lw_tbl[pE]? = some (.methodLink "EelThroatLaw" ixE (jmi zE).1)) && decide (lw_tbl[pM]? = some (.methodLink "EelThroatLaw" ixM (jmi zM).1)) && Nat.blt zE 246 && Nat.blt zM 246 && Nat.beq (jNa (jmi zE)) (n + 1) && Nat.beq (jNa (jmi zM)) (n + 1) && !jSt (jmi zE) && !jSt (jmi zM) && decide ((jmi zE).1.cls = (jcl 10).1) && decide ((jmi zM).1.cls = (jcl 11).1) && Nat.ble n 5
set_option maxRecDepth 100000 in
theorem ltab_0 : ((ltab.drop 0).take 4).all lchk1 = true := by decide +kernel
set_option maxRecDepth 100000 in
theorem ltab_4 : ((ltab.drop 4).take 4).all lchk1 = true := by decide +kernel
set_option maxRecDepth 100000 in
theorem ltab_8 : ((ltab.drop 8).take 4).all lchk1 = true := by decide +kernel
set_option maxRecDepth 100000 in
theorem ltab_12 : ((ltab.drop 12).take 4).all lchk1 = true := by decide +kernel
set_option maxRecDepth 100000 in
theorem ltab_16 : ((ltab.drop 16).take 4).all lchk1 = true := by decide +kernel
set_option maxRecDepth 100000 in
theorem ltab_20 : ((ltab.drop 20).take 4).all lchk1 = true := by decide +kernel
set_option maxRecDepth 100000 in
theorem ltab_24 : ((ltab.drop 24).take 4).all lchk1 = true := by decide +kernel
set_option maxRecDepth 100000 in
theorem ltab_28 : ((ltab.drop 28).take 4).all lchk1 = true := by decide +kernel
set_option maxRecDepth 100000 in
theorem ltab_32 : ((ltab.drop 32).take 4).all lchk1 = true := by decide +kernel
set_option maxRecDepth 100000 in
theorem ltab_36 : ((ltab.drop 36).take 4).all lchk1 = true := by decide +kernel
set_option maxRecDepth 100000 in
theorem ltab_2 : ltab.all lchk2 = true := by decide +kernel
set_option maxRecDepth 100000 in
theorem ltab_1 {q : lT} (hq : q ∈ ltab) : lchk1 q = true := by
  have key : ltab.all lchk1 = true := by
    rw [show ltab = ((ltab.drop 0).take 4) ++ ((ltab.drop 4).take 4) ++ ((ltab.drop 8).take 4) ++ ((ltab.drop 12).take 4) ++ ((ltab.drop 16).take 4) ++ ((ltab.drop 20).take 4) ++ ((ltab.drop 24).take 4) ++ ((ltab.drop 28).take 4) ++ ((ltab.drop 32).take 4) ++ ((ltab.drop 36).take 4) from rfl]
    simp only [List.all_append, Bool.and_eq_true]
    exact ⟨⟨⟨⟨⟨⟨⟨⟨⟨ltab_0, ltab_4⟩, ltab_8⟩, ltab_12⟩, ltab_16⟩, ltab_20⟩, ltab_24⟩, ltab_28⟩, ltab_32⟩, ltab_36⟩
  exact List.all_eq_true.mp key q hq
theorem ld_a : decode code 0 = .ok (.new 7, 3) ∧ decode code 3 = .ok (.dup, 1) ∧ decode code 4 = .ok (.invokespecial 9, 3) ∧ decode code 7 = .ok (.astore_n 1, 1) ∧ decode code 8 = .ok (.new 10, 3) ∧ decode code 11 = .ok (.dup, 1) ∧ decode code 12 = .ok (.invokespecial 12, 3) ∧ decode code 15 = .ok (.astore_n 2, 1) ∧ decode code 16 = .ok (.iconst 0, 1) ∧ decode code 17 = .ok (.istore_n 3, 1) := by decide +kernel
theorem ld_b : decode code 18 = .ok (.iload_n 3, 1) ∧ decode code 19 = .ok (.aload_n 0, 1) ∧ decode code 20 = .ok (.arraylength, 1) ∧ decode code 21 = .ok (.bipush 6, 2) ∧ decode code 23 = .ok (.isub, 1) ∧ decode code 24 = .ok (.if_icmp .gt 1249, 3) ∧ decode code 27 = .ok (.aload_n 0, 1) ∧ decode code 28 = .ok (.iload_n 3, 1) ∧ decode code 29 = .ok (.iaload, 1) ∧ decode code 30 = .ok (.bipush 63, 2) ∧ decode code 32 = .ok (.iand, 1) := by decide +kernel
theorem ld_c : decode code 1267 = .ok (.iinc 3 6, 3) ∧ decode code 1270 = .ok (.goto (-1252), 3) ∧ decode code 1273 = .ok (.iconst 1, 1) ∧ decode code 1274 = .ok (.ireturn, 1) := by decide +kernel
theorem ld_sw : decode code 33 = .ok (.tableswitch 1234 0 36 #[163, 226, 249, 262, 275, 298, 331, 364, 387, 410, 423, 446, 489, 522, 555, 568, 601, 634, 657, 670, 713, 766, 799, 812, 835, 858, 881, 934, 957, 990, 1033, 1056, 1089, 1112, 1165, 1188, 1211], 163) := by decide +kernel
def loffs : Array Int := #[163, 226, 249, 262, 275, 298, 331, 364, 387, 410, 423, 446, 489, 522, 555, 568, 601, 634, 657, 670, 713, 766, 799, 812, 835, 858, 881, 934, 957, 990, 1033, 1056, 1089, 1112, 1165, 1188, 1211]
theorem loffs_at : ∀ k : Nat, k < 37 → loffs[k]? = some ((((ltab.getD k (0, 0, 0, 0, 0, 0, 0, 0)).1 : Nat) : Int) - 33) := by decide +kernel
theorem ltab_len : ltab.length = 37 := rfl
theorem lw_news : Cond.classLink "EelThroatLaw" 7 (jcl 10).1 ∈ lw_tbl ∧ Cond.classLink "EelThroatLaw" 10 (jcl 11).1 ∈ lw_tbl ∧ Cond.methodLink "EelThroatLaw" 9 (kmi 10).1 ∈ lw_tbl ∧ Cond.methodLink "EelThroatLaw" 12 (kmi 11).1 ∈ lw_tbl := ⟨List.mem_of_getElem? (i := 129) (by decide +kernel), List.mem_of_getElem? (i := 1149) (by decide +kernel), List.mem_of_getElem? (i := 131) (by decide +kernel), List.mem_of_getElem? (i := 1151) (by decide +kernel)⟩
