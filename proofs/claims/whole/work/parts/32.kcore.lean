/-! Constructors as a closed computation over a list of cells -/
abbrev kV : Type := Int ⊕ Option Nat
/-- an object: class, fields; a row: kind, length, its references -/
abbrev kC : Type := (Nat × List kV) ⊕ (Nat × Nat × List (Option Nat))
abbrev kH : Type := List kC
abbrev kE : Type := Instr × Nat × List Nat
def kblank : List (List kV) := [[.inr none, .inl 0, .inl 0], [.inr none, .inr none, .inr none, .inr none, .inr none, .inl 0], [.inr none, .inr none, .inr none, .inr none], [.inl 0, .inr none, .inr none, .inr none], [.inl 0, .inl 0, .inl 0, .inl 0, .inl 0, .inl 0, .inl 0, .inr none, .inr none, .inr none, .inr none, .inr none, .inr none, .inr none, .inr none, .inr none, .inr none], [.inr none, .inr none, .inl 0, .inl 0, .inl 0], [.inr none, .inr none, .inr none, .inl 0, .inl 0, .inl 0], [.inr none, .inr none, .inr none, .inr none, .inr none, .inr none, .inr none, .inl 0, .inl 0, .inl 0, .inl 0, .inl 0], [.inr none, .inl 0, .inl 0, .inl 0], [.inl 0, .inr none, .inr none, .inr none, .inr none, .inr none, .inr none], [.inr none, .inr none, .inl 0, .inr none, .inr none, .inr none, .inr none, .inr none, .inr none, .inr none], [.inr none, .inl 0, .inl 0, .inr none, .inr none, .inr none, .inr none, .inr none, .inl 0, .inl 0, .inl 0, .inl 0, .inl 0, .inl 0, .inl 0, .inr none, .inl 0, .inr none, .inl 0, .inr none, .inr none, .inl 0, .inl 0, .inl 0, .inr none, .inr none, .inl 0, .inr none, .inr none, .inr none, .inr none, .inr none, .inl 0, .inr none, .inr none, .inr none, .inr none]]
/-- EelThroat$Acts -/
def kc0 : List (Nat × kE) := [(0, .aload_n 0, 1, []), (1, .invokespecial 3, 4, []), (4, .aload_n 0, 5, []), (5, .bipush 20, 7, []), (7, .anewarray 9, 10, [6]), (10, .putfield 11, 13, [0, 0]), (13, .iconst 0, 14, []), (14, .istore_n 1, 15, []), (15, .iload_n 1, 16, []), (16, .bipush 20, 18, []), (18, .if_icmp .ge 22, 21, [40]), (21, .aload_n 0, 22, []), (22, .getfield 11, 25, [0, 0]), (25, .iload_n 1, 26, []), (26, .new 9, 29, [9]), (29, .dup, 30, []), (30, .invokespecial 17, 33, [9]), (33, .aastore, 34, []), (34, .iinc 1 1, 37, []), (37, .goto (-22), 40, [15]), (40, .return_, 41, [])]
/-- EelThroat$Asking -/
def kc1 : List (Nat × kE) := [(0, .aload_n 0, 1, []), (1, .invokespecial 3, 4, []), (4, .aload_n 0, 5, []), (5, .new 9, 8, [7]), (8, .dup, 9, []), (9, .invokespecial 11, 12, [7]), (12, .putfield 12, 15, [1, 0]), (15, .aload_n 0, 16, []), (16, .new 18, 19, [9]), (19, .dup, 20, []), (20, .invokespecial 20, 23, [9]), (23, .putfield 21, 26, [1, 1]), (26, .aload_n 0, 27, []), (27, .bipush 61, 29, []), (29, .newarray .long, 31, [1]), (31, .putfield 25, 34, [1, 2]), (34, .aload_n 0, 35, []), (35, .bipush 64, 37, []), (37, .newarray .int, 39, [0]), (39, .putfield 29, 42, [1, 3]), (42, .aload_n 0, 43, []), (43, .bipush 64, 45, []), (45, .newarray .int, 47, [0]), (47, .putfield 33, 50, [1, 4]), (50, .return_, 51, [])]
/-- EelThroat$Guessing -/
def kc2 : List (Nat × kE) := [(0, .aload_n 0, 1, []), (1, .invokespecial 3, 4, []), (4, .aload_n 0, 5, []), (5, .new 9, 8, [7]), (8, .dup, 9, []), (9, .invokespecial 11, 12, [7]), (12, .putfield 12, 15, [2, 0]), (15, .aload_n 0, 16, []), (16, .new 18, 19, [9]), (19, .dup, 20, []), (20, .invokespecial 20, 23, [9]), (23, .putfield 21, 26, [2, 1]), (26, .aload_n 0, 27, []), (27, .bipush 7, 29, []), (29, .newarray .int, 31, [0]), (31, .putfield 25, 34, [2, 2]), (34, .aload_n 0, 35, []), (35, .bipush 42, 37, []), (37, .newarray .int, 39, [0]), (39, .putfield 29, 42, [2, 3]), (42, .return_, 43, [])]
/-- EelThroat$Notes -/
def kc3 : List (Nat × kE) := [(0, .aload_n 0, 1, []), (1, .invokespecial 3, 4, []), (4, .aload_n 0, 5, []), (5, .bipush 10, 7, []), (7, .newarray .int, 9, [0]), (9, .putfield 9, 12, [3, 1]), (12, .aload_n 0, 13, []), (13, .bipush 10, 15, []), (15, .newarray .int, 17, [0]), (17, .putfield 15, 20, [3, 2]), (20, .aload_n 0, 21, []), (21, .bipush 10, 23, []), (23, .newarray .int, 25, [0]), (25, .putfield 18, 28, [3, 3]), (28, .return_, 29, [])]
/-- EelThroat$River -/
def kc4 : List (Nat × kE) := [(0, .aload_n 0, 1, []), (1, .invokespecial 3, 4, []), (4, .aload_n 0, 5, []), (5, .bipush 12, 7, []), (7, .newarray .int, 9, [0]), (9, .putfield 9, 12, [4, 7]), (12, .aload_n 0, 13, []), (13, .iconst 4, 14, []), (14, .newarray .int, 16, [0]), (16, .putfield 15, 19, [4, 8]), (19, .aload_n 0, 20, []), (20, .bipush 6, 22, []), (22, .newarray .int, 24, [0]), (24, .putfield 18, 27, [4, 9]), (27, .aload_n 0, 28, []), (28, .bipush 6, 30, []), (30, .newarray .int, 32, [0]), (32, .putfield 21, 35, [4, 10]), (35, .aload_n 0, 36, []), (36, .bipush 6, 38, []), (38, .newarray .int, 40, [0]), (40, .putfield 24, 43, [4, 11]), (43, .aload_n 0, 44, []), (44, .bipush 6, 46, []), (46, .newarray .int, 48, [0]), (48, .putfield 27, 51, [4, 12]), (51, .aload_n 0, 52, []), (52, .iconst 4, 53, []), (53, .newarray .int, 55, [0]), (55, .putfield 30, 58, [4, 13]), (58, .aload_n 0, 59, []), (59, .iconst 4, 60, []), (60, .newarray .int, 62, [0]), (62, .putfield 33, 65, [4, 14]), (65, .aload_n 0, 66, []), (66, .iconst 4, 67, []), (67, .newarray .int, 69, [0]), (69, .putfield 36, 72, [4, 15]), (72, .aload_n 0, 73, []), (73, .iconst 4, 74, []), (74, .newarray .int, 76, [0]), (76, .putfield 39, 79, [4, 16]), (79, .return_, 80, [])]
/-- EelThroat$Rule -/
def kc5 : List (Nat × kE) := [(0, .aload_n 0, 1, []), (1, .invokespecial 3, 4, []), (4, .aload_n 0, 5, []), (5, .sipush 400, 8, []), (8, .newarray .int, 10, [0]), (10, .putfield 9, 13, [5, 0]), (13, .aload_n 0, 14, []), (14, .sipush 400, 17, []), (17, .newarray .int, 19, [0]), (19, .putfield 15, 22, [5, 1]), (22, .return_, 23, [])]
/-- EelThroat$Scene -/
def kc6 : List (Nat × kE) := [(0, .aload_n 0, 1, []), (1, .invokespecial 3, 4, []), (4, .aload_n 0, 5, []), (5, .new 9, 8, [4]), (8, .dup, 9, []), (9, .invokespecial 11, 12, [4]), (12, .putfield 12, 15, [6, 0]), (15, .aload_n 0, 16, []), (16, .new 18, 19, [9]), (19, .dup, 20, []), (20, .invokespecial 20, 23, [9]), (23, .putfield 21, 26, [6, 1]), (26, .aload_n 0, 27, []), (27, .new 25, 30, [3]), (30, .dup, 31, []), (31, .invokespecial 27, 34, [3]), (34, .putfield 28, 37, [6, 2]), (37, .aload_n 0, 38, []), (38, .iconst (-1), 39, []), (39, .putfield 32, 42, [6, 3]), (42, .return_, 43, [])]
/-- EelThroat$Stream -/
def kc7 : List (Nat × kE) := [(0, .aload_n 0, 1, []), (1, .invokespecial 3, 4, []), (4, .aload_n 0, 5, []), (5, .bipush 64, 7, []), (7, .newarray .long, 9, [1]), (9, .putfield 11, 12, [7, 0]), (12, .aload_n 0, 13, []), (13, .bipush 6, 15, []), (15, .newarray .int, 17, [0]), (17, .putfield 15, 20, [7, 1]), (20, .aload_n 0, 21, []), (21, .bipush 12, 23, []), (23, .newarray .int, 25, [0]), (25, .putfield 19, 28, [7, 2]), (28, .aload_n 0, 29, []), (29, .bipush 12, 31, []), (31, .newarray .int, 33, [0]), (33, .putfield 22, 36, [7, 3]), (36, .return_, 37, [])]
/-- EelThroat$Tape -/
def kc8 : List (Nat × kE) := [(0, .aload_n 0, 1, []), (1, .invokespecial 3, 4, []), (4, .aload_n 0, 5, []), (5, .sipush 400, 8, []), (8, .newarray .byte, 10, [2]), (10, .putfield 9, 13, [8, 0]), (13, .return_, 14, [])]
/-- EelThroat$Water -/
def kc9 : List (Nat × kE) := [(0, .aload_n 0, 1, []), (1, .invokespecial 3, 4, []), (4, .aload_n 0, 5, []), (5, .bipush 6, 7, []), (7, .newarray .int, 9, [0]), (9, .putfield 9, 12, [9, 1]), (12, .aload_n 0, 13, []), (13, .bipush 6, 15, []), (15, .newarray .int, 17, [0]), (17, .putfield 15, 20, [9, 2]), (20, .aload_n 0, 21, []), (21, .iconst 4, 22, []), (22, .newarray .int, 24, [0]), (24, .putfield 18, 27, [9, 3]), (27, .aload_n 0, 28, []), (28, .iconst 4, 29, []), (29, .newarray .int, 31, [0]), (31, .putfield 21, 34, [9, 4]), (34, .aload_n 0, 35, []), (35, .iconst 4, 36, []), (36, .newarray .int, 38, [0]), (38, .putfield 24, 41, [9, 5]), (41, .aload_n 0, 42, []), (42, .iconst 4, 43, []), (43, .newarray .int, 45, [0]), (45, .putfield 27, 48, [9, 6]), (48, .return_, 49, [])]
/-- EelThroat -/
def kc10 : List (Nat × kE) := [(0, .aload_n 0, 1, []), (1, .invokespecial 1, 4, []), (4, .aload_n 0, 5, []), (5, .new 7, 8, [8]), (8, .dup, 9, []), (9, .invokespecial 9, 12, [8]), (12, .putfield 10, 15, [10, 0]), (15, .aload_n 0, 16, []), (16, .bipush 6, 18, []), (18, .anewarray 16, 21, [4]), (21, .putfield 18, 24, [10, 1]), (24, .aload_n 0, 25, []), (25, .new 22, 28, [6]), (28, .dup, 29, []), (29, .invokespecial 24, 32, [6]), (32, .putfield 25, 35, [10, 3]), (35, .aload_n 0, 36, []), (36, .iconst 4, 37, []), (37, .anewarray 22, 40, [5]), (40, .putfield 29, 43, [10, 4]), (43, .aload_n 0, 44, []), (44, .new 33, 47, [4]), (47, .dup, 48, []), (48, .invokespecial 35, 51, [4]), (51, .putfield 36, 54, [10, 5]), (54, .aload_n 0, 55, []), (55, .new 40, 58, [0]), (58, .dup, 59, []), (59, .invokespecial 42, 62, [0]), (62, .putfield 43, 65, [10, 6]), (65, .aload_n 0, 66, []), (66, .new 47, 69, [7]), (69, .dup, 70, []), (70, .invokespecial 49, 73, [7]), (73, .putfield 50, 76, [10, 7]), (76, .aload_n 0, 77, []), (77, .new 54, 80, [1]), (80, .dup, 81, []), (81, .invokespecial 56, 84, [1]), (84, .putfield 57, 87, [10, 8]), (87, .aload_n 0, 88, []), (88, .new 61, 91, [2]), (91, .dup, 92, []), (92, .invokespecial 63, 95, [2]), (95, .putfield 64, 98, [10, 9]), (98, .iconst 0, 99, []), (99, .istore_n 1, 100, []), (100, .iload_n 1, 101, []), (101, .bipush 6, 103, []), (103, .if_icmp .ge 22, 106, [125]), (106, .aload_n 0, 107, []), (107, .getfield 18, 110, [10, 1]), (110, .iload_n 1, 111, []), (111, .new 16, 114, [5]), (114, .dup, 115, []), (115, .invokespecial 68, 118, [5]), (118, .aastore, 119, []), (119, .iinc 1 1, 122, []), (122, .goto (-22), 125, [100]), (125, .iconst 0, 126, []), (126, .istore_n 1, 127, []), (127, .iload_n 1, 128, []), (128, .iconst 4, 129, []), (129, .if_icmp .ge 22, 132, [151]), (132, .aload_n 0, 133, []), (133, .getfield 29, 136, [10, 4]), (136, .iload_n 1, 137, []), (137, .new 22, 140, [6]), (140, .dup, 141, []), (141, .invokespecial 24, 144, [6]), (144, .aastore, 145, []), (145, .iinc 1 1, 148, []), (148, .goto (-21), 151, [127]), (151, .return_, 152, [])]
/-- EelThroatModel -/
def kc11 : List (Nat × kE) := [(0, .aload_n 0, 1, []), (1, .invokespecial 1, 4, []), (4, .aload_n 0, 5, []), (5, .sipush 400, 8, []), (8, .newarray .byte, 10, [2]), (10, .putfield 7, 13, [11, 0]), (13, .aload_n 0, 14, []), (14, .sipush 2400, 17, []), (17, .newarray .int, 19, [0]), (19, .putfield 13, 22, [11, 3]), (22, .aload_n 0, 23, []), (23, .bipush 7, 25, []), (25, .newarray .int, 27, [0]), (27, .putfield 17, 30, [11, 4]), (30, .aload_n 0, 31, []), (31, .sipush 288, 34, []), (34, .newarray .int, 36, [0]), (36, .putfield 20, 39, [11, 5]), (39, .aload_n 0, 40, []), (40, .bipush 6, 42, []), (42, .newarray .int, 44, [0]), (44, .putfield 23, 47, [11, 6]), (47, .aload_n 0, 48, []), (48, .bipush 81, 50, []), (50, .newarray .int, 52, [0]), (52, .putfield 26, 55, [11, 7]), (55, .aload_n 0, 56, []), (56, .sipush 400, 59, []), (59, .newarray .int, 61, [0]), (61, .putfield 29, 64, [11, 15]), (64, .aload_n 0, 65, []), (65, .bipush 64, 67, []), (67, .newarray .long, 69, [1]), (69, .putfield 32, 72, [11, 17]), (72, .aload_n 0, 73, []), (73, .bipush 12, 75, []), (75, .newarray .long, 77, [1]), (77, .putfield 36, 80, [11, 19]), (80, .aload_n 0, 81, []), (81, .bipush 112, 83, []), (83, .newarray .int, 85, [0]), (85, .putfield 39, 88, [11, 20]), (88, .aload_n 0, 89, []), (89, .iconst (-1), 90, []), (90, .putfield 42, 93, [11, 21]), (93, .aload_n 0, 94, []), (94, .iconst (-1), 95, []), (95, .putfield 46, 98, [11, 23]), (98, .aload_n 0, 99, []), (99, .bipush 6, 101, []), (101, .newarray .int, 103, [0]), (103, .putfield 49, 106, [11, 24]), (106, .aload_n 0, 107, []), (107, .sipush 300, 110, []), (110, .newarray .int, 112, [0]), (112, .putfield 52, 115, [11, 25]), (115, .aload_n 0, 116, []), (116, .bipush 15, 118, []), (118, .newarray .int, 120, [0]), (120, .putfield 55, 123, [11, 27]), (123, .aload_n 0, 124, []), (124, .sipush 128, 127, []), (127, .newarray .int, 129, [0]), (129, .putfield 58, 132, [11, 28]), (132, .aload_n 0, 133, []), (133, .sipush 366, 136, []), (136, .newarray .int, 138, [0]), (138, .putfield 61, 141, [11, 29]), (141, .aload_n 0, 142, []), (142, .bipush 7, 144, []), (144, .newarray .boolean, 146, [3]), (146, .putfield 64, 149, [11, 30]), (149, .aload_n 0, 150, []), (150, .bipush 42, 152, []), (152, .newarray .int, 154, [0]), (154, .putfield 68, 157, [11, 31]), (157, .aload_n 0, 158, []), (158, .sipush 448, 161, []), (161, .newarray .int, 163, [0]), (163, .putfield 71, 166, [11, 33]), (166, .aload_n 0, 167, []), (167, .iconst 4, 168, []), (168, .newarray .int, 170, [0]), (170, .putfield 74, 173, [11, 34]), (173, .aload_n 0, 174, []), (174, .iconst 4, 175, []), (175, .newarray .int, 177, [0]), (177, .putfield 77, 180, [11, 35]), (180, .aload_n 0, 181, []), (181, .iconst 4, 182, []), (182, .newarray .boolean, 184, [3]), (184, .putfield 80, 187, [11, 36]), (187, .return_, 188, [])]
def kprog : List (List (Nat × kE) × Nat) := [(kc0, 2), (kc1, 1), (kc2, 1), (kc3, 1), (kc4, 1), (kc5, 1), (kc6, 1), (kc7, 1), (kc8, 1), (kc9, 1), (kc10, 2), (kc11, 1)]
def kget : List (Nat × kE) → Nat → Option kE
  | [], _ => none
  | (p, e) :: l, pc => bif Nat.beq p pc then some e else kget l pc
def ksz : kC → Nat
  | .inl o => o.2.length
  | .inr r => r.2.1
def kslots : kH → Nat
  | [] => 0
  | c :: t => ksz c + kslots t
def kokVb (n : Nat) : kV → Bool
  | .inl x => decide (-2147483648 ≤ x) && decide (x < 2147483648)
  | .inr (some a) => Nat.blt a n
  | .inr none => true
def kokCb (n : Nat) : kC → Bool
  | .inl o => o.2.all (kokVb n) && Nat.blt o.1 12 && Nat.beq o.2.length (jfds.getD o.1 []).length
  | .inr r => r.2.2.all fun q => match q with
    | some a => Nat.blt a n
    | none => true
def kokHb (h : kH) : Bool := h.all (kokCb h.length)
def kfit (f j : Nat) (v : kV) : Bool := match (jfds.getD f [])[j]?, v with
  | some (0, _, _), .inl _ => true
  | some (n + 2, _, _), .inr (some _) => true
  | _, _ => false
def kacl (t : Nat) : Nat := match t with
  | 4 => 5
  | 5 => 6
  | _ => 9
def kfitA (t : Nat) (rs : List (Option Nat)) (c : Option kC) (i : Int) : Bool := Nat.ble 4 t && Nat.ble t 6 && Nat.blt i.toNat rs.length && (match c with
  | some (.inl o) => Nat.beq o.1 (kacl t)
  | _ => false)
def kstep (ins : Instr) (npc : Nat) (aux : List Nat) (ls st : List kV) (h : kH) (call : Nat → Nat → kH → Option kH) (k : Nat → List kV → List kV → kH → Option kH) : Option kH := match ins with
  | .aload_n i => match ls[i.val]? with
    | some (.inr (some a)) => k npc ls (.inr (some a) :: st) h
    | _ => none
  | .iload_n i => match ls[i.val]? with
    | some (.inl x) => k npc ls (.inl x :: st) h
    | _ => none
  | .iconst n => k npc ls (.inl n :: st) h
  | .bipush n => k npc ls (.inl n :: st) h
  | .sipush n => k npc ls (.inl n :: st) h
  | .dup => match st with
    | .inr (some a) :: t => k npc ls (.inr (some a) :: .inr (some a) :: t) h
    | _ => none
  | .istore_n i => match st with
    | .inl x :: t => bif Nat.blt i.val ls.length then k npc (ls.set i.val (.inl x)) t h else none
    | _ => none
  | .iinc i n => match ls[i]? with
    | some (.inl x) => if 0 ≤ x + n ∧ x + n < 100000 then k npc (ls.set i (.inl (x + n))) st h else none
    | _ => none
  | .if_icmp .ge _ => match aux, st with
    | [t], .inl y :: .inl x :: s => if x < y then k npc ls s h else k t ls s h
    | _, _ => none
  | .goto _ => match aux with
    | [t] => k t ls st h
    | _ => none
  | .new _ => match aux with
    | [c] => k npc ls (.inr (some h.length) :: st) (h ++ [.inl (c, kblank.getD c [])])
    | _ => none
  | .newarray _ => match aux, st with
    | [t], .inl n :: s => if 0 ≤ n ∧ n < 100000 then k npc ls (.inr (some h.length) :: s) (h ++ [.inr (t, n.toNat, [])]) else none
    | _, _ => none
  | .anewarray _ => match aux, st with
    | [t], .inl n :: s => if 0 ≤ n ∧ n < 100000 then k npc ls (.inr (some h.length) :: s) (h ++ [.inr (t, n.toNat, List.replicate n.toNat none)]) else none
    | _, _ => none
  | .getfield _ => match aux, st with
    | [f, j], .inr (some a) :: s => match h[a]? with
      | some (.inl (g, fs)) => bif Nat.beq g f then (match fs[j]? with
        | some v => k npc ls (v :: s) h
        | none => none) else none
      | _ => none
    | _, _ => none
  | .putfield _ => match aux, st with
    | [f, j], v :: .inr (some a) :: s => match h[a]? with
      | some (.inl (g, fs)) => bif Nat.beq g f && Nat.blt j fs.length && kfit f j v then k npc ls s (h.set a (.inl (g, fs.set j v))) else none
      | _ => none
    | _, _ => none
  | .aastore => match st with
    | .inr (some v) :: .inl i :: .inr (some a) :: s => match h[a]? with
      | some (.inr (t, n, rs)) => if 0 ≤ i ∧ i < (n : Int) ∧ kfitA t rs h[v]? i = true then k npc ls s (h.set a (.inr (t, n, rs.set i.toNat (some v)))) else none
      | _ => none
    | _ => none
  | .invokespecial _ => match aux, st with
    | [], [.inr (some _)] => k npc ls [] h
    | [z], .inr (some a) :: s => bif Nat.ble s.length 8 then (match call z a h with
      | some h' => bif kokHb h' && Nat.ble h.length h'.length && Nat.ble (kslots h) (kslots h') then k npc ls s h' else none
      | none => none) else none
    | _, _ => none
  | .return_ => match st with
    | [] => some h
    | _ => none
  | _ => none
def krun (cd : List (Nat × kE)) (call : Nat → Nat → kH → Option kH) : Nat → Nat → List kV → List kV → kH → Option kH
  | 0, _, _, _, _ => none
  | n + 1, pc, ls, st, h => match kget cd pc with
    | none => none
    | some e => kstep e.1 e.2.1 e.2.2 ls st h call (fun pc ls st h => krun cd call n pc ls st h)
def kSem : Nat → Nat → Nat → kH → Option kH
  | 0 => fun _ _ _ => none
  | d + 1 => fun z a h => match kprog[z]? with
    | some q => krun q.1 (kSem d) 400 0 (.inr (some a) :: List.replicate (q.2 - 1) (.inr none)) [] h
    | none => none
def keV : kV → kV → Bool
  | .inl a, .inl b => decide (a = b)
  | .inr a, .inr b => decide (a = b)
  | _, _ => false
def keL : List kV → List kV → Bool
  | [], [] => true
  | a :: s, b :: t => keV a b && keL s t
  | _, _ => false
def keC : kC → kC → Bool
  | .inl a, .inl b => Nat.beq a.1 b.1 && keL a.2 b.2
  | .inr a, .inr b => decide (a = b)
  | _, _ => false
def keH : kH → kH → Bool
  | [], [] => true
  | a :: s, b :: t => keC a b && keH s t
  | _, _ => false
def keO (a : Option kH) (b : kH) : Bool := match a with
  | some h => keH h b
  | none => false
theorem keV_eq : ∀ {a b : kV}, keV a b = true → a = b
  | .inl a, .inl b, h => congrArg Sum.inl (of_decide_eq_true h)
  | .inr a, .inr b, h => congrArg Sum.inr (of_decide_eq_true h)
  | .inl _, .inr _, h => by cases h
  | .inr _, .inl _, h => by cases h
theorem keL_eq : ∀ {a b : List kV}, keL a b = true → a = b
  | [], [], _ => rfl
  | a :: s, b :: t, h => by
    have h := Bool.and_eq_true_iff.mp h
    rw [keV_eq h.1, keL_eq h.2]
  | [], _ :: _, h => by cases h
  | _ :: _, [], h => by cases h
theorem keC_eq : ∀ {a b : kC}, keC a b = true → a = b
  | .inl (a1, a2), .inl (b1, b2), h => by
    have h := Bool.and_eq_true_iff.mp h
    have h1 : a1 = b1 := Nat.eq_of_beq_eq_true h.1
    have h2 : a2 = b2 := keL_eq h.2
    rw [h1, h2]
  | .inr a, .inr b, h => congrArg Sum.inr (of_decide_eq_true h)
  | .inl _, .inr _, h => by cases h
  | .inr _, .inl _, h => by cases h
theorem keH_eq : ∀ {a b : kH}, keH a b = true → a = b
  | [], [], _ => rfl
  | a :: s, b :: t, h => by
    have h := Bool.and_eq_true_iff.mp h
    rw [keC_eq h.1, keH_eq h.2]
  | [], _ :: _, h => by cases h
  | _ :: _, [], h => by cases h
theorem keO_eq {a : Option kH} {b : kH} (h : keO a b = true) : a = some b := by
  cases a with
  | none => cases h
  | some x => exact congrArg some (keH_eq h)
def kE0 : kH := [.inl (10, kblank.getD 10 [])]
def kE1_0 : kH := [.inl (10, [.inr (some 1), .inr (some 3), .inl 0, .inr (some 4), .inr (some 27), .inr (some 28), .inr (some 39), .inr (some 181), .inr (some 186), .inr (some 202)]), .inl (8, [.inr (some 2), .inl 0, .inl 0, .inl 0]), .inr (2, 400, []), .inr (4, 6, [some 217, some 220, some 223, some 226, some 229, some 232]), .inl (6, [.inr (some 5), .inr (some 16), .inr (some 23), .inl (-1), .inl 0, .inl 0]), .inl (4, [.inl 0, .inl 0, .inl 0, .inl 0, .inl 0, .inl 0, .inl 0, .inr (some 6), .inr (some 7), .inr (some 8), .inr (some 9), .inr (some 10), .inr (some 11), .inr (some 12), .inr (some 13), .inr (some 14), .inr (some 15)]), .inr (0, 12, []), .inr (0, 4, []), .inr (0, 6, []), .inr (0, 6, []), .inr (0, 6, []), .inr (0, 6, []), .inr (0, 4, []), .inr (0, 4, []), .inr (0, 4, []), .inr (0, 4, []), .inl (9, [.inl 0, .inr (some 17), .inr (some 18), .inr (some 19), .inr (some 20), .inr (some 21), .inr (some 22)]), .inr (0, 6, []), .inr (0, 6, []), .inr (0, 4, []), .inr (0, 4, []), .inr (0, 4, []), .inr (0, 4, []), .inl (3, [.inl 0, .inr (some 24), .inr (some 25), .inr (some 26)]), .inr (0, 10, []), .inr (0, 10, []), .inr (0, 10, []), .inr (5, 4, [some 235, some 258, some 281, some 304]), .inl (4, [.inl 0, .inl 0, .inl 0, .inl 0, .inl 0, .inl 0, .inl 0, .inr (some 29), .inr (some 30), .inr (some 31), .inr (some 32), .inr (some 33), .inr (some 34), .inr (some 35), .inr (some 36), .inr (some 37), .inr (some 38)]), .inr (0, 12, []), .inr (0, 4, []), .inr (0, 6, []), .inr (0, 6, []), .inr (0, 6, []), .inr (0, 6, []), .inr (0, 4, []), .inr (0, 4, []), .inr (0, 4, []), .inr (0, 4, []), .inl (0, [.inr (some 40), .inl 0, .inl 0])]
def kE1_1 : kH := [.inr (6, 20, [some 41, some 48, some 55, some 62, some 69, some 76, some 83, some 90, some 97, some 104, some 111, some 118, some 125, some 132, some 139, some 146, some 153, some 160, some 167, some 174]), .inl (9, [.inl 0, .inr (some 42), .inr (some 43), .inr (some 44), .inr (some 45), .inr (some 46), .inr (some 47)]), .inr (0, 6, []), .inr (0, 6, []), .inr (0, 4, []), .inr (0, 4, []), .inr (0, 4, []), .inr (0, 4, []), .inl (9, [.inl 0, .inr (some 49), .inr (some 50), .inr (some 51), .inr (some 52), .inr (some 53), .inr (some 54)]), .inr (0, 6, []), .inr (0, 6, []), .inr (0, 4, []), .inr (0, 4, []), .inr (0, 4, []), .inr (0, 4, []), .inl (9, [.inl 0, .inr (some 56), .inr (some 57), .inr (some 58), .inr (some 59), .inr (some 60), .inr (some 61)]), .inr (0, 6, []), .inr (0, 6, []), .inr (0, 4, []), .inr (0, 4, []), .inr (0, 4, []), .inr (0, 4, []), .inl (9, [.inl 0, .inr (some 63), .inr (some 64), .inr (some 65), .inr (some 66), .inr (some 67), .inr (some 68)]), .inr (0, 6, []), .inr (0, 6, []), .inr (0, 4, []), .inr (0, 4, []), .inr (0, 4, []), .inr (0, 4, []), .inl (9, [.inl 0, .inr (some 70), .inr (some 71), .inr (some 72), .inr (some 73), .inr (some 74), .inr (some 75)]), .inr (0, 6, []), .inr (0, 6, []), .inr (0, 4, []), .inr (0, 4, []), .inr (0, 4, []), .inr (0, 4, []), .inl (9, [.inl 0, .inr (some 77), .inr (some 78), .inr (some 79), .inr (some 80), .inr (some 81), .inr (some 82)]), .inr (0, 6, []), .inr (0, 6, []), .inr (0, 4, [])]
def kE1_2 : kH := [.inr (0, 4, []), .inr (0, 4, []), .inr (0, 4, []), .inl (9, [.inl 0, .inr (some 84), .inr (some 85), .inr (some 86), .inr (some 87), .inr (some 88), .inr (some 89)]), .inr (0, 6, []), .inr (0, 6, []), .inr (0, 4, []), .inr (0, 4, []), .inr (0, 4, []), .inr (0, 4, []), .inl (9, [.inl 0, .inr (some 91), .inr (some 92), .inr (some 93), .inr (some 94), .inr (some 95), .inr (some 96)]), .inr (0, 6, []), .inr (0, 6, []), .inr (0, 4, []), .inr (0, 4, []), .inr (0, 4, []), .inr (0, 4, []), .inl (9, [.inl 0, .inr (some 98), .inr (some 99), .inr (some 100), .inr (some 101), .inr (some 102), .inr (some 103)]), .inr (0, 6, []), .inr (0, 6, []), .inr (0, 4, []), .inr (0, 4, []), .inr (0, 4, []), .inr (0, 4, []), .inl (9, [.inl 0, .inr (some 105), .inr (some 106), .inr (some 107), .inr (some 108), .inr (some 109), .inr (some 110)]), .inr (0, 6, []), .inr (0, 6, []), .inr (0, 4, []), .inr (0, 4, []), .inr (0, 4, []), .inr (0, 4, []), .inl (9, [.inl 0, .inr (some 112), .inr (some 113), .inr (some 114), .inr (some 115), .inr (some 116), .inr (some 117)]), .inr (0, 6, []), .inr (0, 6, []), .inr (0, 4, []), .inr (0, 4, []), .inr (0, 4, []), .inr (0, 4, []), .inl (9, [.inl 0, .inr (some 119), .inr (some 120), .inr (some 121), .inr (some 122), .inr (some 123), .inr (some 124)]), .inr (0, 6, [])]
def kE1_3 : kH := [.inr (0, 6, []), .inr (0, 4, []), .inr (0, 4, []), .inr (0, 4, []), .inr (0, 4, []), .inl (9, [.inl 0, .inr (some 126), .inr (some 127), .inr (some 128), .inr (some 129), .inr (some 130), .inr (some 131)]), .inr (0, 6, []), .inr (0, 6, []), .inr (0, 4, []), .inr (0, 4, []), .inr (0, 4, []), .inr (0, 4, []), .inl (9, [.inl 0, .inr (some 133), .inr (some 134), .inr (some 135), .inr (some 136), .inr (some 137), .inr (some 138)]), .inr (0, 6, []), .inr (0, 6, []), .inr (0, 4, []), .inr (0, 4, []), .inr (0, 4, []), .inr (0, 4, []), .inl (9, [.inl 0, .inr (some 140), .inr (some 141), .inr (some 142), .inr (some 143), .inr (some 144), .inr (some 145)]), .inr (0, 6, []), .inr (0, 6, []), .inr (0, 4, []), .inr (0, 4, []), .inr (0, 4, []), .inr (0, 4, []), .inl (9, [.inl 0, .inr (some 147), .inr (some 148), .inr (some 149), .inr (some 150), .inr (some 151), .inr (some 152)]), .inr (0, 6, []), .inr (0, 6, []), .inr (0, 4, []), .inr (0, 4, []), .inr (0, 4, []), .inr (0, 4, []), .inl (9, [.inl 0, .inr (some 154), .inr (some 155), .inr (some 156), .inr (some 157), .inr (some 158), .inr (some 159)]), .inr (0, 6, []), .inr (0, 6, []), .inr (0, 4, []), .inr (0, 4, []), .inr (0, 4, []), .inr (0, 4, [])]
def kE1_4 : kH := [.inl (9, [.inl 0, .inr (some 161), .inr (some 162), .inr (some 163), .inr (some 164), .inr (some 165), .inr (some 166)]), .inr (0, 6, []), .inr (0, 6, []), .inr (0, 4, []), .inr (0, 4, []), .inr (0, 4, []), .inr (0, 4, []), .inl (9, [.inl 0, .inr (some 168), .inr (some 169), .inr (some 170), .inr (some 171), .inr (some 172), .inr (some 173)]), .inr (0, 6, []), .inr (0, 6, []), .inr (0, 4, []), .inr (0, 4, []), .inr (0, 4, []), .inr (0, 4, []), .inl (9, [.inl 0, .inr (some 175), .inr (some 176), .inr (some 177), .inr (some 178), .inr (some 179), .inr (some 180)]), .inr (0, 6, []), .inr (0, 6, []), .inr (0, 4, []), .inr (0, 4, []), .inr (0, 4, []), .inr (0, 4, []), .inl (7, [.inr (some 182), .inr (some 183), .inr (some 184), .inr (some 185), .inr none, .inr none, .inr none, .inl 0, .inl 0, .inl 0, .inl 0, .inl 0]), .inr (1, 64, []), .inr (0, 6, []), .inr (0, 12, []), .inr (0, 12, []), .inl (1, [.inr (some 187), .inr (some 192), .inr (some 199), .inr (some 200), .inr (some 201), .inl 0]), .inl (7, [.inr (some 188), .inr (some 189), .inr (some 190), .inr (some 191), .inr none, .inr none, .inr none, .inl 0, .inl 0, .inl 0, .inl 0, .inl 0]), .inr (1, 64, []), .inr (0, 6, []), .inr (0, 12, []), .inr (0, 12, []), .inl (9, [.inl 0, .inr (some 193), .inr (some 194), .inr (some 195), .inr (some 196), .inr (some 197), .inr (some 198)]), .inr (0, 6, []), .inr (0, 6, []), .inr (0, 4, []), .inr (0, 4, []), .inr (0, 4, []), .inr (0, 4, []), .inr (1, 61, [])]
def kE1_5 : kH := [.inr (0, 64, []), .inr (0, 64, []), .inl (2, [.inr (some 203), .inr (some 208), .inr (some 215), .inr (some 216)]), .inl (7, [.inr (some 204), .inr (some 205), .inr (some 206), .inr (some 207), .inr none, .inr none, .inr none, .inl 0, .inl 0, .inl 0, .inl 0, .inl 0]), .inr (1, 64, []), .inr (0, 6, []), .inr (0, 12, []), .inr (0, 12, []), .inl (9, [.inl 0, .inr (some 209), .inr (some 210), .inr (some 211), .inr (some 212), .inr (some 213), .inr (some 214)]), .inr (0, 6, []), .inr (0, 6, []), .inr (0, 4, []), .inr (0, 4, []), .inr (0, 4, []), .inr (0, 4, []), .inr (0, 7, []), .inr (0, 42, []), .inl (5, [.inr (some 218), .inr (some 219), .inl 0, .inl 0, .inl 0]), .inr (0, 400, []), .inr (0, 400, []), .inl (5, [.inr (some 221), .inr (some 222), .inl 0, .inl 0, .inl 0]), .inr (0, 400, []), .inr (0, 400, []), .inl (5, [.inr (some 224), .inr (some 225), .inl 0, .inl 0, .inl 0]), .inr (0, 400, []), .inr (0, 400, []), .inl (5, [.inr (some 227), .inr (some 228), .inl 0, .inl 0, .inl 0]), .inr (0, 400, []), .inr (0, 400, []), .inl (5, [.inr (some 230), .inr (some 231), .inl 0, .inl 0, .inl 0]), .inr (0, 400, []), .inr (0, 400, []), .inl (5, [.inr (some 233), .inr (some 234), .inl 0, .inl 0, .inl 0]), .inr (0, 400, []), .inr (0, 400, []), .inl (6, [.inr (some 236), .inr (some 247), .inr (some 254), .inl (-1), .inl 0, .inl 0]), .inl (4, [.inl 0, .inl 0, .inl 0, .inl 0, .inl 0, .inl 0, .inl 0, .inr (some 237), .inr (some 238), .inr (some 239), .inr (some 240), .inr (some 241), .inr (some 242), .inr (some 243), .inr (some 244), .inr (some 245), .inr (some 246)]), .inr (0, 12, []), .inr (0, 4, []), .inr (0, 6, [])]
def kE1_6 : kH := [.inr (0, 6, []), .inr (0, 6, []), .inr (0, 6, []), .inr (0, 4, []), .inr (0, 4, []), .inr (0, 4, []), .inr (0, 4, []), .inl (9, [.inl 0, .inr (some 248), .inr (some 249), .inr (some 250), .inr (some 251), .inr (some 252), .inr (some 253)]), .inr (0, 6, []), .inr (0, 6, []), .inr (0, 4, []), .inr (0, 4, []), .inr (0, 4, []), .inr (0, 4, []), .inl (3, [.inl 0, .inr (some 255), .inr (some 256), .inr (some 257)]), .inr (0, 10, []), .inr (0, 10, []), .inr (0, 10, []), .inl (6, [.inr (some 259), .inr (some 270), .inr (some 277), .inl (-1), .inl 0, .inl 0]), .inl (4, [.inl 0, .inl 0, .inl 0, .inl 0, .inl 0, .inl 0, .inl 0, .inr (some 260), .inr (some 261), .inr (some 262), .inr (some 263), .inr (some 264), .inr (some 265), .inr (some 266), .inr (some 267), .inr (some 268), .inr (some 269)]), .inr (0, 12, []), .inr (0, 4, []), .inr (0, 6, []), .inr (0, 6, []), .inr (0, 6, []), .inr (0, 6, []), .inr (0, 4, []), .inr (0, 4, []), .inr (0, 4, []), .inr (0, 4, []), .inl (9, [.inl 0, .inr (some 271), .inr (some 272), .inr (some 273), .inr (some 274), .inr (some 275), .inr (some 276)]), .inr (0, 6, []), .inr (0, 6, []), .inr (0, 4, []), .inr (0, 4, []), .inr (0, 4, []), .inr (0, 4, []), .inl (3, [.inl 0, .inr (some 278), .inr (some 279), .inr (some 280)]), .inr (0, 10, []), .inr (0, 10, [])]
def kE1_7 : kH := [.inr (0, 10, []), .inl (6, [.inr (some 282), .inr (some 293), .inr (some 300), .inl (-1), .inl 0, .inl 0]), .inl (4, [.inl 0, .inl 0, .inl 0, .inl 0, .inl 0, .inl 0, .inl 0, .inr (some 283), .inr (some 284), .inr (some 285), .inr (some 286), .inr (some 287), .inr (some 288), .inr (some 289), .inr (some 290), .inr (some 291), .inr (some 292)]), .inr (0, 12, []), .inr (0, 4, []), .inr (0, 6, []), .inr (0, 6, []), .inr (0, 6, []), .inr (0, 6, []), .inr (0, 4, []), .inr (0, 4, []), .inr (0, 4, []), .inr (0, 4, []), .inl (9, [.inl 0, .inr (some 294), .inr (some 295), .inr (some 296), .inr (some 297), .inr (some 298), .inr (some 299)]), .inr (0, 6, []), .inr (0, 6, []), .inr (0, 4, []), .inr (0, 4, []), .inr (0, 4, []), .inr (0, 4, []), .inl (3, [.inl 0, .inr (some 301), .inr (some 302), .inr (some 303)]), .inr (0, 10, []), .inr (0, 10, []), .inr (0, 10, []), .inl (6, [.inr (some 305), .inr (some 316), .inr (some 323), .inl (-1), .inl 0, .inl 0]), .inl (4, [.inl 0, .inl 0, .inl 0, .inl 0, .inl 0, .inl 0, .inl 0, .inr (some 306), .inr (some 307), .inr (some 308), .inr (some 309), .inr (some 310), .inr (some 311), .inr (some 312), .inr (some 313), .inr (some 314), .inr (some 315)]), .inr (0, 12, []), .inr (0, 4, []), .inr (0, 6, []), .inr (0, 6, []), .inr (0, 6, []), .inr (0, 6, []), .inr (0, 4, []), .inr (0, 4, []), .inr (0, 4, []), .inr (0, 4, []), .inl (9, [.inl 0, .inr (some 317), .inr (some 318), .inr (some 319), .inr (some 320), .inr (some 321), .inr (some 322)]), .inr (0, 6, []), .inr (0, 6, []), .inr (0, 4, [])]
def kE1_8 : kH := [.inr (0, 4, []), .inr (0, 4, []), .inr (0, 4, []), .inl (3, [.inl 0, .inr (some 324), .inr (some 325), .inr (some 326)]), .inr (0, 10, []), .inr (0, 10, []), .inr (0, 10, [])]
def kE1 : kH := kE1_0 ++ kE1_1 ++ kE1_2 ++ kE1_3 ++ kE1_4 ++ kE1_5 ++ kE1_6 ++ kE1_7 ++ kE1_8
def kM1_0 : kH := [.inl (11, [.inr (some 328), .inl 0, .inl 0, .inr (some 329), .inr (some 330), .inr (some 331), .inr (some 332), .inr (some 333), .inl 0, .inl 0, .inl 0, .inl 0, .inl 0, .inl 0, .inl 0, .inr (some 334), .inl 0, .inr (some 335), .inl 0, .inr (some 336), .inr (some 337), .inl (-1), .inl 0, .inl (-1), .inr (some 338), .inr (some 339), .inl 0, .inr (some 340), .inr (some 341), .inr (some 342), .inr (some 343), .inr (some 344), .inl 0, .inr (some 345), .inr (some 346), .inr (some 347), .inr (some 348)]), .inr (2, 400, []), .inr (0, 2400, []), .inr (0, 7, []), .inr (0, 288, []), .inr (0, 6, []), .inr (0, 81, []), .inr (0, 400, []), .inr (1, 64, []), .inr (1, 12, []), .inr (0, 112, []), .inr (0, 6, []), .inr (0, 300, []), .inr (0, 15, []), .inr (0, 128, []), .inr (0, 366, []), .inr (3, 7, []), .inr (0, 42, []), .inr (0, 448, []), .inr (0, 4, []), .inr (0, 4, []), .inr (3, 4, [])]
def kM1 : kH := kM1_0
set_option maxRecDepth 100000 in
theorem kE_run : kSem 4 10 0 kE0 = some kE1 := keO_eq (by decide +kernel)
set_option maxRecDepth 100000 in
theorem kM_run : kSem 4 11 327 (kE1 ++ [.inl (11, kblank.getD 11 [])]) = some (kE1 ++ kM1) := keO_eq (by decide +kernel)
def klay : List (List Nat) := [[39], [186], [202], [23, 254, 277, 300, 323], [5, 236, 259, 282, 305, 28], [217, 220, 223, 226, 229, 232], [4, 235, 258, 281, 304], [181, 187, 203], [1], [16, 247, 270, 293, 316, 41, 48, 55, 62, 69, 76, 83, 90, 97, 104, 111, 118, 125, 132, 139, 146, 153, 160, 167, 174, 192, 208], [0], [327], [40], [199], [200], [201], [215], [216], [24, 255, 278, 301, 324], [25, 256, 279, 302, 325], [26, 257, 280, 303, 326], [6, 237, 260, 283, 306, 29], [7, 238, 261, 284, 307, 30], [8, 239, 262, 285, 308, 31], [9, 240, 263, 286, 309, 32], [10, 241, 264, 287, 310, 33], [11, 242, 265, 288, 311, 34], [12, 243, 266, 289, 312, 35], [13, 244, 267, 290, 313, 36], [14, 245, 268, 291, 314, 37], [15, 246, 269, 292, 315, 38], [218, 221, 224, 227, 230, 233], [219, 222, 225, 228, 231, 234], [182, 188, 204], [183, 189, 205], [184, 190, 206], [185, 191, 207], [2], [17, 248, 271, 294, 317, 42, 49, 56, 63, 70, 77, 84, 91, 98, 105, 112, 119, 126, 133, 140, 147, 154, 161, 168, 175, 193, 209], [18, 249, 272, 295, 318, 43, 50, 57, 64, 71, 78, 85, 92, 99, 106, 113, 120, 127, 134, 141, 148, 155, 162, 169, 176, 194, 210], [19, 250, 273, 296, 319, 44, 51, 58, 65, 72, 79, 86, 93, 100, 107, 114, 121, 128, 135, 142, 149, 156, 163, 170, 177, 195, 211], [20, 251, 274, 297, 320, 45, 52, 59, 66, 73, 80, 87, 94, 101, 108, 115, 122, 129, 136, 143, 150, 157, 164, 171, 178, 196, 212], [21, 252, 275, 298, 321, 46, 53, 60, 67, 74, 81, 88, 95, 102, 109, 116, 123, 130, 137, 144, 151, 158, 165, 172, 179, 197, 213], [22, 253, 276, 299, 322, 47, 54, 61, 68, 75, 82, 89, 96, 103, 110, 117, 124, 131, 138, 145, 152, 159, 166, 173, 180, 198, 214], [3], [27], [328], [329], [330], [331], [332], [333], [334], [335], [336], [337], [338], [339], [340], [341], [342], [343], [344], [345], [346], [347], [348]]
