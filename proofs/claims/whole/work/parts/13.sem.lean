/-! Methods by number, and what a call means at a depth -/
def jprog : List (jCode × Nat) := [(jc0, 2), (jc1, 2), (jc2, 4), (jc3, 6), (jc4, 5), (jc5, 15), (jc6, 3), (jc7, 8), (jc8, 6), (jc9, 10), (jc10, 4), (jc11, 5), (jc12, 7), (jc13, 11), (jc14, 1), (jc15, 6), (jc16, 7), (jc17, 1), (jc18, 8), (jc19, 8), (jc20, 7), (jc21, 4), (jc22, 5), (jc23, 8), (jc24, 9), (jc25, 4), (jc26, 4), (jc27, 2), (jc28, 3), (jc29, 3), (jc30, 1), (jc31, 2), (jc32, 1), (jc33, 2), (jc34, 5), (jc35, 2), (jc36, 3), (jc37, 4), (jc38, 3), (jc39, 5), (jc40, 5), (jc41, 5), (jc42, 4), (jc43, 1), (jc44, 6), (jc45, 2), (jc46, 4), (jc47, 3), (jc48, 2), (jc49, 2), (jc50, 3), (jc51, 7), (jc52, 1), (jc53, 7), (jc54, 2), (jc55, 10), (jc56, 3), (jc57, 4), (jc58, 4), (jc59, 5), (jc60, 4), (jc61, 3), (jc62, 1), (jc63, 3), (jc64, 1), (jc65, 1), (jc66, 1), (jc67, 1), (jc68, 2), (jc69, 7), (jc70, 1), (jc71, 2), (jc72, 6), (jc73, 2), (jc74, 3), (jc75, 5), (jc76, 4), (jc77, 5), (jc78, 6), (jc79, 2), (jc80, 2), (jc81, 2), (jc82, 3), (jc83, 3), (jc84, 3), (jc85, 2), (jc86, 2), (jc87, 1), (jc88, 4), (jc89, 6), (jc90, 4), (jc91, 4), (jc92, 1), (jc93, 3), (jc94, 3), (jc95, 2), (jc96, 1), (jc97, 4), (jc98, 6), (jc99, 3), (jc100, 1), (jc101, 2), (jc102, 4), (jc103, 2), (jc104, 5), (jc105, 2), (jc106, 3), (jc107, 4), (jc108, 3), (jc109, 4), (jc110, 3), (jc111, 5), (jc112, 2), (jc113, 2), (jc114, 2), (jc115, 3), (jc116, 1), (jc117, 2), (jc118, 2), (jc119, 2), (jc120, 2), (jc121, 2), (jc122, 2), (jc123, 2), (jc124, 1), (jc125, 6), (jc126, 2), (jc127, 3), (jc128, 3), (jc129, 6), (jc130, 2), (jc131, 3), (jc132, 1), (jc133, 2), (jc134, 2), (jc135, 6), (jc136, 1), (jc137, 3), (jc138, 5), (jc139, 1), (jc140, 3), (jc141, 2), (jc142, 2), (jc143, 1), (jc144, 2), (jc145, 3), (jc146, 2), (jc147, 2), (jc148, 5), (jc149, 3), (jc150, 2), (jc151, 1), (jc152, 3), (jc153, 2), (jc154, 4), (jc155, 2), (jc156, 2), (jc157, 2), (jc158, 3), (jc159, 3), (jc160, 2), (jc161, 1), (jc162, 3), (jc163, 2), (jc164, 1), (jc165, 2), (jc166, 2), (jc167, 3), (jc168, 1), (jc169, 5), (jc170, 11), (jc171, 1), (jc172, 1), (jc173, 2), (jc174, 2), (jc175, 2), (jc176, 2), (jc177, 2), (jc178, 2), (jc179, 2), (jc180, 2), (jc181, 3), (jc182, 2), (jc183, 5), (jc184, 2), (jc185, 2), (jc186, 3), (jc187, 3), (jc188, 3), (jc189, 2), (jc190, 2), (jc191, 4), (jc192, 7), (jc193, 9), (jc194, 4), (jc195, 3), (jc196, 3), (jc197, 3), (jc198, 3), (jc199, 2), (jc200, 2), (jc201, 1), (jc202, 3), (jc203, 5), (jc204, 4), (jc205, 4), (jc206, 2), (jc207, 2), (jc208, 4), (jc209, 5), (jc210, 3), (jc211, 1), (jc212, 3), (jc213, 3), (jc214, 8), (jc215, 7), (jc216, 6), (jc217, 2), (jc218, 3), (jc219, 7), (jc220, 3), (jc221, 5), (jc222, 5), (jc223, 4), (jc224, 2), (jc225, 8), (jc226, 4), (jc227, 4), (jc228, 4), (jc229, 9), (jc230, 5), (jc231, 2), (jc232, 3), (jc233, 6), (jc234, 5), (jc235, 4), (jc236, 5), (jc237, 6), (jc238, 7), (jc239, 3), (jc240, 2), (jc241, 9), (jc242, 2), (jc243, 3), (jc244, 3), (jc245, 1), (jc246, 2), (jc247, 2)]
def jfind : List (jCode × Nat) → Nat → Option (jCode × Nat)
  | [], _ => none
  | q :: _, 0 => some q
  | _ :: l, n + 1 => jfind l n
def jexp : List jV → List jV
  | [] => []
  | .inr (.inl x) :: l => vJ x :: vU :: jexp l
  | v :: l => v :: jexp l
def jpadto : Nat → List jV → List jV
  | 0, _ => []
  | n + 1, [] => vU :: jpadto n []
  | n + 1, v :: l => v :: jpadto n l
def jlocs (n : Nat) (as : List jV) : List jV := jpadto n (jexp as)
def jtexts : List (List Int) := [[114, 105, 118, 101, 114, 32, 109, 111, 111, 110, 32, 112, 101, 114, 115, 111, 110, 32, 109, 101, 109, 111, 114, 121, 32, 116, 114, 97, 112], [103, 111], [109, 101, 109, 111, 114, 121, 32, 112, 111, 111, 108, 32, 102, 114, 111, 109, 32, 115, 105, 122, 101, 32, 115, 109, 101, 108, 108, 32, 98, 97, 105, 116, 32, 116, 114, 97, 112, 115, 32, 119, 105, 116, 104, 32, 108, 105, 103, 104, 116, 32, 110, 101, 120, 116, 32, 119, 104, 111, 115, 101, 32, 110, 105, 103, 104, 116], [105, 102], [110, 111, 116], [97, 110, 100], [111, 114]]
def jtext : List (List Int) → Int → List Int
  | [], _ => []
  | t :: l, i => if i = 0 then t else jtext l (i - 1)
def jchar : List Int → Int → Option Int
  | [], _ => none
  | c :: l, i => if i = 0 then some c else jchar l (i - 1)
/-- String.length, String.charAt of the program's own texts -/
def jprim (y : Nat) (as : List jV) (mem : jMem) : jR := match as with
  | [.inr (.inr (.inl (f, some i)))] => bif Nat.beq y 248 && Nat.beq f 100 then some (vI ((jtext jtexts i).length : Int), mem) else none
  | [.inr (.inr (.inl (f, some i))), .inl x] => bif Nat.beq y 249 && Nat.beq f 100 then (match jchar (jtext jtexts i) x with
    | some c => some (vI c, mem)
    | none => none) else none
  | _ => none
noncomputable def jSem : Nat → jCall
  | 0 => fun _ _ _ => none
  | d + 1 => fun y as mem => match jfind jprog y with
    | some q => bif Nat.ble (jexp as).length q.2 then jAtC q.1 (jSem d) 0 (jlocs q.2 as) [] mem else none
    | none => jprim y as mem
