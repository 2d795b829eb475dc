/-! The reference's way through a test is the grammar's -/
def yF (d : Nat) (b : Int → Int) (n r : Int) (L : List (Int × Int)) (S : List Int) (dp : Int) (R : gR) (m : jMem) (X : jR) : Prop := (R.1 = 0 → ∃ m', X = KK d m' ∧ yQ b n r R.2.1 R.2.2.1 (L ++ R.2.2.2) S dp m' ∧ puR (aW r) m m') ∧ (R.1 ≠ 0 → ∃ m', X = some (vI 0, m') ∧ jrI m' 11 0 9 = R.1 ∧ puR (aW r) m m')
def yP (d : Nat) (b : Int → Int) (n r : Int) (A : List (Int × Int)) (S : List Int) (dp : Int) (G : List Int → Prop) (R : gR) (m : jMem) (X : jR) : Prop := (R.1 = 0 → ∃ m' i0 P L', X = KW d m' ∧ yQ b n r i0 R.2.2.1 L' (P ++ S) dp m' ∧ (rSk b n i0 = rSk b n R.2.1 ∧ (L'.length : Int) + ((P ++ S).length : Int) ≤ i0) ∧ L' ++ flS P = A ++ R.2.2.2 ∧ G P ∧ puR (aW r) m m') ∧ (R.1 ≠ 0 → ∃ m', X = some (vI 0, m') ∧ jrI m' 11 0 9 = R.1 ∧ puR (aW r) m m')
def okA (P : List Int) : Prop := P = [] ∨ P = [12]
def okO (P : List Int) : Prop := ∀ x ∈ P, x = 12 ∨ x = 13
theorem flS_l (P : List Int) : (flS P).length = P.length := List.length_map _
theorem yP_p {d : Nat} {b : Int → Int} {n r dp : Int} {A : List (Int × Int)} {S : List Int} {G : List Int → Prop} {R : gR} {m m1 : jMem} {X : jR} (h : puR (aW r) m m1) (hx : yP d b n r A S dp G R m1 X) : yP d b n r A S dp G R m X := ⟨fun w => by obtain ⟨m2, i0, P, L', c1, c2, c3, c4, c5, c6⟩ := hx.1 w; exact ⟨m2, i0, P, L', c1, c2, c3, c4, c5, puR_tr h c6⟩, fun w => by obtain ⟨m2, c1, c2, c3⟩ := hx.2 w; exact ⟨m2, c1, c2, puR_tr h c3⟩⟩
theorem yP_x {d : Nat} {b : Int → Int} {n r dp : Int} {A B : List (Int × Int)} {S : List Int} {G : List Int → Prop} {R : gR} {m : jMem} {X : jR} (hx : yP d b n r (A ++ B) S dp G R m X) : yP d b n r A S dp G (R.1, R.2.1, R.2.2.1, B ++ R.2.2.2) m X := by
  refine ⟨fun w => ?_, hx.2⟩
  obtain ⟨m2, i0, P, L', c1, c2, c3, c4, c5, c6⟩ := hx.1 w
  refine ⟨m2, i0, P, L', c1, c2, c3, ?_, c5, c6⟩
  rw [c4, List.append_assoc]
/-- a loop of and, or of or -/
theorem y_lp (d : Nat) (op : Int) (hop : op = 12 ∨ op = 13) {b : Int → Int} {n r dp : Int} {S : List Int} {F : Int → Int → gR} {G : List Int → Prop} (hby : ∀ j, 0 ≤ j → j < n → -128 ≤ b j ∧ b j ≤ 127) (hdp : 0 ≤ dp ∧ dp ≤ 100) (hS : lowS S (str op)) (hF : ∀ i u, 0 ≤ i → i ≤ n → gG n i u True (F i u)) (hG : ∀ P, G P → ∀ x ∈ P, (x = 12 ∨ x = 13) ∧ str op ≤ str x)
    (hY : ∀ i u L m, yQ b n r i u L (op :: S) dp m → (L.length : Int) + ((op :: S).length : Int) ≤ i → 0 ≤ u → u ≤ 60 → yP d b n r L (op :: S) dp (fun P => G (P ++ [op])) (F i u) m (HH d m)) : ∀ (k : Nat) (i u i0 : Int) (A L' : List (Int × Int)) (P : List Int) (m : jMem), 62 ≤ (k : Int) + u → 0 ≤ i → i ≤ n → yQ b n r i0 u L' (P ++ S) dp m → (L'.length : Int) + ((P ++ S).length : Int) ≤ i0 → rSk b n i0 = rSk b n i → L' ++ flS P = A → G P → 0 ≤ u → u ≤ 60 → yP d b n r A S dp (fun P => G P) (gLp b n (if op = 12 then [100, 110, 97] else [114, 111]) (op - 8) F k i u) m (KW d m) ∧ ((gLp b n (if op = 12 then [100, 110, 97] else [114, 111]) (op - 8) F k i u).1 = 0 → rW b n (rSk b n (gLp b n (if op = 12 then [100, 110, 97] else [114, 111]) (op - 8) F k i u).2.1) ≠ (if op = 12 then [100, 110, 97] else [114, 111])) := by
  intro k
  induction k with
  | zero => intro i u i0 A L' P m hk; omega
  | succ k ih =>
    intro i u i0 A L' P m hk i00 i0n h hl hsk hA hGP u0 u1
    have h5 := h.1.1.2.2.2.2
    have hs := rSk_in (b := b) (n := n) (i := i0) h5.1 h5.2.1
    have hid : rSk b n (rSk b n i) = rSk b n i := rSk_id i00 i0n
    have hne : (if op = 12 then [100, 110, 97] else [114, 111] : List Int) ≠ [] := by
      split <;> decide
    unfold gLp
    by_cases e : rW b n (rSk b n i) = (if op = 12 then [100, 110, 97] else [114, 111])
    · rw [if_pos e]
      have e' : rW b n (rSk b n i0) = (if op = 12 then [100, 110, 97] else [114, 111]) := by rw [hsk]; exact e
      obtain ⟨m1, a1, a2, a3⟩ := m_op d op hop hby h hl hdp (hG P hGP) hS e'
      have hp := rW_ne (b := b) (by omega) hs.2 hne e'
      have hp2 := (rPw_in (b := b) (n := n) (i := rSk b n i0) (by omega) hs.2).2
      rw [hA, hsk] at a2
      rw [hsk] at hp hp2
      have hlA : (A.length : Int) + (S.length : Int) = (L'.length : Int) + ((P ++ S).length : Int) := by
        rw [← hA, List.length_append, List.length_append, flS_l]
        omega
      have hlo : ((op :: S).length : Int) = (S.length : Int) + 1 := by
        rw [List.length_cons]; omega
      rw [hsk] at hs
      have hy := hY _ _ _ _ a2 (by omega) u0 u1
      have hg := hF (rPw b n (rSk b n i)) u (by omega) hp2
      rw [a1]
      generalize rPw b n (rSk b n i) = p at *
      generalize F p u = V at *
      by_cases z : V.1 = 0
      · obtain ⟨m2, i1, P1, L1, b1, b2, ⟨b3, b3'⟩, b4, b5, b6⟩ := hy.1 z
        obtain ⟨⟨g1, g2⟩, ⟨g3, g4⟩, -⟩ := hg z
        have zz : (gB V fun i' u' => ((0, i', u', [(op - 8, 0)]) : gR)).1 = 0 := by rw [gB_0 z]
        have es : P1 ++ op :: S = (P1 ++ [op]) ++ S := by simp
        rw [es] at b2 b3'
        have hfl : flS (P1 ++ [op]) = flS P1 ++ [(op - 8, 0)] := by
          unfold flS
          rw [List.map_append]
          rfl
        have hI := ih V.2.1 V.2.2.1 i1 (A ++ (V.2.2.2 ++ [(op - 8, 0)])) L1 (P1 ++ [op]) m2 (by omega) (by omega) g1 b2 b3' b3 (by rw [hfl, ← List.append_assoc, b4, List.append_assoc]) b5 (by omega) g4
        rw [gB_0 zz, gB_i z, gB_u z, gB_x z, b1]
        exact ⟨yP_p (puR_tr a3 b6) (yP_x hI.1), hI.2⟩
      · obtain ⟨m2, b1, b2, b3⟩ := hy.2 z
        rw [gB_n (r := V) z, gB_n z]
        exact ⟨⟨fun q => absurd q z, fun _ => ⟨m2, b1, b2, puR_tr a3 b3⟩⟩, fun q => absurd q z⟩
    · rw [if_neg e]
      refine ⟨⟨fun _ => ⟨m, i0, P, L', rfl, h, ⟨by rw [hsk]; exact hid.symm, hl⟩, by rw [hA]; exact (List.append_nil A).symm, hGP, puR_rf _ m⟩, fun w => absurd rfl w⟩, fun _ => ?_⟩
      show rW b n (rSk b n (rSk b n i)) ≠ _
      rw [hid]
      exact e
theorem y_part (d : Nat) {b : Int → Int} {n r dp : Int} {S : List Int} {F : Int → Int → gR} (hby : ∀ j, 0 ≤ j → j < n → -128 ≤ b j ∧ b j ≤ 127) (hdp : 0 ≤ dp ∧ dp ≤ 100) (hS : lowS S 2) (hF : ∀ i u, 0 ≤ i → i ≤ n → gG n i u True (F i u)) (hY : ∀ i u L S m, yQ b n r i u L S dp m → (L.length : Int) + (S.length : Int) ≤ i → 0 ≤ u → u ≤ 60 → yF d b n r L S dp (F i u) m (HH d m)) {i u : Int} {L : List (Int × Int)} {m : jMem} (h : yQ b n r i u L S dp m) (hl : (L.length : Int) + (S.length : Int) ≤ i) (hu : 0 ≤ u ∧ u ≤ 60) : yP d b n r L S dp okA (gPt b n F i u) m (HH d m) ∧ ((gPt b n F i u).1 = 0 → rW b n (rSk b n (gPt b n F i u).2.1) ≠ [100, 110, 97]) := by
  have h5 := h.1.1.2.2.2.2
  have hy := hY i u L S m h hl hu.1 hu.2
  have hg := hF i u h5.1 h5.2.1
  unfold gPt
  have hGA : ∀ P, okA P → ∀ x ∈ P, (x = 12 ∨ x = 13) ∧ str 12 ≤ str x := fun P hP x hx => by
    rcases hP with rfl | rfl
    · cases hx
    · rw [List.mem_singleton.mp hx]
      exact ⟨Or.inl rfl, Int.le_refl _⟩
  -- behind an and
  have hY2 : ∀ i u L m, yQ b n r i u L (12 :: S) dp m → (L.length : Int) + ((12 :: S).length : Int) ≤ i → 0 ≤ u → u ≤ 60 → yP d b n r L (12 :: S) dp (fun P => okA (P ++ [12])) (F i u) m (HH d m) := fun i u L m h hl u0 u1 => by
    obtain ⟨y1, y2⟩ := hY i u L (12 :: S) m h hl u0 u1
    have h5 := h.1.1.2.2.2.2
    have hg := hF i u h5.1 h5.2.1
    refine ⟨fun w => ?_, y2⟩
    obtain ⟨m1, c1, c2, c3⟩ := y1 w
    obtain ⟨⟨g1, g2⟩, -⟩ := hg w
    have hll : ((L ++ (F i u).2.2.2).length : Int) + ((12 :: S).length : Int) ≤ (F i u).2.1 := by
      rw [List.length_append]
      omega
    refine ⟨m1, (F i u).2.1, [], L ++ (F i u).2.2.2, by rw [c1]; exact e_KW d c2 (by omega) (show str 12 < 3 by decide), c2, ⟨rfl, hll⟩, by rw [show flS [] = [] from rfl, List.append_nil], Or.inr rfl, c3⟩
  generalize hV : F i u = V at *
  by_cases z : V.1 = 0
  · obtain ⟨m1, c1, c2, c3⟩ := hy.1 z
    obtain ⟨⟨g1, g2⟩, ⟨g3, g4⟩, -⟩ := hg z
    have hll : ((L ++ V.2.2.2).length : Int) + (S.length : Int) ≤ V.2.1 := by
      rw [List.length_append]
      omega
    have h3 : lowS S 3 := by
      cases S with
      | nil => trivial
      | cons x t =>
        have : str x < 2 := hS
        show str x < 3
        omega
    have hI := y_lp d 12 (Or.inl rfl) hby hdp hS hF hGA hY2 61 V.2.1 V.2.2.1 V.2.1 (L ++ V.2.2.2) (L ++ V.2.2.2) [] m1 (by omega) (by omega) g1 c2 hll rfl (by rw [show flS [] = [] from rfl, List.append_nil]) (Or.inl rfl) (by omega) g4
    rw [gB_0 z, c1, e_KW d c2 (by omega) h3]
    exact ⟨yP_p c3 (yP_x hI.1), hI.2⟩
  · obtain ⟨m1, c1, c2, c3⟩ := hy.2 z
    rw [gB_n z]
    exact ⟨⟨fun q => absurd q z, fun _ => ⟨m1, c1, c2, c3⟩⟩, fun q => absurd q z⟩
theorem gLp_and {b : Int → Int} {n op : Int} {wd W : List Int} {F : Int → Int → gR} (hF : ∀ i u, 0 ≤ i → i ≤ n → gG n i u True (F i u)) (hW : ∀ i u, 0 ≤ i → i ≤ n → 0 ≤ u → (F i u).1 = 0 → rW b n (rSk b n (F i u).2.1) ≠ W) : ∀ (k : Nat) (i u : Int), 0 ≤ i → i ≤ n → 0 ≤ u → wd ≠ [] → rW b n (rSk b n i) ≠ W → (gLp b n wd op F k i u).1 = 0 → rW b n (rSk b n (gLp b n wd op F k i u).2.1) ≠ W := by
  intro k
  induction k with
  | zero => intro i u _ _ _ _ h _; exact h
  | succ k ih =>
    intro i u i0 i1 u0 hwd h
    have hs := rSk_in (b := b) i0 i1
    unfold gLp
    by_cases e : rW b n (rSk b n i) = wd
    · rw [if_pos e]
      intro hz
      obtain ⟨z1, z2⟩ := gB_z hz
      obtain ⟨z3, -⟩ := gB_z z1
      rw [gB_i z1]
      rw [gB_i z3, gB_u z3] at z2 ⊢
      have hp := rW_ne (b := b) (by omega) hs.2 hwd e
      have hp2 := (rPw_in (b := b) (n := n) (i := rSk b n i) (by omega) hs.2).2
      obtain ⟨⟨g1, g2⟩, ⟨g3, g4⟩, -⟩ := hF (rPw b n (rSk b n i)) u (by omega) hp2 z3
      exact ih _ _ (by show 0 ≤ (F (rPw b n (rSk b n i)) u).2.1; omega) g1 (by show 0 ≤ (F (rPw b n (rSk b n i)) u).2.2.1; omega) hwd (hW _ _ (by omega) hp2 u0 z3) z2
    · rw [if_neg e]
      intro _
      show rW b n (rSk b n (rSk b n i)) ≠ W
      rw [rSk_id i0 i1]
      exact h
theorem y_test (d : Nat) {b : Int → Int} {n r dp : Int} {S : List Int} {F : Int → Int → gR} (hby : ∀ j, 0 ≤ j → j < n → -128 ≤ b j ∧ b j ≤ 127) (hdp : 0 ≤ dp ∧ dp ≤ 100) (hS : lowS S 1) (hF : ∀ i u, 0 ≤ i → i ≤ n → gG n i u True (F i u)) (hFw : ∀ i u, 0 ≤ i → i ≤ n → 0 ≤ u → (gPt b n F i u).1 = 0 → rW b n (rSk b n (gPt b n F i u).2.1) ≠ [100, 110, 97]) (hY : ∀ i u L S m, yQ b n r i u L S dp m → (L.length : Int) + (S.length : Int) ≤ i → 0 ≤ u → u ≤ 60 → yF d b n r L S dp (F i u) m (HH d m)) {i u : Int} {L : List (Int × Int)} {m : jMem} (h : yQ b n r i u L S dp m) (hl : (L.length : Int) + (S.length : Int) ≤ i) (hu : 0 ≤ u ∧ u ≤ 60) : yP d b n r L S dp okO (gTs b n F i u) m (HH d m) ∧ ((gTs b n F i u).1 = 0 → rW b n (rSk b n (gTs b n F i u).2.1) ≠ [100, 110, 97] ∧ rW b n (rSk b n (gTs b n F i u).2.1) ≠ [114, 111]) := by
  have h5 := h.1.1.2.2.2.2
  have hF2 := gPt_g (b := b) hF
  have h2 : lowS S 2 := by
    cases S with
    | nil => trivial
    | cons x t =>
      have : str x < 1 := hS
      show str x < 2
      omega
  have hy := (y_part d hby hdp h2 hF hY h hl hu).1
  have hg := hF2 i u h5.1 h5.2.1
  have hw := hFw i u h5.1 h5.2.1 hu.1
  unfold gTs
  have hGO : ∀ P, okO P → ∀ x ∈ P, (x = 12 ∨ x = 13) ∧ str 13 ≤ str x := fun P hP x hx => by
    have := hP x hx
    refine ⟨this, ?_⟩
    rcases this with rfl | rfl <;> decide
  have hAO : ∀ P, okA P → okO P := fun P hP x hx => by
    rcases hP with rfl | rfl
    · cases hx
    · rw [List.mem_singleton.mp hx]
      exact Or.inl rfl
  have hY2 : ∀ i u L m, yQ b n r i u L (13 :: S) dp m → (L.length : Int) + ((13 :: S).length : Int) ≤ i → 0 ≤ u → u ≤ 60 → yP d b n r L (13 :: S) dp (fun P => okO (P ++ [13])) (gPt b n F i u) m (HH d m) := fun i u L m h hl u0 u1 => by
    obtain ⟨y1, y2⟩ := (y_part d hby hdp (S := 13 :: S) (show str 13 < 2 by decide) hF hY h hl ⟨u0, u1⟩).1
    refine ⟨fun w => ?_, y2⟩
    obtain ⟨m1, i0, P, L', c1, c2, c3, c4, c5, c6⟩ := y1 w
    refine ⟨m1, i0, P, L', c1, c2, c3, c4, fun x hx => ?_, c6⟩
    rcases List.mem_append.mp hx with q | q
    · exact hAO P c5 x q
    · rw [List.mem_singleton.mp q]
      exact Or.inr rfl
  generalize hV : gPt b n F i u = V at *
  by_cases z : V.1 = 0
  · obtain ⟨m1, i0, P, L', c1, c2, ⟨c3, c3'⟩, c4, c5, c6⟩ := hy.1 z
    obtain ⟨⟨g1, g2⟩, ⟨g3, g4⟩, -⟩ := hg z
    have hI := y_lp d 13 (Or.inr rfl) hby hdp hS hF2 hGO hY2 61 V.2.1 V.2.2.1 i0 (L ++ V.2.2.2) L' P m1 (by omega) (by omega) g1 c2 c3' c3 c4 (hAO P c5) (by omega) g4
    rw [gB_0 z, c1]
    exact ⟨yP_p c6 (yP_x hI.1), fun q => ⟨gLp_and (W := [100, 110, 97]) hF2 hFw 61 V.2.1 V.2.2.1 (by omega) g1 (by omega) (by decide) (hw z) q, hI.2 q⟩⟩
  · obtain ⟨m1, c1, c2, c3⟩ := hy.2 z
    rw [gB_n z]
    exact ⟨⟨fun q => absurd q z, fun _ => ⟨m1, c1, c2, c3⟩⟩, fun q => absurd q z⟩
theorem gPt_w {b : Int → Int} {n : Int} {F : Int → Int → gR} (hF : ∀ i u, 0 ≤ i → i ≤ n → gG n i u True (F i u)) {i u : Int} (h0 : 0 ≤ i) (h1 : i ≤ n) (u0 : 0 ≤ u) (hz : (gPt b n F i u).1 = 0) : rW b n (rSk b n (gPt b n F i u).2.1) ≠ [100, 110, 97] := by
  unfold gPt at hz ⊢
  obtain ⟨z1, z2⟩ := gB_z hz
  rw [gB_i z1]
  obtain ⟨⟨g1, g2⟩, ⟨g3, g4⟩, -⟩ := hF i u h0 h1 z1
  have key : ∀ (k : Nat) (i u : Int), 62 ≤ (k : Int) + u → u ≤ 60 → 0 ≤ i → i ≤ n → (gLp b n [100, 110, 97] 4 F k i u).1 = 0 → rW b n (rSk b n (gLp b n [100, 110, 97] 4 F k i u).2.1) ≠ [100, 110, 97] := by
    intro k
    induction k with
    | zero => intro i u hk; omega
    | succ k ih =>
      intro i u hk hu i0 i1
      have hs := rSk_in (b := b) i0 i1
      unfold gLp
      by_cases e : rW b n (rSk b n i) = [100, 110, 97]
      · rw [if_pos e]
        intro hz
        obtain ⟨z1, z2⟩ := gB_z hz
        obtain ⟨z3, -⟩ := gB_z z1
        rw [gB_i z1]
        rw [gB_i z3, gB_u z3] at z2 ⊢
        have hp := rW_ne (b := b) (by omega) hs.2 (by decide) e
        have hp2 := (rPw_in (b := b) (n := n) (i := rSk b n i) (by omega) hs.2).2
        obtain ⟨⟨g1, g2⟩, ⟨g3, g4⟩, -⟩ := hF (rPw b n (rSk b n i)) u (by omega) hp2 z3
        exact ih _ _ (show 62 ≤ (k : Int) + (F (rPw b n (rSk b n i)) u).2.2.1 by omega) g4 (by show 0 ≤ (F (rPw b n (rSk b n i)) u).2.1; omega) g1 z2
      · rw [if_neg e]
        intro _
        show rW b n (rSk b n (rSk b n i)) ≠ _
        rw [rSk_id i0 i1]
        exact e
  exact key 61 _ _ (by omega) g4 (by omega) g1 z2
theorem m_opens (d : Nat) (x : Int) {b : Int → Int} {n r i u : Int} {L : List (Int × Int)} {S : List Int} {dp : Int} {m : jMem} (h : yQ b n r i u L S dp m) (hl : (S.length : Int) < 400) (hdp : 0 ≤ dp ∧ dp ≤ 10) : (dp < 10 → ∃ m', M_opens (d + 2) x m = some (vI 1, m') ∧ yQ b n r i u L (x :: S) (dp + 1) m' ∧ puR (aW r) m m') ∧ (¬ dp < 10 → ∃ m', M_opens (d + 2) x m = some (vI 0, m') ∧ jrI m' 11 0 9 = 1 + 8 * i + 2 ∧ puR (aW r) m m') := by
  obtain ⟨h1, h2, h3, h4⟩ := id h
  have h5 := h1.1.2.2.2.2
  rw [q_M_opens, h4, h1.1.2.2.1, h2]
  refine ⟨fun w => ?_, fun w => ?_⟩
  · obtain ⟨z1, z2⟩ := yQ_push x (dp + 1) h
    rw [if_neg (by omega), jix_in (by omega) (by omega), jw32_id (x := dp + 1) (by omega) (by omega), jw32_id (x := (S.length : Int) + 1) (by omega) (by omega)]
    exact ⟨_, rfl, z1, z2⟩
  · rw [if_pos (by omega), s_M_fails d i 2 m h1.1.2.2.2.1 (by omega) (by decide)]
    refine ⟨_, rfl, jrI_ws _ _ _ _ _, puR_w (puR_rf _ m) ?_⟩
    unfold aW
    omega
theorem y_fact (d : Nat) {b : Int → Int} {n r : Int} (hby : ∀ j, 0 ≤ j → j < n → -128 ≤ b j ∧ b j ≤ 127) : ∀ (q : Nat), q ≤ 10 → ∀ (i u : Int) (L : List (Int × Int)) (S : List Int) (m : jMem), yQ b n r i u L S (10 - (q : Int)) m → (L.length : Int) + (S.length : Int) ≤ i → 0 ≤ u → u ≤ 60 → yF d b n r L S (10 - (q : Int)) (gFc b n q i u) m (HH d m) := by
  -- see, and not or bracket or neither
  have cmpd : ∀ (dp i u : Int) (L : List (Int × Int)) (S : List Int) (m : jMem), yQ b n r i u L S dp m → (L.length : Int) + (S.length : Int) ≤ i → 0 ≤ u → u ≤ 60 → rSk b n i = i → yF d b n r L S dp (gCmp b n i u) m (jbnd (M_fact_2 (d + 7) 0 m) (KF d)) := by
    intro dp i u L S m h hl u0 u1 hid
    obtain ⟨y1, y2⟩ := m_cmp d hby h.1 (by omega) ⟨u0, u1⟩
    rw [q_M_fact_2, if_pos rfl]
    refine ⟨fun w => ?_, fun w => ?_⟩
    · obtain ⟨m1, c1, c2, c3⟩ := y1 w
      rw [c1]
      exact ⟨m1, e_KF d m1, yQ_s h c3 c2, aS_W r c3⟩
    · obtain ⟨m1, c1, c2, c3⟩ := y2 w
      rw [c1]
      exact ⟨m1, rfl, c2, aS_W r c3⟩
  intro q
  induction q with
  | zero =>
    intro _ i u L S m h hl u0 u1
    have h5 := h.1.1.2.2.2.2
    have hs := rSk_in (b := b) h5.1 h5.2.1
    have hid := rSk_id (b := b) h5.1 h5.2.1
    obtain ⟨m1, a1, a2, a3⟩ := m_see (d + 6) h.1.1
    obtain ⟨m2, b1, b2, b3⟩ := m_isW (d + 5) [116, 111, 110] (by decide) (by decide) (by decide) (y := 7237492) rfl a2 hid
    have q2 := yQ_mv (yQ_mv h a3 a2) b3 b2
    have f2 : puR (aW r) m m2 := puR_tr (aM_W r a3) (aM_W r b3)
    have eH : HH d m = jbnd (if jb (rW b n (rSk b n i) = [116, 111, 110]) = 0 then (if rCh b n (rSk b n i) = 91 then jbnd (M_opens (d + 7) 91 m2) fun v7 mem8 => if (jasI v7) = 0 then some (vI 0, mem8) else M_fact_2 (d + 7) 1 (jwI mem8 11 0 8 (jw32 ((jrI mem8 11 0 8) + 1))) else M_fact_2 (d + 7) 0 m2) else jbnd (M_opens (d + 7) 11 m2) fun v9 mem10 => if (jasI v9) = 0 then some (vI 0, mem10) else jbnd (M_passWord (d + 7) mem10) fun v11 mem12 => M_fact_2 (d + 7) 1 mem12) (KF d) := by
      unfold HH
      rw [q_M_fact_2, if_neg (show ¬ (1 : Int) = 0 by decide), a1]
      simp only [jbnd_s, jasI_v]
      rw [b1]
      simp only [jbnd_s, jasI_v]
    rw [eH]
    unfold gFc
    by_cases e1 : rW b n (rSk b n i) = [116, 111, 110]
    · have hp := rW_ne (b := b) (by omega) hs.2 (by decide) e1
      have hp2 := (rPw_in (b := b) (n := n) (i := rSk b n i) (by omega) hs.2).2
      obtain ⟨m3, c1, c2, c3⟩ := (m_opens (d + 5) 11 q2 (by omega) (by decide)).2 (by decide)
      rw [if_pos (Or.inl e1), jb_1 e1, if_neg (show ¬ (1 : Int) = 0 by decide), c1]
      exact ⟨fun w => absurd (show 1 + 8 * rSk b n i + 2 = 0 from w) (by omega), fun _ => ⟨m3, rfl, c2, puR_tr f2 c3⟩⟩
    rw [jb_n e1, if_pos (show (0 : Int) = 0 from rfl)]
    by_cases e2 : rCh b n (rSk b n i) = 91
    · have hlt := rCh_lt e2 (by decide)
      obtain ⟨m3, c1, c2, c3⟩ := (m_opens (d + 5) 91 q2 (by omega) (by decide)).2 (by decide)
      rw [if_pos (Or.inr e2), if_pos e2, c1]
      exact ⟨fun w => absurd (show 1 + 8 * rSk b n i + 2 = 0 from w) (by omega), fun _ => ⟨m3, rfl, c2, puR_tr f2 c3⟩⟩
    · rw [if_neg (fun w => w.elim e1 e2), if_neg e2]
      obtain ⟨y1, y2⟩ := cmpd _ _ u L S m2 q2 (by omega) u0 u1 hid
      exact ⟨fun w => by obtain ⟨m3, c1, c2, c3⟩ := y1 w; exact ⟨m3, c1, c2, puR_tr f2 c3⟩, fun w => by obtain ⟨m3, c1, c2, c3⟩ := y2 w; exact ⟨m3, c1, c2, puR_tr f2 c3⟩⟩
  | succ q ih =>
    intro hq i u L S m h hl u0 u1
    have h5 := h.1.1.2.2.2.2
    have hs := rSk_in (b := b) h5.1 h5.2.1
    have hid := rSk_id (b := b) h5.1 h5.2.1
    have ex : (10 : Int) - ((q + 1 : Nat) : Int) = 9 - (q : Int) := by omega
    have ey : (10 : Int) - (q : Int) = 9 - (q : Int) + 1 := by omega
    rw [ex] at h ⊢
    rw [ey] at ih
    obtain ⟨m1, a1, a2, a3⟩ := m_see (d + 6) h.1.1
    obtain ⟨m2, b1, b2, b3⟩ := m_isW (d + 5) [116, 111, 110] (by decide) (by decide) (by decide) (y := 7237492) rfl a2 hid
    have q2 := yQ_mv (yQ_mv h a3 a2) b3 b2
    have f2 : puR (aW r) m m2 := puR_tr (aM_W r a3) (aM_W r b3)
    have eH : HH d m = jbnd (if jb (rW b n (rSk b n i) = [116, 111, 110]) = 0 then (if rCh b n (rSk b n i) = 91 then jbnd (M_opens (d + 7) 91 m2) fun v7 mem8 => if (jasI v7) = 0 then some (vI 0, mem8) else M_fact_2 (d + 7) 1 (jwI mem8 11 0 8 (jw32 ((jrI mem8 11 0 8) + 1))) else M_fact_2 (d + 7) 0 m2) else jbnd (M_opens (d + 7) 11 m2) fun v9 mem10 => if (jasI v9) = 0 then some (vI 0, mem10) else jbnd (M_passWord (d + 7) mem10) fun v11 mem12 => M_fact_2 (d + 7) 1 mem12) (KF d) := by
      unfold HH
      rw [q_M_fact_2, if_neg (show ¬ (1 : Int) = 0 by decide), a1]
      simp only [jbnd_s, jasI_v]
      rw [b1]
      simp only [jbnd_s, jasI_v]
    rw [eH]
    unfold gFc
    by_cases e1 : rW b n (rSk b n i) = [116, 111, 110]
    · have hp := rW_ne (b := b) (by omega) hs.2 (by decide) e1
      have hp2 := (rPw_in (b := b) (n := n) (i := rSk b n i) (by omega) hs.2).2
      obtain ⟨m3, c1, c2, c3⟩ := (m_opens (d + 5) 11 q2 (by omega) (by omega)).1 (by omega)
      obtain ⟨m4, x1, x2, x3⟩ := m_pass (d + 5) c2.1.1
      have q4 := yQ_mv c2 x3 x2
      have hll : ((11 :: S).length : Int) = (S.length : Int) + 1 := by
        rw [List.length_cons]; omega
      have f4 : puR (aW r) m m4 := puR_tr f2 (puR_tr c3 (aM_W r x3))
      rw [if_pos e1, jb_1 e1, if_neg (show ¬ (1 : Int) = 0 by decide), c1]
      simp only [jbnd_s, jasI_v]
      rw [if_neg (show ¬ (1 : Int) = 0 by decide), x1]
      simp only [jbnd_s]
      obtain ⟨y1, y2⟩ := ih (by omega) (rPw b n (rSk b n i)) u L (11 :: S) m4 q4 (by omega) u0 u1
      have hg := gFc_g (b := b) (n := n) q (rPw b n (rSk b n i)) u (by omega) hp2
      have eHH : jbnd (M_fact_2 (d + 7) 1 m4) (KF d) = HH d m4 := rfl
      rw [eHH]
      generalize gFc b n q (rPw b n (rSk b n i)) u = V at *
      by_cases z : V.1 = 0
      · obtain ⟨m5, p1, p2, p3⟩ := y1 z
        obtain ⟨⟨g1, g2⟩, ⟨g3, g4⟩, -⟩ := hg z
        obtain ⟨m6, j1, j2, j3⟩ := ld_pop (d + 5) 3 11 p2 (by rw [List.length_append]; omega) (Or.inl rfl) (by decide) (by omega)
        rw [if_pos rfl, show 9 - (q : Int) + 1 - 1 = 9 - (q : Int) by omega] at j2
        rw [gB_0 z]
        refine ⟨fun _ => ⟨m6, ?_, ?_, puR_tr f4 (puR_tr p3 j3)⟩, fun w => absurd rfl w⟩
        · rw [p1]
          unfold KK
          rw [q_M_layDown, j1, q_M_layDown]
        · rw [List.append_assoc] at j2
          exact j2
      · obtain ⟨m5, p1, p2, p3⟩ := y2 z
        rw [gB_n z]
        exact ⟨fun w => absurd w z, fun _ => ⟨m5, p1, p2, puR_tr f4 p3⟩⟩
    rw [if_neg e1, jb_n e1, if_pos (show (0 : Int) = 0 from rfl)]
    by_cases e2 : rCh b n (rSk b n i) = 91
    · have hlt := rCh_lt e2 (by decide)
      obtain ⟨m3, c1, c2, c3⟩ := (m_opens (d + 5) 91 q2 (by omega) (by omega)).1 (by omega)
      have hm4 : rM b n (rSk b n i + 1) (jwI m3 11 0 8 (rSk b n i + 1)) := rM_to c2.1.1 (by omega) (by omega)
      have q4 := yQ_mv c2 (puR_w (puR_rf _ m3) ⟨rfl, rfl, Or.inl rfl⟩) hm4
      have hll : ((91 :: S).length : Int) = (S.length : Int) + 1 := by
        rw [List.length_cons]; omega
      have f4 : puR (aW r) m (jwI m3 11 0 8 (rSk b n i + 1)) := puR_w (puR_tr f2 c3) (by unfold aW; omega)
      rw [if_pos e2, if_pos e2, c1]
      simp only [jbnd_s, jasI_v]
      rw [if_neg (show ¬ (1 : Int) = 0 by decide), c2.1.1.2.2.1, jw32_id (x := rSk b n i + 1) (by omega) (by omega)]
      have eHH : jbnd (M_fact_2 (d + 7) 1 (jwI m3 11 0 8 (rSk b n i + 1))) (KF d) = HH d (jwI m3 11 0 8 (rSk b n i + 1)) := rfl
      rw [eHH]
      have hgf := gFc_g (b := b) (n := n) q
      obtain ⟨⟨y1, y2⟩, y3⟩ := y_test d hby (show 0 ≤ 9 - (q : Int) + 1 ∧ 9 - (q : Int) + 1 ≤ 100 by omega) (S := 91 :: S) (show str 91 < 1 by decide) hgf (fun i u h0 h1 hu hz => gPt_w hgf h0 h1 hu hz) (fun i u L S m h hl u0 u1 => ih (by omega) i u L S m h hl u0 u1) q4 (by omega) ⟨u0, u1⟩
      have hg := gTs_g (b := b) hgf (rSk b n i + 1) u (by omega) (by omega)
      generalize gTs b n (gFc b n q) (rSk b n i + 1) u = V at *
      by_cases z : V.1 = 0
      · obtain ⟨m5, i0, P, L', p1, p2, ⟨p3, p3'⟩, p4, p5, p6⟩ := y1 z
        obtain ⟨⟨g1, g2⟩, ⟨g3, g4⟩, -⟩ := hg z
        obtain ⟨w1, w2⟩ := y3 z
        have h50 := p2.1.1.2.2.2.2
        have hs0 := rSk_in (b := b) h50.1 h50.2.1
        obtain ⟨m6, t1, t2, t3⟩ := m_see (d + 6) p2.1.1
        rw [p3] at t1 t2 hs0
        have q6 := yQ_mv p2 t3 t2
        have f6 : puR (aW r) m m6 := puR_tr f4 (puR_tr p6 (aM_W r t3))
        have hin : 91 ∈ P ++ 91 :: S := List.mem_append_right _ List.mem_cons_self
        have hPl : ((P ++ 91 :: S).length : Int) = (P.length : Int) + (S.length : Int) + 1 := by
          rw [List.length_append, List.length_cons]; omega
        have hid2 : rSk b n (rSk b n V.2.1) = rSk b n V.2.1 := rSk_id (by omega) g1
        rw [gB_0 z, p1]
        by_cases e3 : rCh b n (rSk b n V.2.1) = 93
        · have hlt2 := rCh_lt e3 (by decide)
          obtain ⟨m7, k1, k2, k3⟩ := ld_all (d + 5) 1 (S := 91 :: S) (show str 91 < 1 by decide) (by omega) P L' m6 q6 (by omega) (fun x hx => ⟨p5 x hx, by rcases p5 x hx with rfl | rfl <;> decide⟩)
          rw [p4] at k2
          obtain ⟨⟨g1', g2', g3', g4', g5', g6'⟩, kk2, kk3, kk4⟩ := id k2
          have ec : KW d m5 = KK d (jwI (jwI (jwI m7 11 0 16 (S.length : Int)) 11 0 13 (9 - (q : Int))) 11 0 8 (rSk b n V.2.1 + 1)) := by
            unfold KW
            rw [q_M_closes_5, t1]
            simp only [jbnd_s, jasI_v]
            rw [if_pos e3, m_inside (d + 6) q6.2.1 q6.2.2.1 (by omega)]
            simp only [jbnd_s, jasI_v]
            rw [jb_1 hin, if_neg (show ¬ (1 : Int) = 0 by decide), k1]
            simp only [jbnd_s]
            rw [kk2, kk4, g1'.2.2.1, hll, jw32_id (x := (S.length : Int) + 1 - 1) (by omega) (by omega), jw32_id (x := 9 - (q : Int) + 1 - 1) (by omega) (by omega), jw32_id (x := rSk b n V.2.1 + 1) (by omega) (by omega), show (S.length : Int) + 1 - 1 = (S.length : Int) by omega, show 9 - (q : Int) + 1 - 1 = 9 - (q : Int) by omega, jbnd_as]
            rfl
          rw [if_pos e3]
          refine ⟨fun _ => ⟨_, ec, ?_, ?_⟩, fun w => absurd rfl w⟩
          · show yQ b n r (rSk b n V.2.1 + 1) V.2.2.1 (L ++ (V.2.2.2 ++ [])) S (9 - (q : Int)) _
            rw [List.append_nil]
            refine ⟨⟨rM_to (rM_fr (m := m7) (fun f k w => by rw [jrI_w, if_neg (by omega), jrI_w, if_neg (by omega)]) g1') (by omega) (by omega), by rw [jrI_wk (by decide), jrI_wk (by decide), jrI_wk (by decide)]; exact g2', by rw [jrI_wf (by decide), jrI_wf (by decide), jrI_wf (by decide)]; exact g3', by rw [jrI_wf (by decide), jrI_wf (by decide), jrI_wf (by decide)]; exact g4', by rw [jrI_wk (by decide), jrI_wk (by decide), jrI_wk (by decide)]; exact g5', g6'⟩, by rw [jrI_wk (by decide), jrI_wk (by decide), jrI_ws], by rw [jrI_wf (by decide), jrI_wf (by decide), jrI_wf (by decide)]; exact kk3.2, by rw [jrI_wk (by decide), jrI_ws]⟩
          · refine puR_w (puR_w (puR_w (puR_tr f6 k3) ?_) ?_) ?_
            all_goals (unfold aW; omega)
        · rw [if_neg e3]
          obtain ⟨m7, k1, k2, k3⟩ := m_isW (d + 6) [100, 110, 97] (by decide) (by decide) (by decide) (y := 6385252) rfl t2 hid2
          obtain ⟨m8, k4, k5, k6⟩ := m_isW (d + 6) [114, 111] (by decide) (by decide) (by decide) (y := 28530) rfl k2 hid2
          have q8 := yQ_mv (yQ_mv q6 k3 k2) k6 k5
          obtain ⟨m9, k7, k8, k9⟩ := m_see (d + 7) k5
          rw [hid2] at k7 k8
          have ec : KW d m5 = some (vI 0, jwI m9 11 0 9 (1 + 8 * rSk b n V.2.1 + 0)) := by
            unfold KW
            rw [q_M_closes_5, t1]
            simp only [jbnd_s, jasI_v]
            rw [if_neg e3]
            simp only [jbnd_s]
            unfold TC
            rw [k1]
            simp only [jbnd_s, jasI_v]
            rw [jb_n w1]
            first | rw [if_pos (show (0 : Int) = 0 from rfl)] | rw [if_pos trivial]
            rw [k4]
            simp only [jbnd_s, jasI_v]
            rw [jb_n w2]
            first | rw [if_pos (show (0 : Int) = 0 from rfl)] | rw [if_pos trivial]
            rw [q_M_tested_54, if_pos (show (0 : Int) = 0 from rfl), q_M_tested_12, if_pos (show (0 : Int) = 0 from rfl), m_inside (d + 7) q8.2.1 q8.2.2.1 (by omega)]
            simp only [jbnd_s, jasI_v]
            rw [jb_1 hin, if_neg (show ¬ (1 : Int) = 0 by decide), k7]
            simp only [jbnd_s]
            rw [k8.2.2.1, s_M_fails (d + 7) (rSk b n V.2.1) 0 m9 k8.2.2.2.1 (by omega) (by decide)]
            rfl
          refine ⟨fun w => absurd (show 1 + 8 * rSk b n V.2.1 = 0 from w) (by omega), fun _ => ⟨_, ec, by rw [jrI_ws]; show 1 + 8 * rSk b n V.2.1 + 0 = 1 + 8 * rSk b n V.2.1; omega, puR_w (puR_tr f6 (puR_tr (aM_W r k3) (puR_tr (aM_W r k6) (aM_W r k9)))) ?_⟩⟩
          unfold aW
          omega
      · obtain ⟨m5, p1, p2, p3⟩ := y2 z
        rw [gB_n z]
        exact ⟨fun w => absurd w z, fun _ => ⟨m5, p1, p2, puR_tr f4 p3⟩⟩
    · rw [if_neg e2, if_neg e2]
      obtain ⟨y1, y2⟩ := cmpd _ _ u L S m2 q2 (by omega) u0 u1 hid
      exact ⟨fun w => by obtain ⟨m3, c1, c2, c3⟩ := y1 w; exact ⟨m3, c1, c2, puR_tr f2 c3⟩, fun w => by obtain ⟨m3, c1, c2, c3⟩ := y2 w; exact ⟨m3, c1, c2, puR_tr f2 c3⟩⟩
theorem m_tested (d : Nat) {b : Int → Int} {n r i u : Int} {L : List (Int × Int)} {m : jMem} (hby : ∀ j, 0 ≤ j → j < n → -128 ≤ b j ∧ b j ≤ 127) (h : mQ b n r i u L m) (hl : (L.length : Int) ≤ i) (hu : 0 ≤ u ∧ u ≤ 60) : ((gTs b n (gFc b n 10) i u).1 = 0 → ∃ m', M_tested (d + 9) m = some (vI 1, m') ∧ mQ b n r (rSk b n (gTs b n (gFc b n 10) i u).2.1) (gTs b n (gFc b n 10) i u).2.2.1 (L ++ (gTs b n (gFc b n 10) i u).2.2.2) m' ∧ puR (aW r) m m') ∧ ((gTs b n (gFc b n 10) i u).1 ≠ 0 → ∃ m', M_tested (d + 9) m = some (vI 0, m') ∧ jrI m' 11 0 9 = (gTs b n (gFc b n 10) i u).1 ∧ puR (aW r) m m') := by
  have h5 := h.1.2.2.2.2
  have q0 : yQ b n r i u L [] 0 (jwI (jwI m 11 0 16 0) 11 0 13 0) := by
    obtain ⟨g1, g2, g3, g4, g5, g6⟩ := h
    exact ⟨⟨rM_fr (fun f k w => by rw [jrI_w, if_neg (by omega), jrI_w, if_neg (by omega)]) g1, by rw [jrI_wk (by decide), jrI_wk (by decide)]; exact g2, by rw [jrI_wf (by decide), jrI_wf (by decide)]; exact g3, by rw [jrI_wf (by decide), jrI_wf (by decide)]; exact g4, by rw [jrI_wk (by decide), jrI_wk (by decide)]; exact g5, g6⟩, by rw [jrI_wk (by decide), jrI_ws]; rfl, trivial, jrI_ws _ _ _ _ _⟩
  have f0 : puR (aW r) m (jwI (jwI m 11 0 16 0) 11 0 13 0) := puR_w (puR_w (puR_rf _ m) (by unfold aW; omega)) (by unfold aW; omega)
  have hgf := gFc_g (b := b) (n := n) 10
  obtain ⟨⟨y1, y2⟩, y3⟩ := y_test d hby (show (0 : Int) ≤ 0 ∧ (0 : Int) ≤ 100 by decide) (S := []) trivial hgf (fun i u h0 h1 hu hz => gPt_w hgf h0 h1 hu hz) (fun i u L S m h hl u0 u1 => y_fact d hby 10 (by decide) i u L S m h hl u0 u1) q0 (by show (L.length : Int) + ((0 : Nat) : Int) ≤ i; omega) hu
  have hg := gTs_g (b := b) hgf i u h5.1 h5.2.1
  rw [q_M_tested, e_HH]
  generalize gTs b n (gFc b n 10) i u = V at *
  refine ⟨fun z => ?_, fun z => ?_⟩
  · obtain ⟨m5, i0, P, L', p1, p2, ⟨p3, p3'⟩, p4, p5, p6⟩ := y1 z
    obtain ⟨⟨g1, g2⟩, ⟨g3, g4⟩, -⟩ := hg z
    obtain ⟨w1, w2⟩ := y3 z
    have h50 := p2.1.1.2.2.2.2
    have hs0 := rSk_in (b := b) h50.1 h50.2.1
    obtain ⟨m6, t1, t2, t3⟩ := m_see (d + 6) p2.1.1
    rw [p3] at t1 t2 hs0
    have q6 := yQ_mv p2 t3 t2
    have hid2 : rSk b n (rSk b n V.2.1) = rSk b n V.2.1 := rSk_id (by omega) g1
    have hnin : ¬ 91 ∈ P ++ [] := by
      rw [List.append_nil]
      intro w
      have := p5 91 w
      omega
    obtain ⟨m7, k1, k2, k3⟩ := m_isW (d + 6) [100, 110, 97] (by decide) (by decide) (by decide) (y := 6385252) rfl t2 hid2
    obtain ⟨m8, k4, k5, k6⟩ := m_isW (d + 6) [114, 111] (by decide) (by decide) (by decide) (y := 28530) rfl k2 hid2
    have q8 := yQ_mv (yQ_mv q6 k3 k2) k6 k5
    obtain ⟨m9, x1, x2, x3⟩ := ld_all (d + 6) 1 (S := []) trivial (by decide) P L' m8 q8 (by omega) (fun x hx => ⟨p5 x hx, by rcases p5 x hx with rfl | rfl <;> decide⟩)
    rw [p4] at x2
    have eW : KW d m5 = TC d m6 := by
      unfold KW
      rw [q_M_closes_5, t1]
      simp only [jbnd_s, jasI_v]
      by_cases e3 : rCh b n (rSk b n V.2.1) = 93
      · rw [if_pos e3, m_inside (d + 6) q6.2.1 q6.2.2.1 (by omega)]
        simp only [jbnd_s, jasI_v]
        rw [jb_n hnin]
        first | rw [if_pos (show (0 : Int) = 0 from rfl)] | rw [if_pos trivial]
        rfl
      · rw [if_neg e3]
        rfl
    refine ⟨m9, ?_, x2.1, puR_tr f0 (puR_tr p6 (puR_tr (aM_W r t3) (puR_tr (aM_W r k3) (puR_tr (aM_W r k6) x3))))⟩
    rw [p1, eW]
    unfold TC
    rw [k1]
    simp only [jbnd_s, jasI_v]
    rw [jb_n w1]
    first | rw [if_pos (show (0 : Int) = 0 from rfl)] | rw [if_pos trivial]
    rw [k4]
    simp only [jbnd_s, jasI_v]
    rw [jb_n w2]
    first | rw [if_pos (show (0 : Int) = 0 from rfl)] | rw [if_pos trivial]
    rw [q_M_tested_54, if_pos (show (0 : Int) = 0 from rfl), q_M_tested_12, if_pos (show (0 : Int) = 0 from rfl), m_inside (d + 7) q8.2.1 q8.2.2.1 (by omega)]
    simp only [jbnd_s, jasI_v]
    rw [jb_n hnin]
    first | rw [if_pos (show (0 : Int) = 0 from rfl)] | rw [if_pos trivial]
    rw [x1]
    rfl
  · obtain ⟨m5, p1, p2, p3⟩ := y2 z
    exact ⟨m5, p1, p2, puR_tr f0 p3⟩
