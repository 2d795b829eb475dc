/-! The class reads a rule -/
abbrev gC : Type := List (Int × Int) × Option (List (Int × Int))
def gEn (b : Int → Int) (n : Int) (Z : Int → Int → Int × List gC) (cl : gC) (i u : Int) : Int × List gC := if rCh b n (rSk b n i) = -1 then (0, [cl]) else if rCh b n (rSk b n i) = 59 then ((Z (rSk b n i + 1) u).1, cl :: (Z (rSk b n i + 1) u).2) else (1 + 8 * rSk b n i, [])
def gOne (b : Int → Int) (n : Int) (Z : Int → Int → Int × List gC) (i u : Int) : Int × List gC :=
  if (gSum b n i u).1 ≠ 0 then ((gSum b n i u).1, [])
  else if rW b n (rSk b n (gSum b n i u).2.1) = [102, 105] then
    (if (gTs b n (gFc b n 10) (rPw b n (rSk b n (gSum b n i u).2.1)) (gSum b n i u).2.2.1).1 ≠ 0 then ((gTs b n (gFc b n 10) (rPw b n (rSk b n (gSum b n i u).2.1)) (gSum b n i u).2.2.1).1, [])
    else gEn b n Z ((gSum b n i u).2.2.2, some (gTs b n (gFc b n 10) (rPw b n (rSk b n (gSum b n i u).2.1)) (gSum b n i u).2.2.1).2.2.2) (gTs b n (gFc b n 10) (rPw b n (rSk b n (gSum b n i u).2.1)) (gSum b n i u).2.2.1).2.1 (gTs b n (gFc b n 10) (rPw b n (rSk b n (gSum b n i u).2.1)) (gSum b n i u).2.2.1).2.2.1)
  else gEn b n Z ((gSum b n i u).2.2.2, none) (rSk b n (gSum b n i u).2.1) (gSum b n i u).2.2.1
def gRl (b : Int → Int) (n : Int) : Nat → Int → Int → Int → Int × List gC
  | 0, _, _, _ => (0, [])
  | k + 1, c, i, u =>
    if rW b n (rSk b n i) ≠ [111, 103] then (1 + 8 * rSk b n i, [])
    else if c = 12 then (1 + 8 * rSk b n i + 4, [])
    else gOne b n (fun i' u' => gRl b n k (c + 1) i' u') (rPw b n (rSk b n i)) u
def gCode : List gC → List (Int × Int)
  | [] => []
  | cl :: l => (match cl.2 with
    | none => cl.1 ++ [(8, 0)]
    | some B => cl.1 ++ B ++ [(9, 0)]) ++ gCode l
def cRO (b : Int → Int) (n r : Int) (L : List (Int × Int)) (R : Int × List gC) (m : jMem) (X : jR) : Prop := (R.1 = 0 → ∃ m' i u, X = some (vI 1, m') ∧ cQ b n r i u (L ++ gCode R.2) m' ∧ ((L ++ gCode R.2).length : Int) ≤ 400 ∧ puR (aU r) m m') ∧ (R.1 ≠ 0 → ∃ m', X = some (vI 0, m') ∧ jrI m' 8 0 3 = R.1 ∧ puR (aU r) m m')
theorem cRO_p {b : Int → Int} {n r : Int} {L : List (Int × Int)} {R : Int × List gC} {m m1 : jMem} {X : jR} (h : puR (aU r) m m1) (hx : cRO b n r L R m1 X) : cRO b n r L R m X := ⟨fun w => by obtain ⟨m2, i, u, c1, c2, c3, c4⟩ := hx.1 w; exact ⟨m2, i, u, c1, c2, c3, puR_tr h c4⟩, fun w => by obtain ⟨m2, c1, c2, c3⟩ := hx.2 w; exact ⟨m2, c1, c2, puR_tr h c3⟩⟩
theorem cRO_f {b : Int → Int} {n r F : Int} {L : List (Int × Int)} {l : List gC} {m m1 : jMem} (hF : F ≠ 0) (h : jrI m1 8 0 3 = F) (hf : puR (aU r) m m1) : cRO b n r L (F, l) m (some (vI 0, m1)) := ⟨fun w => absurd w hF, fun _ => ⟨m1, rfl, h, hf⟩⟩
theorem c_en (d : Nat) {b : Int → Int} {n r c s1 : Int} {Z : Int → Int → Int × List gC} (hs1 : s1 = 8 ∨ s1 = 9) (cl : gC) (hcl : ∀ l, gCode (cl :: l) = (match cl.2 with
    | none => cl.1
    | some B => cl.1 ++ B) ++ [(s1, 0)] ++ gCode l) (hc : 0 ≤ c ∧ c < 12) {i u : Int} {L A : List (Int × Int)} {m : jMem} (hA : A = (match cl.2 with
    | none => cl.1
    | some B => cl.1 ++ B)) (h : cQ b n r i u (L ++ A) m) (hl : ((L ++ A).length : Int) + 1 ≤ i) (hu : 0 ≤ u ∧ u ≤ 60) (hZ : ∀ i u L m, cQ b n r i u L m → (L.length : Int) ≤ i → 0 ≤ u → u ≤ 60 → cRO b n r L (Z i u) m (Ru_read_21 (d + 3) r (c + 1) m)) : cRO b n r L (gEn b n Z cl i u) m (Ru_read_115 (d + 3) r c (some r) s1 m) := by
  have h5 := h.1.2.2.2.2
  have em : jSem (d + 3) 38 [vR 5 (some r), vI s1, vI 0] m = Ru_emit (d + 3) r s1 0 m := rfl
  obtain ⟨m1, a1, a2, a3⟩ := c_emit (d + 2) s1 0 h (by omega) (fun _ q => absurd (show s1 = 7 from q) (by omega))
  obtain ⟨m2, b1, b2, b3⟩ := c_over (d + 1) a2.1
  have q2 := cQ_mv a2 b3 b2
  have hs := rSk_in (b := b) h5.1 h5.2.1
  have fr2 : puR (aU r) m m2 := puR_tr a3 (aC_U r b3)
  have hlen : ((L ++ A ++ [(s1, (0 : Int))]).length : Int) = ((L ++ A).length : Int) + 1 := by
    rw [List.length_append (as := L ++ A), show [(s1, (0 : Int))].length = 1 from rfl]
    omega
  unfold gEn
  rw [q_Ru_read_115, jsm_s, em, a1]
  simp only [jbnd_s]
  rw [b1]
  simp only [jbnd_s, jasI_v]
  by_cases ov : rCh b n (rSk b n i) = -1
  · rw [if_pos ov, jb_1 ov, if_neg (show ¬ (1 : Int) = 0 by decide)]
    have e : L ++ gCode [cl] = L ++ A ++ [(s1, 0)] := by
      rw [hcl [], ← hA, show gCode [] = [] from rfl, List.append_nil, List.append_assoc]
    refine ⟨fun _ => ⟨m2, rSk b n i, u, rfl, ?_, ?_, fr2⟩, fun w => absurd rfl w⟩
    · show cQ b n r (rSk b n i) u (L ++ gCode [cl]) m2
      rw [e]
      exact q2
    · show ((L ++ gCode [cl]).length : Int) ≤ 400
      rw [e, hlen]
      omega
  · rw [if_neg ov, jb_n ov]
    first | rw [if_pos (show (0 : Int) = 0 from rfl)] | rw [if_pos trivial]
    by_cases se : rCh b n (rSk b n i) = 59
    · obtain ⟨t1, t2⟩ := (c_took (d + 1) 59 b2 (by decide)).1 se
      rw [if_pos se, t1]
      simp only [jbnd_s, jasI_v]
      rw [if_neg (show ¬ (1 : Int) = 0 by decide), jw32_id (x := c + 1) (by omega) (by omega)]
      have q3 : cQ b n r (rSk b n i + 1) u (L ++ A ++ [(s1, 0)]) (jwI m2 8 0 2 (rSk b n i + 1)) := cQ_mv q2 (puR_w (puR_rf _ m2) ⟨rfl, rfl, Or.inl rfl⟩) t2
      obtain ⟨y1, y2⟩ := hZ _ _ _ _ q3 (by rw [hlen]; omega) hu.1 hu.2
      generalize Z (rSk b n i + 1) u = R at *
      have e : L ++ gCode (cl :: R.2) = L ++ A ++ [(s1, 0)] ++ gCode R.2 := by
        rw [hcl R.2, ← hA]
        simp only [List.append_assoc]
      refine cRO_p (puR_w fr2 (Or.inl ⟨rfl, rfl, Or.inl rfl⟩)) ⟨fun w => ?_, y2⟩
      obtain ⟨m5, i5, u5, p1, p2, p3, p4⟩ := y1 w
      refine ⟨m5, i5, u5, p1, ?_, ?_, p4⟩
      · show cQ b n r i5 u5 (L ++ gCode (cl :: R.2)) m5
        rw [e]
        exact p2
      · show ((L ++ gCode (cl :: R.2)).length : Int) ≤ 400
        rw [e]
        exact p3
    · rw [if_neg se, c_tookN (d + 1) 59 b2 (by decide) se]
      simp only [jbnd_s, jasI_v]
      first | rw [if_pos (show (0 : Int) = 0 from rfl)] | rw [if_pos trivial]
      rw [c_blame (d + 2) 0 b2 (by decide)]
      exact cRO_f (by omega) (by rw [jrI_ws]; omega) (puR_w fr2 (Or.inl ⟨rfl, rfl, Or.inr rfl⟩))
theorem c_rl (d : Nat) {b : Int → Int} {n r : Int} : ∀ (k : Nat) (c i u : Int) (L : List (Int × Int)) (m : jMem), (k : Int) + c = 13 → 0 ≤ c → 1 ≤ k → cQ b n r i u L m → (L.length : Int) ≤ i → 0 ≤ u → u ≤ 60 → cRO b n r L (gRl b n k c i u) m (Ru_read_21 (d + 38) r c m) := by
  intro k
  induction k with
  | zero => intro c i u L m _ _ h; omega
  | succ k ih =>
    intro c i u L m hk c0 _ h hl u0 u1
    have h5 := h.1.2.2.2.2
    obtain ⟨m1, a1, a2, a3⟩ := c_skip (d + 37) h.1
    have q1 := cQ_mv h a3 a2
    have hs := rSk_in (b := b) h5.1 h5.2.1
    have hf : Ta_find (d + 38) 1 m1 = some (vI (if rW b n (rSk b n i) = [111, 103] then 0 else -1), m1) := c_find (d + 36) 1 [[103, 111]] a2 rfl (by decide) (by decide) (by decide)
    unfold gRl
    rw [q_Ru_read_21, if_neg (show ¬ 12 < c by omega), a1]
    simp only [jbnd_s]
    rw [hf]
    simp only [jbnd_s, jasI_v]
    by_cases e1 : rW b n (rSk b n i) = [111, 103]
    · rw [if_pos e1, if_neg (show ¬ (0 : Int) = -1 by decide), if_neg (show ¬ (rW b n (rSk b n i) ≠ [111, 103]) from fun w => w e1)]
      by_cases c12 : c = 12
      · rw [if_pos c12, if_pos c12, c_blame (d + 37) 4 a2 (by decide)]
        exact cRO_f (by omega) (by rw [jrI_ws]) (puR_w (aC_U r a3) (Or.inl ⟨rfl, rfl, Or.inr rfl⟩))
      rw [if_neg c12, if_neg c12]
      have hp := rW_ne (b := b) (by omega) hs.2 (by decide) e1
      have hp2 := (rPw_in (b := b) (n := n) (i := rSk b n i) (by omega) hs.2).2
      obtain ⟨m2, b1, b2, b3⟩ := c_pass (d + 37) a2
      have q2 := cQ_mv q1 b3 b2
      have fr2 : puR (aU r) m m2 := puR_tr (aC_U r a3) (aC_U r b3)
      rw [b1]
      simp only [jbnd_s]
      have hg := gSum_g (b := b) (n := n) (i := rPw b n (rSk b n i)) (u := u) (by omega) hp2
      obtain ⟨v1, v2⟩ := c_sum (d + 34) q2 (by omega) ⟨u0, u1⟩
      unfold gOne
      generalize rPw b n (rSk b n i) = p at *
      generalize gSum b n p u = V at *
      have hZ : ∀ i u L m, cQ b n r i u L m → (L.length : Int) ≤ i → 0 ≤ u → u ≤ 60 → cRO b n r L (gRl b n k (c + 1) i u) m (Ru_read_21 (d + 35 + 3) r (c + 1) m) := fun i u L m h hl u0 u1 => ih (c + 1) i u L m (by omega) (by omega) (by omega) h hl u0 u1
      by_cases z : V.1 = 0
      · obtain ⟨m3, w1, w2, w3⟩ := v1 z
        obtain ⟨⟨g1, g2⟩, ⟨g3, g4⟩, -⟩ := hg z
        have h5' := w2.1.2.2.2.2
        have hs2 := rSk_in (b := b) h5'.1 h5'.2.1
        rw [w1, if_neg (show ¬ (V.1 ≠ 0) from fun w => w z)]
        simp only [jbnd_s, jasI_v]
        rw [if_neg (show ¬ (1 : Int) = 0 by decide)]
        obtain ⟨t1, t2⟩ := c_tookW (d + 35) 3 [105, 102] w2.1 rfl (by decide) (by decide)
        by_cases e2 : rW b n (rSk b n V.2.1) = [102, 105]
        · obtain ⟨m4, x1, x2, x3⟩ := t1 e2
          have hp3 := rW_ne (b := b) (by omega) hs2.2 (by decide) e2
          have hp4 := (rPw_in (b := b) (n := n) (i := rSk b n V.2.1) (by omega) hs2.2).2
          have q4 := cQ_mv w2 x3 x2
          rw [x1, if_pos e2]
          simp only [jbnd_s, jasI_v]
          rw [if_neg (show ¬ (1 : Int) = 0 by decide)]
          have hG : ∀ i u L m, cQ b n r i u L m → (L.length : Int) ≤ i → 0 ≤ u → u ≤ 60 → cOut b n r L (gFc b n 10 i u) m (Ru_readFact (d + 33 + 3) r 0 m) := fun i u L m h hl u0 u1 => c_fact 10 (by decide) d i u L m h hl u0 u1
          have hg2 := gTs_g (b := b) (gFc_g (b := b) (n := n) 10) (rPw b n (rSk b n V.2.1)) V.2.2.1 (by omega) hp4
          obtain ⟨y1, y2⟩ := c_test (d + 33) (gFc_g (b := b) (n := n) 10) hG q4 (by rw [List.length_append]; omega) ⟨by omega, g4⟩
          generalize rPw b n (rSk b n V.2.1) = p2 at *
          generalize gTs b n (gFc b n 10) p2 V.2.2.1 = Y at *
          have fr4 : puR (aU r) m m4 := puR_tr fr2 (puR_tr w3 (aC_U r x3))
          by_cases z2 : Y.1 = 0
          · obtain ⟨m5, j1, j2, j3⟩ := y1 z2
            obtain ⟨⟨g5, g6⟩, ⟨g7, g8⟩, -⟩ := hg2 z2
            rw [j1, if_neg (show ¬ (Y.1 ≠ 0) from fun w => w z2)]
            simp only [jbnd_s, jasI_v]
            rw [if_neg (show ¬ (1 : Int) = 0 by decide)]
            rw [List.append_assoc] at j2
            exact cRO_p (puR_tr fr4 j3) (c_en (d + 35) (s1 := 9) (Or.inr rfl) (V.2.2.2, some Y.2.2.2) (fun l => rfl) ⟨c0, by omega⟩ (A := V.2.2.2 ++ Y.2.2.2) rfl j2 (by rw [List.length_append, List.length_append]; omega) ⟨by omega, g8⟩ hZ)
          · obtain ⟨m5, j1, j2, j3⟩ := y2 z2
            rw [j1, if_pos z2]
            simp only [jbnd_s, jasI_v]
            first | rw [if_pos (show (0 : Int) = 0 from rfl)] | rw [if_pos trivial]
            exact cRO_f z2 j2.1 (puR_tr fr4 j3)
        · obtain ⟨m4, x1, x2, x3⟩ := t2 e2
          have q4 := cQ_mv w2 x3 x2
          have fr4 : puR (aU r) m m4 := puR_tr fr2 (puR_tr w3 (aC_U r x3))
          rw [x1, if_neg e2]
          simp only [jbnd_s, jasI_v]
          first | rw [if_pos (show (0 : Int) = 0 from rfl)] | rw [if_pos trivial] | skip
          first | rw [if_pos (show (0 : Int) = 0 from rfl)] | rw [if_pos trivial] | skip
          exact cRO_p fr4 (c_en (d + 35) (s1 := 8) (Or.inl rfl) (V.2.2.2, none) (fun l => rfl) ⟨c0, by omega⟩ (A := V.2.2.2) rfl q4 (by rw [List.length_append]; omega) ⟨by omega, g4⟩ hZ)
      · obtain ⟨m3, w1, w2, w3⟩ := v2 z
        rw [w1, if_pos z]
        simp only [jbnd_s, jasI_v]
        first | rw [if_pos (show (0 : Int) = 0 from rfl)] | rw [if_pos trivial]
        exact cRO_f z w2.1 (puR_tr fr2 w3)
    · rw [if_neg e1, if_pos e1]
      first | rw [if_pos (show (-1 : Int) = -1 from rfl)] | rw [if_pos trivial]
      rw [c_blame (d + 37) 0 a2 (by decide)]
      exact cRO_f (by omega) (by rw [jrI_ws]; omega) (puR_w (aC_U r a3) (Or.inl ⟨rfl, rfl, Or.inr rfl⟩))
