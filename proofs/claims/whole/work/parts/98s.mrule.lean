/-! The reference reads a rule -/
def gO (b : Int → Int) (n p u : Int) : Int × (Int × (Int × gC)) :=
  if (gSum b n p u).1 ≠ 0 then ((gSum b n p u).1, 0, 0, ([], none))
  else if rW b n (rSk b n (gSum b n p u).2.1) = [102, 105] then
    (if (gTs b n (gFc b n 10) (rPw b n (rSk b n (gSum b n p u).2.1)) (gSum b n p u).2.2.1).1 ≠ 0 then ((gTs b n (gFc b n 10) (rPw b n (rSk b n (gSum b n p u).2.1)) (gSum b n p u).2.2.1).1, 0, 0, ([], none))
    else (0, (gTs b n (gFc b n 10) (rPw b n (rSk b n (gSum b n p u).2.1)) (gSum b n p u).2.2.1).2.1, (gTs b n (gFc b n 10) (rPw b n (rSk b n (gSum b n p u).2.1)) (gSum b n p u).2.2.1).2.2.1, ((gSum b n p u).2.2.2, some (gTs b n (gFc b n 10) (rPw b n (rSk b n (gSum b n p u).2.1)) (gSum b n p u).2.2.1).2.2.2)))
  else (0, rSk b n (gSum b n p u).2.1, (gSum b n p u).2.2.1, ((gSum b n p u).2.2.2, none))
theorem gOne_eq (b : Int → Int) (n : Int) (Z : Int → Int → Int × List gC) (p u : Int) : gOne b n Z p u = if (gO b n p u).1 ≠ 0 then ((gO b n p u).1, []) else gEn b n Z (gO b n p u).2.2.2 (gO b n p u).2.1 (gO b n p u).2.2.1 := by
  unfold gOne gO
  by_cases h1 : (gSum b n p u).1 ≠ 0
  · rw [if_pos h1, if_pos h1, if_pos h1]
  rw [if_neg h1, if_neg h1]
  by_cases h2 : rW b n (rSk b n (gSum b n p u).2.1) = [102, 105]
  · rw [if_pos h2, if_pos h2]
    by_cases h3 : (gTs b n (gFc b n 10) (rPw b n (rSk b n (gSum b n p u).2.1)) (gSum b n p u).2.2.1).1 ≠ 0
    · rw [if_pos h3, if_pos h3, if_pos h3]
    · rw [if_neg h3, if_neg h3, if_neg (fun w => w rfl)]
  · rw [if_neg h2, if_neg h2, if_neg (fun w => w rfl)]
def tokC (cl : gC) : List (Int × Int) := match cl.2 with
  | none => cl.1
  | some B => cl.1 ++ B
theorem gO_g {b : Int → Int} {n p u : Int} (h0 : 0 ≤ p) (h1 : p ≤ n) (hu : 0 ≤ u ∧ u ≤ 60) (hz : (gO b n p u).1 = 0) : ((gO b n p u).2.1 ≤ n ∧ ((tokC (gO b n p u).2.2.2).length : Int) + p ≤ (gO b n p u).2.1) ∧ (0 ≤ (gO b n p u).2.2.1 ∧ (gO b n p u).2.2.1 ≤ 60) ∧ gdC (gO b n p u).2.2.2 := by
  have hg := gSum_g (b := b) (n := n) (i := p) (u := u) h0 h1
  unfold gO at hz ⊢
  generalize gSum b n p u = V at *
  by_cases c1 : V.1 ≠ 0
  · rw [if_pos c1] at hz
    exact absurd hz c1
  rw [if_neg c1] at hz ⊢
  have z1 : V.1 = 0 := Decidable.of_not_not c1
  obtain ⟨⟨v1, v2⟩, ⟨v3, v4⟩, v5⟩ := hg z1
  have hs := rSk_in (b := b) (n := n) (i := V.2.1) (by omega) v1
  by_cases c2 : rW b n (rSk b n V.2.1) = [102, 105]
  · have hp := rW_ne (b := b) (by omega) hs.2 (by decide) c2
    have hp2 := (rPw_in (b := b) (n := n) (i := rSk b n V.2.1) (by omega) hs.2).2
    have hg2 := gTs_g (b := b) (gFc_g (b := b) (n := n) 10) (rPw b n (rSk b n V.2.1)) V.2.2.1 (by omega) hp2
    rw [if_pos c2] at hz ⊢
    generalize gTs b n (gFc b n 10) (rPw b n (rSk b n V.2.1)) V.2.2.1 = Y at *
    by_cases c3 : Y.1 ≠ 0
    · rw [if_pos c3] at hz
      exact absurd hz c3
    rw [if_neg c3]
    obtain ⟨⟨y1, y2⟩, ⟨y3, y4⟩, y5⟩ := hg2 (Decidable.of_not_not c3)
    refine ⟨⟨y1, ?_⟩, ⟨by show 0 ≤ Y.2.2.1; omega, y4⟩, ⟨V.2.2.1 - u, by omega, v5⟩, fun B hB => ?_⟩
    · show ((V.2.2.2 ++ Y.2.2.2).length : Int) + p ≤ Y.2.1
      rw [List.length_append]
      omega
    · have e : Y.2.2.2 = B := Option.some.inj hB
      rw [← e]
      exact ⟨Y.2.2.1 - V.2.2.1, by omega, y5⟩
  · rw [if_neg c2]
    refine ⟨⟨hs.2, ?_⟩, ⟨by show 0 ≤ V.2.2.1; omega, v4⟩, ⟨V.2.2.1 - u, by omega, v5⟩, fun B hB => by cases hB⟩
    show (V.2.2.2.length : Int) + p ≤ rSk b n V.2.1
    omega
def aZ0 (r c : Int) (f : Nat) (i k : Int) : Prop := i = 0 ∧ ((f = 11 ∧ (k = 8 ∨ k = 9 ∨ k = 10 ∨ k = 12 ∨ k = 13 ∨ k = 16)) ∨ (f = 47 ∧ 400 * r ≤ k) ∨ f = 48 ∨ f = 52 ∨ (f = 49 ∧ 48 * r + 4 * c ≤ k) ∨ (f = 50 ∧ k = r))
theorem aW_0 (r c : Int) {m m' : jMem} (h : puR (aW r) m m') : puR (aZ0 r c) m m' := puR_mono h (fun f i k w => by unfold aW at w; unfold aZ0; omega)
theorem aM_0 (r c : Int) {m m' : jMem} (h : puR aM m m') : puR (aZ0 r c) m m' := aW_0 r c (aM_W r h)
theorem aS_0 (r c : Int) {m m' : jMem} (h : puR (aS r) m m') : puR (aZ0 r c) m m' := aW_0 r c (aS_W r h)
theorem mQ_w (f : Nat) (k v : Int) (hf : f = 49 ∨ f = 50 ∨ (f = 11 ∧ k = 14)) {b : Int → Int} {n r i u : Int} {L : List (Int × Int)} {m : jMem} (h : mQ b n r i u L m) : mQ b n r i u L (jwI m f 0 k v) := by
  obtain ⟨h1, h2, h3, h4, h5, h6⟩ := h
  have e47 : jrI (jwI m f 0 k v) 47 0 = jrI m 47 0 := funext fun j => by rw [jrI_w, if_neg (by omega)]
  refine ⟨rM_fr (fun g q w => by rw [jrI_w, if_neg (by omega)]) h1, by rw [jrI_w, if_neg (by omega)]; exact h2, by rw [jrI_w, if_neg (by omega)]; exact h3, by rw [e47]; exact h4, by rw [jrI_w, if_neg (by omega)]; exact h5, h6⟩
theorem m_takesW (d : Nat) (cs : List Int) (hc0 : cs ≠ []) (hc7 : cs.length < 8) (hcl : ∀ c ∈ cs, 97 ≤ c ∧ c ≤ 122) {y : Int} (hy : y = pkR cs) {b : Int → Int} {n i : Int} {m : jMem} (h : rM b n i m) : (rW b n (rSk b n i) = cs → ∃ m', M_takesWord (d + 3) y m = some (vI 1, m') ∧ rM b n (rPw b n (rSk b n i)) m' ∧ puR aM m m') ∧ (rW b n (rSk b n i) ≠ cs → ∃ m', M_takesWord (d + 3) y m = some (vI 0, m') ∧ rM b n (rSk b n i) m' ∧ puR aM m m') := by
  obtain ⟨m1, a1, a2, a3⟩ := m_isWord d cs hc0 hc7 hcl hy h
  rw [q_M_takesWord, a1]
  simp only [jbnd_s, jasI_v]
  refine ⟨fun e => ?_, fun e => ?_⟩
  · obtain ⟨m2, b1, b2, b3⟩ := m_pass d a2
    rw [jb_1 e, if_neg (by decide), b1]
    exact ⟨m2, rfl, b2, puR_tr a3 b3⟩
  · rw [jb_n e]
    first | rw [if_pos (show (0 : Int) = 0 from rfl)] | rw [if_pos trivial]
    exact ⟨m1, rfl, a2, a3⟩
theorem m_go (d : Nat) {b : Int → Int} {n r s u c : Int} {L : List (Int × Int)} {m : jMem} (hby : ∀ j, 0 ≤ j → j < n → -128 ≤ b j ∧ b j ≤ 127) (h : mQ b n r s u L m) (hl : (L.length : Int) ≤ s) (hu : 0 ≤ u ∧ u ≤ 60) (hc : jrI m 50 0 r = c) (c0 : 0 ≤ c ∧ c < 12) : ((gO b n (rPw b n s) u).1 = 0 → ∃ m', M_isGoHere (d + 10) m = some (vI 1, m') ∧ mQ b n r (rSk b n (gO b n (rPw b n s) u).2.1) (gO b n (rPw b n s) u).2.2.1 (L ++ tokC (gO b n (rPw b n s) u).2.2.2) m' ∧ onK (fun j => jrI m' 49 0 (48 * r + j)) [(gO b n (rPw b n s) u).2.2.2] c (L.length : Int) ∧ jrI m' 50 0 r = c + 1 ∧ puR (aZ0 r c) m m') ∧ ((gO b n (rPw b n s) u).1 ≠ 0 → ∃ m', M_isGoHere (d + 10) m = some (vI 0, m') ∧ jrI m' 11 0 9 = (gO b n (rPw b n s) u).1 ∧ puR (aZ0 r c) m m') := by
  have h5 := h.1.2.2.2.2
  have hpw := rPw_in (b := b) h5.1 h5.2.1
  obtain ⟨m1, a1, a2, a3⟩ := m_pass (d + 7) h.1
  have q1 := mQ_mv h a3 a2
  obtain ⟨g1, g2, g3, g4, g5, g6⟩ := id q1
  have e50 : jrI m1 50 0 r = c := by rw [a3 50 0 r (by unfold aM; omega)]; exact hc
  have q2 := mQ_w 49 (48 * r + 4 * c) (L.length : Int) (Or.inl rfl) q1
  have f2 : puR (aZ0 r c) m (jwI m1 49 0 (48 * r + 4 * c) (L.length : Int)) := puR_w (aM_0 r c a3) (by unfold aZ0; omega)
  obtain ⟨v1, v2⟩ := m_sum (d + 3) hby q2 (by omega) hu
  have hg := gSum_g (b := b) (n := n) (i := rPw b n s) (u := u) (by omega) hpw.2
  rw [q_M_isGoHere, a1]
  simp only [jbnd_s]
  rw [g2, jix_in (by omega) (by omega), jix_in (by omega) (by omega), e50, jw32_id (x := 48 * r) (by omega) (by omega), jw32_id (x := 4 * c) (by omega) (by omega), jw32_id (x := 48 * r + 4 * c) (by omega) (by omega), jix_in (by omega) (by omega), g3]
  unfold gO
  generalize rPw b n s = p at *
  generalize gSum b n p u = V at *
  by_cases z : V.1 = 0
  · obtain ⟨m3, b1, b2, b3⟩ := v1 z
    obtain ⟨⟨y1, y2⟩, ⟨y3, y4⟩, -⟩ := hg z
    obtain ⟨k1, k2, k3, k4, k5, k6⟩ := id b2
    rw [if_neg (show ¬ (V.1 ≠ 0) from fun w => w z), b1]
    simp only [jbnd_s, jasI_v]
    rw [if_neg (show ¬ (1 : Int) = 0 by decide), k2, jix_in (by omega) (by omega), jw32_id (x := 48 * r + 4 * c + 1) (by omega) (by omega), jw32_id (x := 48 * r + 4 * c + 2) (by omega) (by omega), jix_in (by omega) (by omega), jix_in (by omega) (by omega), k3]
    have lenA : ((L ++ V.2.2.2).length : Int) = (L.length : Int) + (V.2.2.2.length : Int) := by
      rw [List.length_append]; omega
    rw [lenA]
    have e49 : jrI m3 49 0 (48 * r + 4 * c) = (L.length : Int) := by rw [b3 49 0 _ (by unfold aS; omega), jrI_ws]
    have e50' : jrI m3 50 0 r = c := by rw [b3 50 0 r (by unfold aS; omega), jrI_wf (by decide)]; exact e50
    generalize hm4 : jwI (jwI m3 49 0 (48 * r + 4 * c + 1) ((L.length : Int) + (V.2.2.2.length : Int))) 49 0 (48 * r + 4 * c + 2) (-1) = m4
    have q4 : mQ b n r V.2.1 V.2.2.1 (L ++ V.2.2.2) m4 := by
      rw [← hm4]
      exact mQ_w 49 _ _ (Or.inl rfl) (mQ_w 49 _ _ (Or.inl rfl) b2)
    have f4 : puR (aZ0 r c) m m4 := by
      rw [← hm4]
      exact puR_w (puR_w (puR_tr f2 (aS_0 r c b3)) (by unfold aZ0; omega)) (by unfold aZ0; omega)
    have r0 : jrI m4 49 0 (48 * r + 4 * c) = (L.length : Int) := by rw [← hm4, jrI_wk (by omega), jrI_wk (by omega)]; exact e49
    have r1 : jrI m4 49 0 (48 * r + 4 * c + 1) = (L.length : Int) + (V.2.2.2.length : Int) := by rw [← hm4, jrI_wk (by omega), jrI_ws]
    have r2 : jrI m4 49 0 (48 * r + 4 * c + 2) = -1 := by rw [← hm4, jrI_ws]
    have r5 : jrI m4 50 0 r = c := by rw [← hm4, jrI_wf (by decide), jrI_wf (by decide)]; exact e50'
    have h54 := q4.1.2.2.2.2
    have hs := rSk_in (b := b) h54.1 h54.2.1
    obtain ⟨t1, t2⟩ := m_takesW (d + 6) [102, 105] (by decide) (by decide) (by decide) (y := 26982) rfl q4.1
    -- the end of a clause
    have fin : ∀ (mm : jMem) (i' u' : Int) (L' : List (Int × Int)), mQ b n r i' u' L' mm → jrI mm 50 0 r = c → M_isGoHere_110 (d + 9) (48 * r + 4 * c) mm = some (vI 1, jwI (jwI mm 49 0 (48 * r + 4 * c + 3) (L'.length : Int)) 50 0 r (c + 1)) := by
      intro mm i' u' L' hq h50
      obtain ⟨j1, j2, j3, j4, j5, j6⟩ := hq
      rw [q_M_isGoHere_110, j2, jix_in (by omega) (by omega), jw32_id (x := 48 * r + 4 * c + 3) (by omega) (by omega), jix_in (by omega) (by omega), jix_in (by omega) (by omega), jix_in (by omega) (by omega), h50, jw32_id (x := c + 1) (by omega) (by omega), j3]
    by_cases e : rW b n (rSk b n V.2.1) = [102, 105]
    · obtain ⟨m5, x1, x2, x3⟩ := t1 e
      have hp := rW_ne (b := b) (by omega) hs.2 (by decide) e
      have hp2 := (rPw_in (b := b) (n := n) (i := rSk b n V.2.1) (by omega) hs.2).2
      have q5 := mQ_mv q4 x3 x2
      obtain ⟨j1, j2, j3, j4, j5, j6⟩ := id q5
      have rr : ∀ k, jrI m5 49 0 k = jrI m4 49 0 k := fun k => x3 49 0 k (by unfold aM; omega)
      rw [if_pos e, x1]
      simp only [jbnd_s, jasI_v]
      rw [if_neg (show ¬ (1 : Int) = 0 by decide), j2, jix_in (by omega) (by omega), jix_in (by omega) (by omega), j3, lenA]
      generalize hm6 : jwI m5 49 0 (48 * r + 4 * c + 2) ((L.length : Int) + (V.2.2.2.length : Int)) = m6
      have q6 : mQ b n r (rPw b n (rSk b n V.2.1)) V.2.2.1 (L ++ V.2.2.2) m6 := by
        rw [← hm6]
        exact mQ_w 49 _ _ (Or.inl rfl) q5
      have f6 : puR (aZ0 r c) m m6 := by
        rw [← hm6]
        exact puR_w (puR_tr f4 (aM_0 r c x3)) (by unfold aZ0; omega)
      have s0 : jrI m6 49 0 (48 * r + 4 * c) = (L.length : Int) := by rw [← hm6, jrI_wk (by omega), rr]; exact r0
      have s1 : jrI m6 49 0 (48 * r + 4 * c + 1) = (L.length : Int) + (V.2.2.2.length : Int) := by rw [← hm6, jrI_wk (by omega), rr]; exact r1
      have s2 : jrI m6 49 0 (48 * r + 4 * c + 2) = (L.length : Int) + (V.2.2.2.length : Int) := by rw [← hm6, jrI_ws]
      have s5 : jrI m6 50 0 r = c := by rw [← hm6, jrI_wf (by decide), x3 50 0 r (by unfold aM; omega)]; exact r5
      obtain ⟨w1, w2⟩ := m_tested d hby q6 (by rw [lenA]; omega) ⟨by omega, y4⟩
      generalize gTs b n (gFc b n 10) (rPw b n (rSk b n V.2.1)) V.2.2.1 = Y at *
      by_cases z2 : Y.1 = 0
      · obtain ⟨m7, p1, p2, p3⟩ := w1 z2
        have tt : ∀ k, jrI m7 49 0 k = jrI m6 49 0 k := fun k => p3 49 0 k (by unfold aW; omega)
        have t5 : jrI m7 50 0 r = c := by rw [p3 50 0 r (by unfold aW; omega)]; exact s5
        have lenB : ((L ++ V.2.2.2 ++ Y.2.2.2).length : Int) = (L.length : Int) + (V.2.2.2.length : Int) + (Y.2.2.2.length : Int) := by
          rw [List.length_append, List.length_append]; omega
        rw [if_neg (show ¬ (Y.1 ≠ 0) from fun w => w z2), p1]
        simp only [jbnd_s, jasI_v]
        rw [if_neg (show ¬ (1 : Int) = 0 by decide), fin m7 _ _ _ p2 t5, lenB]
        refine ⟨fun _ => ⟨_, rfl, ?_, ?_, jrI_ws _ _ _ _ _, ?_⟩, fun w => absurd rfl w⟩
        · rw [List.append_assoc] at p2
          exact mQ_w 50 _ _ (Or.inr (Or.inl rfl)) (mQ_w 49 _ _ (Or.inl rfl) p2)
        · refine ⟨⟨?_, ?_, ?_, ?_⟩, trivial⟩
          · show jrI _ 49 0 (48 * r + 4 * c) = _
            rw [jrI_wf (by decide), jrI_wk (by omega), tt]; exact s0
          · show jrI _ 49 0 (48 * r + (4 * c + 1)) = _
            rw [show 48 * r + (4 * c + 1) = 48 * r + 4 * c + 1 by omega, jrI_wf (by decide), jrI_wk (by omega), tt]; exact s1
          · show jrI _ 49 0 (48 * r + (4 * c + 2)) = _
            rw [show 48 * r + (4 * c + 2) = 48 * r + 4 * c + 2 by omega, jrI_wf (by decide), jrI_wk (by omega), tt]; exact s2
          · show jrI _ 49 0 (48 * r + (4 * c + 3)) = _
            rw [show 48 * r + (4 * c + 3) = 48 * r + 4 * c + 3 by omega, jrI_wf (by decide), jrI_ws]
        · exact puR_w (puR_w (puR_tr f6 (aW_0 r c p3)) (by unfold aZ0; omega)) (by unfold aZ0; omega)
      · obtain ⟨m7, p1, p2, p3⟩ := w2 z2
        rw [if_pos z2, p1]
        simp only [jbnd_s, jasI_v]
        first | rw [if_pos (show (0 : Int) = 0 from rfl)] | rw [if_pos trivial]
        exact ⟨fun w => absurd w z2, fun _ => ⟨m7, rfl, p2, puR_tr f6 (aW_0 r c p3)⟩⟩
    · obtain ⟨m5, x1, x2, x3⟩ := t2 e
      have q5 := mQ_mv q4 x3 x2
      have rr : ∀ k, jrI m5 49 0 k = jrI m4 49 0 k := fun k => x3 49 0 k (by unfold aM; omega)
      have s5 : jrI m5 50 0 r = c := by rw [x3 50 0 r (by unfold aM; omega)]; exact r5
      have hid : rSk b n (rSk b n V.2.1) = rSk b n V.2.1 := rSk_id (by omega) y1
      rw [if_neg e, x1]
      simp only [jbnd_s, jasI_v]
      first | rw [if_pos (show (0 : Int) = 0 from rfl)] | rw [if_pos trivial]
      rw [fin m5 _ _ _ q5 s5, lenA]
      refine ⟨fun _ => ⟨_, rfl, ?_, ?_, jrI_ws _ _ _ _ _, ?_⟩, fun w => absurd rfl w⟩
      · show mQ b n r (rSk b n (rSk b n V.2.1)) V.2.2.1 (L ++ V.2.2.2) _
        rw [hid]
        exact mQ_w 50 _ _ (Or.inr (Or.inl rfl)) (mQ_w 49 _ _ (Or.inl rfl) q5)
      · refine ⟨⟨?_, ?_, ?_⟩, trivial⟩
        · show jrI _ 49 0 (48 * r + 4 * c) = _
          rw [jrI_wf (by decide), jrI_wk (by omega), rr]; exact r0
        · show jrI _ 49 0 (48 * r + (4 * c + 1)) = _
          rw [show 48 * r + (4 * c + 1) = 48 * r + 4 * c + 1 by omega, jrI_wf (by decide), jrI_wk (by omega), rr]; exact r1
        · show jrI _ 49 0 (48 * r + (4 * c + 2)) = _
          rw [show 48 * r + (4 * c + 2) = 48 * r + 4 * c + 2 by omega, jrI_wf (by decide), jrI_wk (by omega), rr]; exact r2
      · exact puR_w (puR_w (puR_tr f4 (aM_0 r c x3)) (by unfold aZ0; omega)) (by unfold aZ0; omega)
  · obtain ⟨m3, b1, b2, b3⟩ := v2 z
    rw [if_pos z, b1]
    simp only [jbnd_s, jasI_v]
    first | rw [if_pos (show (0 : Int) = 0 from rfl)] | rw [if_pos trivial]
    exact ⟨fun w => absurd w z, fun _ => ⟨m3, rfl, b2, puR_tr f2 (aS_0 r c b3)⟩⟩
