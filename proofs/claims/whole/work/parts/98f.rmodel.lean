/-! The reference reads a river -/
theorem rKd_eq (b : Int → Int) (n s : Int) : rKd b n s = if rW b n s = [114, 101, 118, 105, 114] then 0 else if rW b n s = [110, 111, 111, 109] then 1 else if rW b n s = [110, 111, 115, 114, 101, 112] then 2 else if rW b n s = [121, 114, 111, 109, 101, 109] then 3 else if rW b n s = [112, 97, 114, 116] then 4 else -1 := rfl
theorem m_isW (d : Nat) (cs : List Int) (hc0 : cs ≠ []) (hc7 : cs.length < 8) (hcl : ∀ c ∈ cs, 97 ≤ c ∧ c ≤ 122) {y : Int} (hy : y = pkR cs) {b : Int → Int} {n s : Int} {m : jMem} (h : rM b n s m) (hs : rSk b n s = s) : ∃ m', M_isWord (d + 2) y m = some (vI (jb (rW b n s = cs)), m') ∧ rM b n s m' ∧ puR aM m m' := by
  have := m_isWord d cs hc0 hc7 hcl hy h
  rw [hs] at this
  exact this
theorem mOut_j {b : Int → Int} {n F i : Int} {T : Int → Int} {m : jMem} {X : jR} (h : mOut b n F i T m X) : mOut b n F i T m (jbnd X fun v5 mem6 => jbo (jasI v5) (some (vI (jasI v5), mem6))) := by
  refine ⟨fun w => ?_, fun w => ?_⟩
  · obtain ⟨m1, a1, a2⟩ := h.1 w
    rw [a1]
    exact ⟨m1, rfl, a2⟩
  · obtain ⟨m1, a1, a2⟩ := h.2 w
    rw [a1]
    exact ⟨m1, rfl, a2⟩
theorem mOut_f (d : Nat) (q : Int) {b : Int → Int} {n s i : Int} {T : Int → Int} {m : jMem} (h : rM b n s m) (hq : 0 ≤ q ∧ q ≤ 8) : mOut b n (1 + 8 * s + q) i T m (jbnd (M_fails (d + 1) q s m) fun v5 mem6 => jbo (jasI v5) (some (vI (jasI v5), mem6))) := by
  have h5 := h.2.2.2.2
  rw [s_M_fails d s q m h.2.2.2.1 (by omega) hq]
  refine ⟨fun w => by omega, fun _ => ⟨_, rfl, jrI_ws _ _ _ _ _, puR_w (puR_rf _ m) ?_⟩⟩
  unfold aNr
  omega
theorem m_line (d : Nat) {b : Int → Int} {n s : Int} {T : Int → Int} {m : jMem} (h : rM b n s m) (hs : rSk b n s = s) (hd : rMd m T) (hB : rBd T) (h01 : T 0 = 0 ∨ T 0 = 1) (hk : rKd b n s ≠ -1) : (rRm T (rKd b n s) → mOut b n (rCl b n (rKd b n s) (rPw b n s) T).1 (rCl b n (rKd b n s) (rPw b n s) T).2.1 (rCl b n (rKd b n s) (rPw b n s) T).2.2 m (M_riverLineHere (d + 6) s m)) ∧ (¬ rRm T (rKd b n s) → mOut b n (1 + 8 * s + 4) s T m (M_riverLineHere (d + 6) s m)) := by
  have hke := rKd_eq b n s
  obtain ⟨b3, b4, b5, b6, b1⟩ := id hB
  obtain ⟨m1, p1, p2, p3⟩ := m_isW (d + 3) [114, 101, 118, 105, 114] (by decide) (by decide) (by decide) (y := 491395638642) rfl h hs
  have hd1 := rMd_M p3 hd
  rw [q_M_riverLineHere, p1]
  simp only [jbnd_s, jasI_v]
  by_cases w0 : rW b n s = [114, 101, 118, 105, 114]
  · rw [if_pos w0] at hke
    rw [jb_1 w0, if_neg (by decide), hke]
    by_cases z0 : T 0 = 0
    · exact ⟨fun _ => mOut_p p3 (mOut_j (m_cl0 d s p2 hd1 z0)), fun w => absurd (Or.inl ⟨rfl, z0⟩) w⟩
    · refine ⟨fun w => by omega, fun _ => mOut_p p3 (mOut_j ?_)⟩
      rw [q_M_isRiverHere, hd1 0 (by decide) (by decide), if_pos (by omega)]
      exact mOut_f (d + 3) 4 p2 (by decide)
  rw [if_neg w0] at hke
  rw [jb_n w0]
  first | rw [if_pos rfl] | rw [if_pos trivial]
  rw [hd1 0 (by decide) (by decide)]
  by_cases z0 : T 0 = 0
  · rw [if_pos z0]
    refine ⟨fun w => ?_, fun _ => mOut_p p3 (mOut_f (d + 4) 4 p2 (by decide))⟩
    exfalso
    have hne : rKd b n s ≠ 0 := by
      rw [hke]
      split
      · decide
      split
      · decide
      split
      · decide
      split
      · decide
      · decide
    omega
  rw [if_neg z0]
  have z1 : T 0 = 1 := by omega
  obtain ⟨m2, p4, p5, p6⟩ := m_isW (d + 3) [110, 111, 111, 109] (by decide) (by decide) (by decide) (y := 1836019566) rfl p2 hs
  have hd2 := rMd_M p6 hd1
  have f2 := puR_tr p3 p6
  rw [p4]
  simp only [jbnd_s, jasI_v]
  by_cases w1 : rW b n s = [110, 111, 111, 109]
  · rw [if_pos w1] at hke
    rw [jb_1 w1, if_neg (by decide), hke]
    by_cases q : T 3 < 12
    · exact ⟨fun _ => mOut_p f2 (mOut_j (m_cl1 d s p5 hd2 hB q)), fun w => absurd (Or.inr ⟨z1, Or.inl ⟨rfl, q⟩⟩) w⟩
    · refine ⟨fun w => by omega, fun _ => mOut_p f2 (mOut_j ?_)⟩
      rw [q_M_isMoonHere, hd2 3 (by decide) (by decide), if_pos (by omega)]
      exact mOut_f (d + 3) 4 p5 (by decide)
  rw [if_neg w1] at hke
  rw [jb_n w1]
  first | rw [if_pos rfl] | rw [if_pos trivial]
  obtain ⟨m3, p7, p8, p9⟩ := m_isW (d + 3) [110, 111, 115, 114, 101, 112] (by decide) (by decide) (by decide) (y := 123581014175598) rfl p5 hs
  have hd3 := rMd_M p9 hd2
  have f3 := puR_tr f2 p9
  rw [p7]
  simp only [jbnd_s, jasI_v]
  by_cases w2 : rW b n s = [110, 111, 115, 114, 101, 112]
  · rw [if_pos w2] at hke
    rw [jb_1 w2, if_neg (by decide), hke]
    by_cases q : T 4 < 4
    · exact ⟨fun _ => mOut_p f3 (mOut_j (m_cl2 d s p8 hd3 hB q)), fun w => absurd (Or.inr ⟨z1, Or.inr (Or.inl ⟨rfl, q⟩)⟩) w⟩
    · refine ⟨fun w => by omega, fun _ => mOut_p f3 (mOut_j ?_)⟩
      rw [q_M_isPersonHere, hd3 4 (by decide) (by decide), if_pos (by omega)]
      exact mOut_f (d + 3) 4 p8 (by decide)
  rw [if_neg w2] at hke
  rw [jb_n w2]
  first | rw [if_pos rfl] | rw [if_pos trivial]
  obtain ⟨m4, p10, p11, p12⟩ := m_isW (d + 3) [121, 114, 111, 109, 101, 109] (by decide) (by decide) (by decide) (y := 120282395144825) rfl p8 hs
  have hd4 := rMd_M p12 hd3
  have f4 := puR_tr f3 p12
  rw [p10]
  simp only [jbnd_s, jasI_v]
  by_cases w3 : rW b n s = [121, 114, 111, 109, 101, 109]
  · rw [if_pos w3] at hke
    rw [jb_1 w3, if_neg (by decide), hke]
    by_cases q : T 5 < 6
    · exact ⟨fun _ => mOut_p f4 (mOut_j (m_cl3 d s p11 hd4 hB q)), fun w => absurd (Or.inr ⟨z1, Or.inr (Or.inr (Or.inl ⟨rfl, q⟩))⟩) w⟩
    · refine ⟨fun w => by omega, fun _ => mOut_p f4 (mOut_j ?_)⟩
      rw [q_M_isMemoryHere, hd4 5 (by decide) (by decide), if_pos (by omega)]
      exact mOut_f (d + 3) 4 p11 (by decide)
  rw [if_neg w3] at hke
  rw [jb_n w3]
  first | rw [if_pos rfl] | rw [if_pos trivial]
  by_cases w4 : rW b n s = [112, 97, 114, 116]
  · rw [if_pos w4] at hke
    rw [hke]
    by_cases q : T 6 < 4
    · exact ⟨fun _ => mOut_p f4 (mOut_j (m_cl4 d s p11 hd4 hB q)), fun w => absurd (Or.inr ⟨z1, Or.inr (Or.inr (Or.inr ⟨rfl, q⟩))⟩) w⟩
    · refine ⟨fun w => by omega, fun _ => mOut_p f4 (mOut_j ?_)⟩
      rw [q_M_isTrapHere, hd4 6 (by decide) (by decide), if_pos (by omega)]
      exact mOut_f (d + 3) 4 p11 (by decide)
  · rw [if_neg w4] at hke
    exact absurd hke hk
theorem m_isRiverWord (d : Nat) {b : Int → Int} {n s : Int} {m : jMem} (h : rM b n s m) (hs : rSk b n s = s) : ∃ m', M_isRiverWord (d + 3) m = some (vI (jb (rKd b n s ≠ -1)), m') ∧ rM b n s m' ∧ puR aM m m' := by
  have hke := rKd_eq b n s
  obtain ⟨m1, p1, p2, p3⟩ := m_isW d [114, 101, 118, 105, 114] (by decide) (by decide) (by decide) (y := 491395638642) rfl h hs
  obtain ⟨m2, p4, p5, p6⟩ := m_isW d [110, 111, 111, 109] (by decide) (by decide) (by decide) (y := 1836019566) rfl p2 hs
  obtain ⟨m3, p7, p8, p9⟩ := m_isW d [110, 111, 115, 114, 101, 112] (by decide) (by decide) (by decide) (y := 123581014175598) rfl p5 hs
  obtain ⟨m4, p10, p11, p12⟩ := m_isW d [121, 114, 111, 109, 101, 109] (by decide) (by decide) (by decide) (y := 120282395144825) rfl p8 hs
  obtain ⟨m5, p13, p14, p15⟩ := m_isW d [112, 97, 114, 116] (by decide) (by decide) (by decide) (y := 1953653104) rfl p11 hs
  rw [q_M_isRiverWord, p1]
  simp only [jbnd_s, jasI_v]
  by_cases w0 : rW b n s = [114, 101, 118, 105, 114]
  · rw [if_pos w0] at hke
    rw [jb_1 w0, if_neg (by decide), hke]
    exact ⟨m1, rfl, p2, p3⟩
  rw [if_neg w0] at hke
  rw [jb_n w0]
  first | rw [if_pos rfl] | rw [if_pos trivial]
  rw [p4]
  simp only [jbnd_s, jasI_v]
  by_cases w1 : rW b n s = [110, 111, 111, 109]
  · rw [if_pos w1] at hke
    rw [jb_1 w1, if_neg (by decide), hke]
    exact ⟨m2, rfl, p5, puR_tr p3 p6⟩
  rw [if_neg w1] at hke
  rw [jb_n w1]
  first | rw [if_pos rfl] | rw [if_pos trivial]
  rw [p7]
  simp only [jbnd_s, jasI_v]
  by_cases w2 : rW b n s = [110, 111, 115, 114, 101, 112]
  · rw [if_pos w2] at hke
    rw [jb_1 w2, if_neg (by decide), hke]
    exact ⟨m3, rfl, p8, puR_tr p3 (puR_tr p6 p9)⟩
  rw [if_neg w2] at hke
  rw [jb_n w2]
  first | rw [if_pos rfl] | rw [if_pos trivial]
  rw [p10]
  simp only [jbnd_s, jasI_v]
  by_cases w3 : rW b n s = [121, 114, 111, 109, 101, 109]
  · rw [if_pos w3] at hke
    rw [jb_1 w3, if_neg (by decide), hke]
    exact ⟨m4, rfl, p11, puR_tr p3 (puR_tr p6 (puR_tr p9 p12))⟩
  rw [if_neg w3] at hke
  rw [jb_n w3]
  first | rw [if_pos rfl] | rw [if_pos trivial]
  rw [p13]
  simp only [jbnd_s, jasI_v]
  by_cases w4 : rW b n s = [112, 97, 114, 116]
  · rw [if_pos w4] at hke
    rw [jb_1 w4, if_neg (by decide), hke]
    exact ⟨m5, rfl, p14, puR_tr p3 (puR_tr p6 (puR_tr p9 (puR_tr p12 p15)))⟩
  rw [if_neg w4] at hke
  rw [jb_n w4]
  first | rw [if_pos rfl] | rw [if_pos trivial]
  rw [hke]
  exact ⟨m5, rfl, p14, puR_tr p3 (puR_tr p6 (puR_tr p9 (puR_tr p12 p15)))⟩
def aL (f : Nat) (i k : Int) : Prop := (f = 11 ∧ i = 0 ∧ (k = 1 ∨ k = 8 ∨ k = 9 ∨ k = 10 ∨ k = 14)) ∨ (f = 51 ∧ i = 0)
theorem aN_L {m m' : jMem} (h : puR aNr m m') : puR aL m m' := puR_mono h (fun f i k w => by unfold aNr at w; unfold aL; omega)
theorem aM_L {m m' : jMem} (h : puR aM m m') : puR aL m m' := aN_L (aM_N h)
theorem m_rv (d : Nat) {b : Int → Int} {n : Int} : ∀ (k : Nat) (c i : Int) (T : Int → Int) (m : jMem), (k : Int) + c = 41 → 0 ≤ c → 1 ≤ k → rM b n i m → rMd m T → tRv T → T 0 = (if c = 0 then 0 else 1) → jrI m 11 0 11 = 6 → jrI m 11 0 14 = c → ∃ m', (jbnd (M_clauseHere (d + 7) m) fun v1 mem2 => M_readsAll_35 (d + 7) (jasI v1) mem2) = some (vI (jb ((rRv b n k c i T).1 = 0)), m') ∧ jrI m' 11 0 1 = 0 ∧ puR aL m m' ∧ ((rRv b n k c i T).1 = 0 → rMd m' (rRv b n k c i T).2) ∧ ((rRv b n k c i T).1 ≠ 0 → jrI m' 11 0 9 = (rRv b n k c i T).1) := by
  intro k
  induction k with
  | zero => intro c i T m _ _ h; omega
  | succ k ih =>
    intro c i T m hk c0 _ h hd hT h0 htx hln
    have hB := rBd_t hT
    have h5 := h.2.2.2.2
    have h01 : (c = 0 ∧ T 0 = 0) ∨ (c ≠ 0 ∧ T 0 = 1) := by
      by_cases e : c = 0
      · rw [if_pos e] at h0; exact Or.inl ⟨e, h0⟩
      · rw [if_neg e] at h0; exact Or.inr ⟨e, h0⟩
    obtain ⟨m1, a1, a2, a3⟩ := m_see (d + 5) h
    have hsk := rSk_in (b := b) h5.1 h5.2.1
    have hid : rSk b n (rSk b n i) = rSk b n i := rSk_id h5.1 h5.2.1
    have hd1 := rMd_M a3 hd
    have hkd := rKd_in b n (rSk b n i)
    obtain ⟨m2, g1, g2, g3⟩ := m_isRiverWord (d + 3) a2 hid
    have hd2 := rMd_M g3 hd1
    have hln2 : jrI m2 11 0 14 = c := by rw [g3 11 0 14 (by unfold aM; omega), a3 11 0 14 (by unfold aM; omega)]; exact hln
    -- behind a fault
    have bad : ∀ (F : Int) (m3 : jMem), F ≠ 0 → jrI m3 11 0 9 = F → puR aL m m3 → ∃ m', (jbnd (some (vI 0, m3)) fun v1 mem2 => M_readsAll_35 (d + 7) (jasI v1) mem2) = some (vI (jb (((F, T) : Int × (Int → Int)).1 = 0)), m') ∧ jrI m' 11 0 1 = 0 ∧ puR aL m m' ∧ (((F, T) : Int × (Int → Int)).1 = 0 → rMd m' ((F, T) : Int × (Int → Int)).2) ∧ (((F, T) : Int × (Int → Int)).1 ≠ 0 → jrI m' 11 0 9 = ((F, T) : Int × (Int → Int)).1) := by
      intro F m3 hF hw hfr
      refine ⟨jwI m3 11 0 1 0, ?_, jrI_ws _ _ _ _ _, puR_w hfr (by unfold aL; omega), fun w => absurd w hF, fun _ => by rw [jrI_wk (by decide)]; exact hw⟩
      show M_readsAll_35 (d + 7) (jasI (vI 0)) m3 = _
      rw [jasI_v, q_M_readsAll_35, if_pos rfl, q_M_readsAll_66, if_pos rfl, q_M_readsAll_88, if_neg (by rw [hw]; exact hF), jb_n hF]
    unfold rRv
    have e0 : M_clauseHere (d + 7) m = M_clauseHere_24 (d + 6) (rSk b n i) 1 m1 := by
      rw [q_M_clauseHere, a1]
      simp only [jbnd_s]
      rw [a3 11 0 11 (by unfold aM; omega), htx, if_pos rfl, a2.2.2.1]
    rw [e0, q_M_clauseHere_24, if_neg (by decide), g1]
    simp only [jbnd_s, jasI_v]
    by_cases kn : rKd b n (rSk b n i) = -1
    · rw [if_pos kn, jb_n (fun w => w kn)]
      first | rw [if_pos rfl] | rw [if_pos trivial]
      have h5' := g2.2.2.2.2
      rw [s_M_fails (d + 5) (rSk b n i) 0 m2 g2.2.2.2.1 (by omega) (by decide)]
      refine bad (1 + 8 * rSk b n i) (jwI m2 11 0 9 (1 + 8 * rSk b n i + 0)) (by omega) (by rw [jrI_ws]; omega) (puR_w (puR_tr (aM_L a3) (aM_L g3)) (by unfold aL; omega))
    rw [if_neg kn, jb_1 kn]
    rw [if_neg (show ¬ (1 : Int) = 0 by decide), if_neg (show ¬ (1 : Int) = 0 by decide), q_M_clauseHere_71, hln2]
    have h5' := g2.2.2.2.2
    by_cases c40 : c = 40
    · rw [if_pos c40, if_pos (Or.inl c40), s_M_fails (d + 5) (rSk b n i) 4 m2 g2.2.2.2.1 (by omega) (by decide)]
      exact bad (1 + 8 * rSk b n i + 4) (jwI m2 11 0 9 (1 + 8 * rSk b n i + 4)) (by omega) (by rw [jrI_ws]) (puR_w (puR_tr (aM_L a3) (aM_L g3)) (by unfold aL; omega))
    rw [if_neg c40, if_neg (show ¬ (1 : Int) = 0 by decide), jw32_id (x := c + 1) (by omega) (by omega)]
    obtain ⟨l1, l2⟩ := m_line d (m := jwI m2 11 0 14 (c + 1)) (T := T) (rM_fr (fun f q w => by rw [jrI_w, if_neg (by omega)]) g2) hid (rMd_fr (fun q => by rw [jrI_wf (by decide)]) hd2) hB (by omega) kn
    have frl : puR aL m (jwI m2 11 0 14 (c + 1)) := puR_w (puR_tr (aM_L a3) (aM_L g3)) (by unfold aL; omega)
    by_cases hr : rRm T (rKd b n (rSk b n i))
    · rw [if_neg (show ¬ (c = 40 ∨ ¬ rRm T (rKd b n (rSk b n i))) from fun w => w.elim c40 (fun q => q hr))]
      obtain ⟨y1, y2⟩ := l1 hr
      have htc := t_cl (b := b) (n := n) (i := rPw b n (rSk b n i)) hT hr
      generalize rCl b n (rKd b n (rSk b n i)) (rPw b n (rSk b n i)) T = R at *
      by_cases z : R.1 = 0
      · obtain ⟨t1, t2, t3⟩ := htc z
        obtain ⟨m3, x1, x2, x3, x4⟩ := y1 z
        rw [if_neg (show ¬ (R.1 ≠ 0) from fun w => w z), x1]
        have h5r := x2.2.2.2.2
        have hs2 := rSk_in (b := b) h5r.1 h5r.2.1
        have eX : (jbnd (jbnd (some (vI 1, m3)) fun v5 mem6 => jbo (jasI v5) (some (vI (jasI v5), mem6))) fun v1 mem2 => M_readsAll_35 (d + 7) (jasI v1) mem2) = M_readsAll_35 (d + 7) 1 m3 := rfl
        rw [eX, q_M_readsAll_35, if_neg (by decide)]
        obtain ⟨m4, u1, u2, u3⟩ := m_see (d + 6) x2
        have fr4 : puR aL m m4 := puR_tr frl (puR_tr (aN_L x4) (aM_L u3))
        have hd4 := rMd_M u3 x3
        have hid2 : rSk b n (rSk b n R.2.1) = rSk b n R.2.1 := rSk_id h5r.1 h5r.2.1
        rw [u1]
        simp only [jbnd_s, jasI_v]
        by_cases se : rCh b n (rSk b n R.2.1) = 59
        · have hlt := rCh_lt se (by decide)
          rw [if_pos se, if_neg (by omega), if_pos se, u2.2.2.1, jw32_id (x := rSk b n R.2.1 + 1) (by omega) (by omega)]
          obtain ⟨m5, v1, v2, v3, v4, v5⟩ := ih (c + 1) (rSk b n R.2.1 + 1) R.2.2 (jwI m4 11 0 8 (rSk b n R.2.1 + 1)) (by omega) (by omega) (by omega) (rM_to u2 (by omega) (by omega)) (rMd_fr (fun q => by rw [jrI_wf (by decide)]) hd4) t1 (by rw [if_neg (by omega)]; exact t2) (by rw [jrI_wk (by decide), u3 11 0 11 (by unfold aM; omega), x4 11 0 11 (by unfold aNr; omega), jrI_wk (by decide), g3 11 0 11 (by unfold aM; omega), a3 11 0 11 (by unfold aM; omega)]; exact htx) (by rw [jrI_wk (by decide), u3 11 0 14 (by unfold aM; omega), x4 11 0 14 (by unfold aNr; omega), jrI_ws])
          exact ⟨m5, v1, v2, puR_tr (puR_w fr4 (by unfold aL; omega)) v3, v4, v5⟩
        · rw [if_neg se, if_neg se, q_M_readsAll_66, if_neg (by decide)]
          obtain ⟨m5, w1, w2, w3⟩ := m_see (d + 6) u2
          rw [hid2] at w1 w2
          rw [w1]
          simp only [jbnd_s, jasI_v]
          by_cases ov : rCh b n (rSk b n R.2.1) = -1
          · rw [if_pos ov, if_pos ov, q_M_readsAll_88, if_pos w2.2.2.2.1]
            refine ⟨jwI m5 11 0 1 0, by rw [jb_1 (show ((0, R.2.2) : Int × (Int → Int)).1 = 0 from rfl)], jrI_ws _ _ _ _ _, puR_w (puR_tr fr4 (aM_L w3)) (by unfold aL; omega), fun _ => rMd_fr (fun q => by rw [jrI_wf (by decide)]) (rMd_M w3 hd4), fun w => absurd rfl w⟩
          · rw [if_neg ov, if_neg ov, w2.2.2.1, s_M_fails (d + 6) (rSk b n R.2.1) 0 m5 w2.2.2.2.1 (by omega) (by decide)]
            simp only [jbnd_s]
            have hn : ((1 + 8 * rSk b n R.2.1, T) : Int × (Int → Int)).1 ≠ 0 := by
              show 1 + 8 * rSk b n R.2.1 ≠ 0
              omega
            rw [q_M_readsAll_88, jrI_ws, if_neg (by omega)]
            refine ⟨_, by rw [jb_n hn], jrI_ws _ _ _ _ _, puR_w (puR_w (puR_tr fr4 (aM_L w3)) (by unfold aL; omega)) (by unfold aL; omega), fun w => absurd w hn, fun _ => ?_⟩
            rw [jrI_wk (by decide), jrI_ws]
            omega
      · obtain ⟨m3, x1, x2, x3⟩ := y2 z
        rw [if_pos z, x1]
        exact bad R.1 m3 z x2 (puR_tr frl (aN_L x3))
    · obtain ⟨-, y2⟩ := l2 hr
      obtain ⟨m3, x1, x2, x3⟩ := y2 (by omega)
      rw [if_pos (show c = 40 ∨ ¬ rRm T (rKd b n (rSk b n i)) from Or.inr hr), x1]
      exact bad (1 + 8 * rSk b n i + 4) m3 (by omega) x2 (puR_tr frl (aN_L x3))
