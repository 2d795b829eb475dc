/-! The reference's clauses of a river -/
def rMd (m : jMem) (T : Int → Int) : Prop := ∀ k, 0 ≤ k → k < 81 → jrI m 51 0 k = T k
def aNr (f : Nat) (i k : Int) : Prop := (f = 11 ∧ i = 0 ∧ (k = 8 ∨ k = 9 ∨ k = 10)) ∨ (f = 51 ∧ i = 0)
theorem aM_N {m m' : jMem} (h : puR aM m m') : puR aNr m m' := puR_mono h (fun f i k w => by unfold aM at w; unfold aNr; omega)
theorem rMd_fr {m m' : jMem} {T : Int → Int} (h : ∀ k, jrI m' 51 0 k = jrI m 51 0 k) (hd : rMd m T) : rMd m' T := fun k k0 k1 => by rw [h k]; exact hd k k0 k1
theorem rMd_M {m m' : jMem} {T : Int → Int} (h : puR aM m m') (hd : rMd m T) : rMd m' T := rMd_fr (fun k => h 51 0 k (by unfold aM; omega)) hd
theorem rMd_w {m : jMem} {T : Int → Int} (hd : rMd m T) (c v : Int) : rMd (jwI m 51 0 c v) (rSt T c v) := fun k k0 k1 => by
  by_cases e : k = c
  · rw [e, jrI_ws, rSt_s]
  · rw [jrI_wk e, rSt_o e]
    exact hd k k0 k1
def mOut (b : Int → Int) (n F i : Int) (T : Int → Int) (m : jMem) (X : jR) : Prop := (F = 0 → ∃ m', X = some (vI 1, m') ∧ rM b n i m' ∧ rMd m' T ∧ puR aNr m m') ∧ (F ≠ 0 → ∃ m', X = some (vI 0, m') ∧ jrI m' 11 0 9 = F ∧ puR aNr m m')
theorem mOut_b {b : Int → Int} {n F i F' i' : Int} {T T' : Int → Int} {m : jMem} {X : jR} {K : jMem → jR} (h : mOut b n F i T m X) (hk : ∀ m1, rM b n i m1 → rMd m1 T → F = 0 → mOut b n F' i' T' m1 (K m1)) (hf : F ≠ 0 → F' = F) : mOut b n F' i' T' m (jbnd X fun v m2 => if jasI v = 0 then some (vI 0, m2) else K m2) := by
  by_cases z : F = 0
  · obtain ⟨m1, a1, a2, a3, a4⟩ := h.1 z
    obtain ⟨k1, k2⟩ := hk m1 a2 a3 z
    rw [a1]
    simp only [jbnd_s, jasI_v]
    rw [if_neg (by decide)]
    exact ⟨fun w => by obtain ⟨m2, c1, c2, c3, c4⟩ := k1 w; exact ⟨m2, c1, c2, c3, puR_tr a4 c4⟩, fun w => by obtain ⟨m2, c1, c2, c3⟩ := k2 w; exact ⟨m2, c1, c2, puR_tr a4 c3⟩⟩
  · obtain ⟨m1, a1, a2, a3⟩ := h.2 z
    rw [a1]
    simp only [jbnd_s, jasI_v]
    first | rw [if_pos rfl] | rw [if_pos trivial]
    rw [hf z]
    exact ⟨fun w => absurd w z, fun _ => ⟨m1, rfl, a2, a3⟩⟩
theorem mOut_e {b : Int → Int} {n i c v : Int} {T : Int → Int} {m : jMem} (h : rM b n i m) (hd : rMd m T) : mOut b n 0 i (rSt T c v) m (some (vI 1, jwI m 51 0 c v)) := by
  refine ⟨fun _ => ⟨_, rfl, rM_fr (fun f k w => by rw [jrI_w, if_neg (by omega)]) h, rMd_w hd c v, puR_w (puR_rf _ m) ?_⟩, fun w => absurd rfl w⟩
  unfold aNr
  omega
theorem m_cell (d : Nat) (c lo hi : Int) {b : Int → Int} {n i : Int} {T : Int → Int} {m : jMem} (h : rM b n i m) (hd : rMd m T) (c0 : 0 ≤ c) (c1 : c < 81) : mOut b n (rN1 b n lo hi 0 i).1 (rN1 b n lo hi 0 i).2.1 (rSt T c (rN1 b n lo hi 0 i).2.2) m (M_cellHere (d + 4) c lo hi m) := by
  have h5 := h.2.2.2.2
  have hk := rSk_in (b := b) h5.1 h5.2.1
  obtain ⟨e1, e2⟩ := m_number d lo hi h
  rw [q_M_cellHere]
  by_cases ok : rOk b (rSk b n i) (rDg b n (rSk b n i)) lo hi
  · rw [rN1_ok ok]
    obtain ⟨m1, a1, a2, a3, a4⟩ := e1 ok
    refine ⟨fun _ => ?_, fun w => absurd rfl w⟩
    rw [a1]
    simp only [jbnd_s, jasI_v]
    rw [if_neg (by decide), jix_in c0 c1, a3]
    refine ⟨_, rfl, rM_fr (fun f k w => by rw [jrI_w, if_neg (by omega)]) a2, rMd_w (rMd_M a4 hd) _ _, puR_w (aM_N a4) ?_⟩
    unfold aNr
    omega
  · rw [rN1_no ok]
    obtain ⟨m1, a1, a2, a3⟩ := e2 ok
    refine ⟨fun w => absurd w (rFt_n (by omega)), fun _ => ?_⟩
    rw [a1]
    simp only [jbnd_s, jasI_v]
    first | rw [if_pos rfl] | rw [if_pos trivial]
    exact ⟨m1, rfl, a2, aM_N a3⟩
theorem mOut_p {b : Int → Int} {n F i : Int} {T : Int → Int} {m m1 : jMem} {X : jR} (h : puR aM m m1) (hx : mOut b n F i T m1 X) : mOut b n F i T m X := ⟨fun w => by obtain ⟨m2, c1, c2, c3, c4⟩ := hx.1 w; exact ⟨m2, c1, c2, c3, puR_tr (aM_N h) c4⟩, fun w => by obtain ⟨m2, c1, c2, c3⟩ := hx.2 w; exact ⟨m2, c1, c2, puR_tr (aM_N h) c3⟩⟩
theorem rN1_F {b : Int → Int} {n lo hi F i : Int} (h : F ≠ 0) : (rN1 b n lo hi F i).1 = F := by rw [rN1_f h]
theorem m_cl0 (d : Nat) (x : Int) {b : Int → Int} {n s : Int} {T : Int → Int} {m : jMem} (h : rM b n s m) (hd : rMd m T) (h0 : T 0 = 0) : mOut b n (rCl b n 0 (rPw b n s) T).1 (rCl b n 0 (rPw b n s) T).2.1 (rCl b n 0 (rPw b n s) T).2.2 m (M_isRiverHere (d + 5) x m) := by
  unfold rCl
  rw [if_pos rfl]
  obtain ⟨m1, a1, a2, a3⟩ := m_pass (d + 2) h
  rw [q_M_isRiverHere, hd 0 (by decide) (by decide), h0, if_neg (by decide), a1]
  simp only [jbnd_s]
  refine mOut_p a3 ?_
  refine mOut_b (m_cell d 1 2 12 a2 (rMd_M a3 hd) (by decide) (by decide)) (fun m2 g1 g2 z => ?_) (fun z => rN1_F z)
  rw [z]
  refine mOut_b (m_cell d 2 1 9 g1 g2 (by decide) (by decide)) (fun m3 g3 g4 z2 => ?_) (fun z => rfl)
  rw [z2]
  exact mOut_e g3 g4
theorem m_cl1 (d : Nat) (x : Int) {b : Int → Int} {n s : Int} {T : Int → Int} {m : jMem} (h : rM b n s m) (hd : rMd m T) (hB : rBd T) (hr : T 3 < 12) : mOut b n (rCl b n 1 (rPw b n s) T).1 (rCl b n 1 (rPw b n s) T).2.1 (rCl b n 1 (rPw b n s) T).2.2 m (M_isMoonHere (d + 5) x m) := by
  unfold rCl
  rw [if_neg (show ¬ (1 : Int) = 0 by decide), if_pos rfl]
  obtain ⟨b3', b4', b5', b6', b1'⟩ := id hB
  obtain ⟨m1, a1, a2, a3⟩ := m_pass (d + 2) h
  have hd1 := rMd_M a3 hd
  rw [q_M_isMoonHere, hd 3 (by decide) (by decide), if_neg (by omega), a1]
  simp only [jbnd_s]
  rw [hd1 3 (by decide) (by decide), jw32_id (x := 55 + T 3) (by omega) (by omega)]
  refine mOut_p a3 ?_
  refine mOut_b (m_cell d (55 + T 3) 0 9 a2 hd1 (by omega) (by omega)) (fun m2 g1 g2 z => ?_) (fun z => rfl)
  rw [z, g2 3 (by decide) (by decide), rSt_o (show (3 : Int) ≠ 55 + T 3 by omega), jw32_id (x := T 3 + 1) (by omega) (by omega)]
  exact mOut_e g1 g2
theorem m_cl2 (d : Nat) (x : Int) {b : Int → Int} {n s : Int} {T : Int → Int} {m : jMem} (h : rM b n s m) (hd : rMd m T) (hB : rBd T) (hr : T 4 < 4) : mOut b n (rCl b n 2 (rPw b n s) T).1 (rCl b n 2 (rPw b n s) T).2.1 (rCl b n 2 (rPw b n s) T).2.2 m (M_isPersonHere (d + 5) x m) := by
  unfold rCl
  rw [if_neg (show ¬ (2 : Int) = 0 by decide), if_neg (show ¬ (2 : Int) = 1 by decide), if_pos rfl]
  obtain ⟨b3', b4', b5', b6', b1'⟩ := id hB
  obtain ⟨m1, a1, a2, a3⟩ := m_pass (d + 2) h
  have hd1 := rMd_M a3 hd
  rw [q_M_isPersonHere, hd 4 (by decide) (by decide), if_neg (by omega), a1]
  simp only [jbnd_s]
  rw [hd1 4 (by decide) (by decide), jw32_id (x := 51 + T 4) (by omega) (by omega)]
  refine mOut_p a3 ?_
  refine mOut_b (m_cell d (51 + T 4) 1 9 a2 hd1 (by omega) (by omega)) (fun m2 g1 g2 z => ?_) (fun z => rfl)
  rw [z, g2 4 (by decide) (by decide), rSt_o (show (4 : Int) ≠ 51 + T 4 by omega), jw32_id (x := T 4 + 1) (by omega) (by omega)]
  exact mOut_e g1 g2
theorem m_cl3 (d : Nat) (x : Int) {b : Int → Int} {n s : Int} {T : Int → Int} {m : jMem} (h : rM b n s m) (hd : rMd m T) (hB : rBd T) (hr : T 5 < 6) : mOut b n (rCl b n 3 (rPw b n s) T).1 (rCl b n 3 (rPw b n s) T).2.1 (rCl b n 3 (rPw b n s) T).2.2 m (M_isMemoryHere (d + 5) x m) := by
  unfold rCl
  rw [if_neg (show ¬ (3 : Int) = 0 by decide), if_neg (show ¬ (3 : Int) = 1 by decide), if_neg (show ¬ (3 : Int) = 2 by decide)]
  simp only []
  first | rw [if_pos rfl] | rw [if_pos trivial] | skip
  obtain ⟨b3', b4', b5', b6', b1'⟩ := id hB
  obtain ⟨m1, a1, a2, a3⟩ := m_pass (d + 2) h
  have hd1 := rMd_M a3 hd
  rw [q_M_isMemoryHere, hd 5 (by decide) (by decide), if_neg (by omega), a1]
  simp only [jbnd_s]
  rw [hd1 5 (by decide) (by decide), hd1 1 (by decide) (by decide), jw32_id (x := 67 + T 5) (by omega) (by omega), jw32_id (x := 33 + T 5) (by omega) (by omega), jw32_id (x := 39 + T 5) (by omega) (by omega), jw32_id (x := 45 + T 5) (by omega) (by omega), jw32_id (x := T 1 - 1) (by omega) (by omega)]
  refine mOut_p a3 ?_
  refine mOut_b (m_cell d (67 + T 5) 0 (T 1 - 1) a2 hd1 (by omega) (by omega)) (fun m2 g1 g2 z => ?_) (fun z => (rN1_F (by rw [rN1_F (by rw [rN1_F z]; exact z), rN1_F z]; exact z)).trans ((rN1_F (by rw [rN1_F z]; exact z)).trans (rN1_F z)))
  rw [z]
  generalize (rN1 b n 0 (T 1 - 1) 0 (rPw b n s)).2.1 = i1 at g1 ⊢
  generalize (rN1 b n 0 (T 1 - 1) 0 (rPw b n s)).2.2 = v1 at g2 ⊢
  refine mOut_b (m_cell d (33 + T 5) 1 9 g1 g2 (by omega) (by omega)) (fun m3 g3 g4 z2 => ?_) (fun z => (rN1_F (by rw [rN1_F z]; exact z)).trans (rN1_F z))
  rw [z2]
  generalize (rN1 b n 1 9 0 i1).2.1 = i2 at g3 ⊢
  generalize (rN1 b n 1 9 0 i1).2.2 = v2 at g4 ⊢
  refine mOut_b (m_cell d (39 + T 5) 0 7 g3 g4 (by omega) (by omega)) (fun m4 g5 g6 z3 => ?_) (fun z => rN1_F z)
  rw [z3]
  generalize (rN1 b n 0 7 0 i2).2.1 = i3 at g5 ⊢
  generalize (rN1 b n 0 7 0 i2).2.2 = v3 at g6 ⊢
  have e4 : jrI m4 51 0 4 = T 4 := by rw [g6 4 (by decide) (by decide), rSt_o (by omega), rSt_o (by omega), rSt_o (by omega)]
  rw [e4, jw32_id (x := T 4 - 1) (by omega) (by omega)]
  refine mOut_b (m_cell d (45 + T 5) 0 (T 4 - 1) g5 g6 (by omega) (by omega)) (fun m5 g7 g8 z4 => ?_) (fun z => rfl)
  rw [z4, g8 5 (by decide) (by decide), rSt_o (show (5 : Int) ≠ 45 + T 5 by omega), rSt_o (show (5 : Int) ≠ 39 + T 5 by omega), rSt_o (show (5 : Int) ≠ 33 + T 5 by omega), rSt_o (show (5 : Int) ≠ 67 + T 5 by omega), jw32_id (x := T 5 + 1) (by omega) (by omega)]
  exact mOut_e g7 g8
theorem m_cl4 (d : Nat) (x : Int) {b : Int → Int} {n s : Int} {T : Int → Int} {m : jMem} (h : rM b n s m) (hd : rMd m T) (hB : rBd T) (hr : T 6 < 4) : mOut b n (rCl b n 4 (rPw b n s) T).1 (rCl b n 4 (rPw b n s) T).2.1 (rCl b n 4 (rPw b n s) T).2.2 m (M_isTrapHere (d + 5) x m) := by
  unfold rCl
  rw [if_neg (show ¬ (4 : Int) = 0 by decide), if_neg (show ¬ (4 : Int) = 1 by decide), if_neg (show ¬ (4 : Int) = 2 by decide)]
  simp only []
  try rw [if_neg (show ¬ (4 : Int) = 3 by decide)]
  obtain ⟨b3', b4', b5', b6', b1'⟩ := id hB
  obtain ⟨m1, a1, a2, a3⟩ := m_pass (d + 2) h
  have hd1 := rMd_M a3 hd
  rw [q_M_isTrapHere, hd 6 (by decide) (by decide), if_neg (by omega), a1]
  simp only [jbnd_s]
  rw [hd1 6 (by decide) (by decide), hd1 1 (by decide) (by decide), jw32_id (x := 2 * T 6) (by omega) (by omega), jw32_id (x := 73 + 2 * T 6) (by omega) (by omega), jw32_id (x := 25 + T 6) (by omega) (by omega), jw32_id (x := 73 + 2 * T 6 + 1) (by omega) (by omega), jw32_id (x := 29 + T 6) (by omega) (by omega), show 73 + 2 * T 6 + 1 = 74 + 2 * T 6 by omega, jw32_id (x := T 1 - 1) (by omega) (by omega)]
  refine mOut_p a3 ?_
  refine mOut_b (m_cell d (73 + 2 * T 6) 0 (T 1 - 1) a2 hd1 (by omega) (by omega)) (fun m2 g1 g2 z => ?_) (fun z => (rN1_F (by rw [rN1_F (by rw [rN1_F z]; exact z), rN1_F z]; exact z)).trans ((rN1_F (by rw [rN1_F z]; exact z)).trans (rN1_F z)))
  rw [z]
  generalize (rN1 b n 0 (T 1 - 1) 0 (rPw b n s)).2.1 = i1 at g1 ⊢
  generalize (rN1 b n 0 (T 1 - 1) 0 (rPw b n s)).2.2 = v1 at g2 ⊢
  refine mOut_b (m_cell d (25 + T 6) 1 9 g1 g2 (by omega) (by omega)) (fun m3 g3 g4 z2 => ?_) (fun z => (rN1_F (by rw [rN1_F z]; exact z)).trans (rN1_F z))
  rw [z2]
  generalize (rN1 b n 1 9 0 i1).2.1 = i2 at g3 ⊢
  generalize (rN1 b n 1 9 0 i1).2.2 = v2 at g4 ⊢
  refine mOut_b (m_cell d (74 + 2 * T 6) 0 7 g3 g4 (by omega) (by omega)) (fun m4 g5 g6 z3 => ?_) (fun z => rN1_F z)
  rw [z3]
  generalize (rN1 b n 0 7 0 i2).2.1 = i3 at g5 ⊢
  generalize (rN1 b n 0 7 0 i2).2.2 = v3 at g6 ⊢
  have e4 : jrI m4 51 0 4 = T 4 := by rw [g6 4 (by decide) (by decide), rSt_o (by omega), rSt_o (by omega), rSt_o (by omega)]
  rw [e4, jw32_id (x := T 4 - 1) (by omega) (by omega)]
  refine mOut_b (m_cell d (29 + T 6) 0 (T 4 - 1) g5 g6 (by omega) (by omega)) (fun m5 g7 g8 z4 => ?_) (fun z => rfl)
  rw [z4, g8 6 (by decide) (by decide), rSt_o (show (6 : Int) ≠ 29 + T 6 by omega), rSt_o (show (6 : Int) ≠ 74 + 2 * T 6 by omega), rSt_o (show (6 : Int) ≠ 25 + T 6 by omega), rSt_o (show (6 : Int) ≠ 73 + 2 * T 6 by omega), jw32_id (x := T 6 + 1) (by omega) (by omega)]
  exact mOut_e g7 g8
