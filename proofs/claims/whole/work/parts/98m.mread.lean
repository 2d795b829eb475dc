/-! The reference reads a rule's sums -/
def mC (c : Int) : Int := if c = 6 then 0 else if c = 7 then 1 else if c = 43 then 2 else if c = 45 then 3 else if c = 42 then 4 else if c = 47 then 5 else if c = 37 then 14 else if c = 60 then 6 else if c = 1 then 7 else if c = 61 then 8 else if c = 2 then 9 else if c = 62 then 10 else if c = 3 then 11 else if c = 4 then 12 else if c = 5 then 13 else 0
def enc (x : Int × Int) : Int := mC x.1 + 16 * x.2
def onM (sg : Int → Int) : List (Int × Int) → Int → Prop
  | [], _ => True
  | x :: l, p => sg p = enc x ∧ onM sg l (p + 1)
theorem onM_app {sg : Int → Int} {B : List (Int × Int)} : ∀ (A : List (Int × Int)) (p : Int), onM sg (A ++ B) p ↔ (onM sg A p ∧ onM sg B (p + (A.length : Int))) := by
  intro A
  induction A with
  | nil =>
    intro p
    show onM sg B p ↔ (True ∧ onM sg B (p + ((0 : Nat) : Int)))
    rw [show p + ((0 : Nat) : Int) = p by omega]
    exact ⟨fun h => ⟨trivial, h⟩, fun h => h.2⟩
  | cons x A ih =>
    intro p
    show (sg p = enc x ∧ onM sg (A ++ B) (p + 1)) ↔ ((sg p = enc x ∧ onM sg A (p + 1)) ∧ onM sg B (p + ((A.length + 1 : Nat) : Int)))
    rw [ih (p + 1), show p + ((A.length + 1 : Nat) : Int) = p + 1 + (A.length : Int) by omega]
    exact ⟨fun h => ⟨⟨h.1, h.2.1⟩, h.2.2⟩, fun h => ⟨h.1.1, h.1.2, h.2⟩⟩
theorem onM_fr {sg sg' : Int → Int} : ∀ (A : List (Int × Int)) (p : Int), (∀ j, p ≤ j → j < p + (A.length : Int) → sg' j = sg j) → onM sg A p → onM sg' A p := by
  intro A
  induction A with
  | nil => intro p _ _; trivial
  | cons x A ih =>
    intro p h hc
    have hl : ((x :: A).length : Int) = (A.length : Int) + 1 := by
      rw [List.length_cons]; omega
    exact ⟨by rw [h p (Int.le_refl p) (by omega)]; exact hc.1, ih (p + 1) (fun j j0 j1 => h j (by omega) (by omega)) hc.2⟩
def mQ (b : Int → Int) (n r i u : Int) (L : List (Int × Int)) (m : jMem) : Prop := rM b n i m ∧ jrI m 11 0 11 = r ∧ jrI m 48 0 r = (L.length : Int) ∧ onM (fun j => jrI m 47 0 (400 * r + j)) L 0 ∧ jrI m 11 0 12 = u ∧ 0 ≤ r ∧ r ≤ 5
def aS (r : Int) (f : Nat) (i k : Int) : Prop := i = 0 ∧ ((f = 11 ∧ (k = 8 ∨ k = 9 ∨ k = 10 ∨ k = 12)) ∨ (f = 47 ∧ 400 * r ≤ k) ∨ f = 48)
theorem aM_S (r : Int) {m m' : jMem} (h : puR aM m m') : puR (aS r) m m' := puR_mono h (fun f i k w => by unfold aM at w; unfold aS; omega)
theorem mQ_mv {b : Int → Int} {n r i i' u : Int} {L : List (Int × Int)} {m m' : jMem} (h : mQ b n r i u L m) (hf : puR aM m m') (hr : rM b n i' m') : mQ b n r i' u L m' := by
  obtain ⟨h1, h2, h3, h4, h5, h6⟩ := h
  have e47 : jrI m' 47 0 = jrI m 47 0 := funext fun k => hf 47 0 k (by unfold aM; omega)
  unfold mQ
  rw [e47, hf 11 0 11 (by unfold aM; omega), hf 48 0 r (by unfold aM; omega), hf 11 0 12 (by unfold aM; omega)]
  exact ⟨hr, h2, h3, h4, h5, h6⟩
theorem m_puts (d : Nat) (x1 x2 : Int) {b : Int → Int} {n r i u : Int} {L : List (Int × Int)} {m : jMem} {x : Int × Int} (h : mQ b n r i u L m) (hl : (L.length : Int) < 400) (hx : enc x = x1 + 16 * x2) (h1 : 0 ≤ x1 ∧ x1 ≤ 15) (h2 : 0 ≤ x2 ∧ x2 ≤ 99999) : ∃ m', M_puts (d + 1) x1 x2 m = some (vU, m') ∧ mQ b n r i u (L ++ [x]) m' ∧ puR (aS r) m m' := by
  obtain ⟨g1, g2, g3, g4, g5, g6⟩ := h
  rw [q_M_puts, g2, g3, jix_in (by omega) (by omega), jw32_id (x := 400 * r) (by omega) (by omega), jw32_id (x := 400 * r + (L.length : Int)) (by omega) (by omega), jix_in (by omega) (by omega), jix_in (by omega) (by omega), jix_in (by omega) (by omega), jw32_id (x := 16 * x2) (by omega) (by omega), jw32_id (x := x1 + 16 * x2) (by omega) (by omega), jw32_id (x := (L.length : Int) + 1) (by omega) (by omega)]
  refine ⟨_, rfl, ⟨rM_fr (fun f k w => by rw [jrI_w, if_neg (by omega), jrI_w, if_neg (by omega)]) g1, by rw [jrI_wf (by decide), jrI_wf (by decide)]; exact g2, by rw [jrI_ws, List.length_append]; rfl, ?_, by rw [jrI_wf (by decide), jrI_wf (by decide)]; exact g5, g6⟩, puR_w (puR_w (puR_rf _ m) ?_) ?_⟩
  · refine (onM_app L 0).mpr ⟨onM_fr L 0 (fun j j0 j1 => ?_) g4, ?_, trivial⟩
    · show jrI _ 47 0 (400 * r + j) = jrI m 47 0 (400 * r + j)
      rw [jrI_wf (by decide), jrI_wk (by omega)]
    · show jrI _ 47 0 (400 * r + (0 + (L.length : Int))) = enc x
      rw [show 400 * r + (0 + (L.length : Int)) = 400 * r + (L.length : Int) by omega, jrI_wf (by decide), jrI_ws, hx]
  · exact ⟨rfl, Or.inr (Or.inl ⟨rfl, by omega⟩)⟩
  · exact ⟨rfl, Or.inr (Or.inr rfl)⟩
def mO (b : Int → Int) (n r : Int) (L : List (Int × Int)) (R : gR) (m : jMem) (X : jR) : Prop := (R.1 = 0 → ∃ m', X = some (vI 1, m') ∧ mQ b n r R.2.1 R.2.2.1 (L ++ R.2.2.2) m' ∧ puR (aS r) m m') ∧ (R.1 ≠ 0 → ∃ m', X = some (vI 0, m') ∧ jrI m' 11 0 9 = R.1 ∧ puR (aS r) m m')
theorem mO_p {b : Int → Int} {n r : Int} {L : List (Int × Int)} {R : gR} {m m1 : jMem} {X : jR} (h : puR (aS r) m m1) (hx : mO b n r L R m1 X) : mO b n r L R m X := ⟨fun w => by obtain ⟨m2, c1, c2, c3⟩ := hx.1 w; exact ⟨m2, c1, c2, puR_tr h c3⟩, fun w => by obtain ⟨m2, c1, c2, c3⟩ := hx.2 w; exact ⟨m2, c1, c2, puR_tr h c3⟩⟩
theorem mO_o {b : Int → Int} {n r i u : Int} {L X : List (Int × Int)} {m m1 : jMem} (h : mQ b n r i u (L ++ X) m1) (hf : puR (aS r) m m1) : mO b n r L (0, i, u, X) m (some (vI 1, m1)) := ⟨fun _ => ⟨m1, rfl, h, hf⟩, fun w => absurd rfl w⟩
theorem mO_f {b : Int → Int} {n r i u F : Int} {L X : List (Int × Int)} {m m1 : jMem} (hF : F ≠ 0) (h : jrI m1 11 0 9 = F) (hf : puR (aS r) m m1) : mO b n r L (F, i, u, X) m (some (vI 0, m1)) := ⟨fun w => absurd w hF, fun _ => ⟨m1, rfl, h, hf⟩⟩
theorem mO_x {b : Int → Int} {n r : Int} {L A : List (Int × Int)} {R : gR} {m : jMem} {X : jR} (h : mO b n r (L ++ A) R m X) : mO b n r L (R.1, R.2.1, R.2.2.1, A ++ R.2.2.2) m X := by
  obtain ⟨y1, y2⟩ := h
  refine ⟨fun q => ?_, y2⟩
  obtain ⟨m5, p1, p2, p3⟩ := y1 q
  refine ⟨m5, p1, ?_, p3⟩
  rw [List.append_assoc] at p2
  exact p2
theorem m_makes (d : Nat) (s : Int) {b : Int → Int} {n r i u : Int} {L : List (Int × Int)} {m : jMem} (h : mQ b n r i u L m) (hs : 0 ≤ s ∧ s ≤ 400) (hu : 0 ≤ u ∧ u ≤ 60) : (u < 60 → ∃ m', M_makes (d + 2) s m = some (vI 1, m') ∧ mQ b n r i (u + 1) L m' ∧ puR (aS r) m m' ∧ jrI m' 11 0 10 = jrI m 11 0 10) ∧ (¬ u < 60 → ∃ m', M_makes (d + 2) s m = some (vI 0, m') ∧ jrI m' 11 0 9 = 1 + 8 * s + 3 ∧ puR (aS r) m m') := by
  obtain ⟨g1, g2, g3, g4, g5, g6⟩ := h
  rw [q_M_makes, g5]
  refine ⟨fun w => ?_, fun w => ?_⟩
  · rw [if_neg (by omega), jw32_id (x := u + 1) (by omega) (by omega)]
    refine ⟨_, rfl, ⟨rM_fr (fun f k w => by rw [jrI_w, if_neg (by omega)]) g1, by rw [jrI_wk (by decide)]; exact g2, by rw [jrI_wf (by decide)]; exact g3, ?_, jrI_ws _ _ _ _ _, g6⟩, puR_w (puR_rf _ m) ⟨rfl, Or.inl ⟨rfl, by omega⟩⟩, jrI_wk (by decide)⟩
    rw [jrI_wf (by decide)]
    exact g4
  · rw [if_pos (by omega), s_M_fails d s 3 m g1.2.2.2.1 hs (by decide)]
    exact ⟨_, rfl, jrI_ws _ _ _ _ _, puR_w (puR_rf _ m) ⟨rfl, Or.inl ⟨rfl, by omega⟩⟩⟩
theorem rWd_eq (b : Int → Int) (n s : Int) : rIx (rW b n s) nWd 0 = if rW b n s = [121, 114, 111, 109, 101, 109] then 0 else if rW b n s = [108, 111, 111, 112] then 1 else if rW b n s = [109, 111, 114, 102] then 2 else if rW b n s = [101, 122, 105, 115] then 3 else if rW b n s = [108, 108, 101, 109, 115] then 4 else if rW b n s = [116, 105, 97, 98] then 5 else if rW b n s = [115, 112, 97, 114, 116] then 6 else if rW b n s = [104, 116, 105, 119] then 7 else if rW b n s = [116, 104, 103, 105, 108] then 8 else if rW b n s = [116, 120, 101, 110] then 9 else if rW b n s = [101, 115, 111, 104, 119] then 10 else if rW b n s = [116, 104, 103, 105, 110] then 11 else -1 := rfl
theorem m_wordHere (d : Nat) {b : Int → Int} {n s : Int} {m : jMem} (h : rM b n s m) (hs : rSk b n s = s) : ∃ m', M_wordHere (d + 3) m = some (vI (rIx (rW b n s) nWd 0), m') ∧ rM b n s m' ∧ puR aM m m' := by
  rw [rWd_eq, q_M_wordHere]
  obtain ⟨m0, p0, h0, f0⟩ := m_isW d [121, 114, 111, 109, 101, 109] (by decide) (by decide) (by decide) (y := 120282395144825) rfl h hs
  have g0 := f0
  rw [p0]
  simp only [jbnd_s, jasI_v]
  by_cases w0 : rW b n s = [121, 114, 111, 109, 101, 109]
  · rw [if_pos w0, jb_1 w0, if_neg (show ¬ (1 : Int) = 0 by decide)]
    exact ⟨m0, rfl, h0, g0⟩
  rw [if_neg w0, jb_n w0]
  first | rw [if_pos (show (0 : Int) = 0 from rfl)] | rw [if_pos trivial]
  obtain ⟨m1, p1, h1, f1⟩ := m_isW d [108, 111, 111, 112] (by decide) (by decide) (by decide) (y := 1886351212) rfl h0 hs
  have g1 := puR_tr g0 f1
  rw [p1]
  simp only [jbnd_s, jasI_v]
  by_cases w1 : rW b n s = [108, 111, 111, 112]
  · rw [if_pos w1, jb_1 w1, if_neg (show ¬ (1 : Int) = 0 by decide)]
    exact ⟨m1, rfl, h1, g1⟩
  rw [if_neg w1, jb_n w1]
  first | rw [if_pos (show (0 : Int) = 0 from rfl)] | rw [if_pos trivial]
  obtain ⟨m2, p2, h2, f2⟩ := m_isW d [109, 111, 114, 102] (by decide) (by decide) (by decide) (y := 1718775661) rfl h1 hs
  have g2 := puR_tr g1 f2
  rw [p2]
  simp only [jbnd_s, jasI_v]
  by_cases w2 : rW b n s = [109, 111, 114, 102]
  · rw [if_pos w2, jb_1 w2, if_neg (show ¬ (1 : Int) = 0 by decide)]
    exact ⟨m2, rfl, h2, g2⟩
  rw [if_neg w2, jb_n w2]
  first | rw [if_pos (show (0 : Int) = 0 from rfl)] | rw [if_pos trivial]
  obtain ⟨m3, p3, h3, f3⟩ := m_isW d [101, 122, 105, 115] (by decide) (by decide) (by decide) (y := 1936292453) rfl h2 hs
  have g3 := puR_tr g2 f3
  rw [p3]
  simp only [jbnd_s, jasI_v]
  by_cases w3 : rW b n s = [101, 122, 105, 115]
  · rw [if_pos w3, jb_1 w3, if_neg (show ¬ (1 : Int) = 0 by decide)]
    exact ⟨m3, rfl, h3, g3⟩
  rw [if_neg w3, jb_n w3]
  first | rw [if_pos (show (0 : Int) = 0 from rfl)] | rw [if_pos trivial]
  obtain ⟨m4, p4, h4, f4⟩ := m_isW d [108, 108, 101, 109, 115] (by decide) (by decide) (by decide) (y := 495756602476) rfl h3 hs
  have g4 := puR_tr g3 f4
  rw [p4]
  simp only [jbnd_s, jasI_v]
  by_cases w4 : rW b n s = [108, 108, 101, 109, 115]
  · rw [if_pos w4, jb_1 w4, if_neg (show ¬ (1 : Int) = 0 by decide)]
    exact ⟨m4, rfl, h4, g4⟩
  rw [if_neg w4, jb_n w4]
  first | rw [if_pos (show (0 : Int) = 0 from rfl)] | rw [if_pos trivial]
  obtain ⟨m5, p5, h5, f5⟩ := m_isW d [116, 105, 97, 98] (by decide) (by decide) (by decide) (y := 1650551156) rfl h4 hs
  have g5 := puR_tr g4 f5
  rw [p5]
  simp only [jbnd_s, jasI_v]
  by_cases w5 : rW b n s = [116, 105, 97, 98]
  · rw [if_pos w5, jb_1 w5, if_neg (show ¬ (1 : Int) = 0 by decide)]
    exact ⟨m5, rfl, h5, g5⟩
  rw [if_neg w5, jb_n w5]
  first | rw [if_pos (show (0 : Int) = 0 from rfl)] | rw [if_pos trivial]
  obtain ⟨m6, p6, h6, f6⟩ := m_isW d [115, 112, 97, 114, 116] (by decide) (by decide) (by decide) (y := 500135194739) rfl h5 hs
  have g6 := puR_tr g5 f6
  rw [p6]
  simp only [jbnd_s, jasI_v]
  by_cases w6 : rW b n s = [115, 112, 97, 114, 116]
  · rw [if_pos w6, jb_1 w6, if_neg (show ¬ (1 : Int) = 0 by decide)]
    exact ⟨m6, rfl, h6, g6⟩
  rw [if_neg w6, jb_n w6]
  first | rw [if_pos (show (0 : Int) = 0 from rfl)] | rw [if_pos trivial]
  obtain ⟨m7, p7, h7, f7⟩ := m_isW d [104, 116, 105, 119] (by decide) (by decide) (by decide) (y := 2003399784) rfl h6 hs
  have g7 := puR_tr g6 f7
  rw [p7]
  simp only [jbnd_s, jasI_v]
  by_cases w7 : rW b n s = [104, 116, 105, 119]
  · rw [if_pos w7, jb_1 w7, if_neg (show ¬ (1 : Int) = 0 by decide)]
    exact ⟨m7, rfl, h7, g7⟩
  rw [if_neg w7, jb_n w7]
  first | rw [if_pos (show (0 : Int) = 0 from rfl)] | rw [if_pos trivial]
  obtain ⟨m8, p8, h8, f8⟩ := m_isW d [116, 104, 103, 105, 108] (by decide) (by decide) (by decide) (y := 465624852596) rfl h7 hs
  have g8 := puR_tr g7 f8
  rw [p8]
  simp only [jbnd_s, jasI_v]
  by_cases w8 : rW b n s = [116, 104, 103, 105, 108]
  · rw [if_pos w8, jb_1 w8, if_neg (show ¬ (1 : Int) = 0 by decide)]
    exact ⟨m8, rfl, h8, g8⟩
  rw [if_neg w8, jb_n w8]
  first | rw [if_pos (show (0 : Int) = 0 from rfl)] | rw [if_pos trivial]
  obtain ⟨m9, p9, h9, f9⟩ := m_isW d [116, 120, 101, 110] (by decide) (by decide) (by decide) (y := 1852143732) rfl h8 hs
  have g9 := puR_tr g8 f9
  rw [p9]
  simp only [jbnd_s, jasI_v]
  by_cases w9 : rW b n s = [116, 120, 101, 110]
  · rw [if_pos w9, jb_1 w9, if_neg (show ¬ (1 : Int) = 0 by decide)]
    exact ⟨m9, rfl, h9, g9⟩
  rw [if_neg w9, jb_n w9]
  first | rw [if_pos (show (0 : Int) = 0 from rfl)] | rw [if_pos trivial]
  obtain ⟨m10, p10, h10, f10⟩ := m_isW d [101, 115, 111, 104, 119] (by decide) (by decide) (by decide) (y := 512853242725) rfl h9 hs
  have g10 := puR_tr g9 f10
  rw [p10]
  simp only [jbnd_s, jasI_v]
  by_cases w10 : rW b n s = [101, 115, 111, 104, 119]
  · rw [if_pos w10, jb_1 w10, if_neg (show ¬ (1 : Int) = 0 by decide)]
    exact ⟨m10, rfl, h10, g10⟩
  rw [if_neg w10, jb_n w10]
  first | rw [if_pos (show (0 : Int) = 0 from rfl)] | rw [if_pos trivial]
  obtain ⟨m11, p11, h11, f11⟩ := m_isW d [116, 104, 103, 105, 110] (by decide) (by decide) (by decide) (y := 474214787188) rfl h10 hs
  have g11 := puR_tr g10 f11
  rw [p11]
  simp only [jbnd_s, jasI_v]
  by_cases w11 : rW b n s = [116, 104, 103, 105, 110]
  · rw [if_pos w11, jb_1 w11, if_neg (show ¬ (1 : Int) = 0 by decide)]
    exact ⟨m11, rfl, h11, g11⟩
  rw [if_neg w11, jb_n w11]
  first | rw [if_pos (show (0 : Int) = 0 from rfl)] | rw [if_pos trivial]
  exact ⟨m11, rfl, h11, g11⟩
theorem m_val (d : Nat) {b : Int → Int} {n r i u : Int} {L : List (Int × Int)} {m : jMem} (h : mQ b n r i u L m) (hl : (L.length : Int) ≤ i) (hu : 0 ≤ u ∧ u ≤ 60) : mO b n r L (gVal b n i u) m (M_value (d + 4) m) := by
  have h5 := h.1.2.2.2.2
  obtain ⟨m1, a1, a2, a3⟩ := m_see (d + 2) h.1
  have q1 := mQ_mv h a3 a2
  have hs := rSk_in (b := b) h5.1 h5.2.1
  have hid := rSk_id (b := b) h5.1 h5.2.1
  unfold gVal
  rw [q_M_value, a1]
  simp only [jbnd_s]
  rw [a2.2.2.1]
  generalize rSk b n i = s at *
  rw [s_M_isDigit (d + 2) b n s m1 a2.1 a2.2.1 a2.2.2.2.2.1 a2.2.2.2.2.2.2]
  simp only [jbnd_s, jasI_v]
  by_cases hd : s < n ∧ 48 ≤ b s ∧ b s ≤ 57
  · rw [if_pos hd, jb_1 hd, if_neg (show ¬ (1 : Int) = 0 by decide)]
    obtain ⟨n1, n2⟩ := m_number d 0 99999 a2
    rw [hid] at n1 n2
    by_cases ok : rOk b s (rDg b n s) 0 99999
    · have e1 : rN1 b n 0 99999 0 s = (0, rDg b n s, rVl b s (rDg b n s)) := by
        have := rN1_ok (b := b) (n := n) (lo := 0) (hi := 99999) (i := s) (by rw [hid]; exact ok)
        rw [hid] at this
        exact this
      obtain ⟨m2, b1, b2, b3, b4⟩ := n1 ok
      have hdg := (rDg_in (b := b) (n := n) (i := s) (by omega) (by omega))
      have q2 := mQ_mv q1 b4 b2
      obtain ⟨k1, k2⟩ := m_makes (d + 1) s q2 (by omega) hu
      rw [e1, if_pos (show ((0, rDg b n s, rVl b s (rDg b n s)) : Int × (Int × Int)).1 = 0 from rfl), b1]
      simp only [jbnd_s, jasI_v]
      rw [if_neg (show ¬ (1 : Int) = 0 by decide)]
      by_cases hu6 : u < 60
      · obtain ⟨m3, v1, v2, v3, v4⟩ := k1 hu6
        rw [if_pos hu6, v1]
        simp only [jbnd_s, jasI_v]
        rw [if_neg (show ¬ (1 : Int) = 0 by decide)]
        have e10 : jrI m3 11 0 10 = rVl b s (rDg b n s) := by
          rw [v4]; exact b3
        rw [e10]
        obtain ⟨m4, w1, w2, w3⟩ := m_puts (d + 2) 0 (rVl b s (rDg b n s)) (x := (6, rVl b s (rDg b n s))) v2 (by omega) (by show (0 : Int) + _ = 0 + _; rfl) (by decide) ⟨ok.2.2.1, ok.2.2.2⟩
        rw [w1]
        exact mO_o w2 (puR_tr (aM_S r a3) (puR_tr (aM_S r b4) (puR_tr v3 w3)))
      · obtain ⟨m3, v1, v2, v3⟩ := k2 hu6
        rw [if_neg hu6, v1]
        simp only [jbnd_s, jasI_v]
        first | rw [if_pos (show (0 : Int) = 0 from rfl)] | rw [if_pos trivial]
        exact mO_f (by omega) v2 (puR_tr (aM_S r a3) (puR_tr (aM_S r b4) v3))
    · have e1 : rN1 b n 0 99999 0 s = (rFt b n s, rDg b n s, -1) := by
        have := rN1_no (b := b) (n := n) (lo := 0) (hi := 99999) (i := s) (by rw [hid]; exact ok)
        rw [hid] at this
        exact this
      obtain ⟨m2, b1, b2, b3⟩ := n2 ok
      have hne : rFt b n s ≠ 0 := rFt_n (by omega)
      rw [e1, if_neg (show ¬ ((rFt b n s, rDg b n s, -1) : Int × (Int × Int)).1 = 0 from hne), b1]
      simp only [jbnd_s, jasI_v]
      first | rw [if_pos (show (0 : Int) = 0 from rfl)] | rw [if_pos trivial]
      exact mO_f hne b2 (puR_tr (aM_S r a3) (aM_S r b3))
  · obtain ⟨m2, b1, b2, b3⟩ := m_wordHere d a2 hid
    have q2 := mQ_mv q1 b3 b2
    rw [if_neg hd, jb_n hd]
    first | rw [if_pos (show (0 : Int) = 0 from rfl)] | rw [if_pos trivial]
    rw [b1]
    simp only [jbnd_s, jasI_v]
    have hri := rIx_in (rW b n s) nWd 0 (by decide)
    have hlen : (nWd.length : Int) = 12 := rfl
    by_cases hw : rIx (rW b n s) nWd 0 = -1
    · rw [if_pos hw, if_pos (show rIx (rW b n s) nWd 0 < 0 by omega), s_M_fails (d + 2) s 0 m2 b2.2.2.2.1 (by omega) (by decide)]
      simp only [jbnd_s, jasI_v]
      exact mO_f (by omega) (by rw [jrI_ws]; omega) (puR_w (puR_tr (aM_S r a3) (aM_S r b3)) ⟨rfl, Or.inl ⟨rfl, by omega⟩⟩)
    · have hw2 : 0 ≤ rIx (rW b n s) nWd 0 ∧ rIx (rW b n s) nWd 0 < 12 := by omega
      rw [if_neg hw, if_neg (show ¬ rIx (rW b n s) nWd 0 < 0 by omega)]
      have hp := rIx_w (b := b) (n := n) (s := s) (by omega) (by omega) (l := nWd) (by decide) hw
      have hp2 := (rPw_in (b := b) (n := n) (i := s) (by omega) (by omega)).2
      generalize rIx (rW b n s) nWd 0 = w at *
      obtain ⟨k1, k2⟩ := m_makes (d + 1) s q2 (by omega) hu
      by_cases hu6 : u < 60
      · obtain ⟨m3, v1, v2, v3, v4⟩ := k1 hu6
        obtain ⟨m4, w1, w2, w3⟩ := m_pass (d + 1) v2.1
        obtain ⟨m5, x1, x2, x3⟩ := m_puts (d + 2) 1 w (x := (7, w)) (mQ_mv v2 w3 w2) (by omega) rfl (by decide) (by omega)
        rw [if_pos hu6, v1]
        simp only [jbnd_s, jasI_v]
        rw [if_neg (show ¬ (1 : Int) = 0 by decide), w1]
        simp only [jbnd_s]
        rw [x1]
        exact mO_o x2 (puR_tr (aM_S r a3) (puR_tr (aM_S r b3) (puR_tr v3 (puR_tr (aM_S r w3) x3))))
      · obtain ⟨m3, v1, v2, v3⟩ := k2 hu6
        rw [if_neg hu6, v1]
        simp only [jbnd_s, jasI_v]
        first | rw [if_pos (show (0 : Int) = 0 from rfl)] | rw [if_pos trivial]
        exact mO_f (by omega) v2 (puR_tr (aM_S r a3) (puR_tr (aM_S r b3) v3))
