/-! The class reads a rule's sums -/
def onL (c g : Int → Int) : List (Int × Int) → Int → Prop
  | [], _ => True
  | x :: l, p => c p = x.1 ∧ g p = x.2 ∧ onL c g l (p + 1)
theorem onL_app {c g : Int → Int} {B : List (Int × Int)} : ∀ (A : List (Int × Int)) (p : Int), onL c g (A ++ B) p ↔ (onL c g A p ∧ onL c g B (p + (A.length : Int))) := by
  intro A
  induction A with
  | nil =>
    intro p
    show onL c g B p ↔ (True ∧ onL c g B (p + ((0 : Nat) : Int)))
    rw [show p + ((0 : Nat) : Int) = p by omega]
    exact ⟨fun h => ⟨trivial, h⟩, fun h => h.2⟩
  | cons x A ih =>
    intro p
    show (c p = x.1 ∧ g p = x.2 ∧ onL c g (A ++ B) (p + 1)) ↔ ((c p = x.1 ∧ g p = x.2 ∧ onL c g A (p + 1)) ∧ onL c g B (p + ((A.length + 1 : Nat) : Int)))
    rw [ih (p + 1), show p + ((A.length + 1 : Nat) : Int) = p + 1 + (A.length : Int) by omega]
    exact ⟨fun h => ⟨⟨h.1, h.2.1, h.2.2.1⟩, h.2.2.2⟩, fun h => ⟨h.1.1, h.1.2.1, h.1.2.2, h.2⟩⟩
theorem onL_fr {c g c' g' : Int → Int} : ∀ (A : List (Int × Int)) (p : Int), (∀ j, p ≤ j → j < p + (A.length : Int) → c' j = c j ∧ g' j = g j) → onL c g A p → onL c' g' A p := by
  intro A
  induction A with
  | nil => intro p _ _; trivial
  | cons x A ih =>
    intro p h hc
    have hl : ((x :: A).length : Int) = (A.length : Int) + 1 := by
      rw [List.length_cons]; omega
    have h1 := h p (Int.le_refl p) (by omega)
    exact ⟨by rw [h1.1]; exact hc.1, by rw [h1.2]; exact hc.2.1, ih (p + 1) (fun j j0 j1 => h j (by omega) (by omega)) hc.2.2⟩
def cQ (b : Int → Int) (n r i u : Int) (L : List (Int × Int)) (m : jMem) : Prop := rC b n i m ∧ jrI m 5 r 2 = (L.length : Int) ∧ jrI m 5 r 4 = u ∧ onL (jrI m 31 r) (jrI m 32 r) L 0 ∧ (jrI m 5 r 3 = 0 ∨ jrI m 5 r 3 = 1) ∧ (jrI m 5 r 3 = 0 → ∀ x ∈ L, unT x)
def aU (r : Int) (f : Nat) (i k : Int) : Prop := (f = 8 ∧ i = 0 ∧ (k = 2 ∨ k = 3)) ∨ (i = r ∧ (f = 31 ∨ f = 32 ∨ (f = 5 ∧ (k = 2 ∨ k = 3 ∨ k = 4))))
theorem aC_U (r : Int) {m m' : jMem} (h : puR aC m m') : puR (aU r) m m' := puR_mono h (fun f i k w => by unfold aC at w; unfold aU; omega)
theorem cQ_mv {b : Int → Int} {n r i i' u : Int} {L : List (Int × Int)} {m m' : jMem} (h : cQ b n r i u L m) (hf : puR aC m m') (hr : rC b n i' m') : cQ b n r i' u L m' := by
  obtain ⟨h1, h2, h3, h4, h5, h6⟩ := h
  have e31 : jrI m' 31 r = jrI m 31 r := funext fun k => hf 31 r k (by unfold aC; omega)
  have e32 : jrI m' 32 r = jrI m 32 r := funext fun k => hf 32 r k (by unfold aC; omega)
  have e5 : ∀ k, jrI m' 5 r k = jrI m 5 r k := fun k => hf 5 r k (by unfold aC; omega)
  unfold cQ
  rw [e31, e32, e5, e5, e5]
  exact ⟨hr, h2, h3, h4, h5, h6⟩
def cF (F r : Int) (m : jMem) : Prop := jrI m 8 0 3 = F ∧ 0 ≤ jrI m 5 r 2 ∧ jrI m 5 r 2 ≤ 400
theorem c_emit (d : Nat) (a v : Int) {b : Int → Int} {n r i u : Int} {L : List (Int × Int)} {m : jMem} (h : cQ b n r i u L m) (hl : (L.length : Int) < 400) (hx : jrI m 5 r 3 = 0 → unT (a, v)) : ∃ m', Ru_emit (d + 1) r a v m = some (vU, m') ∧ cQ b n r i u (L ++ [(a, v)]) m' ∧ puR (aU r) m m' := by
  obtain ⟨h1, h2, h3, h4, h5, h6⟩ := h
  rw [q_Ru_emit, h2, if_pos hl, jix_in (by omega) (by omega), jix_in (by omega) (by omega), jw32_id (x := (L.length : Int) + 1) (by omega) (by omega)]
  have e31 : ∀ j, jrI (jwI (jwI (jwI m 31 r (L.length : Int) a) 32 r (L.length : Int) v) 5 r 2 ((L.length : Int) + 1)) 31 r j = if j = (L.length : Int) then a else jrI m 31 r j := fun j => by
    rw [jrI_wf (by decide), jrI_wf (by decide)]
    by_cases e : j = (L.length : Int)
    · rw [if_pos e, e, jrI_ws]
    · rw [if_neg e, jrI_wk e]
  have e32 : ∀ j, jrI (jwI (jwI (jwI m 31 r (L.length : Int) a) 32 r (L.length : Int) v) 5 r 2 ((L.length : Int) + 1)) 32 r j = if j = (L.length : Int) then v else jrI m 32 r j := fun j => by
    rw [jrI_wf (by decide)]
    by_cases e : j = (L.length : Int)
    · rw [if_pos e, e, jrI_ws]
    · rw [if_neg e, jrI_wk e, jrI_wf (by decide)]
  have e5 : ∀ k, k ≠ 2 → jrI (jwI (jwI (jwI m 31 r (L.length : Int) a) 32 r (L.length : Int) v) 5 r 2 ((L.length : Int) + 1)) 5 r k = jrI m 5 r k := fun k hk => by
    rw [jrI_wk hk, jrI_wf (by decide), jrI_wf (by decide)]
  refine ⟨_, rfl, ⟨rC_fr (fun f k w => by rw [jrI_w, if_neg (by omega), jrI_w, if_neg (by omega), jrI_w, if_neg (by omega)]) h1, ?_, by rw [e5 4 (by decide)]; exact h3, ?_, by rw [e5 3 (by decide)]; exact h5, ?_⟩, ?_⟩
  · rw [jrI_ws, List.length_append]
    rfl
  · refine (onL_app L 0).mpr ⟨onL_fr L 0 (fun j j0 j1 => ?_) h4, ?_, ?_, trivial⟩
    · rw [e31, e32, if_neg (by omega), if_neg (by omega)]
      exact ⟨rfl, rfl⟩
    · rw [e31, if_pos (by omega)]
    · rw [e32, if_pos (by omega)]
  · rw [e5 3 (by decide)]
    intro w x hxm
    rcases List.mem_append.mp hxm with q | q
    · exact h6 w x q
    · rw [List.mem_singleton.mp q]
      exact hx w
  · refine puR_w (puR_w (puR_w (puR_rf _ m) ?_) ?_) ?_
    · exact Or.inr ⟨rfl, Or.inl rfl⟩
    · exact Or.inr ⟨rfl, Or.inr (Or.inl rfl)⟩
    · exact Or.inr ⟨rfl, Or.inr (Or.inr ⟨rfl, Or.inl rfl⟩)⟩
theorem f_emit (d : Nat) (a v : Int) {F r : Int} {m : jMem} (h : cF F r m) : ∃ m', Ru_emit (d + 1) r a v m = some (vU, m') ∧ cF F r m' ∧ puR (aU r) m m' := by
  obtain ⟨h1, h2, h3⟩ := h
  rw [q_Ru_emit]
  by_cases hl : jrI m 5 r 2 < 400
  · rw [if_pos hl, jix_in h2 (by omega), jix_in h2 (by omega), jw32_id (x := jrI m 5 r 2 + 1) (by omega) (by omega)]
    refine ⟨_, rfl, ⟨by rw [jrI_wf (by decide), jrI_wf (by decide), jrI_wf (by decide)]; exact h1, by rw [jrI_ws]; omega, by rw [jrI_ws]; omega⟩, puR_w (puR_w (puR_w (puR_rf _ m) ?_) ?_) ?_⟩
    · exact Or.inr ⟨rfl, Or.inl rfl⟩
    · exact Or.inr ⟨rfl, Or.inr (Or.inl rfl)⟩
    · exact Or.inr ⟨rfl, Or.inr (Or.inr ⟨rfl, Or.inl rfl⟩)⟩
  · rw [if_neg hl]
    exact ⟨m, rfl, ⟨h1, h2, h3⟩, puR_rf _ m⟩
theorem cQ_F {b : Int → Int} {n r i u F : Int} {L : List (Int × Int)} {m : jMem} (h : cQ b n r i u L m) (hl : (L.length : Int) ≤ 400) : cF F r (jwI m 8 0 3 F) := ⟨jrI_ws _ _ _ _ _, by rw [jrI_wf (by decide), h.2.1]; omega, by rw [jrI_wf (by decide), h.2.1]; exact hl⟩
def cOut (b : Int → Int) (n r : Int) (L : List (Int × Int)) (R : gR) (m : jMem) (X : jR) : Prop := (R.1 = 0 → ∃ m', X = some (vI 1, m') ∧ cQ b n r R.2.1 R.2.2.1 (L ++ R.2.2.2) m' ∧ puR (aU r) m m') ∧ (R.1 ≠ 0 → ∃ m', X = some (vI 0, m') ∧ cF R.1 r m' ∧ puR (aU r) m m')
theorem cOut_p {b : Int → Int} {n r : Int} {L : List (Int × Int)} {R : gR} {m m1 : jMem} {X : jR} (h : puR (aU r) m m1) (hx : cOut b n r L R m1 X) : cOut b n r L R m X := ⟨fun w => by obtain ⟨m2, c1, c2, c3⟩ := hx.1 w; exact ⟨m2, c1, c2, puR_tr h c3⟩, fun w => by obtain ⟨m2, c1, c2, c3⟩ := hx.2 w; exact ⟨m2, c1, c2, puR_tr h c3⟩⟩
theorem cOut_o {b : Int → Int} {n r i u : Int} {L X : List (Int × Int)} {m m1 : jMem} (h : cQ b n r i u (L ++ X) m1) (hf : puR (aU r) m m1) : cOut b n r L (0, i, u, X) m (some (vI 1, m1)) := ⟨fun _ => ⟨m1, rfl, h, hf⟩, fun w => absurd rfl w⟩
theorem cOut_f {b : Int → Int} {n r i u F : Int} {L X : List (Int × Int)} {m m1 : jMem} (hF : F ≠ 0) (h : cF F r m1) (hf : puR (aU r) m m1) : cOut b n r L (F, i, u, X) m (some (vI 0, m1)) := ⟨fun w => absurd w hF, fun _ => ⟨m1, rfl, h, hf⟩⟩
theorem c_unit (d : Nat) (s : Int) {b : Int → Int} {n r i u : Int} {L : List (Int × Int)} {m : jMem} (h : cQ b n r i u L m) (hl : (L.length : Int) ≤ 400) (hs : 0 ≤ s ∧ s ≤ 400) (hu : 0 ≤ u ∧ u ≤ 60) : (u < 60 → ∃ m', Ru_hasUnit (d + 2) r s m = some (vI 1, m') ∧ cQ b n r i (u + 1) L m' ∧ puR (aU r) m m') ∧ (¬ u < 60 → ∃ m', Ru_hasUnit (d + 2) r s m = some (vI 0, m') ∧ cF (1 + 8 * s + 3) r m' ∧ puR (aU r) m m') := by
  obtain ⟨h1, h2, h3, h4, h5, h6⟩ := id h
  have fr : puR (aU r) m (jwI m 5 r 4 (u + 1)) := puR_w (puR_rf _ m) (Or.inr ⟨rfl, Or.inr (Or.inr ⟨rfl, Or.inr (Or.inr rfl)⟩)⟩)
  rw [q_Ru_hasUnit, h3, jw32_id (x := u + 1) (by omega) (by omega), jrI_ws]
  refine ⟨fun w => ?_, fun w => ?_⟩
  · rw [if_neg (by omega)]
    refine ⟨_, rfl, ⟨rC_fr (fun f k w => by rw [jrI_w, if_neg (by omega)]) h1, by rw [jrI_wk (by decide)]; exact h2, jrI_ws _ _ _ _ _, ?_, by rw [jrI_wk (by decide)]; exact h5, by rw [jrI_wk (by decide)]; exact h6⟩, fr⟩
    rw [jrI_wf (by decide), jrI_wf (by decide)]
    exact h4
  · rw [if_pos (by omega), s_Ta_blame d s 3 _ (by rw [jrI_wf (by decide)]; exact h1.2.2.2.1) hs (by decide)]
    simp only [jbnd_s, jasI_v]
    refine ⟨_, rfl, ⟨jrI_ws _ _ _ _ _, ?_, ?_⟩, puR_w fr (Or.inl ⟨rfl, rfl, Or.inr rfl⟩)⟩
    · rw [jrI_wf (by decide), jrI_wk (by decide), h2]
      omega
    · rw [jrI_wf (by decide), jrI_wk (by decide), h2]
      exact hl
theorem c_val (d : Nat) {b : Int → Int} {n r i u : Int} {L : List (Int × Int)} {m : jMem} (h : cQ b n r i u L m) (hl : (L.length : Int) ≤ i) (hu : 0 ≤ u ∧ u ≤ 60) : cOut b n r L (gVal b n i u) m (Ru_readValue (d + 3) r m) := by
  have h5 := h.1.2.2.2.2
  obtain ⟨m1, a1, a2, a3⟩ := c_skip (d + 1) h.1
  have q1 := cQ_mv h a3 a2
  have hs := rSk_in (b := b) h5.1 h5.2.1
  have hid := rSk_id (b := b) h5.1 h5.2.1
  unfold gVal
  rw [q_Ru_readValue, a1]
  simp only [jbnd_s]
  rw [c_onDigit (d + 1) a2]
  simp only [jbnd_s, jasI_v]
  rw [a2.2.2.1]
  generalize rSk b n i = s at *
  by_cases hd : s < n ∧ 48 ≤ b s ∧ b s ≤ 57
  · rw [if_pos hd, jb_1 hd, if_neg (show ¬ (1 : Int) = 0 by decide)]
    obtain ⟨m2, b1, b2, b3⟩ := c_num d 0 99999 (Or.inl ⟨rfl, a2⟩ : rCf b n 0 s m1)
    rw [b1]
    simp only [jbnd_s, jasI_v]
    have hcode : (jrI m2 5 r 3 = 0 → unT (6, (rN1 b n 0 99999 0 s).2.2)) := fun _ w => absurd (show (6 : Int) = 7 from w) (by decide)
    rcases b2 with ⟨z, b2⟩ | ⟨z, b2⟩
    · rw [if_pos z]
      obtain ⟨m3, e1, e2, e3⟩ := c_emit (d + 1) 6 (rN1 b n 0 99999 0 s).2.2 (cQ_mv q1 b3 b2) (by omega) hcode
      have f3 : puR (aU r) m m3 := puR_tr (aC_U r a3) (puR_tr (aC_U r b3) e3)
      obtain ⟨u1, u2⟩ := c_unit d s e2 (by rw [List.length_append, show [((6 : Int), (rN1 b n 0 99999 0 s).2.2)].length = 1 from rfl]; omega) (by omega) hu
      rw [e1]
      simp only [jbnd_s]
      rw [if_pos e2.1.2.2.2.1]
      by_cases hu6 : u < 60
      · obtain ⟨m4, v1, v2, v3⟩ := u1 hu6
        rw [if_pos hu6, v1]
        simp only [jbnd_s, jasI_v]
        rw [if_neg (by decide)]
        exact cOut_o v2 (puR_tr f3 v3)
      · obtain ⟨m4, v1, v2, v3⟩ := u2 hu6
        rw [if_neg hu6, v1]
        simp only [jbnd_s, jasI_v]
        first | rw [if_pos rfl] | rw [if_pos trivial]
        exact cOut_f (by omega) v2 (puR_tr f3 v3)
    · rw [if_neg z]
      have hcf : cF (rN1 b n 0 99999 0 s).1 r m2 := ⟨b2, by rw [b3 5 r 2 (by unfold aC; omega), q1.2.1]; omega, by rw [b3 5 r 2 (by unfold aC; omega), q1.2.1]; omega⟩
      obtain ⟨m3, e1, e2, e3⟩ := f_emit (d + 1) 6 (rN1 b n 0 99999 0 s).2.2 hcf
      rw [e1]
      simp only [jbnd_s]
      rw [if_neg (by rw [e2.1]; exact z)]
      exact cOut_f z e2 (puR_tr (aC_U r a3) (puR_tr (aC_U r b3) e3))
  · have hf : Ta_find (d + 2) 2 m1 = some (vI (rIx (rW b n s) nWd 0), m1) := c_find d 2 nWd a2 rfl (by decide) (by decide) (by decide)
    rw [if_neg hd, jb_n hd]
    first | rw [if_pos rfl] | rw [if_pos trivial]
    rw [hf]
    simp only [jbnd_s, jasI_v]
    by_cases hw : rIx (rW b n s) nWd 0 = -1
    · rw [if_pos hw, if_pos hw, s_Ta_blame (d + 1) s 0 m1 a2.2.2.2.1 (by omega) (by decide)]
      have := cQ_F (F := 1 + 8 * s + 0) q1 (by omega)
      rw [show 1 + 8 * s + 0 = 1 + 8 * s by omega] at this ⊢
      exact cOut_f (by omega) this (puR_w (aC_U r a3) (Or.inl ⟨rfl, rfl, Or.inr rfl⟩))
    · rw [if_neg hw, if_neg hw]
      obtain ⟨m2, b1, b2, b3⟩ := c_pass (d + 1) a2
      have q2 := cQ_mv q1 b3 b2
      have hp := rIx_w (b := b) (n := n) (s := s) (by omega) (by omega) (l := nWd) (by decide) hw
      have hp2 := (rPw_in (b := b) (n := n) (i := s) (by omega) (by omega)).2
      rw [b1]
      simp only [jbnd_s]
      generalize rIx (rW b n s) nWd 0 = w at *
      have key : ∀ t, (t = 0 ∨ t = 1) → (t = 0 → jrI m2 5 r 3 = 0 ∧ unT (7, w)) → cOut b n r L (if u < 60 then (0, rPw b n s, u + 1, [(7, w)]) else (1 + 8 * s + 3, 0, 0, [])) m (Ru_readValue_105 (d + 2) r s w (some r) t m2) := by
        intro t ht ht0
        rw [q_Ru_readValue_105, jsm_s, jbo_in ht]
        obtain ⟨h1, h2, h3, h4, h5', h6⟩ := id q2
        have q3 : cQ b n r (rPw b n s) u L (jwI m2 5 r 3 t) := by
          refine ⟨rC_fr (fun f k w => by rw [jrI_w, if_neg (by omega)]) h1, by rw [jrI_wk (by decide)]; exact h2, by rw [jrI_wk (by decide)]; exact h3, ?_, by rw [jrI_ws]; exact ht, fun q => ?_⟩
          · rw [jrI_wf (by decide), jrI_wf (by decide)]
            exact h4
          · rw [jrI_ws] at q
            exact h6 (ht0 q).1
        obtain ⟨m3, e1, e2, e3⟩ := c_emit (d + 1) 7 w q3 (by omega) (fun q => by rw [jrI_ws] at q; exact (ht0 q).2)
        have f3 : puR (aU r) m m3 := puR_tr (aC_U r a3) (puR_tr (puR_w (aC_U r b3) (Or.inr ⟨rfl, Or.inr (Or.inr ⟨rfl, Or.inr (Or.inl rfl)⟩)⟩)) e3)
        obtain ⟨u1, u2⟩ := c_unit d s e2 (by rw [List.length_append, show [((7 : Int), w)].length = 1 from rfl]; omega) (by omega) hu
        rw [e1]
        simp only [jbnd_s]
        by_cases hu6 : u < 60
        · obtain ⟨m4, v1, v2, v3⟩ := u1 hu6
          rw [if_pos hu6, v1]
          exact cOut_o v2 (puR_tr f3 v3)
        · obtain ⟨m4, v1, v2, v3⟩ := u2 hu6
          rw [if_neg hu6, v1]
          exact cOut_f (by omega) v2 (puR_tr f3 v3)
      by_cases ht : jrI m2 5 r 3 = 0
      · rw [if_pos ht]
        by_cases w8 : w = 8
        · rw [if_pos w8]
          exact key 1 (Or.inr rfl) (fun w => absurd w (by decide))
        rw [if_neg w8]
        by_cases w9 : w = 9
        · rw [if_pos w9]
          exact key 1 (Or.inr rfl) (fun w => absurd w (by decide))
        rw [if_neg w9]
        by_cases w11 : w = 11
        · rw [if_pos w11]
          exact key 1 (Or.inr rfl) (fun w => absurd w (by decide))
        rw [if_neg w11]
        exact key 0 (Or.inl rfl) (fun _ => ⟨ht, fun _ => ⟨w8, w9, w11⟩⟩)
      · rw [if_neg ht]
        exact key 1 (Or.inr rfl) (fun w => absurd w (by decide))
theorem c_esg (d : Nat) {b : Int → Int} {n r i u w : Int} {L : List (Int × Int)} {m : jMem} (h : cQ b n r i u L m) (hl : (L.length : Int) + gwn w ≤ i) (hw : w ≠ 7) : ∃ m', Ru_emitSign (d + 2) r w m = some (vU, m') ∧ cQ b n r i u (L ++ gW w) m' ∧ puR (aU r) m m' := by
  have h5 := h.1.2.2.2.2
  rw [q_Ru_emitSign]
  unfold gW
  unfold gwn at hl
  by_cases w0 : w = 0
  · rw [if_pos w0, if_pos w0, List.append_nil]
    exact ⟨m, rfl, h, puR_rf _ m⟩
  · rw [if_neg w0] at hl
    rw [if_neg w0, if_neg w0]
    obtain ⟨m1, a1, a2, a3⟩ := c_emit d w 0 h (by omega) (fun _ q => absurd q hw)
    rw [a1]
    exact ⟨m1, rfl, a2, a3⟩
theorem f_esg (d : Nat) (w : Int) {F r : Int} {m : jMem} (h : cF F r m) : ∃ m', Ru_emitSign (d + 2) r w m = some (vU, m') ∧ cF F r m' ∧ puR (aU r) m m' := by
  rw [q_Ru_emitSign]
  by_cases w0 : w = 0
  · rw [if_pos w0]
    exact ⟨m, rfl, h, puR_rf _ m⟩
  · rw [if_neg w0]
    obtain ⟨m1, a1, a2, a3⟩ := f_emit d w 0 h
    rw [a1]
    exact ⟨m1, rfl, a2, a3⟩
theorem f_sl (d : Nat) (w x : Int) {F r : Int} {m : jMem} (h : cF F r m) : ∃ m', Ru_readSum_11 (d + 2) r w 0 x m = some (vI 0, m') ∧ cF F r m' ∧ puR (aU r) m m' := by
  obtain ⟨m1, a1, a2, a3⟩ := f_esg d w h
  rw [q_Ru_readSum_11, a1]
  by_cases hx : 60 < x
  · rw [if_pos hx]
    exact ⟨m1, rfl, a2, a3⟩
  · rw [if_neg hx, if_pos rfl]
    exact ⟨m1, rfl, a2, a3⟩
theorem c_sl (d : Nat) {b : Int → Int} {n r : Int} : ∀ (k : Nat) (w x i u : Int) (L : List (Int × Int)) (m : jMem), (k : Int) + x = 61 → 0 ≤ x → (w = 0 ∨ w = 43 ∨ w = 45) → cQ b n r i u L m → (L.length : Int) + gwn w ≤ i → 0 ≤ u → u ≤ 60 → cOut b n r L (gSl b n k w i u) m (Ru_readSum_11 (d + 3) r w 1 x m) := by
  intro k
  induction k with
  | zero =>
    intro w x i u L m hk x0 hw h hl u0 u1
    obtain ⟨m1, a1, a2, a3⟩ := c_esg (d + 1) h hl (by omega)
    unfold gSl
    rw [q_Ru_readSum_11, if_pos (by omega), a1]
    exact cOut_o a2 a3
  | succ k ih =>
    intro w x i u L m hk x0 hw h hl u0 u1
    have h5 := h.1.2.2.2.2
    obtain ⟨m1, a1, a2, a3⟩ := c_skip (d + 2) h.1
    have q1 := cQ_mv h a3 a2
    have hs := rSk_in (b := b) h5.1 h5.2.1
    have hgw : 0 ≤ gwn w := by
      unfold gwn
      split <;> decide
    unfold gSl
    rw [q_Ru_readSum_11, if_neg (show ¬ 60 < x by omega), if_neg (show ¬ (1 : Int) = 0 by decide), a1]
    simp only [jbnd_s]
    rw [c_peek (d + 2) a2]
    simp only [jbnd_s, jasI_v]
    generalize rSk b n i = s at *
    have s53 : ∀ c, (c = 42 ∨ c = 47 ∨ c = 37) → rCh b n s = c → cOut b n r L (gB (gB (gVal b n (s + 1) u) fun i' u' => (0, i', u', [(c, 0)])) fun i' u' => gSl b n k w i' u') m (Ru_readSum_53 (d + 3) r w x c m1) := by
      intro c hc hcs
      have hlt := rCh_lt hcs (by omega)
      obtain ⟨t1, t2⟩ := (c_took (d + 1) c a2 (by omega)).1 hcs
      have q2 : cQ b n r (s + 1) u L (jwI m1 8 0 2 (s + 1)) := cQ_mv q1 (puR_w (puR_rf _ m1) ⟨rfl, rfl, Or.inl rfl⟩) t2
      have fr2 : puR (aU r) m (jwI m1 8 0 2 (s + 1)) := puR_w (aC_U r a3) (Or.inl ⟨rfl, rfl, Or.inl rfl⟩)
      obtain ⟨v1, v2⟩ := c_val d q2 (by omega) ⟨u0, u1⟩
      have hg := gVal_g (b := b) (n := n) (i := s + 1) (u := u) (by omega) (by omega)
      rw [q_Ru_readSum_53, t1]
      simp only [jbnd_s]
      rw [jw32_id (x := x + 1) (by omega) (by omega)]
      generalize gVal b n (s + 1) u = V at *
      by_cases z : V.1 = 0
      · obtain ⟨m3, e1, e2, e3⟩ := v1 z
        obtain ⟨⟨g1, g2⟩, ⟨g3, g4⟩, -⟩ := hg z
        obtain ⟨m4, k1, k2, k3⟩ := c_emit (d + 2) c 0 e2 (by rw [List.length_append]; omega) (fun _ q => absurd (show c = 7 from q) (by omega))
        rw [e1]
        simp only [jbnd_s, jasI_v]
        rw [k1]
        simp only [jbnd_s]
        have zz : (gB V fun i' u' => ((0, i', u', [(c, 0)]) : gR)).1 = 0 := by rw [gB_0 z]
        rw [List.append_assoc] at k2
        have hI := ih w (x + 1) V.2.1 V.2.2.1 (L ++ (V.2.2.2 ++ [(c, 0)])) m4 (by omega) (by omega) hw k2 (by rw [List.length_append, List.length_append, show [(c, (0 : Int))].length = 1 from rfl]; omega) (by omega) g4
        rw [gB_0 zz, gB_i z, gB_u z, gB_x z]
        refine cOut_p (puR_tr fr2 (puR_tr e3 k3)) ?_
        obtain ⟨y1, y2⟩ := hI
        refine ⟨fun q => ?_, y2⟩
        obtain ⟨m5, p1, p2, p3⟩ := y1 q
        refine ⟨m5, p1, ?_, p3⟩
        rw [List.append_assoc] at p2
        exact p2
      · obtain ⟨m3, e1, e2, e3⟩ := v2 z
        obtain ⟨m4, k1, k2, k3⟩ := f_emit (d + 2) c 0 e2
        obtain ⟨m5, k4, k5, k6⟩ := f_sl (d + 1) w (x + 1) k2
        rw [e1]
        simp only [jbnd_s, jasI_v]
        rw [k1]
        simp only [jbnd_s]
        rw [k4, gB_n (r := V) z, gB_n z]
        exact ⟨fun q => absurd q z, fun _ => ⟨m5, rfl, k5, puR_tr fr2 (puR_tr e3 (puR_tr k3 k6))⟩⟩
    have s90 : ∀ c, (c = 43 ∨ c = 45) → rCh b n s = c → cOut b n r L (gB (0, s + 1, u, gW w) fun i' u' => gB (gVal b n i' u') fun i'' u'' => gSl b n k c i'' u'') m (Ru_readSum_90 (d + 3) r w x c m1) := by
      intro c hc hcs
      have hlt := rCh_lt hcs (by omega)
      obtain ⟨mS, b1, b2, b3⟩ := c_esg (w := w) (d + 1) q1 (by omega) (by omega)
      obtain ⟨t1, t2⟩ := (c_took (d + 1) c b2.1 (by omega)).1 hcs
      have q2 : cQ b n r (s + 1) u (L ++ gW w) (jwI mS 8 0 2 (s + 1)) := cQ_mv b2 (puR_w (puR_rf _ mS) ⟨rfl, rfl, Or.inl rfl⟩) t2
      have fr2 : puR (aU r) m (jwI mS 8 0 2 (s + 1)) := puR_w (puR_tr (aC_U r a3) b3) (Or.inl ⟨rfl, rfl, Or.inl rfl⟩)
      have hgl := gW_l w
      obtain ⟨v1, v2⟩ := c_val d q2 (by rw [List.length_append]; omega) ⟨u0, u1⟩
      have hg := gVal_g (b := b) (n := n) (i := s + 1) (u := u) (by omega) (by omega)
      rw [q_Ru_readSum_90, b1]
      simp only [jbnd_s]
      rw [t1]
      simp only [jbnd_s]
      rw [jw32_id (x := x + 1) (by omega) (by omega), gB_0 rfl]
      show cOut b n r L ((gB (gVal b n (s + 1) u) fun i'' u'' => gSl b n k c i'' u'').1, (gB (gVal b n (s + 1) u) fun i'' u'' => gSl b n k c i'' u'').2.1, (gB (gVal b n (s + 1) u) fun i'' u'' => gSl b n k c i'' u'').2.2.1, gW w ++ (gB (gVal b n (s + 1) u) fun i'' u'' => gSl b n k c i'' u'').2.2.2) m _
      generalize gVal b n (s + 1) u = V at *
      by_cases z : V.1 = 0
      · obtain ⟨m3, e1, e2, e3⟩ := v1 z
        obtain ⟨⟨g1, g2⟩, ⟨g3, g4⟩, -⟩ := hg z
        rw [e1]
        simp only [jbnd_s, jasI_v]
        have hgc : gwn c = 1 := if_neg (by omega)
        have hI := ih c (x + 1) V.2.1 V.2.2.1 (L ++ gW w ++ V.2.2.2) m3 (by omega) (by omega) (Or.inr hc) e2 (by rw [List.length_append, List.length_append, hgc]; omega) (by omega) g4
        rw [gB_0 z]
        refine cOut_p (puR_tr fr2 e3) ?_
        obtain ⟨y1, y2⟩ := hI
        refine ⟨fun q => ?_, y2⟩
        obtain ⟨m5, p1, p2, p3⟩ := y1 q
        refine ⟨m5, p1, ?_, p3⟩
        rw [List.append_assoc, List.append_assoc] at p2
        exact p2
      · obtain ⟨m3, e1, e2, e3⟩ := v2 z
        obtain ⟨m5, k4, k5, k6⟩ := f_sl (d + 1) c (x + 1) e2
        rw [e1]
        simp only [jbnd_s, jasI_v]
        rw [k4, gB_n z]
        exact ⟨fun q => absurd q z, fun _ => ⟨m5, rfl, k5, puR_tr fr2 (puR_tr e3 k6)⟩⟩
    by_cases c42 : rCh b n s = 42
    · rw [if_pos c42, if_pos (Or.inl c42), c42]
      exact s53 42 (Or.inl rfl) c42
    rw [if_neg c42]
    by_cases c47 : rCh b n s = 47
    · rw [if_pos c47, if_pos (Or.inr (Or.inl c47)), c47]
      exact s53 47 (Or.inr (Or.inl rfl)) c47
    rw [if_neg c47]
    by_cases c37 : rCh b n s = 37
    · rw [if_pos c37, if_pos (Or.inr (Or.inr c37)), c37]
      exact s53 37 (Or.inr (Or.inr rfl)) c37
    rw [if_neg c37, if_neg (show ¬ (rCh b n s = 42 ∨ rCh b n s = 47 ∨ rCh b n s = 37) by omega)]
    by_cases c43 : rCh b n s = 43
    · rw [if_pos c43, if_pos (Or.inl c43), c43]
      exact s90 43 (Or.inl rfl) c43
    rw [if_neg c43]
    by_cases c45 : rCh b n s = 45
    · rw [if_pos c45, if_pos (Or.inr c45), c45]
      exact s90 45 (Or.inr rfl) c45
    rw [if_neg c45, if_neg (show ¬ (rCh b n s = 43 ∨ rCh b n s = 45) by omega)]
    obtain ⟨mS, b1, b2, b3⟩ := c_esg (w := w) (d + 1) q1 (by omega) (by omega)
    rw [b1]
    exact cOut_o b2 (puR_tr (aC_U r a3) b3)
theorem c_sum (d : Nat) {b : Int → Int} {n r i u : Int} {L : List (Int × Int)} {m : jMem} (h : cQ b n r i u L m) (hl : (L.length : Int) ≤ i) (hu : 0 ≤ u ∧ u ≤ 60) : cOut b n r L (gSum b n i u) m (Ru_readSum (d + 4) r m) := by
  have h5 := h.1.2.2.2.2
  obtain ⟨v1, v2⟩ := c_val d h hl hu
  have hg := gVal_g (b := b) (n := n) (i := i) (u := u) h5.1 h5.2.1
  unfold gSum
  rw [q_Ru_readSum]
  generalize gVal b n i u = V at *
  by_cases z : V.1 = 0
  · obtain ⟨m3, e1, e2, e3⟩ := v1 z
    obtain ⟨⟨g1, g2⟩, ⟨g3, g4⟩, -⟩ := hg z
    rw [e1]
    simp only [jbnd_s, jasI_v]
    obtain ⟨y1, y2⟩ := c_sl d 61 0 0 V.2.1 V.2.2.1 (L ++ V.2.2.2) m3 (by decide) (by decide) (Or.inl rfl) e2 (by rw [List.length_append, show gwn 0 = 0 from rfl]; omega) (by omega) g4
    rw [gB_0 z]
    refine cOut_p e3 ⟨fun q => ?_, y2⟩
    obtain ⟨m5, p1, p2, p3⟩ := y1 q
    refine ⟨m5, p1, ?_, p3⟩
    rw [List.append_assoc] at p2
    exact p2
  · obtain ⟨m3, e1, e2, e3⟩ := v2 z
    obtain ⟨m5, k4, k5, k6⟩ := f_sl (d + 1) 0 0 e2
    rw [e1]
    simp only [jbnd_s, jasI_v]
    rw [k4, gB_n z]
    exact ⟨fun q => absurd q z, fun _ => ⟨m5, rfl, k5, puR_tr e3 k6⟩⟩
