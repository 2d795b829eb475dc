/-! Copies of all that is said; images -/
theorem e_Ri_copy (d : Nat) (a b : Int) (mem : jMem) (hne : b ≠ a) : Ri_copy (d + 1) a b mem = jbo (jrI mem 4 b 0) (some (vU, jwC (jwC (jwC (jwC (jwC (jwC (jwC (jwC (jwC (jwC (jwI (jwI (jwI (jwI (jwI (jwI (jwI mem 4 a 0 (jrI mem 4 b 0)) 4 a 1 (jrI mem 4 b 1)) 4 a 2 (jrI mem 4 b 2)) 4 a 3 (jrI mem 4 b 3)) 4 a 4 (jrI mem 4 b 4)) 4 a 5 (jrI mem 4 b 5)) 4 a 6 (jrI mem 4 b 6)) 21 b 0 21 a 0 12) 22 b 0 22 a 0 4) 23 b 0 23 a 0 6) 24 b 0 24 a 0 6) 25 b 0 25 a 0 6) 26 b 0 26 a 0 6) 27 b 0 27 a 0 4) 28 b 0 28 a 0 4) 29 b 0 29 a 0 4) 30 b 0 30 a 0 4)) := by
  rw [q_Ri_copy]
  simp only [jrI_wi hne]
theorem s_Ri_copy (d : Nat) (a b : Int) (T : Int → Int) (mem : jMem) (hne : b ≠ a) (hR : tRv T) (hc : cRv mem b T) : ∃ mem', Ri_copy (d + 1) a b mem = some (vU, mem') ∧ cRv mem' a T ∧ puR (fun f i k => (f = 4 ∨ (21 ≤ f ∧ f ≤ 30)) ∧ i = a) mem mem' := by
  obtain ⟨c0, c1, c2, c3, c4, c5, c6, c7, c8, c9, c10⟩ := hc
  obtain ⟨t0, t3, t4, t5, t6, t55, tm, tt, tp, tl⟩ := hR
  rw [e_Ri_copy d a b mem hne, jbo_in (by rw [c0]; omega)]
  refine ⟨_, rfl, ?_, ?_⟩
  · refine ⟨?_, ?_, ?_, ?_, ?_, ?_, ?_, fun m x y => ⟨?_, ?_, ?_, ?_⟩, fun m x y => ⟨?_, ?_, ?_, ?_⟩, fun m x y => ?_, fun m x y => ?_⟩
    · simp [jrI_cf, jrI_wk, jrI_ws, c0]
    · simp [jrI_cf, jrI_wk, jrI_ws, c1]
    · simp [jrI_cf, jrI_wk, jrI_ws, c2]
    · simp [jrI_cf, jrI_wk, jrI_ws, c3]
    · simp [jrI_cf, jrI_wk, jrI_ws, c4]
    · simp [jrI_cf, jrI_wk, jrI_ws, c5]
    · simp [jrI_cf, jrI_wk, jrI_ws, c6]
    · rw [jrI_cf (by decide), jrI_cf (by decide), jrI_cf (by decide), jrI_cf (by decide), jrI_cf (by decide), jrI_cf (by decide), jrI_cf (by decide), jrI_cs x (by omega)]
      simp [jrI_cf, jrI_wf, (c7 m x y).1]
    · rw [jrI_cf (by decide), jrI_cf (by decide), jrI_cf (by decide), jrI_cf (by decide), jrI_cf (by decide), jrI_cf (by decide), jrI_cs x (by omega)]
      simp [jrI_cf, jrI_wf, (c7 m x y).2.1]
    · rw [jrI_cf (by decide), jrI_cf (by decide), jrI_cf (by decide), jrI_cf (by decide), jrI_cf (by decide), jrI_cs x (by omega)]
      simp [jrI_cf, jrI_wf, (c7 m x y).2.2.1]
    · rw [jrI_cf (by decide), jrI_cf (by decide), jrI_cf (by decide), jrI_cf (by decide), jrI_cs x (by omega)]
      simp [jrI_cf, jrI_wf, (c7 m x y).2.2.2]
    · rw [jrI_cf (by decide), jrI_cf (by decide), jrI_cf (by decide), jrI_cs x (by omega)]
      simp [jrI_cf, jrI_wf, (c8 m x y).1]
    · rw [jrI_cf (by decide), jrI_cf (by decide), jrI_cs x (by omega)]
      simp [jrI_cf, jrI_wf, (c8 m x y).2.1]
    · rw [jrI_cf (by decide), jrI_cs x (by omega)]
      simp [jrI_cf, jrI_wf, (c8 m x y).2.2.1]
    · rw [jrI_cs x (by omega)]
      simp [jrI_cf, jrI_wf, (c8 m x y).2.2.2]
    · rw [jrI_cf (by decide), jrI_cf (by decide), jrI_cf (by decide), jrI_cf (by decide), jrI_cf (by decide), jrI_cf (by decide), jrI_cf (by decide), jrI_cf (by decide), jrI_cs x (by omega)]
      simp [jrI_cf, jrI_wf, c9 m x y]
    · rw [jrI_cf (by decide), jrI_cf (by decide), jrI_cf (by decide), jrI_cf (by decide), jrI_cf (by decide), jrI_cf (by decide), jrI_cf (by decide), jrI_cf (by decide), jrI_cf (by decide), jrI_cs x (by omega)]
      simp [jrI_wf, c10 m x y]
  · have hw : ∀ (m1 : jMem) (k v : Int), puR (fun f i k => (f = 4 ∨ (21 ≤ f ∧ f ≤ 30)) ∧ i = a) mem m1 → puR (fun f i k => (f = 4 ∨ (21 ≤ f ∧ f ≤ 30)) ∧ i = a) mem (jwI m1 4 a k v) := fun m1 k v h => puR_w h ⟨Or.inl rfl, rfl⟩
    have hv : ∀ (m1 : jMem) (f : Nat) (n : Int), 21 ≤ f → f ≤ 30 → puR (fun f i k => (f = 4 ∨ (21 ≤ f ∧ f ≤ 30)) ∧ i = a) mem m1 → puR (fun f i k => (f = 4 ∨ (21 ≤ f ∧ f ≤ 30)) ∧ i = a) mem (jwC m1 f b 0 f a 0 n) := fun m1 f n h1 h2 h => puR_C h (fun k => ⟨Or.inr ⟨h1, h2⟩, rfl⟩)
    exact hv _ 30 4 (by decide) (by decide) (hv _ 29 4 (by decide) (by decide) (hv _ 28 4 (by decide) (by decide) (hv _ 27 4 (by decide) (by decide) (hv _ 26 6 (by decide) (by decide) (hv _ 25 6 (by decide) (by decide) (hv _ 24 6 (by decide) (by decide) (hv _ 23 6 (by decide) (by decide) (hv _ 22 4 (by decide) (by decide) (hv _ 21 12 (by decide) (by decide) (hw _ _ _ (hw _ _ _ (hw _ _ _ (hw _ _ _ (hw _ _ _ (hw _ _ _ (hw _ _ _ (puR_rf _ mem)))))))))))))))))
theorem s_No_copy (d : Nat) (a b : Int) (T : Int → Int) (mem : jMem) (hN : T 111 ≤ 10) (hc : cNv mem b T) : ∃ mem', No_copy (d + 1) a b mem = some (vU, mem') ∧ cNv mem' a T ∧ puR (fun f i k => ((f = 3 ∧ k = 0) ∨ (18 ≤ f ∧ f ≤ 20)) ∧ i = a) mem mem' := by
  obtain ⟨c0, c1⟩ := hc
  rw [q_No_copy]
  refine ⟨_, rfl, ⟨?_, fun i x y => ⟨?_, ?_, ?_⟩⟩, ?_⟩
  · rw [jrI_cf (by decide), jrI_cf (by decide), jrI_cf (by decide), jrI_ws]
    exact c0
  · rw [jrI_cf (by decide), jrI_cf (by decide), jrI_cs x (by omega), jrI_wf (by decide)]
    exact (c1 i x y).1
  · rw [jrI_cf (by decide), jrI_cs x (by omega), jrI_cf (by decide), jrI_wf (by decide)]
    exact (c1 i x y).2.1
  · rw [jrI_cs x (by omega), jrI_cf (by decide), jrI_cf (by decide), jrI_wf (by decide)]
    exact (c1 i x y).2.2
  · exact puR_C (puR_C (puR_C (puR_w (puR_rf _ mem) ⟨Or.inl ⟨rfl, rfl⟩, rfl⟩) (fun k => ⟨Or.inr (by decide), rfl⟩)) (fun k => ⟨Or.inr (by decide), rfl⟩)) (fun k => ⟨Or.inr (by decide), rfl⟩)
theorem s_Sc_copy (d : Nat) (a b : Int) (T : Int → Int) (mem : jMem) (hne : b ≠ a) (hT : tOk T) (hc : cSc mem b T) : ∃ mem', Sc_copy (d + 2) a b mem = some (vU, mem') ∧ cSc mem' a T ∧ jrI mem' 6 a 3 = jrI mem 6 b 3 ∧ jrI mem' 6 a 4 = jrI mem 6 b 4 ∧ puR (fun f i k => i = a ∧ (dSc f k ∨ (f = 6 ∧ (k = 3 ∨ k = 4)))) mem mem' := by
  obtain ⟨hR, hW, hN⟩ := hT
  obtain ⟨cr, cw, cn⟩ := hc
  rw [q_Sc_copy]
  obtain ⟨m1, a1, a2, a3⟩ := s_Ri_copy d a b T mem hne hR cr
  rw [a1]
  simp only [jbnd_s]
  obtain ⟨m2, b1, b2, b3, -⟩ := s_Wa_copy d a b T m1 (fun h => hne h.symm) hR.2.2.2.1.2 hR.2.2.2.2.1.2 (cWv_fr (fun f k hf => a3 f b k (by omega)) cw)
  rw [b1]
  simp only [jbnd_s]
  obtain ⟨m3, c1, c2, c3⟩ := s_No_copy d a b T m2 hN.1.2 (cNv_fr (fun f k hf => by rw [b3 f b k (by omega), a3 f b k (by omega)]) cn)
  rw [c1]
  simp only [jbnd_s]
  have e6 : ∀ i k, jrI m3 6 i k = jrI mem 6 i k := fun i k => by rw [c3 6 i k (by omega), b3 6 i k (by omega), a3 6 i k (by omega)]
  rw [jrI_wi hne, e6, e6]
  refine ⟨_, rfl, ⟨?_, ?_, ?_⟩, ?_, ?_, ?_⟩
  · exact cRv_fr (fun f k hf => by rw [jrI_wf (by omega), jrI_wf (by omega), c3 f a k (by omega), b3 f a k (by omega)]) a2
  · exact cWv_fr (fun f k hf => by rw [jrI_wf (by omega), jrI_wf (by omega), c3 f a k (by omega)]) b2
  · exact cNv_fr (fun f k hf => by rw [jrI_wf (by omega), jrI_wf (by omega)]) c2
  · rw [jrI_wk (by decide), jrI_ws]
  · rw [jrI_ws]
  · refine puR_w (puR_w (puR_tr (puR_tr (puR_mono a3 (fun f i k hf => ?_)) (puR_mono b3 (fun f i k hf => ?_))) (puR_mono c3 (fun f i k hf => ?_))) ?_) ?_
    · unfold dSc; omega
    · unfold dSc; omega
    · unfold dSc; omega
    · exact ⟨rfl, Or.inr ⟨rfl, Or.inl rfl⟩⟩
    · exact ⟨rfl, Or.inr ⟨rfl, Or.inr rfl⟩⟩
/-- alike in all the 112 -/
theorem tSame {T T' : Int → Int} (hT : tOk T) (h : ∀ i, 0 ≤ i → i < 112 → T' i = T i) : tOk T' ∧ ∀ mem q, cSc mem q T → cSc mem q T' := by
  obtain ⟨hR, hW, hN⟩ := hT
  obtain ⟨t0, t3, t4, t5, t6, t55, tm, tt, tp, tl⟩ := hR
  obtain ⟨a1, a2, a3, a4⟩ := hW
  obtain ⟨n1, n2⟩ := hN
  have e0 := h 0 (by decide) (by decide)
  have e1 := h 1 (by decide) (by decide)
  have e2 := h 2 (by decide) (by decide)
  have e3 := h 3 (by decide) (by decide)
  have e4 := h 4 (by decide) (by decide)
  have e5 := h 5 (by decide) (by decide)
  have e6 := h 6 (by decide) (by decide)
  have e10 := h 10 (by decide) (by decide)
  have e55 := h 55 (by decide) (by decide)
  have e111 := h 111 (by decide) (by decide)
  refine ⟨⟨?_, ?_, ?_⟩, fun mem q hc => ⟨?_, ?_, ?_⟩⟩
  · unfold tRv
    rw [e0, e1, e2, e3, e4, e5, e6, e55]
    refine ⟨t0, t3, t4, t5, t6, t55, fun m a b => ?_, fun m a b => ?_, fun m a b => ?_, fun m a b => ?_⟩
    · rw [h (33 + m) (by omega) (by omega), h (39 + m) (by omega) (by omega), h (45 + m) (by omega) (by omega), h (67 + m) (by omega) (by omega)]
      exact tm m a b
    · rw [h (25 + m) (by omega) (by omega), h (29 + m) (by omega) (by omega), h (73 + 2 * m) (by omega) (by omega), h (74 + 2 * m) (by omega) (by omega)]
      exact tt m a b
    · rw [h (51 + m) (by omega) (by omega)]
      exact tp m a b
    · rw [h (55 + m) (by omega) (by omega)]
      exact tl m a b
  · unfold tWv
    rw [e10, e1, e4, e5, e6]
    refine ⟨a1, fun m a b => ?_, fun t a b => ?_, fun m m' a b c d => ?_⟩
    · rw [h (11 + m) (by omega) (by omega)]
      exact a2 m a b
    · rw [h (17 + 2 * t) (by omega) (by omega), h (18 + 2 * t) (by omega) (by omega)]
      exact a3 t a b
    · rw [h (11 + m) (by omega) (by omega), h (11 + m') (by omega) (by omega)]
      exact a4 m m' a b c d
  · unfold tNv
    rw [e111, e5, e1]
    refine ⟨n1, fun i a b => ?_⟩
    rw [h (81 + 3 * i) (by omega) (by omega), h (82 + 3 * i) (by omega) (by omega), h (83 + 3 * i) (by omega) (by omega)]
    exact n2 i a b
  · obtain ⟨⟨c0, c1, c2, c3, c4, c5, c6, c7, c8, c9, c10⟩, -, -⟩ := hc
    unfold cRv
    rw [e0, e1, e2, e3, e4, e5, e6]
    refine ⟨c0, c1, c2, c3, c4, c5, c6, fun m a b => ?_, fun m a b => ?_, fun m a b => ?_, fun m a b => ?_⟩
    · rw [h (33 + m) (by omega) (by omega), h (39 + m) (by omega) (by omega), h (45 + m) (by omega) (by omega), h (67 + m) (by omega) (by omega)]
      exact c7 m a b
    · rw [h (25 + m) (by omega) (by omega), h (29 + m) (by omega) (by omega), h (73 + 2 * m) (by omega) (by omega), h (74 + 2 * m) (by omega) (by omega)]
      exact c8 m a b
    · rw [h (51 + m) (by omega) (by omega)]
      exact c9 m a b
    · rw [h (55 + m) (by omega) (by omega)]
      exact c10 m a b
  · obtain ⟨-, ⟨c0, c1, c2⟩, -⟩ := hc
    unfold cWv
    rw [e10, e5, e6]
    refine ⟨c0, fun m a b => ?_, fun t a b => ?_⟩
    · rw [h (11 + m) (by omega) (by omega), h (45 + m) (by omega) (by omega)]
      exact c1 m a b
    · rw [h (17 + 2 * t) (by omega) (by omega), h (25 + t) (by omega) (by omega), h (18 + 2 * t) (by omega) (by omega), tIn_cong (T' := T') (T := T) e5 (fun m a b => by rw [h (11 + m) (by omega) (by omega)])]
      exact c2 t a b
  · obtain ⟨-, -, c0, c1⟩ := hc
    unfold cNv
    rw [e111]
    refine ⟨c0, fun i a b => ?_⟩
    rw [h (81 + 3 * i) (by omega) (by omega), h (82 + 3 * i) (by omega) (by omega), h (83 + 3 * i) (by omega) (by omega)]
    exact c1 i a b
theorem p_image (x : Int) : pCase (E_image 60 x) (M_image 60 x) := fun mem hi hm => by
  obtain ⟨hR, hW, hN, h999, cr, cw, cn, hl⟩ := pNow hi
  obtain ⟨i1, i2, i3, i4, i5, i6⟩ := id hi
  rw [q_E_image 59, s_E_within]
  simp only [jbnd_s, jasI_v]
  by_cases hx : 0 ≤ x ∧ x ≤ 3
  case neg =>
    rw [jb_n hx, if_pos rfl]
    refine ⟨-1, mem, rfl, fun _ => ⟨mem, ?_, hi⟩⟩
    rw [q_M_image 59, s_M_in]
    simp only [jbnd_s, jasI_v]
    rw [jb_n hx, if_pos rfl]
  rw [jb_1 hx, if_neg (by decide), jix_in hx.1 (by omega)]
  obtain ⟨m1, a1, a2, a3, a4, a5⟩ := s_Sc_copy 57 (x + 1) 0 _ mem (by omega) ⟨hR, hW, hN⟩ ⟨cr, cw, cn⟩
  rw [a1]
  simp only [jbnd_s]
  rw [jix_in hx.1 (by omega), a5 9 0 0 (by omega), cw.1]
  refine ⟨_, _, rfl, fun _ => ?_⟩
  generalize hmE : jwI m1 6 (x + 1) 5 1 = mE
  have fE : puR (fun f i k => i = x + 1 ∧ (dSc f k ∨ f = 6)) mem mE := by
    rw [← hmE]
    exact puR_w (puR_mono a5 (fun f i k hf => ⟨hf.1, hf.2.elim Or.inl (fun w => Or.inr w.1)⟩)) ⟨rfl, Or.inr rfl⟩
  have nd : ∀ f k, (55 ≤ f ∨ f = 11) → ¬ dSc f k := fun f k hf w => by unfold dSc at w; omega
  have e0 : ∀ f k, jrI mE f 0 k = jrI mem f 0 k := fun f k => fE f 0 k (fun w => by omega)
  have s55 : jrI mE 55 0 = jrI mem 55 0 := funext fun k => e0 55 k
  rw [q_M_image 59, s_M_in]
  simp only [jbnd_s, jasI_v]
  rw [jb_1 hx, if_neg (by decide), jix_in hx.1 (by omega), jix_in hx.1 (by omega), jix_in hx.1 (by omega), e0 11 21, e0 11 22]
  generalize hmA : jwI (jwI (jwI mE 66 0 x 1) 64 0 x (jrI mem 11 0 21)) 65 0 x (jrI mem 11 0 22) = mA
  have fA : puR (fun f i k => (64 ≤ f ∧ f ≤ 66) ∧ i = 0 ∧ k = x) mE mA := by
    rw [← hmA]
    exact puR_w (puR_w (puR_w (puR_rf _ mE) ⟨by decide, rfl, rfl⟩) ⟨by decide, rfl, rfl⟩) ⟨by decide, rfl, rfl⟩
  obtain ⟨mF, b1, b2, b3⟩ := puUpE (P := fun i mF => (∀ k, jrI mF 63 0 k = if 112 * x ≤ k ∧ k < 112 * x + i then jrI mem 55 0 (k - 112 * x) else jrI mem 63 0 k) ∧ puR (fun f i k => f = 63 ∧ i = 0 ∧ 112 * x ≤ k ∧ k < 112 * x + 112) mA mF) (L := fun i mF => M_image_43 59 x i mF) (n := 112) (by decide) (fun i mF i0 i1 hP => by
    obtain ⟨p1, p2⟩ := hP
    rw [q_M_image_43, if_pos i1, jix_in i0 i1, jw32_id (x := 112 * x) (by omega) (by omega), jw32_id (x := 112 * x + i) (by omega) (by omega), jix_in (by omega) (by omega), jw32_id (x := i + 1) (by omega) (by omega), p2 55 0 _ (by omega), fA 55 0 _ (by omega), s55]
    refine ⟨_, rfl, fun k => ?_, puR_w p2 ⟨rfl, rfl, by omega, by omega⟩⟩
    by_cases e : k = 112 * x + i
    · rw [e, jrI_ws, if_pos (by omega), show 112 * x + i - 112 * x = i by omega]
    · rw [jrI_wk e, p1 k]
      by_cases hk : 112 * x ≤ k ∧ k < 112 * x + i
      · rw [if_pos hk, if_pos (by omega)]
      · rw [if_neg hk, if_neg (by omega)]) mA ⟨fun k => by rw [if_neg (by omega), fA 63 0 k (by omega), e0], puR_rf _ _⟩
  rw [b1, q_M_image_43, if_neg (by decide), b3 55 0 10 (by omega), fA 55 0 10 (by omega), s55]
  refine ⟨mF, rfl, ?_⟩
  have f1 : ∀ f i k, ¬ (i = x + 1 ∧ (dSc f k ∨ f = 6)) → ¬ (63 ≤ f ∧ f ≤ 66) → jrI mF f i k = jrI mem f i k := fun f i k h1 h2 => by rw [b3 f i k (by omega), fA f i k (by omega), fE f i k h1]
  refine ⟨iTape_fr (fun f k hf => f1 f 0 k (by omega) (by omega)) i1, iRule_fr (fun f i k hf => f1 f i k (fun w => by have := w.2; unfold dSc at this; omega) (by omega)) i2, iNow_fr (fun f k hf => f1 f 0 k (by omega) (by unfold dSc at hf; omega)) i3, iMis_fr (fun f k hf => f1 f 0 k (by omega) (by omega)) i4, iAct_fr (fun f i k hf => f1 f i k (by omega) (by omega)) i5, fun k k0 k1 => ?_⟩
  have g66 : jrI mF 66 0 k = if k = x then 1 else jrI mem 66 0 k := by
    rw [b3 66 0 k (by omega), ← hmA, jrI_wf (by decide), jrI_wf (by decide)]
    by_cases e : k = x
    · rw [if_pos e, e, jrI_ws]
    · rw [if_neg e, jrI_wk e, e0]
  have g64 : jrI mF 64 0 k = if k = x then jrI mem 11 0 21 else jrI mem 64 0 k := by
    rw [b3 64 0 k (by omega), ← hmA, jrI_wf (by decide)]
    by_cases e : k = x
    · rw [if_pos e, e, jrI_ws]
    · rw [if_neg e, jrI_wk e, jrI_wf (by decide), e0]
  have g65 : jrI mF 65 0 k = if k = x then jrI mem 11 0 22 else jrI mem 65 0 k := by
    rw [b3 65 0 k (by omega), ← hmA]
    by_cases e : k = x
    · rw [if_pos e, e, jrI_ws]
    · rw [if_neg e, jrI_wk e, jrI_wf (by decide), jrI_wf (by decide), e0]
  have n2 : jrI mF 11 0 2 = jrI mem 11 0 2 := f1 11 0 2 (by omega) (by omega)
  rw [g66, g64, g65, n2]
  by_cases e : k = x
  · subst e
    rw [if_pos rfl, if_pos rfl, if_pos rfl]
    have eT : ∀ i, 0 ≤ i → i < 112 → jrI mF 63 0 (112 * k + i) = jrI mem 55 0 i := fun i a b => by rw [b2, if_pos (by omega), show 112 * k + i - 112 * k = i by omega]
    have gE : ∀ f j, f ≠ 63 → f ≠ 64 → f ≠ 65 → f ≠ 66 → jrI mF f (k + 1) j = jrI mE f (k + 1) j := fun f j h1 h2 h3 h4 => by rw [b3 f _ j (by omega), fA f _ j (by omega)]
    have h5 : jrI mF 6 (k + 1) 5 = 1 := by rw [gE 6 5 (by decide) (by decide) (by decide) (by decide), ← hmE, jrI_ws]
    have h3 : jrI mF 6 (k + 1) 3 = jrI mem 6 0 3 := by rw [gE 6 3 (by decide) (by decide) (by decide) (by decide), ← hmE, jrI_wk (by decide), a3]
    have h4 : jrI mF 6 (k + 1) 4 = jrI mem 6 0 4 := by rw [gE 6 4 (by decide) (by decide) (by decide) (by decide), ← hmE, jrI_wk (by decide), a4]
    have cS : cSc mF (k + 1) (jrI mem 55 0) := cSc_fr (fun f j hf => by rw [gE f j (by unfold dSc at hf; omega) (by unfold dSc at hf; omega) (by unfold dSc at hf; omega) (by unfold dSc at hf; omega), ← hmE, jrI_wf (by unfold dSc at hf; omega)]) a2
    rw [h5, h3, h4]
    obtain ⟨hq1, hq2⟩ := tSame (T := jrI mem 55 0) (T' := fun i => jrI mF 63 0 (112 * k + i)) ⟨hR, hW, hN⟩ (fun i a b => eT i a b)
    exact ⟨rfl, Or.inr ⟨rfl, hq1, by rw [eT 10 (by decide) (by decide)]; exact h999, hq2 mF _ cS, i4.1, i4.2.1⟩⟩
  · rw [if_neg e, if_neg e, if_neg e]
    have g6 : ∀ j, jrI mF 6 (k + 1) j = jrI mem 6 (k + 1) j := fun j => f1 6 (k + 1) j (by omega) (by omega)
    rw [g6, g6, g6]
    obtain ⟨q1, q2⟩ := i6 k k0 k1
    refine ⟨q1, ?_⟩
    rcases q2 with q2 | ⟨d1, d2, d3, d4, d5⟩
    · exact Or.inl q2
    · have eT : ∀ i, 0 ≤ i → i < 112 → jrI mF 63 0 (112 * k + i) = jrI mem 63 0 (112 * k + i) := fun i a b => by rw [b2, if_neg (by omega)]
      obtain ⟨hq1, hq2⟩ := tSame (T := fun i => jrI mem 63 0 (112 * k + i)) (T' := fun i => jrI mF 63 0 (112 * k + i)) d2 (fun i a b => eT i a b)
      exact Or.inr ⟨d1, hq1, by rw [eT 10 (by decide) (by decide)]; exact d3, hq2 mF _ (cSc_fr (fun f j hf => f1 f _ j (by omega) (by unfold dSc at hf; omega)) d4), d5⟩
theorem p_back (x : Int) : pCase (E_back 60 x) (M_back 60 x) := fun mem hi hm => by
  obtain ⟨i1, i2, i3, i4, i5, i6⟩ := id hi
  rw [q_E_back 59, s_E_within]
  simp only [jbnd_s, jasI_v]
  by_cases hx : 0 ≤ x ∧ x ≤ 3
  case neg =>
    rw [jb_n hx, if_pos rfl]
    refine ⟨-1, mem, rfl, fun _ => ⟨mem, ?_, hi⟩⟩
    rw [q_M_back 59, s_M_in]
    simp only [jbnd_s, jasI_v]
    rw [jb_n hx, if_pos rfl]
  obtain ⟨q1, q2⟩ := i6 x hx.1 (by omega)
  rw [jb_1 hx, if_neg (by decide), jix_in hx.1 (by omega), q1]
  rcases q2 with q2 | ⟨d1, d2, d3, d4, d5, d6⟩
  · rw [if_pos q2]
    refine ⟨-1, mem, rfl, fun _ => ⟨mem, ?_, hi⟩⟩
    rw [q_M_back 59, s_M_in]
    simp only [jbnd_s, jasI_v]
    rw [jb_1 hx, if_neg (by decide), jix_in hx.1 (by omega), if_pos q2]
  rw [if_neg (by omega), jix_in hx.1 (by omega)]
  obtain ⟨m1, a1, a2, a3, a4, a5⟩ := s_Sc_copy 57 0 (x + 1) _ mem (by omega) d2 d4
  rw [a1]
  simp only [jbnd_s]
  rw [a2.2.1.1]
  refine ⟨_, _, rfl, fun _ => ?_⟩
  generalize hmE : jwI m1 0 0 2 0 = mE
  have fE : puR (fun f i k => i = 0 ∧ (dSc f k ∨ (f = 6 ∧ (k = 3 ∨ k = 4)) ∨ (f = 0 ∧ k = 2))) mem mE := by
    rw [← hmE]
    exact puR_w (puR_mono a5 (fun f i k hf => ⟨hf.1, hf.2.elim Or.inl (fun w => Or.inr (Or.inl w))⟩)) ⟨rfl, Or.inr (Or.inr ⟨rfl, rfl⟩)⟩
  have e0 : ∀ f i k, (55 ≤ f ∨ f = 11) → jrI mE f i k = jrI mem f i k := fun f i k hf => fE f i k (fun w => by have := w.2; unfold dSc at this; omega)
  rw [q_M_back 59, s_M_in]
  simp only [jbnd_s, jasI_v]
  rw [jb_1 hx, if_neg (by decide), jix_in hx.1 (by omega), e0 66 0 x (by omega), if_neg (by omega), jix_in hx.1 (by omega), jix_in hx.1 (by omega), e0 64 0 x (by omega), e0 65 0 x (by omega)]
  generalize hmA : jwI (jwI (jwI mE 11 0 21 (jrI mem 64 0 x)) 11 0 22 (jrI mem 65 0 x)) 11 0 26 0 = mA
  have fA : puR (fun f i k => f = 11 ∧ i = 0 ∧ (k = 21 ∨ k = 22 ∨ k = 26)) mE mA := by
    rw [← hmA]
    exact puR_w (puR_w (puR_w (puR_rf _ mE) (by decide)) (by decide)) (by decide)
  obtain ⟨mF, b1, b2, b3⟩ := puUpE (P := fun i mF => (∀ k, 0 ≤ k → k < i → jrI mF 55 0 k = jrI mem 63 0 (112 * x + k)) ∧ puR (fun f i k => f = 55 ∧ i = 0) mA mF) (L := fun i mF => M_back_50 59 x i mF) (n := 112) (by decide) (fun i mF i0 i1 hP => by
    obtain ⟨p1, p2⟩ := hP
    rw [q_M_back_50, if_pos i1, jw32_id (x := 112 * x) (by omega) (by omega), jw32_id (x := 112 * x + i) (by omega) (by omega), jix_in (by omega) (by omega), jix_in i0 i1, jw32_id (x := i + 1) (by omega) (by omega), p2 63 0 _ (by omega), fA 63 0 _ (by omega), e0 63 0 _ (by omega)]
    refine ⟨_, rfl, fun k k0 k1 => ?_, puR_w p2 ⟨rfl, rfl⟩⟩
    by_cases e : k = i
    · rw [e, jrI_ws]
    · rw [jrI_wk e]
      exact p1 k k0 (by omega)) mA ⟨fun k k0 k1 => by omega, puR_rf _ _⟩
  rw [b1, q_M_back_50, if_neg (by decide), b2 10 (by decide) (by decide)]
  refine ⟨mF, rfl, ?_⟩
  have f1 : ∀ f i k, ¬ (i = 0 ∧ (dSc f k ∨ (f = 6 ∧ (k = 3 ∨ k = 4)) ∨ (f = 0 ∧ k = 2))) → ¬ (f = 55 ∧ i = 0) → ¬ (f = 11 ∧ i = 0 ∧ (k = 21 ∨ k = 22 ∨ k = 26)) → jrI mF f i k = jrI mem f i k := fun f i k h1 h2 h3 => by rw [b3 f i k (by omega), fA f i k (by omega), fE f i k h1]
  have gE : ∀ f k, f ≠ 55 → f ≠ 11 → jrI mF f 0 k = jrI mE f 0 k := fun f k h1 h2 => by rw [b3 f 0 k (by omega), fA f 0 k (by omega)]
  obtain ⟨hq1, hq2⟩ := tSame (T := fun i => jrI mem 63 0 (112 * x + i)) (T' := jrI mF 55 0) d2 (fun i a b => b2 i a b)
  refine ⟨iTape_fr (fun f k hf => f1 f 0 k (fun w => by have := w.2; unfold dSc at this; omega) (by omega) (by omega)) i1, iRule_fr (fun f i k hf => f1 f i k (fun w => by have := w.2; unfold dSc at this; omega) (by omega) (by omega)) i2, ⟨hq1, by rw [b2 10 (by decide) (by decide)]; exact d3, hq2 mF 0 (cSc_fr (fun f j hf => by rw [gE f j (by unfold dSc at hf; omega) (by unfold dSc at hf; omega), ← hmE, jrI_wf (by unfold dSc at hf; omega)]) a2)⟩, ?_, ?_, iImg_fr (fun f i k hf => f1 f i k (by unfold dSc at *; omega) (by omega) (by omega)) i6⟩
  · unfold iMis
    have g21 : jrI mF 11 0 21 = jrI mem 64 0 x := by rw [b3 11 0 21 (by omega), ← hmA, jrI_wk (by decide), jrI_wk (by decide), jrI_ws]
    have g22 : jrI mF 11 0 22 = jrI mem 65 0 x := by rw [b3 11 0 22 (by omega), ← hmA, jrI_wk (by decide), jrI_ws]
    have g23 : jrI mF 11 0 23 = jrI mem 11 0 23 := by rw [b3 11 0 23 (by omega), fA 11 0 23 (by omega), e0 11 0 23 (by omega)]
    have g2 : jrI mF 11 0 2 = jrI mem 11 0 2 := by rw [b3 11 0 2 (by omega), fA 11 0 2 (by omega), e0 11 0 2 (by omega)]
    have g63 : jrI mF 6 0 3 = jrI mem 6 (x + 1) 3 := by rw [gE 6 3 (by decide) (by decide), ← hmE, jrI_wf (by decide), a3]
    have g64 : jrI mF 6 0 4 = jrI mem 6 (x + 1) 4 := by rw [gE 6 4 (by decide) (by decide), ← hmE, jrI_wf (by decide), a4]
    rw [g21, g22, g23, g2, g63, g64]
    exact ⟨d5, d6, i4.2.2⟩
  · unfold iAct
    have g26 : jrI mF 11 0 26 = 0 := by rw [b3 11 0 26 (by omega), ← hmA, jrI_ws]
    have g02 : jrI mF 0 0 2 = 0 := by rw [gE 0 2 (by decide) (by decide), ← hmE, jrI_ws]
    have g01 : jrI mF 0 0 1 = jrI mem 0 0 1 := f1 0 0 1 (by unfold dSc; omega) (by omega) (by omega)
    rw [g26, g02, g01]
    exact ⟨rfl, by decide, by decide, i5.2.2.2.1, i5.2.2.2.2.1, fun j a b => by omega⟩
