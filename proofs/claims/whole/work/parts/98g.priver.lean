/-! river -/
def rT0 (U : Int → Int) : Int → Int := fun k => if 0 ≤ k ∧ k < 112 then 0 else U k
theorem rT0_z (U : Int → Int) {k : Int} (h0 : 0 ≤ k) (h1 : k < 112) : rT0 U k = 0 := if_pos ⟨h0, h1⟩
theorem rT0_o (U : Int → Int) {k : Int} (h : k < 0 ∨ 112 ≤ k) : rT0 U k = U k := if_neg (by omega)
theorem rT0_t (U : Int → Int) : tRv (rT0 U) := by
  have h0 := rT0_z U (k := 0) (by decide) (by decide)
  have h1 := rT0_z U (k := 1) (by decide) (by decide)
  have h2 := rT0_z U (k := 2) (by decide) (by decide)
  have h3 := rT0_z U (k := 3) (by decide) (by decide)
  have h4 := rT0_z U (k := 4) (by decide) (by decide)
  have h5 := rT0_z U (k := 5) (by decide) (by decide)
  have h6 := rT0_z U (k := 6) (by decide) (by decide)
  exact ⟨Or.inl ⟨h0, h1, h2, h3, h4, h5, h6⟩, by omega, by omega, by omega, by omega, fun _ => rT0_z U (by decide) (by decide), fun m a b => by omega, fun m a b => by omega, fun m a b => by omega, fun m a b => by omega⟩
def aKr (f : Nat) (i k : Int) : Prop := i = 0 ∧ ((f = 11 ∧ (k = 1 ∨ k = 8 ∨ k = 9 ∨ k = 10 ∨ k = 11 ∨ k = 12 ∨ k = 14)) ∨ f = 48 ∨ f = 51)
theorem m_riverS {b : Int → Int} {n : Int} (U : Int → Int) (mem1 : jMem) (hb : ∀ j, 0 ≤ j → j < n → jrI mem1 46 0 j = b j) (hn : jrI mem1 11 0 1 = n) (h0 : 0 ≤ n) (h4 : n ≤ 400) : ∃ m2, M_river 60 mem1 = (if jb ((rRv b n 41 0 0 (rT0 U)).1 = 0) = 0 then some (vI (jw32 ((-2) - (jrI m2 11 0 9))), m2) else M_river_44 59 0 m2) ∧ jrI m2 11 0 1 = 0 ∧ puR aKr mem1 m2 ∧ ((rRv b n 41 0 0 (rT0 U)).1 = 0 → rMd m2 (rRv b n 41 0 0 (rT0 U)).2) ∧ ((rRv b n 41 0 0 (rT0 U)).1 ≠ 0 → jrI m2 11 0 9 = (rRv b n 41 0 0 (rT0 U)).1) := by
  obtain ⟨mB, a1, a2, a3⟩ := puUpE (P := fun i (m : jMem) => puR aKr mem1 m ∧ jrI m 11 0 11 = 6 ∧ jrI m 11 0 1 = n ∧ ∀ k, 0 ≤ k → k < i → jrI m 51 0 k = 0) (L := fun i m => M_river_8 59 i m) (n := 81) (by decide) (fun i m i0 i1 hP => by
    obtain ⟨p1, p2, p3, p4⟩ := hP
    show ∃ a', M_river_8 59 i m = M_river_8 59 (i + 1) a' ∧ _
    rw [q_M_river_8 59 i m, if_pos i1, jix_in i0 i1, jw32_id (x := i + 1) (by omega) (by omega)]
    refine ⟨_, rfl, puR_w p1 (by unfold aKr; omega), by rw [jrI_wf (by decide)]; exact p2, by rw [jrI_wf (by decide)]; exact p3, fun k k0 k1 => ?_⟩
    by_cases e : k = i
    · rw [e, jrI_ws]
    · rw [jrI_wk e]
      exact p4 k k0 (by omega)) (jwI mem1 11 0 11 6) ⟨puR_w (puR_rf _ mem1) (by unfold aKr; omega), jrI_ws _ _ _ _ _, by rw [jrI_wk (by decide)]; exact hn, fun k k0 k1 => by omega⟩
  obtain ⟨a3, a4, a5⟩ := a3
  have a1' : M_river_8 59 0 (jwI mem1 11 0 11 6) = M_river_8 59 81 mB := a1
  generalize hmC : (jwI (jwI (jwI (jwI (jwI mB 48 0 6 0) 11 0 14 0) 11 0 8 0) 11 0 9 0) 11 0 12 0) = mC
  have rC1 : ∀ f k, f ≠ 48 → ¬ (f = 11 ∧ (k = 8 ∨ k = 9 ∨ k = 12 ∨ k = 14)) → jrI mC f 0 k = jrI mB f 0 k := fun f k w1 w2 => by
    rw [← hmC, jrI_w, if_neg (by omega), jrI_w, if_neg (by omega), jrI_w, if_neg (by omega), jrI_w, if_neg (by omega), jrI_w, if_neg (by omega)]
  have hM : rM b n 0 mC := by
    refine ⟨fun j j0 j1 => ?_, ?_, ?_, ?_, by omega⟩
    · rw [rC1 46 j (by decide) (by omega), a2 46 0 j (by unfold aKr; omega)]
      exact hb j j0 j1
    · rw [rC1 11 1 (by decide) (by omega)]
      exact a4
    · rw [← hmC, jrI_wk (by decide), jrI_wk (by decide), jrI_ws]
    · rw [← hmC, jrI_wk (by decide), jrI_ws]
  obtain ⟨m2, e1, e2, e3, e4, e5⟩ := m_rv 51 (b := b) (n := n) 41 0 0 (rT0 U) mC (by decide) (by decide) (by decide) hM (fun k k0 k1 => by rw [rC1 51 k (by decide) (by omega), a5 k k0 k1, rT0_z U k0 (by omega)]) (rT0_t U) (by rw [if_pos rfl]; exact rT0_z U (by decide) (by decide)) (by rw [rC1 11 11 (by decide) (by omega)]; exact a3) (by rw [← hmC, jrI_wk (by decide), jrI_wk (by decide), jrI_wk (by decide), jrI_ws])
  refine ⟨m2, ?_, e2, ?_, e4, e5⟩
  · rw [q_M_river 59, a1', q_M_river_8 59 81 mB, if_neg (by decide), q_M_readsAll 58, a3, jix_in (by decide) (by decide), hmC, e1]
    simp only [jbnd_s, jasI_v]
  · refine puR_tr a2 (puR_tr (fun f i k w => ?_) (puR_mono e3 (fun f i k w => by unfold aL at w; unfold aKr; omega)))
    unfold aKr at w
    rw [← hmC, jrI_w, if_neg (by omega), jrI_w, if_neg (by omega), jrI_w, if_neg (by omega), jrI_w, if_neg (by omega), jrI_w, if_neg (by omega)]
theorem m_riverE (m2 : jMem) (S U : Int → Int) (hU : jrI m2 55 0 = U) (hd : rMd m2 S) (hS : ∀ j, 81 ≤ j ∨ j < 0 → S j = rT0 U j) : ∃ m3, M_river_44 59 0 m2 = some (vI (S 5), m3) ∧ jrI m3 55 0 = tBg S ∧ jrI m3 11 0 26 = 0 ∧ puR (fun f i k => i = 0 ∧ (f = 55 ∨ (f = 11 ∧ k = 26))) m2 m3 := by
  obtain ⟨m3, a1, a2, a3⟩ := puUpE (P := fun i (m : jMem) => puR (fun f i k => i = 0 ∧ f = 55) m2 m ∧ ∀ k, jrI m 55 0 k = if 0 ≤ k ∧ k < i then S k else U k) (L := fun i m => M_river_44 59 i m) (n := 112) (by decide) (fun i m i0 i1 hP => by
    obtain ⟨p1, p2⟩ := hP
    show ∃ a', M_river_44 59 i m = M_river_44 59 (i + 1) a' ∧ _
    rw [q_M_river_44 59 i m, if_pos i1, jw32_id (x := i + 1) (by omega) (by omega)]
    have fin : ∀ v, v = S i → puR (fun f i k => i = 0 ∧ f = 55) m2 (jwI m 55 0 i v) ∧ ∀ k, jrI (jwI m 55 0 i v) 55 0 k = if 0 ≤ k ∧ k < i + 1 then S k else U k := by
      intro v hv
      refine ⟨puR_w p1 ⟨rfl, rfl⟩, fun k => ?_⟩
      by_cases e : k = i
      · rw [e, jrI_ws, if_pos (by omega), hv]
      · rw [jrI_wk e, p2 k]
        by_cases q : 0 ≤ k ∧ k < i
        · rw [if_pos q, if_pos (by omega)]
        · rw [if_neg q, if_neg (by omega)]
    by_cases h81 : i < 81
    · rw [if_pos h81, jix_in i0 h81, jix_in i0 i1]
      exact ⟨_, rfl, fin _ (by rw [p1 51 0 i (by omega)]; exact hd i i0 h81)⟩
    · rw [if_neg h81, jix_in i0 i1]
      exact ⟨_, rfl, fin _ (by rw [hS i (by omega), rT0_z U i0 i1])⟩) m2 ⟨puR_rf _ m2, fun k => by rw [if_neg (by omega), hU]⟩
  have a1' : M_river_44 59 0 m2 = M_river_44 59 112 m3 := a1
  have e55 : jrI m3 55 0 = S := funext fun k => by
    rw [a3 k]
    by_cases q : 0 ≤ k ∧ k < 112
    · rw [if_pos q]
    · rw [if_neg q, hS k (by omega), rT0_o U (by omega)]
  obtain ⟨m4, b1, b2, b3⟩ := s_M_begins 58 m3
  rw [a1', q_M_river_44 59 112 m3, if_neg (by decide), b1]
  simp only [jbnd_s]
  refine ⟨_, by rw [b2, e55, tBg_o (by omega)], by rw [jrI_wf (by decide), b2, e55], jrI_ws _ _ _ _ _, puR_w (puR_tr (puR_mono a2 (fun f i k w => by omega)) (puR_mono b3 (fun f i k w => by omega))) ⟨rfl, Or.inr ⟨rfl, rfl⟩⟩⟩
theorem pInv_tp {mem mem' : jMem} (h : puR (fun f i k => aX f i k ∨ ((f = 8 ∨ f = 11) ∧ k = 1)) mem mem') (e8 : jrI mem' 8 0 1 = 0) (e11 : jrI mem' 11 0 1 = 0) (hc : pInv mem) : pInv mem' := by
  obtain ⟨c1, c2, c3, c4, c5, c6⟩ := hc
  refine ⟨⟨by rw [e8, e11], by rw [e11]; decide, by rw [e11]; decide, fun i a b => by rw [e11] at b; omega⟩, iRule_fr (fun f i k hf => h f i k (by unfold aX; omega)) c2, iNow_fr (fun f k hf => h f 0 k (by unfold dSc at hf; unfold aX; omega)) c3, iMis_fr (fun f k hf => h f 0 k (by unfold aX; omega)) c4, iAct_fr (fun f i k hf => h f i k (by unfold aX; omega)) c5, iImg_fr (fun f i k hf => h f i k (by unfold dSc at hf; unfold aX; omega)) c6⟩
def aE1 (f : Nat) (i k : Int) : Prop := (f = 8 ∧ i = 0 ∧ (k = 1 ∨ k = 2 ∨ k = 3)) ∨ ((f = 4 ∨ (21 ≤ f ∧ f ≤ 30)) ∧ (i = 5 ∨ i = 0)) ∨ (((f = 9 ∧ k = 0) ∨ (38 ≤ f ∧ f ≤ 43)) ∧ i = 0) ∨ (f = 3 ∧ i = 0 ∧ k = 0) ∨ (f = 0 ∧ i = 0 ∧ k = 2)
def aE2 (f : Nat) (i k : Int) : Prop := i = 0 ∧ ((f = 11 ∧ (k = 1 ∨ k = 8 ∨ k = 9 ∨ k = 10 ∨ k = 11 ∨ k = 12 ∨ k = 14 ∨ k = 26)) ∨ f = 48 ∨ f = 51 ∨ f = 55)
set_option maxHeartbeats 4000000 in
theorem p_river : pCase (E_river 60) (M_river 60) := fun mem hi hm => by
  obtain ⟨c1, c2, c3, c4, c5, c6⟩ := id hi
  obtain ⟨t1, t2, t3, t4⟩ := id c1
  generalize hb : jrI mem 46 0 = b at *
  generalize hn : jrI mem 11 0 1 = n at *
  generalize hU : jrI mem 55 0 = U at *
  generalize hmA : (jwI (jwI (jwI (jwI (jwI (jwI (jwI mem 4 5 0 0) 4 5 3 0) 4 5 4 0) 4 5 5 0) 4 5 6 0) 8 0 2 0) 8 0 3 0) = mA
  have z := fun (k : Int) (k0 : 0 ≤ k) (k1 : k < 112) => rT0_z U k0 k1
  have frA : puR aR mem mA := fun f i k w => by
    unfold aR at w
    rw [← hmA, jrI_w, if_neg (by omega), jrI_w, if_neg (by omega), jrI_w, if_neg (by omega), jrI_w, if_neg (by omega), jrI_w, if_neg (by omega), jrI_w, if_neg (by omega), jrI_w, if_neg (by omega)]
  have hA : rC b n 0 mA := by
    refine ⟨fun j j0 j1 => ?_, ?_, ?_, ?_, by omega⟩
    · rw [frA 37 0 j (by unfold aR; omega)]
      exact (t4 j j0 j1).1
    · rw [frA 8 0 1 (by unfold aR; omega)]
      exact t1
    · rw [← hmA, jrI_wk (by decide), jrI_ws]
    · rw [← hmA, jrI_ws]
  have hdA : cRd mA (rT0 U) := by
    refine ⟨fun w => ?_, ⟨?_, ?_, ?_, ?_⟩, fun q q0 q1 => ?_, fun q q0 q1 => ?_, fun q q0 q1 => ?_, fun q q0 q1 => ?_⟩
    · rw [z 0 (by decide) (by decide)] at w; omega
    · rw [z 3 (by decide) (by decide), ← hmA, jrI_wf (by decide), jrI_wf (by decide), jrI_wk (by decide), jrI_wk (by decide), jrI_wk (by decide), jrI_ws]
    · rw [z 4 (by decide) (by decide), ← hmA, jrI_wf (by decide), jrI_wf (by decide), jrI_wk (by decide), jrI_wk (by decide), jrI_ws]
    · rw [z 5 (by decide) (by decide), ← hmA, jrI_wf (by decide), jrI_wf (by decide), jrI_wk (by decide), jrI_ws]
    · rw [z 6 (by decide) (by decide), ← hmA, jrI_wf (by decide), jrI_wf (by decide), jrI_ws]
    · rw [z 5 (by decide) (by decide)] at q1; omega
    · rw [z 6 (by decide) (by decide)] at q1; omega
    · rw [z 4 (by decide) (by decide)] at q1; omega
    · rw [z 3 (by decide) (by decide)] at q1; omega
  obtain ⟨m1, e1, e2, e3, e4⟩ := c_rv 55 (b := b) (n := n) 41 0 0 (rT0 U) mA (by decide) (by decide) (by decide) hA hdA (rT0_t U) (by rw [if_pos rfl]; exact z 0 (by decide) (by decide))
  have eR : Ri_read 59 5 mem = some (vI (jb ((rRv b n 41 0 0 (rT0 U)).1 = 0)), m1) := by
    rw [q_Ri_read 58, q_Ta_rewind 57]
    simp only [jbnd_s]
    rw [hmA]
    exact e1
  have fr1 : puR aR mem m1 := puR_tr frA e2
  by_cases hz : (rRv b n 41 0 0 (rT0 U)).1 = 0
  · obtain ⟨s1, s2, s3, s4, s5⟩ := e3 hz
    generalize hR : rRv b n 41 0 0 (rT0 U) = R at *
    have hcv : cRv (jwI m1 8 0 1 0) 5 R.2 := by
      obtain ⟨y1, ⟨y3, y4, y5, y6⟩, y7⟩ := s1
      obtain ⟨y1, y2⟩ := y1 s4
      refine cRv_fr (mem := m1) (fun f k w => by rw [jrI_wf (by omega)]) ⟨by rw [s2, s4], y1, y2, y3, y4, y5, y6, y7⟩
    obtain ⟨m3, f1, f2, f3⟩ := s_Ri_copy 58 0 5 R.2 _ (by decide) s3 hcv
    obtain ⟨m4, g1, g2, g3⟩ := s_Wa_begin 58 0 0 R.2 m3 s3 f2
    have hcv4 : cRv m4 0 R.2 := cRv_fr (fun f k w => g3 f 0 k (by omega)) f2
    have frE : puR aE1 mem (jwI (jwI m4 3 0 0 0) 0 0 2 0) := by
      refine puR_w (puR_w (puR_tr (puR_w (puR_mono fr1 (fun f i k w => ?_)) ?_) (puR_tr (puR_mono f3 (fun f i k w => ?_)) (puR_mono g3 (fun f i k w => ?_)))) ?_) ?_
      · unfold aR at w
        unfold aE1
        rcases w with w | w
        · exact Or.inl ⟨w.1, w.2.1, Or.inr w.2.2⟩
        · exact Or.inr (Or.inl ⟨w.1, Or.inl w.2⟩)
      · exact Or.inl ⟨rfl, rfl, Or.inl rfl⟩
      · exact Or.inr (Or.inl ⟨w.1, Or.inr w.2⟩)
      · exact Or.inr (Or.inr (Or.inl w))
      · exact Or.inr (Or.inr (Or.inr (Or.inl ⟨rfl, rfl, rfl⟩)))
      · exact Or.inr (Or.inr (Or.inr (Or.inr ⟨rfl, rfl, rfl⟩)))
    refine ⟨R.2 5, jwI (jwI m4 3 0 0 0) 0 0 2 0, ?_, fun _ => ?_⟩
    · rw [q_E_river 59, eR]
      simp only [jbnd_s, jasI_v]
      rw [jb_1 hz, if_neg (by decide), f1]
      simp only [jbnd_s]
      rw [g1]
      simp only [jbnd_s]
      rw [hcv4.2.2.2.2.2.1]
    · generalize hmE : jwI (jwI m4 3 0 0 0) 0 0 2 0 = mE at *
      obtain ⟨m5, h1, h2, h3, h4, h5⟩ := m_riverS (b := b) (n := n) U mE (fun j j0 j1 => by rw [frE 46 0 j (by unfold aE1; omega), hb]) (by rw [frE 11 0 1 (by unfold aE1; omega)]; exact hn) t2 t3
      rw [hR] at h1 h4 h5
      have hU5 : jrI m5 55 0 = U := by
        rw [← hU]
        exact funext fun k => by rw [h3 55 0 k (by unfold aKr; omega), frE 55 0 k (by unfold aE1; omega)]
      obtain ⟨m6, k1, k2, k3, k4⟩ := m_riverE m5 R.2 U hU5 (h4 hz) s5
      refine ⟨m6, ?_, ?_⟩
      · rw [h1, jb_1 hz, if_neg (by decide), k1]
      have frM : puR aE2 mE m6 := puR_tr (puR_mono h3 (fun f i k w => by unfold aKr at w; unfold aE2; omega)) (puR_mono k4 (fun f i k w => by unfold aE2; omega))
      have fr : puR (fun f i k => aE1 f i k ∨ aE2 f i k) mem m6 := puR_tr (puR_mono frE (fun f i k w => Or.inl w)) (puR_mono frM (fun f i k w => Or.inr w))
      have e8 : jrI m6 8 0 1 = 0 := by
        rw [frM 8 0 1 (by unfold aE2; omega), ← hmE, jrI_wf (by decide), jrI_wf (by decide), g3 8 0 1 (by omega), f3 8 0 1 (by omega), jrI_ws]
      have e11 : jrI m6 11 0 1 = 0 := by rw [k4 11 0 1 (by omega)]; exact h2
      obtain ⟨b1, b2, b3⟩ := tBg_ok s3
      have hS := tBg_S R.2
      have n111 : tBg R.2 111 = 0 := by rw [tBg_o (by omega), s5 111 (by omega), z 111 (by decide) (by decide)]
      have e3' : jrI m6 3 0 0 = 0 := by rw [frM 3 0 0 (by unfold aE2; omega), ← hmE, jrI_wf (by decide), jrI_ws]
      have e02 : jrI m6 0 0 2 = 0 := by rw [frM 0 0 2 (by unfold aE2; omega), ← hmE, jrI_ws]
      refine ⟨⟨by rw [e8, e11], by rw [e11]; decide, by rw [e11]; decide, fun i a c => by rw [e11] at c; omega⟩, iRule_fr (fun f i k hf => fr f i k (by unfold aE1 aE2; omega)) c2, ?_, iMis_fr (fun f k hf => fr f 0 k (by unfold aE1 aE2; omega)) c4, ?_, iImg_fr (fun f i k hf => fr f i k (by unfold dSc at hf; unfold aE1 aE2; omega)) c6⟩
      · unfold iNow
        rw [k2]
        refine ⟨⟨b1, b2, by rw [n111]; decide, fun i a c => by rw [n111] at c; omega⟩, by rw [tBg_10]; decide, ?_, ?_, ?_⟩
        · exact cRv_S hS (cRv_fr (mem := m4) (fun f k w => by rw [frM f 0 k (by unfold aE2; omega), ← hmE, jrI_wf (by omega), jrI_wf (by omega)]) hcv4)
        · exact cWv_fr (mem := m4) (fun f k w => by rw [frM f 0 k (by unfold aE2; omega), ← hmE, jrI_wf (by omega), jrI_wf (by omega)]) g2
        · exact ⟨by rw [e3', n111], fun i a c => by rw [n111] at c; omega⟩
      · obtain ⟨q1, q2, q3, q4, q5, q6⟩ := c5
        have q01 : jrI m6 0 0 1 = jrI mem 0 0 1 := fr 0 0 1 (by unfold aE1 aE2; omega)
        unfold iAct
        rw [e02, k3, q01]
        exact ⟨rfl, by decide, by decide, q4, q5, fun j a c => by omega⟩
  · refine ⟨jw32 ((-2) - (rRv b n 41 0 0 (rT0 U)).1), jwI m1 8 0 1 0, ?_, fun _ => ?_⟩
    · rw [q_E_river 59, eR]
      simp only [jbnd_s, jasI_v]
      rw [jb_n hz]
      first | rw [if_pos rfl] | rw [if_pos trivial]
      rw [e4 hz]
    · have frE : puR (fun f i k => aR f i k ∨ (f = 8 ∧ i = 0 ∧ k = 1)) mem (jwI m1 8 0 1 0) := puR_w (puR_mono fr1 (fun f i k w => Or.inl w)) (Or.inr ⟨rfl, rfl, rfl⟩)
      obtain ⟨m5, h1, h2, h3, h4, h5⟩ := m_riverS (b := b) (n := n) U (jwI m1 8 0 1 0) (fun j j0 j1 => by rw [frE 46 0 j (by unfold aR; omega), hb]) (by rw [frE 11 0 1 (by unfold aR; omega)]; exact hn) t2 t3
      refine ⟨m5, ?_, ?_⟩
      · rw [h1, jb_n hz]
        first | rw [if_pos rfl] | rw [if_pos trivial]
        rw [h5 hz]
      · refine pInv_tp (puR_tr (puR_mono frE (fun f i k w => by unfold aR at w; unfold aX; omega)) (puR_mono h3 (fun f i k w => by unfold aKr at w; unfold aX; omega))) ?_ h2 hi
        rw [h3 8 0 1 (by unfold aKr; omega), jrI_ws]
