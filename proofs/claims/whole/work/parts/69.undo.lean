/-! undo, count, note, feed -/
theorem p_undo : pCase (E_undo 60) (M_undo 60) := fun mem hi hm => by
  obtain ⟨hR, hW, hN, h999, cr, cw, cn, hl⟩ := pNow hi
  obtain ⟨i1, i2, i3, i4, i5, i6⟩ := id hi
  obtain ⟨⟨c1, c2, c3, c4⟩, ⟨-, -⟩, v1, v2, v3⟩ := iAct_to i5
  rw [q_E_undo 59, q_Ac_takeBack 58, c1]
  by_cases hu : 0 < jrI mem 11 0 26
  rotate_left
  · rw [if_neg hu]
    simp only [jbnd_s, jasI_v]
    refine ⟨-1, mem, rfl, fun _ => ⟨mem, ?_, hi⟩⟩
    rw [q_M_undo 59, if_pos (by omega)]
  rw [if_pos hu]
  generalize hU9 : jrI mem 11 0 26 = u at *
  generalize hnx : jrI mem 0 0 1 = nx at *
  have ep : (jw32 (jw32 (nx + 20) - 1)).tmod 20 = (nx + 19) % 20 := by
    rw [jw32_id (x := nx + 20) (by omega) (by omega), jw32_id (by omega) (by omega), Int.tmod_eq_emod_of_nonneg (by omega)]
    congr 1
    omega
  rw [ep, jix_in (by omega) (by omega)]
  generalize hp : (nx + 19) % 20 = p
  have hp2 : p = (nx - 1) % 20 := by omega
  -- what is laid back
  have hT' := v3 (u - 1) (by omega) (by omega)
  have cB := c4 (u - 1) (by omega) (by omega)
  rw [show 5 + (nx - u + (u - 1)) % 20 = p + 5 by omega] at cB
  generalize hTT : tOv (jrI mem 55 0) (fun k => jrI mem 57 0 (15 * (u - 1) + k)) = T' at hT' cB
  have hS : tS (jrI mem 55 0) T' := fun k hk => by
    rw [← hTT]
    unfold tOv
    rw [if_neg (by omega)]
  have h10 : T' 10 ≤ 999 := by
    rw [← hTT]
    unfold tOv
    rw [if_pos (by decide)]
    exact hT'.2
  have cB2 : cWv (jwI mem 0 0 1 p) (p + 5) T' := cWv_fr (fun f k hf => by rw [jrI_wf (by omega)]) cB
  have t5 := hR.2.2.2.1
  have t6 := hR.2.2.2.2.1
  obtain ⟨m1, a1, a2, a3, -⟩ := s_Wa_copy 57 0 (p + 5) T' (jwI mem 0 0 1 p) (by omega) (by rw [hS 5 (by omega)]; omega) (by rw [hS 6 (by omega)]; omega) cB2
  rw [a1]
  simp only [jbnd_s]
  have e2 : jrI m1 0 0 2 = u := by rw [a3 0 0 2 (by omega), jrI_wk (by decide)]; exact c1
  rw [e2, jw32_id (x := u - 1) (by omega) (by omega)]
  simp only [jbnd_s, jasI_v]
  refine ⟨_, _, rfl, fun _ => ?_⟩
  generalize hmE : jwI m1 0 0 2 (u - 1) = mE
  have fE : puR (fun f i k => (f = 0 ∧ i = 0 ∧ (k = 1 ∨ k = 2)) ∨ (((f = 9 ∧ k = 0) ∨ (38 ≤ f ∧ f ≤ 43)) ∧ i = 0)) mem mE := by
    rw [← hmE]
    exact puR_w (puR_tr (puR_w (puR_rf _ mem) (Or.inl ⟨rfl, rfl, Or.inl rfl⟩)) (puR_mono a3 (fun f i k hf => Or.inr hf))) (Or.inl ⟨rfl, rfl, Or.inr rfl⟩)
  have sE : jrI mE 55 0 = jrI mem 55 0 := funext fun k => fE 55 0 k (by omega)
  -- the reference
  obtain ⟨mF, b1, b2, b3⟩ := puUpE (P := fun i mF => (∀ k, jrI mF 55 0 k = if 10 ≤ k ∧ k < 10 + i then jrI mem 57 0 (15 * (u - 1) + (k - 10)) else jrI mem 55 0 k) ∧ puR (fun f i k => f = 55 ∧ i = 0 ∧ 10 ≤ k ∧ k < 25) (jwI mE 11 0 26 (u - 1)) mF) (L := fun i mF => M_undo_21 59 i mF) (n := 15) (by decide) (fun i mF i0 i1 hP => by
    obtain ⟨p1, p2⟩ := hP
    rw [q_M_undo_21, if_pos i1, p2 11 0 26 (by omega), jrI_ws, jw32_id (x := 15 * (u - 1)) (by omega) (by omega), jw32_id (x := 15 * (u - 1) + i) (by omega) (by omega), jix_in (by omega) (by omega), jw32_id (x := 10 + i) (by omega) (by omega), jix_in (by omega) (by omega), jw32_id (x := i + 1) (by omega) (by omega), p2 57 0 _ (by omega), jrI_wf (by decide), fE 57 0 _ (by omega)]
    refine ⟨_, rfl, fun k => ?_, puR_w p2 ⟨rfl, rfl, by omega, by omega⟩⟩
    by_cases e : k = 10 + i
    · rw [e, jrI_ws, if_pos (by omega), show 10 + i - 10 = i by omega]
    · rw [jrI_wk e, p1 k]
      by_cases hk : 10 ≤ k ∧ k < 10 + i
      · rw [if_pos hk, if_pos (by omega)]
      · rw [if_neg hk, if_neg (by omega)]) (jwI mE 11 0 26 (u - 1)) ⟨fun k => by rw [if_neg (by omega), jrI_wf (by decide), sE], puR_rf _ _⟩
  have hs : jrI mF 55 0 = T' := funext fun k => by
    rw [b2 k, ← hTT]
    rfl
  refine ⟨mF, ?_, ?_⟩
  · rw [q_M_undo 59, fE 11 0 26 (by omega), hU9, if_neg (by omega), jw32_id (x := u - 1) (by omega) (by omega), b1, q_M_undo_21, if_neg (by decide), b3 11 0 26 (by omega), jrI_ws]
  · have f1 : puR (fun f i k => (f = 0 ∧ i = 0 ∧ (k = 1 ∨ k = 2)) ∨ (((f = 9 ∧ k = 0) ∨ (38 ≤ f ∧ f ≤ 43)) ∧ i = 0) ∨ (f = 11 ∧ k = 26) ∨ (f = 55 ∧ i = 0 ∧ 10 ≤ k ∧ k < 25)) mem mF := puR_tr (puR_w (puR_mono fE (fun f i k hf => by omega)) (by omega)) (puR_mono b3 (fun f i k hf => by omega))
    refine ⟨iTape_fr (fun f k hf => f1 f 0 k (by omega)) i1, iRule_fr (fun f i k hf => f1 f i k (by omega)) i2, ⟨?_, by rw [hs]; exact h10, ?_⟩, iMis_fr (fun f k hf => f1 f 0 k (by omega)) i4, ?_, iImg_fr (fun f i k hf => f1 f i k (by unfold dSc at hf; omega)) i6⟩
    · rw [hs]
      exact ⟨tRv_S hS hR, hT'.1, tNv_S hS hN⟩
    · rw [hs]
      refine ⟨cRv_S hS (cRv_fr (fun f k hf => f1 f 0 k (by omega)) cr), cWv_fr (fun f k hf => ?_) a2, cNv_S hS (cNv_fr (fun f k hf => f1 f 0 k (by omega)) cn)⟩
      rw [b3 f 0 k (by omega), jrI_wf (by omega), ← hmE, jrI_wf (by omega)]
    · have et : ∀ B, tOv (jrI mF 55 0) B = tOv (jrI mem 55 0) B := fun B => by rw [hs]; exact tOv_cong hS (fun _ _ _ => rfl)
      have n1 : jrI mF 0 0 1 = p := by rw [b3 0 0 1 (by omega), jrI_wf (by decide), ← hmE, jrI_wk (by decide), a3 0 0 1 (by omega), jrI_ws]
      have n2 : jrI mF 0 0 2 = u - 1 := by rw [b3 0 0 2 (by omega), jrI_wf (by decide), ← hmE, jrI_ws]
      refine iAct_of (u := u - 1) (blk := fun j k => jrI mem 57 0 (15 * j + k)) ⟨n2, by omega, by omega, fun j a b => ?_⟩ ⟨by rw [b3 11 0 26 (by omega), jrI_ws], fun j k j0 j1 k0 k1 => f1 57 0 _ (by omega)⟩ ⟨by omega, by omega, fun j a b => by rw [et]; exact v3 j a (by omega)⟩
      rw [et, n1, show 5 + (p - (u - 1) + j) % 20 = 5 + (nx - u + j) % 20 by omega]
      exact cWv_fr (fun f k hf => f1 f _ k (by omega)) (c4 j a (by omega))
theorem p_count (x : Int) : pCase (E_count 60 x) (M_count 60 x) := pCase_ro fun mem hi hm => by
  obtain ⟨hR, hW, hN, h999, cr, cw, cn, hl⟩ := pNow hi
  obtain ⟨⟨a1, a2, a3, -⟩, ⟨b1, b2, b3, -⟩, -, ⟨⟨d1, d2, d3⟩, ⟨d4, d5⟩, -⟩, ⟨e1, -⟩, -⟩ := id hi
  have t5 := hR.2.2.2.1
  obtain ⟨t0, -⟩ := id hR
  have r5 := cr.2.2.2.2.2.1
  rw [q_E_count 59, q_M_count 59]
  by_cases x0 : x = 0
  · subst x0
    simp only [if_pos]
    rw [cr.2.1]
    exact ⟨_, rfl, rfl⟩
  rw [if_neg x0, if_neg x0]
  by_cases x1 : x = 1
  · subst x1
    simp only [if_pos]
    rw [cr.2.2.1]
    exact ⟨_, rfl, rfl⟩
  rw [if_neg x1, if_neg x1]
  by_cases x2 : x = 2
  · rw [if_pos x2, if_pos x2, s_Ri_round 57 0 _ mem cr hR, s_M_rounds 57]
    exact ⟨_, rfl, rfl⟩
  rw [if_neg x2, if_neg x2]
  by_cases x3 : x = 3
  · subst x3
    simp only [if_pos]
    rw [cr.2.2.2.2.1]
    exact ⟨_, rfl, rfl⟩
  rw [if_neg x3, if_neg x3]
  by_cases x4 : x = 4
  · subst x4
    simp only [if_pos]
    rw [r5]
    exact ⟨_, rfl, rfl⟩
  rw [if_neg x4, if_neg x4]
  by_cases x5 : x = 5
  · subst x5
    simp only [if_pos]
    rw [cr.2.2.2.2.2.2.1]
    exact ⟨_, rfl, rfl⟩
  rw [if_neg x5, if_neg x5]
  by_cases x6 : x = 6
  · rw [if_pos x6, if_pos x6, b1]
    exact ⟨_, rfl, rfl⟩
  rw [if_neg x6, if_neg x6]
  by_cases x7 : x = 7
  · rw [if_pos x7, if_pos x7, d1]
    exact ⟨_, rfl, rfl⟩
  rw [if_neg x7, if_neg x7]
  by_cases x8 : x = 8
  · rw [if_pos x8, if_pos x8, cw.1]
    exact ⟨_, rfl, rfl⟩
  rw [if_neg x8, if_neg x8]
  by_cases x9 : x = 9
  · rw [if_pos x9, if_pos x9, s_Sc_freeBits 56 0 mem (by omega), s_M_onesThat 57 _ _ mem t5, r5]
    simp only [jbnd_s, jasI_v]
    refine ⟨_, rfl, ?_⟩
    congr 3
    refine tSet_cong t5.1 (fun m a b => ?_)
    rw [(cw.2.1 m a b).1]
    have := hW.2.1 m a b
    omega
  rw [if_neg x9, if_neg x9]
  by_cases x10 : x = 10
  · rw [if_pos x10, if_pos x10, s_Sc_bitsAt 57 0 _ mem (by omega), s_M_onesThat 57 _ _ mem t5, r5]
    simp only [jbnd_s, jasI_v]
    refine ⟨_, rfl, ?_⟩
    congr 3
    refine tSet_cong t5.1 (fun m a b => ?_)
    rw [(cw.2.1 m a b).1]
    omega
  rw [if_neg x10, if_neg x10]
  by_cases x11 : x = 11
  · rw [if_pos x11, if_pos x11, cn.1]
    exact ⟨_, rfl, rfl⟩
  rw [if_neg x11, if_neg x11]
  by_cases x12 : x = 12
  · rw [if_pos x12, if_pos x12, e1]
    exact ⟨_, rfl, rfl⟩
  rw [if_neg x12, if_neg x12]
  by_cases x13 : x = 13
  · rw [if_pos x13, if_pos x13, d4]
    exact ⟨_, rfl, rfl⟩
  rw [if_neg x13, if_neg x13]
  by_cases x14 : x = 14
  · rw [if_pos x14, if_pos x14, a1]
    exact ⟨_, rfl, rfl⟩
  rw [if_neg x14, if_neg x14]
  exact ⟨_, rfl, rfl⟩
/-! feed -/
def tP1 (b : Int → Int) (n v : Int) : Int → Int := fun i => if i = n then v else b i
def tP4 (b : Int → Int) (n v : Int) : Int → Int := tP1 (tP1 (tP1 (tP1 b n (jw8 (jw8 (jshr v 24)))) (n + 1) (jw8 (jw8 (jshr v 16)))) (n + 2) (jw8 (jw8 (jshr v 8)))) (n + 3) (jw8 (jw8 (jshr v 0)))
theorem s_Ta_put (d : Nat) (v n : Int) (mem : jMem) (hn : jrI mem 8 0 1 = n) (h : 0 ≤ n ∧ n ≤ 396) : ∃ mem', Ta_put (d + 1) v mem = some (vU, mem') ∧ jrI mem' 8 0 1 = n + 4 ∧ jrI mem' 37 0 = tP4 (jrI mem 37 0) n v ∧ puR (fun f i k => (f = 37 ∧ i = 0) ∨ (f = 8 ∧ i = 0 ∧ k = 1)) mem mem' := by
  have st : ∀ (x n : Int) (m : jMem), jrI m 8 0 1 = n → 0 ≤ n → n < 400 → 0 ≤ x → x ≤ 24 → ∃ m', Ta_put_3 d v x m = Ta_put_3 d v (x - 8) m' ∧ jrI m' 8 0 1 = n + 1 ∧ jrI m' 37 0 = tP1 (jrI m 37 0) n (jw8 (jw8 (jshr v x))) ∧ puR (fun f i k => (f = 37 ∧ i = 0) ∨ (f = 8 ∧ i = 0 ∧ k = 1)) m m' := fun x n m hm h0 h1 x0 x1 => by
    rw [q_Ta_put_3, if_neg (by omega), hm, if_pos h1, jix_in h0 h1, jw32_id (x := x + -8) (by omega) (by omega), jw32_id (x := n + 1) (by omega) (by omega), show x + -8 = x - 8 by omega]
    refine ⟨_, rfl, jrI_ws _ _ _ _ _, ?_, puR_w (puR_w (puR_rf _ m) (Or.inl ⟨rfl, rfl⟩)) (Or.inr ⟨rfl, rfl, rfl⟩)⟩
    rw [jrI_wf (by decide)]
    funext i
    unfold tP1
    by_cases e : i = n
    · rw [if_pos e, e, jrI_ws]
    · rw [if_neg e, jrI_wk e]
  obtain ⟨m1, a1, a2, a3, a4⟩ := st 24 n mem hn (by omega) (by omega) (by decide) (by decide)
  obtain ⟨m2, b1, b2, b3, b4⟩ := st 16 (n + 1) m1 a2 (by omega) (by omega) (by decide) (by decide)
  obtain ⟨m3, c1, c2, c3, c4⟩ := st 8 (n + 1 + 1) m2 b2 (by omega) (by omega) (by decide) (by decide)
  obtain ⟨m4, d1, d2, d3, d4⟩ := st 0 (n + 1 + 1 + 1) m3 c2 (by omega) (by omega) (by decide) (by decide)
  rw [q_Ta_put, a1]
  rw [show (24 : Int) - 8 = 16 from rfl, b1, show (16 : Int) - 8 = 8 from rfl, c1, show (8 : Int) - 8 = 0 from rfl, d1, q_Ta_put_3, if_pos (by decide)]
  refine ⟨m4, rfl, by rw [d2]; omega, ?_, puR_tr (puR_tr (puR_tr a4 b4) c4) d4⟩
  rw [d3, c3, b3, a3, show n + 1 + 1 + 1 = n + 3 by omega, show n + 1 + 1 = n + 2 by omega]
  rfl
theorem s_M_four (d : Nat) (v n : Int) (mem : jMem) (hn : jrI mem 11 0 1 = n) (h : 0 ≤ n ∧ n ≤ 396) : ∃ mem', M_four (d + 1) v mem = some (vU, mem') ∧ jrI mem' 11 0 1 = n + 4 ∧ jrI mem' 46 0 = tP4 (jrI mem 46 0) n v ∧ puR (fun f i k => (f = 46 ∧ i = 0) ∨ (f = 11 ∧ i = 0 ∧ k = 1)) mem mem' := by
  have st : ∀ (x n : Int) (m : jMem), jrI m 11 0 1 = n → 0 ≤ n → n < 400 → 0 ≤ x → x ≤ 24 → ∃ m', M_four_3 d v x m = M_four_3 d v (x - 8) m' ∧ jrI m' 11 0 1 = n + 1 ∧ jrI m' 46 0 = tP1 (jrI m 46 0) n (jw8 (jw8 (jshr v x))) ∧ puR (fun f i k => (f = 46 ∧ i = 0) ∨ (f = 11 ∧ i = 0 ∧ k = 1)) m m' := fun x n m hm h0 h1 x0 x1 => by
    rw [q_M_four_3, if_neg (by omega), hm, jix_in h0 h1, jw32_id (x := x + -8) (by omega) (by omega), jw32_id (x := n + 1) (by omega) (by omega), show x + -8 = x - 8 by omega]
    refine ⟨_, rfl, jrI_ws _ _ _ _ _, ?_, puR_w (puR_w (puR_rf _ m) (Or.inl ⟨rfl, rfl⟩)) (Or.inr ⟨rfl, rfl, rfl⟩)⟩
    rw [jrI_wf (by decide)]
    funext i
    unfold tP1
    by_cases e : i = n
    · rw [if_pos e, e, jrI_ws]
    · rw [if_neg e, jrI_wk e]
  obtain ⟨m1, a1, a2, a3, a4⟩ := st 24 n mem hn (by omega) (by omega) (by decide) (by decide)
  obtain ⟨m2, b1, b2, b3, b4⟩ := st 16 (n + 1) m1 a2 (by omega) (by omega) (by decide) (by decide)
  obtain ⟨m3, c1, c2, c3, c4⟩ := st 8 (n + 1 + 1) m2 b2 (by omega) (by omega) (by decide) (by decide)
  obtain ⟨m4, d1, d2, d3, d4⟩ := st 0 (n + 1 + 1 + 1) m3 c2 (by omega) (by omega) (by decide) (by decide)
  rw [q_M_four, a1]
  rw [show (24 : Int) - 8 = 16 from rfl, b1, show (16 : Int) - 8 = 8 from rfl, c1, show (8 : Int) - 8 = 0 from rfl, d1, q_M_four_3, if_pos (by decide)]
  refine ⟨m4, rfl, by rw [d2]; omega, ?_, puR_tr (puR_tr (puR_tr a4 b4) c4) d4⟩
  rw [d3, c3, b3, a3, show n + 1 + 1 + 1 = n + 3 by omega, show n + 1 + 1 = n + 2 by omega]
  rfl
theorem jw8_in (x : Int) : -128 ≤ jw8 x ∧ jw8 x ≤ 127 := by
  unfold jw8
  rw [Int.bmod_def]
  omega
/-- two tapes alike -/
def tTp (b c : Int → Int) (n : Int) : Prop := ∀ i, 0 ≤ i → i < n → b i = c i ∧ -128 ≤ c i ∧ c i ≤ 127
theorem tTp_4 {b c : Int → Int} {n : Int} (h : tTp b c n) (v : Int) : tTp (tP4 b n v) (tP4 c n v) (n + 4) := fun i i0 i1 => by
  have h1 := jw8_in (jw8 (jshr v 24))
  have h2 := jw8_in (jw8 (jshr v 16))
  have h3 := jw8_in (jw8 (jshr v 8))
  have h4 := jw8_in (jw8 (jshr v 0))
  unfold tP4 tP1
  by_cases e3 : i = n + 3
  · rw [if_pos e3, if_pos e3]; exact ⟨rfl, h4⟩
  rw [if_neg e3, if_neg e3]
  by_cases e2 : i = n + 2
  · rw [if_pos e2, if_pos e2]; exact ⟨rfl, h3⟩
  rw [if_neg e2, if_neg e2]
  by_cases e1 : i = n + 1
  · rw [if_pos e1, if_pos e1]; exact ⟨rfl, h2⟩
  rw [if_neg e1, if_neg e1]
  by_cases e0 : i = n
  · rw [if_pos e0, if_pos e0]; exact ⟨rfl, h1⟩
  rw [if_neg e0, if_neg e0]
  exact h i i0 (by omega)
theorem p_feed (a b c d e : Int) : pCase (E_feed 60 a b c d e) (M_feed 60 a b c d e) := fun mem hi hm => by
  obtain ⟨⟨a1, a2, a3, a4⟩, i2, i3, i4, i5, i6⟩ := id hi
  generalize hn : jrI mem 11 0 1 = n at *
  rw [q_E_feed 59, a1, jw32_id (x := n + 20) (by omega) (by omega)]
  by_cases h : 400 < n + 20
  · rw [if_pos h]
    refine ⟨-1, mem, rfl, fun _ => ⟨mem, ?_, hi⟩⟩
    rw [q_M_feed 59, hn, jw32_id (x := n + 20) (by omega) (by omega), if_pos h]
  rw [if_neg h]
  obtain ⟨c1, p1, p2, p3, p4⟩ := s_Ta_put 58 a n mem a1 (by omega)
  obtain ⟨c2, q1, q2, q3, q4⟩ := s_Ta_put 58 b (n + 4) c1 p2 (by omega)
  obtain ⟨c3, r1, r2, r3, r4⟩ := s_Ta_put 58 c (n + 4 + 4) c2 q2 (by omega)
  obtain ⟨c4, s1, s2, s3, s4⟩ := s_Ta_put 58 d (n + 4 + 4 + 4) c3 r2 (by omega)
  obtain ⟨c5, u1, u2, u3, u4⟩ := s_Ta_put 58 e (n + 4 + 4 + 4 + 4) c4 s2 (by omega)
  rw [p1]
  simp only [jbnd_s]
  rw [q1]
  simp only [jbnd_s]
  rw [r1]
  simp only [jbnd_s]
  rw [s1]
  simp only [jbnd_s]
  rw [u1]
  simp only [jbnd_s]
  rw [u2]
  refine ⟨_, c5, rfl, fun _ => ?_⟩
  have fc := puR_tr (puR_tr (puR_tr (puR_tr p4 q4) r4) s4) u4
  have hn5 : jrI c5 11 0 1 = n := by rw [fc 11 0 1 (by omega)]; exact hn
  have h46 : jrI c5 46 0 = jrI mem 46 0 := funext fun k => fc 46 0 k (by omega)
  obtain ⟨m1, f1, f2, f3, f4⟩ := s_M_four 58 a n c5 hn5 (by omega)
  obtain ⟨m2, g1, g2, g3, g4⟩ := s_M_four 58 b (n + 4) m1 f2 (by omega)
  obtain ⟨m3, h1, h2, h3, h4⟩ := s_M_four 58 c (n + 4 + 4) m2 g2 (by omega)
  obtain ⟨m4, k1, k2, k3, k4⟩ := s_M_four 58 d (n + 4 + 4 + 4) m3 h2 (by omega)
  obtain ⟨m5, l1, l2, l3, l4⟩ := s_M_four 58 e (n + 4 + 4 + 4 + 4) m4 k2 (by omega)
  rw [q_M_feed 59, hn5, jw32_id (x := n + 20) (by omega) (by omega), if_neg h, f1]
  simp only [jbnd_s]
  rw [g1]
  simp only [jbnd_s]
  rw [h1]
  simp only [jbnd_s]
  rw [k1]
  simp only [jbnd_s]
  rw [l1]
  simp only [jbnd_s]
  rw [l2]
  refine ⟨m5, rfl, ?_⟩
  have fm := puR_tr (puR_tr (puR_tr (puR_tr f4 g4) h4) k4) l4
  have key : ∀ f i k, ¬ (f = 37 ∨ f = 46 ∨ ((f = 8 ∨ f = 11) ∧ k = 1)) → jrI m5 f i k = jrI mem f i k := fun f i k hf => by rw [fm f i k (by omega), fc f i k (by omega)]
  refine ⟨⟨?_, by omega, by omega, ?_⟩, iRule_fr (fun f i k hf => key f i k (by omega)) i2, iNow_fr (fun f k hf => key f 0 k (by unfold dSc at hf; omega)) i3, iMis_fr (fun f k hf => key f 0 k (by omega)) i4, iAct_fr (fun f i k hf => key f i k (by omega)) i5, iImg_fr (fun f i k hf => key f i k (by unfold dSc at hf; omega)) i6⟩
  · rw [fm 8 0 1 (by omega), u2, l2]
  · have h37 : jrI m5 37 0 = jrI c5 37 0 := funext fun k => fm 37 0 k (by omega)
    rw [l2, h37, u3, s3, r3, q3, p3, l3, k3, h3, g3, f3, h46]
    have ht : tTp (jrI mem 37 0) (jrI mem 46 0) n := fun i x y => a4 i x y
    exact tTp_4 (tTp_4 (tTp_4 (tTp_4 (tTp_4 ht a) b) c) d) e
