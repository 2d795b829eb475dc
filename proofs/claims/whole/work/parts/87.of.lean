/-! of -/
theorem tBg_W {T W : Int → Int} {x p : Int} (hx : 0 ≤ x ∧ x < 6) (h : ∀ k, (k < 10 ∨ 25 ≤ k) → k ≠ 45 + x → W k = T k) (hp : W (45 + x) = p) : tBg W = tUp (tBg T) (45 + x) p := by
  funext k
  by_cases e : k = 45 + x
  · rw [e, tUp_s, tBg_o (by omega), hp]
  · rw [tUp_n e]
    unfold tBg
    by_cases h10 : k = 10
    · rw [if_pos h10, if_pos h10]
    rw [if_neg h10, if_neg h10]
    by_cases h11 : 11 ≤ k ∧ k < 17
    · rw [if_pos h11, if_pos h11, h _ (by omega) (by omega)]
    rw [if_neg h11, if_neg h11]
    by_cases h17 : 17 ≤ k ∧ k < 25
    · rw [if_pos h17, if_pos h17, h _ (by omega) (by omega)]
    · rw [if_neg h17, if_neg h17, h k (by omega) e]
theorem p_of (x : Int) : pCase (E_of 60 x) (M_of 60 x) := fun mem hi hm => by
  obtain ⟨hR, hW, hN, h999, cr, cw, cn, hl⟩ := pNow hi
  have t5 := hR.2.2.2.1
  have t4 := hR.2.2.1
  have t6 := hR.2.2.2.2.1
  have r5 := cr.2.2.2.2.2.1
  have r4 := cr.2.2.2.2.1
  generalize hT : jrI mem 55 0 = T at *
  rw [q_E_of 59, s_E_isMemory 57 x mem (by omega) (by omega), r5]
  simp only [jbnd_s, jasI_v]
  by_cases hx : 0 ≤ x ∧ x < T 5
  case neg =>
    rw [jb_n hx, if_pos rfl]
    refine ⟨-1, mem, rfl, fun _ => ⟨mem, ?_, hi⟩⟩
    rw [q_M_of 59, s_M_isMemory, hT]
    simp only [jbnd_s, jasI_v]
    rw [jb_n hx, if_pos rfl]
  rw [jb_1 hx, if_neg (by decide)]
  have h1 := told1 hR (by omega)
  obtain ⟨o, ev, e1, e2, e3⟩ := pEv hi 57
  rw [e1]
  simp only [jbnd_s, jasR_v]
  rw [q_Gu_owners]
  obtain ⟨bR, bW, -⟩ := tBg_ok hR
  have bS := tBg_S T
  have bN := tNv_S bS hN
  have hZ : ∀ p, 0 ≤ p → p < T 4 → tRv (tUp (tBg T) (45 + x) p) ∧ tWv (tUp (tBg T) (45 + x) p) ∧ tNv (tUp (tBg T) (45 + x) p) ∧ tUp (tBg T) (45 + x) p 0 = 1 ∧ tUp (tBg T) (45 + x) p 10 = 0 ∧ tUp (tBg T) (45 + x) p 5 = T 5 := fun p p0 p1 => by
    obtain ⟨a, b, c⟩ := tWh_ok bR bW bN (x := x) (p := p) (by rw [bS 5 (by omega)]; exact hx) (by rw [bS 4 (by omega)]; exact ⟨p0, p1⟩)
    exact ⟨a, b, c, by rw [tUp_n (by omega), bS 0 (by omega)]; exact h1, by rw [tUp_n (by omega), tBg_10], by rw [tUp_n (by omega), bS 5 (by omega)]⟩
  have crZ : ∀ p, cRw mem 0 (tUp (tBg T) (45 + x) p) := fun p => cRw_cong hR (fun j j0 j1 j2 j3 => by rw [tUp_n (by omega), bS j (by omega)]) (cRw_of cr)
  have cnZ : ∀ p, cNv mem 0 (tUp (tBg T) (45 + x) p) := fun p => by
    obtain ⟨c0, c1⟩ := cNv_S bS cn
    unfold cNv
    rw [tUp_n (j := 111) (by omega)]
    refine ⟨c0, fun i a b => ?_⟩
    rw [tUp_n (j := 81 + 3 * i) (by omega), tUp_n (j := 82 + 3 * i) (by omega), tUp_n (j := 83 + 3 * i) (by omega)]
    exact c1 i a b
  -- the class
  obtain ⟨⟨S, m1⟩, c1, c2, c3⟩ := puUpE (P := fun i (z : Int × jMem) => z.1 = tSet (fun p => tFt ev (tUp (tBg T) (45 + x) p) = -1) i ∧ puR aX mem z.2) (L := fun i z => Gu_owners_6 58 0 o x z.1 i z.2) (n := T 4) t4.1 (fun i z i0 i1 hP => by
    obtain ⟨S, m⟩ := z
    obtain ⟨p1, p2⟩ := hP
    dsimp only at p1 p2
    show ∃ z' : Int × jMem, Gu_owners_6 58 0 o x S i m = Gu_owners_6 58 0 o x z'.1 (i + 1) z'.2 ∧ _
    obtain ⟨s1, s2, s3, s4, s5, s6⟩ := hZ i i0 i1
    obtain ⟨m2, d1, d2, d3⟩ := s_Wa_begin 57 26 0 T m hR (cRv_fr (fun f k hf => p2 f 0 k (by unfold aX; omega)) cr)
    have r2 : puR aX mem m2 := puR_tr p2 (puR_mono d3 (fun f i k hf => by unfold aX; omega))
    rw [q_Gu_owners_6, p2 4 0 4 (by unfold aX; omega), r4, if_pos i1, d1]
    simp only [jbnd_s]
    rw [jix_in hx.1 (by omega)]
    obtain ⟨m3, f1, f2, -⟩ := s_Gu_fits 50 o ev (tUp (tBg T) (45 + x) i) 0 0 mem (jwI m2 39 26 x i) s1 s2 s3 s4 s5 (by decide) (by decide) (crZ i) (cnZ i) e2 (puR_w r2 (by unfold aX; omega)) (cWv_wh (by rw [bS 5 (by omega)]; exact t5.2) (by rw [bS 6 (by omega)]; exact t6.2) (by rw [bS 5 (by omega)]; exact hx) d2)
    rw [f1, jw32_id (x := i + 1) (by omega) (by omega), tSet_s _ i0]
    simp only [jbnd_s, jasI_v]
    by_cases hq : tFt ev (tUp (tBg T) (45 + x) i) = -1
    · rw [jb_1 hq, if_neg (by decide), if_pos hq]
      exact ⟨(jor S (jshl 1 i), m3), rfl, by rw [p1], f2⟩
    · rw [jb_n hq, if_pos rfl, if_neg hq]
      exact ⟨(S, m3), rfl, p1, f2⟩) (0, mem) ⟨rfl, puR_rf _ mem⟩
  dsimp only at c2 c3
  have c1' : Gu_owners_6 58 0 o x 0 0 mem = Gu_owners_6 58 0 o x S (T 4) m1 := c1
  rw [c1', q_Gu_owners_6, c3 4 0 4 (by unfold aX; omega), r4, if_neg (by omega)]
  simp only [jbnd_s, jasI_v]
  refine ⟨S, m1, rfl, fun _ => ?_⟩
  -- the reference
  have hs : jrI m1 55 0 = T := by rw [X_said c3]; exact hT
  have hl1 : jrI m1 11 0 23 = -1 := by rw [X_23 c3]; exact hl
  obtain ⟨m2, b1, b2, b4, -⟩ := s_M_keeps 58 m1
  have b3 : jrI m2 55 0 = jrI m1 55 0 := funext fun k => b4 55 0 k (show ¬ (55 : Nat) = 58 by decide)
  rw [q_M_of 59, s_M_isMemory, hs]
  simp only [jbnd_s, jasI_v]
  rw [jb_1 hx, if_neg (by decide), jw32_id (x := 45 + x) (by omega) (by omega), jix_in (by omega) (by omega), b1]
  simp only [jbnd_s]
  obtain ⟨⟨S2, m9⟩, g1, g2, g3, g4, g5, g6⟩ := puUpE (P := fun i (z : Int × jMem) => z.1 = tSet (fun p => tFt ev (tUp (tBg T) (45 + x) p) = -1) i ∧ (∀ k, (k < 10 ∨ 25 ≤ k) → k ≠ 45 + x → jrI z.2 55 0 k = T k) ∧ (∀ k, 0 ≤ k → k < 15 → jrI z.2 58 0 k = T (10 + k)) ∧ puR (fun f i k => f = 58 ∨ (f = 55 ∧ i = 0) ∨ f = 56 ∨ (f = 11 ∧ (k = 18 ∨ (k = 23 ∧ i = 0))) ∨ f = 62) m1 z.2 ∧ jrI z.2 11 0 23 = -1) (L := fun i z => M_of_29 59 x (T (45 + x)) z.1 i z.2) (n := T 4) t4.1 (fun i z i0 i1 hP => by
    obtain ⟨S, m⟩ := z
    obtain ⟨p1, p2, p3, p4, p5⟩ := hP
    dsimp only at p1 p2 p3 p4 p5
    show ∃ z' : Int × jMem, M_of_29 59 x (T (45 + x)) S i m = M_of_29 59 x (T (45 + x)) z'.1 (i + 1) z'.2 ∧ _
    obtain ⟨s1, s2, s3, s4, s5, s6⟩ := hZ i i0 i1
    rw [q_M_of_29, p2 4 (by omega) (by omega), if_pos i1, jw32_id (x := 45 + x) (by omega) (by omega), jix_in (by omega) (by omega)]
    obtain ⟨m3, d1, d2, d3⟩ := s_M_begins 58 (jwI m 55 0 (45 + x) i)
    have hW9 : tBg (jrI (jwI m 55 0 (45 + x) i) 55 0) = tUp (tBg T) (45 + x) i := tBg_W ⟨hx.1, by omega⟩ (fun k hk hk2 => by rw [jrI_wk hk2]; exact p2 k hk hk2) (jrI_ws _ _ _ _ _)
    rw [hW9] at d2
    rw [d1]
    simp only [jbnd_s]
    have fr3 : puR (fun f i k => f = 58 ∨ (f = 55 ∧ i = 0) ∨ f = 56 ∨ (f = 11 ∧ (k = 18 ∨ (k = 23 ∧ i = 0))) ∨ f = 62) m1 m3 := puR_tr (puR_w p4 (by omega)) (puR_mono d3 (fun f i k hf => by omega))
    have ev3 : mEv m3 ev := mEv_R (fun f i k hf => by omega) fr3 (mEv_X c3 e3)
    obtain ⟨m4, f1, f2, -, f4⟩ := s_M_areAllSo 51 ev (tUp (tBg T) (45 + x) i) 0 (-1) m3 s1 s2 s3 s4 s5 (by decide) (by decide) ev3 d2 (by rw [d3 11 0 23 (by omega), jrI_wf (by decide)]; exact p5)
    rw [f1, jw32_id (x := i + 1) (by omega) (by omega), tSet_s _ i0]
    simp only [jbnd_s, jasI_v]
    have h55 : ∀ k, (k < 10 ∨ 25 ≤ k) → k ≠ 45 + x → jrI m4 55 0 k = T k := fun k hk hk2 => by
      rw [f2 55 0 k (by unfold aQr aP; omega), d3 55 0 k (by omega), jrI_wk hk2]
      exact p2 k hk hk2
    have h58 : ∀ k, 0 ≤ k → k < 15 → jrI m4 58 0 k = T (10 + k) := fun k k0 k1 => by
      rw [f2 58 0 k (by unfold aQr aP; omega), d3 58 0 k (by omega), jrI_wf (by decide)]
      exact p3 k k0 k1
    have fr4 := puR_tr fr3 (puR_mono f2 (fun f i k hf => by unfold aQr aP at hf; omega))
    by_cases hq : tFt ev (tUp (tBg T) (45 + x) i) = -1
    · rw [jb_1 hq, if_neg (by decide), if_pos hq]
      exact ⟨(jor S (jshl 1 i), m4), rfl, by rw [p1], h55, h58, fr4, f4⟩
    · rw [jb_n hq, if_pos rfl, if_neg hq]
      exact ⟨(S, m4), rfl, p1, h55, h58, fr4, f4⟩) (0, m2) ⟨rfl, fun k hk hk2 => by rw [b3, hs], fun k k0 k1 => by rw [← hs]; exact b2 k k0 k1, puR_mono b4 (fun f i k hf => Or.inl hf), by rw [b4 11 0 23 (show ¬ (11 : Nat) = 58 by decide)]; exact hl1⟩
  dsimp only at g2 g3 g4 g5 g6
  have g1' : M_of_29 59 x (T (45 + x)) 0 0 m2 = M_of_29 59 x (T (45 + x)) S2 (T 4) m9 := g1
  obtain ⟨m4, d1, d2, d3, -⟩ := s_M_laysBack 58 (jwI m9 55 0 (45 + x) (T (45 + x)))
  rw [hs, g1', q_M_of_29, g3 4 (by omega) (by omega), if_neg (by omega), jw32_id (x := 45 + x) (by omega) (by omega), jix_in (by omega) (by omega), d1]
  simp only [jbnd_s]
  have h4 : jrI m4 55 0 = T := funext fun k => by
    rw [d2 k]
    by_cases hk : 10 ≤ k ∧ k < 25
    · rw [if_pos hk, jrI_wf (by decide), g4 (k - 10) (by omega) (by omega), show 10 + (k - 10) = k by omega]
    · rw [if_neg hk]
      by_cases e : k = 45 + x
      · rw [e, jrI_ws]
      · rw [jrI_wk e]
        exact g3 k (by omega) e
  refine ⟨m4, by rw [c2, g2], pInv_fr (mem := m1) (fun f i k hf => ?_) (pInv_fr c3 hi)⟩
  by_cases h55 : f = 55 ∧ i = 0
  · rw [h55.1, h55.2, h4, hs]
  · rw [d3 f i k (by omega), jrI_w, if_neg (by omega)]
    by_cases h23 : f = 11 ∧ i = 0 ∧ k = 23
    · rw [h23.1, h23.2.1, h23.2.2, g6, hl1]
    · refine g5 f i k ?_
      unfold aX at hf
      omega
