/-! Acts: sink, free, give, undo -/
theorem p_sink (x y z : Int) : pCase (E_sink 60 x y z) (M_sink 60 x y z) := fun mem hi hm => by
  obtain ⟨hR, hW, hN, h999, cr, cw, cn, hl⟩ := pNow hi
  obtain ⟨t0, t3, t4, t5, t6, t55, tm, tt, tp, tl⟩ := id hR
  have r1 := cr.2.1
  have h12 : jrI mem 55 0 1 ≤ 12 := by omega
  rw [q_E_sink 59, s_E_isEmptyTrap 56 x _ mem hR cr cw]
  simp only [jbnd_s, jasI_v]
  by_cases hx : 0 ≤ x ∧ x < jrI mem 55 0 6 ∧ tIn (jrI mem 55 0) x = -1
  rotate_left
  · rw [jb_n hx, if_pos rfl]
    refine ⟨-1, mem, rfl, fun _ => ⟨mem, ?_, hi⟩⟩
    rw [q_M_sink 59, s_M_isEmptyTrap 57 x _ mem hR rfl]
    simp only [jbnd_s, jasI_v]
    rw [jb_n hx, if_pos rfl]
  rw [jb_1 hx, if_neg (by decide), s_E_isPool 57 y mem (by omega) (by omega), r1]
  simp only [jbnd_s, jasI_v]
  by_cases hy : 0 ≤ y ∧ y < jrI mem 55 0 1
  rotate_left
  · rw [jb_n hy, if_pos rfl]
    refine ⟨-1, mem, rfl, fun _ => ⟨mem, ?_, hi⟩⟩
    rw [q_M_sink 59, s_M_isEmptyTrap 57 x _ mem hR rfl]
    simp only [jbnd_s, jasI_v]
    rw [jb_1 hx, if_neg (by decide), s_M_isPool]
    simp only [jbnd_s, jasI_v]
    rw [jb_n hy, if_pos rfl]
  rw [jb_1 hy, if_neg (by decide), s_E_within]
  simp only [jbnd_s, jasI_v]
  by_cases hz : 0 ≤ z ∧ z ≤ 7
  rotate_left
  · rw [jb_n hz, if_pos rfl]
    refine ⟨-1, mem, rfl, fun _ => ⟨mem, ?_, hi⟩⟩
    rw [q_M_sink 59, s_M_isEmptyTrap 57 x _ mem hR rfl]
    simp only [jbnd_s, jasI_v]
    rw [jb_1 hx, if_neg (by decide), s_M_isPool]
    simp only [jbnd_s, jasI_v]
    rw [jb_1 hy, if_neg (by decide), s_M_in]
    simp only [jbnd_s, jasI_v]
    rw [jb_n hz, if_pos rfl]
  rw [jb_1 hz, if_neg (by decide), jix_in hx.1 (by omega), jix_in hx.1 (by omega), (cw.2.2 x hx.1 hx.2.1).1, (cw.2.2 x hx.1 hx.2.1).2.2.1]
  obtain ⟨w1, w2, w3, w4⟩ := hW.2.2.1 x hx.1 hx.2.1
  by_cases hsame : jrI mem 55 0 (17 + 2 * x) = y ∧ jrI mem 55 0 (18 + 2 * x) = z
  · rw [if_pos hsame.1, if_pos hsame.2]
    refine ⟨-1, mem, rfl, fun _ => ⟨mem, ?_, hi⟩⟩
    rw [q_M_sink 59, s_M_isEmptyTrap 57 x _ mem hR rfl]
    simp only [jbnd_s, jasI_v]
    rw [jb_1 hx, if_neg (by decide), s_M_isPool]
    simp only [jbnd_s, jasI_v]
    rw [jb_1 hy, if_neg (by decide), s_M_in]
    simp only [jbnd_s, jasI_v]
    rw [jb_1 hz, if_neg (by decide), s_M_poolOf 58 x mem (by omega)]
    simp only [jbnd_s, jasI_v]
    rw [if_pos hsame.1, s_M_baitOf 58 x mem (by omega)]
    simp only [jbnd_s, jasI_v]
    rw [if_pos hsame.2]
  have hgo : (if jrI mem 55 0 (17 + 2 * x) = y then if jrI mem 55 0 (18 + 2 * x) = z then some (vI (-1), mem) else E_sink_70 59 x y z (jrI mem 55 0 (17 + 2 * x)) (jrI mem 55 0 (18 + 2 * x)) mem else E_sink_70 59 x y z (jrI mem 55 0 (17 + 2 * x)) (jrI mem 55 0 (18 + 2 * x)) mem) = E_sink_70 59 x y z (jrI mem 55 0 (17 + 2 * x)) (jrI mem 55 0 (18 + 2 * x)) mem := by
    by_cases a : jrI mem 55 0 (17 + 2 * x) = y
    · rw [if_pos a, if_neg (fun b => hsame ⟨a, b⟩)]
    · rw [if_neg a]
  rw [hgo, q_E_sink_70]
  obtain ⟨m1, u, blk, k1, k2, k3, k4, k5, k6, k7, k8, k9⟩ := pKeep hi 57
  rw [k1]
  simp only [jbnd_s]
  rw [jix_in hx.1 (by omega), jix_in hx.1 (by omega)]
  refine ⟨_, _, rfl, fun _ => ?_⟩
  have fE : puR aE m1 (jwI (jwI m1 40 0 x y) 42 0 x z) := puR_w (puR_w (puR_rf _ m1) (by unfold aE; omega)) (by unfold aE; omega)
  have hS : tS (jrI mem 55 0) (tUp (tUp (jrI mem 55 0) (17 + 2 * x) y) (18 + 2 * x) z) := fun k hk => by rw [tUp_n (by omega), tUp_n (by omega)]
  have hIn : ∀ t, tIn (tUp (tUp (jrI mem 55 0) (17 + 2 * x) y) (18 + 2 * x) z) t = tIn (jrI mem 55 0) t := fun t => tIn_cong (by rw [tUp_n (by omega), tUp_n (by omega)]) (fun m a b => by rw [tUp_n (by omega), tUp_n (by omega)])
  have cwE : cWv (jwI (jwI m1 40 0 x y) 42 0 x z) 0 (tUp (tUp (jrI mem 55 0) (17 + 2 * x) y) (18 + 2 * x) z) := by
    refine ⟨?_, fun j a b => ?_, fun t a b => ?_⟩
    · rw [jrI_wf (by decide), jrI_wf (by decide), tUp_n (by omega), tUp_n (by omega)]
      exact k9.1
    · rw [tUp_n (j := 5) (by omega), tUp_n (j := 5) (by omega)] at b
      rw [jrI_wf (g := 38) (by decide), jrI_wf (g := 38) (by decide), jrI_wf (g := 39) (by decide), jrI_wf (g := 39) (by decide), tUp_n (j := 11 + j) (by omega), tUp_n (j := 11 + j) (by omega), tUp_n (j := 45 + j) (by omega), tUp_n (j := 45 + j) (by omega)]
      exact k9.2.1 j a b
    · rw [tUp_n (j := 6) (by omega), tUp_n (j := 6) (by omega)] at b
      obtain ⟨g1, g2, g3, g4⟩ := k9.2.2 t a b
      rw [hIn, jrI_wf (f := 42) (g := 40) (by decide), jrI_wf (g := 41) (by decide), jrI_wf (g := 41) (by decide), jrI_wf (g := 43) (by decide), jrI_wf (g := 43) (by decide), tUp_n (j := 25 + t) (by omega), tUp_n (j := 25 + t) (by omega), tUp_n (j := 17 + 2 * t) (k := 18 + 2 * x) (by omega)]
      by_cases e : t = x
      · rw [e, jrI_ws, jrI_ws, tUp_s, tUp_s]
        rw [e] at g2 g4
        exact ⟨rfl, g2, rfl, g4⟩
      · rw [jrI_wk e, jrI_wk e, jrI_wf (f := 40) (g := 42) (by decide), tUp_n (j := 17 + 2 * t) (by omega), tUp_n (j := 18 + 2 * t) (by omega), tUp_n (j := 18 + 2 * t) (by omega)]
        exact ⟨g1, g2, g3, g4⟩
  have hW' : tWv (tUp (tUp (jrI mem 55 0) (17 + 2 * x) y) (18 + 2 * x) z) := by
    obtain ⟨a1, a2, a3, a4⟩ := hW
    unfold tWv
    rw [hS 1 (by omega), hS 4 (by omega), hS 5 (by omega), hS 6 (by omega), tUp_n (j := 10) (by omega), tUp_n (j := 10) (by omega)]
    refine ⟨a1, fun j a b => ?_, fun t a b => ?_, fun j j' a b a' b' c1 c2 c3 => ?_⟩
    · rw [tUp_n (by omega), tUp_n (by omega)]
      exact a2 j a b
    · by_cases e : t = x
      · rw [e, tUp_n (by omega), tUp_s, tUp_s]
        omega
      · rw [tUp_n (by omega), tUp_n (by omega), tUp_n (by omega), tUp_n (by omega)]
        exact a3 t a b
    · rw [tUp_n (by omega), tUp_n (by omega)] at c1 c2 c3
      rw [tUp_n (by omega), tUp_n (by omega)] at c3
      exact a4 j j' a b a' b' c1 c2 c3
  obtain ⟨sE, mM, b1, b2, b3⟩ := pFin hi k2 k3 k4 k5 k6 k7 fE cwE hS hW' (by rw [tUp_n (by omega), tUp_n (by omega)]; exact h999) 58
  generalize hmE : jwI (jwI m1 40 0 x y) 42 0 x z = mE at sE b1 ⊢
  refine ⟨jwI (jwI mM 55 0 (17 + 2 * x) y) 55 0 (18 + 2 * x) z, ?_, b3 _ ?_ (puR_w (puR_w (puR_rf _ mM) ⟨rfl, rfl, by omega, by omega⟩) ⟨rfl, rfl, by omega, by omega⟩)⟩
  · have hend : M_sink_48 59 x y z mE = some (vI (jw32 (jw32 (8 * jrI mem 55 0 (17 + 2 * x)) + jrI mem 55 0 (18 + 2 * x))), jwI (jwI mM 55 0 (17 + 2 * x) y) 55 0 (18 + 2 * x) z) := by
      rw [q_M_sink_48, b1]
      simp only [jbnd_s]
      rw [s_M_poolOf 58 x mM (by omega)]
      simp only [jbnd_s, jasI_v]
      rw [s_M_baitOf 58 x mM (by omega)]
      simp only [jbnd_s, jasI_v]
      rw [b2, jw32_id (x := 2 * x) (by omega) (by omega), jw32_id (x := 17 + 2 * x) (by omega) (by omega), jw32_id (x := 17 + 2 * x + 1) (by omega) (by omega), jix_in (by omega) (by omega), jix_in (by omega) (by omega), show 17 + 2 * x + 1 = 18 + 2 * x by omega]
    rw [q_M_sink 59, s_M_isEmptyTrap 57 x _ mE (by rw [sE]; exact hR) rfl, sE]
    simp only [jbnd_s, jasI_v]
    rw [jb_1 hx, if_neg (by decide), s_M_isPool, sE]
    simp only [jbnd_s, jasI_v]
    rw [jb_1 hy, if_neg (by decide), s_M_in]
    simp only [jbnd_s, jasI_v]
    rw [jb_1 hz, if_neg (by decide), s_M_poolOf 58 x mE (by omega), sE]
    simp only [jbnd_s, jasI_v]
    rw [s_M_baitOf 58 x mE (by omega), sE]
    simp only [jbnd_s, jasI_v]
    rw [hend]
    by_cases a : jrI mem 55 0 (17 + 2 * x) = y
    · rw [if_pos a, if_neg (fun b => hsame ⟨a, b⟩)]
    · rw [if_neg a]
  · funext k
    unfold tUp
    by_cases e : k = 18 + 2 * x
    · rw [if_pos e, e, jrI_ws]
    · rw [if_neg e, jrI_wk e]
      by_cases e2 : k = 17 + 2 * x
      · rw [if_pos e2, e2, jrI_ws]
      · rw [if_neg e2, jrI_wk e2, b2]
/-- a memory that is had comes to another place -/
theorem pMove {mem : jMem} (hi : pInv mem) {x v : Int} (hx : 0 ≤ x ∧ x < jrI mem 55 0 5 ∧ 30 ≤ jrI mem 55 0 (11 + x)) (hv : (0 ≤ v ∧ v < jrI mem 55 0 1 ∧ v < 20) ∨ (30 ≤ v ∧ v < 30 + jrI mem 55 0 4)) : ∃ m1, Ac_keep 59 0 mem = some (vU, m1) ∧ jrI m1 38 0 x = jrI mem 55 0 (11 + x) ∧ jrI (jwI m1 38 0 x v) 55 0 = jrI mem 55 0 ∧ ∃ mM, M_keepsAct 59 (jwI m1 38 0 x v) = some (vU, mM) ∧ jrI mM 55 0 = jrI mem 55 0 ∧ pInv (jwI mM 55 0 (11 + x) v) := by
  obtain ⟨hR, hW, hN, h999, cr, cw, cn, hl⟩ := pNow hi
  obtain ⟨t0, t3, t4, t5, t6, -⟩ := id hR
  obtain ⟨m1, u, blk, k1, k2, k3, k4, k5, k6, k7, k8, k9⟩ := pKeep hi 57
  have fE : puR aE m1 (jwI m1 38 0 x v) := puR_w (puR_rf _ m1) (by unfold aE; omega)
  have hS : tS (jrI mem 55 0) (tUp (jrI mem 55 0) (11 + x) v) := fun k hk => tUp_n (by omega)
  have cwE : cWv (jwI m1 38 0 x v) 0 (tUp (jrI mem 55 0) (11 + x) v) := by
    refine ⟨?_, fun j a b => ?_, fun t a b => ?_⟩
    · rw [jrI_wf (by decide), tUp_n (by omega)]
      exact k9.1
    · rw [tUp_n (j := 5) (by omega)] at b
      rw [jrI_wf (g := 39) (by decide), tUp_n (j := 45 + j) (by omega)]
      refine ⟨?_, (k9.2.1 j a b).2⟩
      by_cases e : j = x
      · rw [e, jrI_ws, tUp_s]
      · rw [jrI_wk e, tUp_n (by omega)]
        exact (k9.2.1 j a b).1
    · rw [tUp_n (j := 6) (by omega)] at b
      rw [jrI_wf (g := 40) (by decide), jrI_wf (g := 41) (by decide), jrI_wf (g := 42) (by decide), jrI_wf (g := 43) (by decide), tUp_n (j := 17 + 2 * t) (by omega), tUp_n (j := 25 + t) (by omega), tUp_n (j := 18 + 2 * t) (by omega), tIn_pl (by omega) (by omega) ⟨hx.1, by omega⟩]
      exact k9.2.2 t a b
  obtain ⟨sE, mM, b1, b2, b3⟩ := pFin hi k2 k3 k4 k5 k6 k7 fE cwE hS (tWv_pl hW ⟨hx.1, hx.2.1⟩ t5.2 hv) (by rw [tUp_n (by omega)]; exact h999) 58
  refine ⟨m1, k1, (k9.2.1 x hx.1 hx.2.1).1, sE, mM, b1, b2, b3 _ ?_ (puR_w (puR_rf _ mM) ⟨rfl, rfl, by omega, by omega⟩)⟩
  funext k
  unfold tUp
  by_cases e : k = 11 + x
  · rw [if_pos e, e, jrI_ws]
  · rw [if_neg e, jrI_wk e, b2]
theorem p_free (x y : Int) : pCase (E_free 60 x y) (M_free 60 x y) := fun mem hi hm => by
  obtain ⟨hR, hW, hN, h999, cr, cw, cn, hl⟩ := pNow hi
  obtain ⟨t0, t3, t4, t5, t6, -⟩ := id hR
  have r1 := cr.2.1
  rw [q_E_free 59, s_E_isHad 56 x _ mem hR cr cw]
  simp only [jbnd_s, jasI_v]
  by_cases hx : 0 ≤ x ∧ x < jrI mem 55 0 5 ∧ 30 ≤ jrI mem 55 0 (11 + x)
  rotate_left
  · rw [jb_n hx, if_pos rfl]
    refine ⟨-1, mem, rfl, fun _ => ⟨mem, ?_, hi⟩⟩
    rw [q_M_free 59, s_M_isHad 57 x _ mem hR rfl]
    simp only [jbnd_s, jasI_v]
    rw [jb_n hx, if_pos rfl]
  rw [jb_1 hx, if_neg (by decide), s_E_isPool 57 y mem (by omega) (by omega), r1]
  simp only [jbnd_s, jasI_v]
  by_cases hy : 0 ≤ y ∧ y < jrI mem 55 0 1
  rotate_left
  · rw [jb_n hy, if_pos rfl]
    refine ⟨-1, mem, rfl, fun _ => ⟨mem, ?_, hi⟩⟩
    rw [q_M_free 59, s_M_isHad 57 x _ mem hR rfl]
    simp only [jbnd_s, jasI_v]
    rw [jb_1 hx, if_neg (by decide), s_M_isPool]
    simp only [jbnd_s, jasI_v]
    rw [jb_n hy, if_pos rfl]
  rw [jb_1 hy, if_neg (by decide)]
  have hp := hW.2.1 x hx.1 hx.2.1
  obtain ⟨m1, a1, a2, a3, mM, a4, a5, a6⟩ := pMove hi hx (v := y) (by omega)
  rw [a1]
  simp only [jbnd_s]
  rw [jix_in hx.1 (by omega), jix_in hx.1 (by omega), a2]
  refine ⟨_, _, rfl, fun _ => ⟨jwI mM 55 0 (11 + x) y, ?_, a6⟩⟩
  rw [q_M_free 59, s_M_isHad 57 x _ _ (by rw [a3]; exact hR) rfl, a3]
  simp only [jbnd_s, jasI_v]
  rw [jb_1 hx, if_neg (by decide), s_M_isPool, a3]
  simp only [jbnd_s, jasI_v]
  rw [jb_1 hy, if_neg (by decide), a4]
  simp only [jbnd_s]
  rw [jw32_id (x := 11 + x) (by omega) (by omega), jix_in (by omega) (by omega), jix_in (by omega) (by omega), a5]
theorem p_give (x y : Int) : pCase (E_give 60 x y) (M_give 60 x y) := fun mem hi hm => by
  obtain ⟨hR, hW, hN, h999, cr, cw, cn, hl⟩ := pNow hi
  obtain ⟨t0, t3, t4, t5, t6, -⟩ := id hR
  have r4 := cr.2.2.2.2.1
  rw [q_E_give 59, s_E_isHad 56 x _ mem hR cr cw]
  simp only [jbnd_s, jasI_v]
  by_cases hx : 0 ≤ x ∧ x < jrI mem 55 0 5 ∧ 30 ≤ jrI mem 55 0 (11 + x)
  rotate_left
  · rw [jb_n hx, if_pos rfl]
    refine ⟨-1, mem, rfl, fun _ => ⟨mem, ?_, hi⟩⟩
    rw [q_M_give 59, s_M_isHad 57 x _ mem hR rfl]
    simp only [jbnd_s, jasI_v]
    rw [jb_n hx, if_pos rfl]
  rw [jb_1 hx, if_neg (by decide), s_E_isPerson 57 y mem (by omega) (by omega), r4]
  simp only [jbnd_s, jasI_v]
  by_cases hy : 0 ≤ y ∧ y < jrI mem 55 0 4
  rotate_left
  · rw [jb_n hy, if_pos rfl]
    refine ⟨-1, mem, rfl, fun _ => ⟨mem, ?_, hi⟩⟩
    rw [q_M_give 59, s_M_isHad 57 x _ mem hR rfl]
    simp only [jbnd_s, jasI_v]
    rw [jb_1 hx, if_neg (by decide), s_M_isPerson]
    simp only [jbnd_s, jasI_v]
    rw [jb_n hy, if_pos rfl]
  rw [jb_1 hy, if_neg (by decide), jix_in hx.1 (by omega), (cw.2.1 x hx.1 hx.2.1).1, jw32_id (x := 30 + y) (by omega) (by omega)]
  by_cases hs : jrI mem 55 0 (11 + x) = 30 + y
  · rw [if_pos hs]
    refine ⟨-1, mem, rfl, fun _ => ⟨mem, ?_, hi⟩⟩
    rw [q_M_give 59, s_M_isHad 57 x _ mem hR rfl]
    simp only [jbnd_s, jasI_v]
    rw [jb_1 hx, if_neg (by decide), s_M_isPerson]
    simp only [jbnd_s, jasI_v]
    rw [jb_1 hy, if_neg (by decide), jw32_id (x := 11 + x) (by omega) (by omega), jix_in (by omega) (by omega), jw32_id (x := 30 + y) (by omega) (by omega), if_pos hs]
  rw [if_neg hs]
  obtain ⟨m1, a1, a2, a3, mM, a4, a5, a6⟩ := pMove hi hx (v := 30 + y) (by omega)
  rw [a1]
  simp only [jbnd_s]
  rw [jix_in hx.1 (by omega), jix_in hx.1 (by omega), a2]
  refine ⟨_, _, rfl, fun _ => ⟨jwI mM 55 0 (11 + x) (30 + y), ?_, a6⟩⟩
  rw [q_M_give 59, s_M_isHad 57 x _ _ (by rw [a3]; exact hR) rfl, a3]
  simp only [jbnd_s, jasI_v]
  rw [jb_1 hx, if_neg (by decide), s_M_isPerson, a3]
  simp only [jbnd_s, jasI_v]
  rw [jb_1 hy, if_neg (by decide), jw32_id (x := 11 + x) (by omega) (by omega), jix_in (by omega) (by omega), jw32_id (x := 30 + y) (by omega) (by omega), a3, if_neg hs, a4]
  simp only [jbnd_s]
  rw [jix_in (by omega) (by omega), jix_in (by omega) (by omega), a5]
