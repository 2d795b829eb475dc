/-! Acts: lift, sink, free, give, undo -/
theorem pFin {mem m1 mE : jMem} {u : Int} {blk : Int → Int → Int} {T' : Int → Int} (hi : pInv mem) (k2 : puR aK mem m1) (k3 : cH m1 (hU u) (hB u blk (fun k => jrI mem 55 0 (10 + k))) (jrI mem 55 0)) (k4 : vH (hU u) (hB u blk (fun k => jrI mem 55 0 (10 + k))) (jrI mem 55 0)) (k5 : mH mem u blk) (k6 : 0 ≤ u) (k7 : u ≤ 20) (fE : puR aE m1 mE) (cw : cWv mE 0 T') (hS : tS (jrI mem 55 0) T') (hW : tWv T') (h999 : T' 10 ≤ 999) (d : Nat) : jrI mE 55 0 = jrI mem 55 0 ∧ ∃ mM, M_keepsAct (d + 1) mE = some (vU, mM) ∧ jrI mM 55 0 = jrI mem 55 0 ∧ ∀ mF, jrI mF 55 0 = T' → puR (fun f i k => f = 55 ∧ i = 0 ∧ 10 ≤ k ∧ k < 25) mM mF → pInv mF := by
  obtain ⟨hR, hW0, hN, h9990, cr, cw0, cn, hl⟩ := pNow hi
  have sE : jrI mE 55 0 = jrI mem 55 0 := funext fun k => by rw [fE 55 0 k (by unfold aE; omega), k2 55 0 k (by unfold aK; omega)]
  have lE : jrI mE 11 0 23 = -1 := by rw [fE 11 0 23 (by unfold aE; omega), k2 11 0 23 (by unfold aK; omega)]; exact hl
  obtain ⟨mM, b1, b2, b3⟩ := s_M_keepsAct d u blk mE ⟨k6, k7⟩ (mH_R (fun f i k hf => by unfold aE at hf; omega) fE (mH_R (fun f i k hf => by unfold aK at hf; omega) k2 k5))
  have sM : jrI mM 55 0 = jrI mem 55 0 := by rw [← sE]; exact funext fun k => b3 55 0 k (by omega)
  have lM : jrI mM 11 0 23 = -1 := by rw [b3 11 0 23 (by omega)]; exact lE
  refine ⟨sE, mM, b1, sM, fun mF hs hf => pAct (mE := mE) (u := hU u) (blk := hB u blk (fun k => jrI mem 55 0 (10 + k))) hi ?_ ?_ hS hW h999 cw (cH_E fE (by unfold hU; split <;> omega) k3) k4 ?_ hs (by rw [hf 11 0 23 (by omega)]; exact lM)⟩
  · exact puR_tr (puR_mono k2 (fun f i k hf => Or.inl hf)) (puR_tr (puR_mono fE (fun f i k hf => Or.inr (Or.inl hf))) (puR_tr (puR_mono b3 (fun f i k hf => Or.inr (Or.inr (Or.inl hf)))) (puR_mono hf (fun f i k hf => Or.inr (Or.inr (Or.inr (Or.inl hf)))))))
  · exact puR_tr (puR_mono b3 (fun f i k hf => Or.inl hf)) (puR_mono hf (fun f i k hf => Or.inr (Or.inl hf)))
  · rw [sE] at b2
    exact mH_R (fun f i k hf => by omega) hf b2
theorem tWv_pl {T : Int → Int} {m v : Int} (hW : tWv T) (hm : 0 ≤ m ∧ m < T 5) (h5 : T 5 ≤ 6) (hv : (0 ≤ v ∧ v < T 1 ∧ v < 20) ∨ (30 ≤ v ∧ v < 30 + T 4)) : tWv (tUp T (11 + m) v) := by
  obtain ⟨w1, w2, w3, w4⟩ := hW
  unfold tWv
  rw [tUp_n (j := 10) (by omega), tUp_n (j := 1) (by omega), tUp_n (j := 4) (by omega), tUp_n (j := 5) (by omega), tUp_n (j := 6) (by omega)]
  refine ⟨w1, fun j a b => ?_, fun t a b => ?_, fun j j' a b a' b' c1 c2 c3 => ?_⟩
  · by_cases e : j = m
    · rw [e, tUp_s]
      omega
    · rw [tUp_n (by omega)]
      exact w2 j a b
  · rw [tUp_n (by omega), tUp_n (by omega)]
    exact w3 t a b
  · by_cases e : j = m
    · rw [e, tUp_s] at c1 c2
      omega
    · rw [tUp_n (by omega)] at c1 c2 c3
      by_cases e' : j' = m
      · rw [e', tUp_s] at c3
        omega
      · rw [tUp_n (by omega)] at c3
        exact w4 j j' a b a' b' c1 c2 c3
theorem tIn_pl {T : Int → Int} {m v t : Int} (h1 : T (11 + m) ≠ 20 + t) (h2 : v ≠ 20 + t) (hm : 0 ≤ m ∧ m < 6) : tIn (tUp T (11 + m) v) t = tIn T t := by
  refine tIn_cong (tUp_n (by omega)) (fun j a b => ?_)
  by_cases e : j = m
  · rw [e, tUp_s]
    constructor
    · intro h; exact absurd h h2
    · intro h; exact absurd h h1
  · rw [tUp_n (by omega)]
theorem p_lift (x : Int) : pCase (E_lift 60 x) (M_lift 60 x) := fun mem hi hm => by
  obtain ⟨hR, hW, hN, h999, cr, cw, cn, hl⟩ := pNow hi
  obtain ⟨t0, t3, t4, t5, t6, t55, tm, tt, tp, tl⟩ := id hR
  have r4 := cr.2.2.2.2.1
  have r5 := cr.2.2.2.2.2.1
  have r6 := cr.2.2.2.2.2.2.1
  rw [q_E_lift 59, s_E_isTrap 57 x mem (by omega) (by omega), r6]
  simp only [jbnd_s, jasI_v]
  by_cases hx : 0 ≤ x ∧ x < jrI mem 55 0 6
  rotate_left
  · rw [jb_n hx, if_pos rfl]
    refine ⟨-1, mem, rfl, fun _ => ⟨mem, ?_, hi⟩⟩
    rw [q_M_lift 59, s_M_isTrap]
    simp only [jbnd_s, jasI_v]
    rw [jb_n hx, if_pos rfl]
  rw [jb_1 hx, if_neg (by decide)]
  have hin := (cw.2.2 x hx.1 hx.2).2.2.2
  have hke := (cr.2.2.2.2.2.2.2.2.1 x hx.1 hx.2).2.2.2
  obtain ⟨k1a, k1b, k1c, k1d, -⟩ := tt x hx.1 hx.2
  rw [hin, hke, jix_in hx.1 (by omega), jix_in hx.1 (by omega), s_E_isMemory 57 _ mem (by omega) (by omega), r5]
  simp only [jbnd_s, jasI_v]
  have hml : ∀ mA : jMem, jrI mA 55 0 = jrI mem 55 0 → M_memoryIn 59 x mA = some (vI (tIn (jrI mem 55 0) x), mA) := fun mA hA => by
    rw [s_M_memoryIn 58 x mA (by rw [hA]; exact t5) (by omega), hA]
  rcases tIn_sp (jrI mem 55 0) x with ⟨n1, -⟩ | ⟨n1, n2, n3⟩
  · rw [n1, jb_n (by omega), if_pos rfl]
    refine ⟨-1, mem, rfl, fun _ => ⟨mem, ?_, hi⟩⟩
    rw [q_M_lift 59, s_M_isTrap]
    simp only [jbnd_s, jasI_v]
    rw [jb_1 hx, if_neg (by decide), hml mem rfl]
    simp only [jbnd_s, jasI_v]
    rw [n1, if_pos (by decide)]
  generalize hmm : tIn (jrI mem 55 0) x = m at n1 n2 n3 hml ⊢
  rw [jb_1 ⟨n1, n2⟩, if_neg (by decide), s_E_isPerson 57 _ mem (by omega) (by omega), r4]
  simp only [jbnd_s, jasI_v]
  rw [jb_1 ⟨k1c, k1d⟩, if_neg (by decide), jix_in n1 (by omega), jix_in k1c (by omega), cr.2.2.2.2.2.2.2.2.2.1 _ k1c k1d, (cr.2.2.2.2.2.2.2.1 m n1 n2).2.1]
  generalize hkk : jrI mem 55 0 (29 + x) = kp at k1c k1d ⊢
  by_cases hst : jrI mem 55 0 (51 + kp) < jrI mem 55 0 (33 + m)
  · rw [if_pos hst]
    refine ⟨-1, mem, rfl, fun _ => ⟨mem, ?_, hi⟩⟩
    rw [q_M_lift 59, s_M_isTrap]
    simp only [jbnd_s, jasI_v]
    rw [jb_1 hx, if_neg (by decide), hml mem rfl]
    simp only [jbnd_s, jasI_v]
    rw [if_neg (by omega), hml mem rfl]
    simp only [jbnd_s, jasI_v]
    rw [jw32_id (x := 33 + m) (by omega) (by omega), jw32_id (x := 29 + x) (by omega) (by omega), hkk, jw32_id (x := 51 + kp) (by omega) (by omega), jix_in (by omega) (by omega), jix_in (by omega) (by omega), jix_in (by omega) (by omega), if_pos hst]
  rw [if_neg hst]
  obtain ⟨m1, u, blk, k1, k2, k3, k4, k5, k6, k7, k8, k9⟩ := pKeep hi 57
  rw [k1]
  simp only [jbnd_s]
  rw [jix_in n1 (by omega), jix_in hx.1 (by omega), jw32_id (x := 30 + kp) (by omega) (by omega)]
  refine ⟨_, _, rfl, fun _ => ?_⟩
  have fE : puR aE m1 (jwI (jwI m1 38 0 m (30 + kp)) 43 0 x (-1)) := puR_w (puR_w (puR_rf _ m1) (by unfold aE; omega)) (by unfold aE; omega)
  have hS : tS (jrI mem 55 0) (tUp (jrI mem 55 0) (11 + m) (30 + kp)) := fun k hk => tUp_n (by omega)
  have cwE : cWv (jwI (jwI m1 38 0 m (30 + kp)) 43 0 x (-1)) 0 (tUp (jrI mem 55 0) (11 + m) (30 + kp)) := by
    refine ⟨?_, fun j a b => ?_, fun t a b => ?_⟩
    · rw [jrI_wf (by decide), jrI_wf (by decide), tUp_n (by omega)]
      exact k9.1
    · rw [tUp_n (j := 5) (by omega)] at b
      rw [jrI_wf (f := 43) (g := 38) (by decide), jrI_wf (g := 39) (by decide), jrI_wf (g := 39) (by decide), tUp_n (j := 45 + j) (by omega)]
      refine ⟨?_, (k9.2.1 j a b).2⟩
      by_cases e : j = m
      · rw [e, jrI_ws, tUp_s]
      · rw [jrI_wk e, tUp_n (by omega)]
        exact (k9.2.1 j a b).1
    · rw [tUp_n (j := 6) (by omega)] at b
      obtain ⟨g1, g2, g3, g4⟩ := k9.2.2 t a b
      rw [jrI_wf (by decide), jrI_wf (by decide), jrI_wf (by decide), jrI_wf (by decide), jrI_wf (by decide), jrI_wf (by decide), tUp_n (j := 17 + 2 * t) (by omega), tUp_n (j := 25 + t) (by omega), tUp_n (j := 18 + 2 * t) (by omega)]
      refine ⟨g1, g2, g3, ?_⟩
      by_cases e : t = x
      · rw [e, jrI_ws]
        refine (tIn_n (fun j c d => ?_)).symm
        rw [tUp_n (j := 5) (by omega)] at d
        by_cases ej : j = m
        · rw [ej, tUp_s]
          omega
        · rw [tUp_n (by omega)]
          intro h
          exact ej (hW.2.2.2 j m c d n1 n2 (by omega) (by omega) (by omega))
      · rw [jrI_wk e, jrI_wf (by decide), tIn_pl (by omega) (by omega) ⟨n1, by omega⟩]
        exact g4
  obtain ⟨sE, mM, b1, b2, b3⟩ := pFin hi k2 k3 k4 k5 k6 k7 fE cwE hS (tWv_pl hW ⟨n1, n2⟩ t5.2 (by omega)) (by rw [tUp_n (by omega)]; exact h999) 58
  generalize hmE : jwI (jwI m1 38 0 m (30 + kp)) 43 0 x (-1) = mE at sE b1 ⊢
  refine ⟨jwI mM 55 0 (11 + m) (30 + kp), ?_, b3 _ ?_ (puR_w (puR_rf _ mM) ⟨rfl, rfl, by omega, by omega⟩)⟩
  · rw [q_M_lift 59, s_M_isTrap, sE]
    simp only [jbnd_s, jasI_v]
    rw [jb_1 hx, if_neg (by decide), hml mE sE]
    simp only [jbnd_s, jasI_v]
    rw [if_neg (by omega), hml mE sE]
    simp only [jbnd_s, jasI_v]
    rw [sE, jw32_id (x := 33 + m) (by omega) (by omega), jw32_id (x := 29 + x) (by omega) (by omega), hkk, jw32_id (x := 51 + kp) (by omega) (by omega), jix_in (by omega) (by omega), jix_in (by omega) (by omega), jix_in (by omega) (by omega), if_neg hst, b1]
    simp only [jbnd_s]
    rw [b2, hkk, jix_in (by omega) (by omega), jw32_id (x := 11 + m) (by omega) (by omega), jix_in (by omega) (by omega), jw32_id (x := 30 + kp) (by omega) (by omega)]
  · funext k
    unfold tUp
    by_cases e : k = 11 + m
    · rw [if_pos e, e, jrI_ws]
    · rw [if_neg e, jrI_wk e, b2]
theorem s_E_isEmptyTrap (d : Nat) (x : Int) (T : Int → Int) (mem : jMem) (hR : tRv T) (cr : cRv mem 0 T) (cw : cWv mem 0 T) : E_isEmptyTrap (d + 3) x mem = some (vI (jb (0 ≤ x ∧ x < T 6 ∧ tIn T x = -1)), mem) := by
  have t6 := hR.2.2.2.2.1
  have r6 := cr.2.2.2.2.2.2.1
  rw [q_E_isEmptyTrap, s_E_isTrap d x mem (by omega) (by omega), r6]
  simp only [jbnd_s, jasI_v]
  by_cases hx : 0 ≤ x ∧ x < T 6
  · rw [jb_1 hx, if_neg (by decide), jix_in hx.1 (by omega), (cw.2.2 x hx.1 hx.2).2.2.2]
    by_cases h : tIn T x = -1
    · rw [if_pos h, jb_1 ⟨hx.1, hx.2, h⟩]
    · rw [if_neg h, jb_n (fun w => h w.2.2)]
  · rw [jb_n hx, if_pos rfl, jb_n (fun w => hx ⟨w.1, w.2.1⟩)]
theorem s_M_isEmptyTrap (d : Nat) (x : Int) (T : Int → Int) (mem : jMem) (hR : tRv T) (hT : jrI mem 55 0 = T) : M_isEmptyTrap (d + 2) x mem = some (vI (jb (0 ≤ x ∧ x < T 6 ∧ tIn T x = -1)), mem) := by
  have t5 := hR.2.2.2.1
  have t6 := hR.2.2.2.2.1
  rw [q_M_isEmptyTrap, s_M_isTrap, hT]
  simp only [jbnd_s, jasI_v]
  by_cases hx : 0 ≤ x ∧ x < T 6
  · rw [jb_1 hx, if_neg (by decide), s_M_memoryIn d x mem (by rw [hT]; exact t5) (by omega), hT]
    simp only [jbnd_s, jasI_v, tIn_neg]
    by_cases h : tIn T x = -1
    · rw [if_pos h, jb_1 ⟨hx.1, hx.2, h⟩]
    · rw [if_neg h, jb_n (fun w => h w.2.2)]
  · rw [jb_n hx, if_pos rfl, jb_n (fun w => hx ⟨w.1, w.2.1⟩)]
theorem s_E_isHad (d : Nat) (x : Int) (T : Int → Int) (mem : jMem) (hR : tRv T) (cr : cRv mem 0 T) (cw : cWv mem 0 T) : E_isHad (d + 3) x mem = some (vI (jb (0 ≤ x ∧ x < T 5 ∧ 30 ≤ T (11 + x))), mem) := by
  have t5 := hR.2.2.2.1
  have r5 := cr.2.2.2.2.2.1
  rw [q_E_isHad, s_E_isMemory d x mem (by omega) (by omega), r5]
  simp only [jbnd_s, jasI_v]
  by_cases hx : 0 ≤ x ∧ x < T 5
  · rw [jb_1 hx, if_neg (by decide), jix_in hx.1 (by omega), (cw.2.1 x hx.1 hx.2).1]
    by_cases h : T (11 + x) < 30
    · rw [if_pos h, jb_n (fun w => by omega)]
    · rw [if_neg h, jb_1 ⟨hx.1, hx.2, by omega⟩]
  · rw [jb_n hx, if_pos rfl, jb_n (fun w => hx ⟨w.1, w.2.1⟩)]
theorem s_M_isHad (d : Nat) (x : Int) (T : Int → Int) (mem : jMem) (hR : tRv T) (hT : jrI mem 55 0 = T) : M_isHad (d + 2) x mem = some (vI (jb (0 ≤ x ∧ x < T 5 ∧ 30 ≤ T (11 + x))), mem) := by
  have t5 := hR.2.2.2.1
  rw [q_M_isHad, s_M_isMemory, hT]
  simp only [jbnd_s, jasI_v]
  by_cases hx : 0 ≤ x ∧ x < T 5
  · rw [jb_1 hx, if_neg (by decide), jw32_id (x := 11 + x) (by omega) (by omega), jix_in (by omega) (by omega), hT]
    by_cases h : T (11 + x) < 30
    · rw [if_pos h, jb_n (fun w => by omega)]
    · rw [if_neg h, jb_1 ⟨hx.1, hx.2, by omega⟩]
  · rw [jb_n hx, if_pos rfl, jb_n (fun w => hx ⟨w.1, w.2.1⟩)]
