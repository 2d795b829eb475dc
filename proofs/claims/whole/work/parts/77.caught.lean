/-! caught -/
theorem s_E_isFree (d : Nat) (x : Int) (T : Int → Int) (mem : jMem) (hR : tRv T) (cr : cRv mem 0 T) (cw : cWv mem 0 T) : E_isFree (d + 3) x mem = some (vI (jb ((0 ≤ x ∧ x < T 5) ∧ 0 ≤ T (11 + x) ∧ T (11 + x) < 12)), mem) := by
  have t5 := hR.2.2.2.1
  have r5 := cr.2.2.2.2.2.1
  rw [q_E_isFree, s_E_isMemory d x mem (by omega) (by omega), r5]
  simp only [jbnd_s, jasI_v]
  by_cases hx : 0 ≤ x ∧ x < T 5
  · rw [jb_1 hx, if_neg (by decide), jix_in hx.1 (by omega), (cw.2.1 x hx.1 hx.2).1, s_E_isFreePlace]
    simp only [jbnd_s, jasI_v]
    by_cases hf : 0 ≤ T (11 + x) ∧ T (11 + x) < 12
    · rw [jb_1 hf, if_neg (by decide), jb_1 ⟨hx, hf⟩]
    · rw [jb_n hf, if_pos rfl, jb_n (fun w => hf w.2)]
  · rw [jb_n hx, if_pos rfl, jb_n (fun w => hx w.1)]
theorem s_M_isFree2 (d : Nat) (x : Int) (T : Int → Int) (mem : jMem) (hR : tRv T) (hW : tWv T) (hT : jrI mem 55 0 = T) : M_isFree (d + 2) x mem = some (vI (jb ((0 ≤ x ∧ x < T 5) ∧ 0 ≤ T (11 + x) ∧ T (11 + x) < 12)), mem) := by
  have t5 := hR.2.2.2.1
  have t1 : T 1 ≤ 12 := by have := hR.1; omega
  rw [q_M_isFree, s_M_isMemory, hT]
  simp only [jbnd_s, jasI_v]
  by_cases hx : 0 ≤ x ∧ x < T 5
  · have hw := hW.2.1 x hx.1 hx.2
    rw [jb_1 hx, if_neg (by decide), jw32_id (x := 11 + x) (by omega) (by omega), jix_in (by omega) (by omega), hT, s_M_in]
    simp only [jbnd_s, jasI_v]
    by_cases hf : 0 ≤ T (11 + x) ∧ T (11 + x) < 12
    · rw [jb_1 (p := 0 ≤ T (11 + x) ∧ T (11 + x) ≤ 19) (by omega), if_neg (by decide), jb_1 ⟨hx, hf⟩]
    · rw [jb_n (p := 0 ≤ T (11 + x) ∧ T (11 + x) ≤ 19) (by omega), if_pos rfl, jb_n (fun w => hf w.2)]
  · rw [jb_n hx, if_pos rfl, jb_n (fun w => hx w.1)]
/-- a memory's way through the nights -/
theorem tWay {T : Int → Int} (ev : tEvT) (hR : tRv T) (hW : tWv T) (h1 : T 0 = 1) (h10 : T 10 ≤ 999) {x : Int} (x0 : 0 ≤ x) (x1 : x < T 5) (hf : 0 ≤ T (11 + x) ∧ T (11 + x) < 12) : ∀ k : Nat, k ≤ 300 → -1 ≤ tIt ev k T (11 + x) ∧ tIt ev k T (11 + x) < 24 := by
  intro k
  induction k with
  | zero => intro _; show -1 ≤ T (11 + x) ∧ T (11 + x) < 24; omega
  | succ k ih =>
    intro hk
    have h := ih (by omega)
    obtain ⟨q1, q2, q3⟩ := tIt_ok ev hR hW h1 k (by omega)
    obtain ⟨r1, r2, r3⟩ := tIt_ok ev hR hW h1 (k + 1) (by omega)
    have t1 : T 1 ≤ 12 := by have := hR.1; omega
    have hw := q2.2.1 x x0 (by rw [q1 5 (by omega)]; exact x1)
    have hw2 := r2.2.1 x x0 (by rw [r1 5 (by omega)]; exact x1)
    rw [q1 1 (by omega), q1 6 (by omega), q1 4 (by omega)] at hw
    rw [r1 1 (by omega), r1 6 (by omega), r1 4 (by omega)] at hw2
    obtain ⟨-, b2, b3, b4, -⟩ := tNight_bit ev (tLi (tIt ev k T) (tIt ev k T 10)) (tRv_eq q1 hR) q2 (by rw [q1 0 (by omega)]; exact h1) x0 (by rw [q1 5 (by omega)]; exact x1)
    have e : tIt ev (k + 1) T = (tNight (tIt ev k T) ev (tLi (tIt ev k T) (tIt ev k T 10))).1 := rfl
    rw [← e] at b2 b3 b4
    by_cases h9 : 0 ≤ tIt ev k T (11 + x) ∧ tIt ev k T (11 + x) < 12
    · have := b4 h9
      omega
    · by_cases h8 : tIt ev k T (11 + x) = -1
      · have := b2 h8; omega
      · have := b3 (by omega); omega
theorem p_caught (x y : Int) : pCase (E_caught 60 x y) (M_caught 60 x y) := fun mem hi hm => by
  obtain ⟨hR, hW, hN, h999, cr, cw, cn, hl⟩ := pNow hi
  have t5 := hR.2.2.2.1
  have h10 := hW.1
  generalize hT : jrI mem 55 0 = T at *
  have ms : ∀ m, jrI m 55 0 = T → M_caught 60 x y m = if jb ((0 ≤ x ∧ x < T 5) ∧ 0 ≤ T (11 + x) ∧ T (11 + x) < 12) = 0 then some (vI (-1), m) else if jb (0 ≤ y ∧ y ≤ 1) = 0 then some (vI (-1), m) else jbnd (M_keeps 59 m) fun _ mem6 => M_caught_30 59 x y (-2) 0 mem6 := fun m h9 => by
    rw [q_M_caught 59, s_M_isFree2 57 x T m hR hW h9]
    simp only [jbnd_s, jasI_v, s_M_in]
  rw [q_E_caught 59, s_E_isFree 56 x T mem hR cr cw]
  simp only [jbnd_s, jasI_v, s_E_within]
  by_cases hx : (0 ≤ x ∧ x < T 5) ∧ 0 ≤ T (11 + x) ∧ T (11 + x) < 12
  case neg =>
    rw [jb_n hx, if_pos rfl]
    refine ⟨-1, mem, rfl, fun _ => ⟨mem, ?_, hi⟩⟩
    rw [ms mem hT, jb_n hx, if_pos rfl]
  rw [jb_1 hx, if_neg (by decide)]
  by_cases hy : 0 ≤ y ∧ y ≤ 1
  case neg =>
    rw [jb_n hy, if_pos rfl]
    refine ⟨-1, mem, rfl, fun _ => ⟨mem, ?_, hi⟩⟩
    rw [ms mem hT, jb_1 hx, if_neg (by decide), jb_n hy, if_pos rfl]
  rw [jb_1 hy, if_neg (by decide)]
  obtain ⟨⟨x0, x1⟩, hf⟩ := hx
  have h1 := told1 hR (by omega)
  obtain ⟨o, ev, e1, e2, e3⟩ := pEv hi 57
  rw [e1]
  simp only [jbnd_s, jasR_v]
  rw [q_As_firstCatch]
  obtain ⟨m0, a1, a2, a3, -⟩ := s_copy25 57 T mem hR cw
  rw [a1]
  simp only [jbnd_s]
  have hway := tWay ev hR hW h1 h999 x0 x1 hf
  have itT : ∀ i : Int, 0 ≤ i → i ≤ 200 → tRv (tIt ev i.toNat T) ∧ tWv (tIt ev i.toNat T) ∧ tIt ev i.toNat T 5 = T 5 ∧ tIt ev i.toNat T 10 = T 10 + i ∧ tIt ev i.toNat T 0 = 1 ∧ tIt ev i.toNat T 1 = T 1 ∧ tIt ev i.toNat T 6 = T 6 ∧ tIt ev i.toNat T 4 = T 4 := fun i i0 i1 => by
    obtain ⟨q1, q2, q3⟩ := tIt_ok ev hR hW h1 i.toNat (by omega)
    exact ⟨tRv_eq q1 hR, q2, q1 5 (by omega), by rw [q3]; omega, by rw [q1 0 (by omega)]; exact h1, q1 1 (by omega), q1 6 (by omega), q1 4 (by omega)⟩
  -- free, at sea, or in a trap
  have t1 : T 1 ≤ 12 := by have := hR.1; omega
  have place : ∀ i : Int, 0 ≤ i → i ≤ 200 → (0 ≤ tIt ev i.toNat T (11 + x) ∧ tIt ev i.toNat T (11 + x) < 12) ∨ tIt ev i.toNat T (11 + x) = -1 ∨ (20 ≤ tIt ev i.toNat T (11 + x) ∧ tIt ev i.toNat T (11 + x) < 24) := fun i i0 i1 => by
    obtain ⟨q1, q2, q3, q4, q5, q6, q7, q8⟩ := itT i i0 i1
    have hw := q2.2.1 x x0 (by omega)
    have := hway i.toNat (by omega)
    omega
  have sea : ∀ i : Int, 0 ≤ i → i < 200 → tIt ev i.toNat T (11 + x) = -1 → tIt ev (i + 1).toNat T (11 + x) = -1 := fun i i0 i1 hs => by
    obtain ⟨q1, q2, q3, q4, q5, q6, q7, q8⟩ := itT i i0 (by omega)
    rw [tIt_s ev i i0 T]
    exact (tNight_bit ev _ q1 q2 q5 x0 (by omega)).2.1 hs
  have sea2 : ∀ (k : Nat) (i : Int), 0 ≤ i → i + (k : Int) ≤ 200 → tIt ev i.toNat T (11 + x) = -1 → tIt ev (i + (k : Int)).toNat T (11 + x) = -1 := by
    intro k
    induction k with
    | zero => intro i i0 i1 hs; rw [show i + ((0 : Nat) : Int) = i by omega]; exact hs
    | succ k ih =>
      intro i i0 i1 hs
      have := ih (i + 1) (by omega) (by omega) (sea i i0 (by omega) hs)
      rw [show i + ((k + 1 : Nat) : Int) = i + 1 + (k : Int) by omega]
      exact this
  -- the class
  have endc : ∀ (j : Int) (m : jMem), 0 ≤ j → j ≤ 200 → puR aX mem m → cWv m 25 (tIt ev j.toNat T) → As_firstCatch_73 58 x y m = some (vI (if tIt ev j.toNat T (11 + x) < 20 then -2 else if y = 0 then T 10 + j - 1 else tIt ev j.toNat T (11 + x) - 20), m) := fun j m j0 j1 hr hc => by
    obtain ⟨q1, q2, q3, q4, -⟩ := itT j j0 j1
    have hp := place j j0 j1
    rw [q_As_firstCatch_73, jix_in x0 (by omega), jix_in x0 (by omega), (hc.2.1 x x0 (by omega)).1, hc.1, q4]
    by_cases ha : tIt ev j.toNat T (11 + x) < 20
    · rw [if_pos ha, if_pos ha]
    · rw [if_neg ha, if_neg ha]
      by_cases hb : y = 0
      · rw [if_pos hb, if_pos hb, jw32_id (by omega) (by omega)]
      · rw [if_neg hb, if_neg hb, jw32_id (by omega) (by omega)]
  have cls : ∀ (k : Nat) (i : Int) (m : jMem), 0 ≤ i → i + (k : Int) = 200 → puR aX mem m → cWv m 25 (tIt ev i.toNat T) → tIt ev i.toNat T (11 + x) < 20 → ∃ m', As_firstCatch_14 58 0 o x y i m = some (vI (if puG (fun j => 20 ≤ tIt ev (j + 1).toNat T (11 + x)) k i = -1 then -2 else if y = 0 then T 10 + puG (fun j => 20 ≤ tIt ev (j + 1).toNat T (11 + x)) k i else tIt ev (puG (fun j => 20 ≤ tIt ev (j + 1).toNat T (11 + x)) k i + 1).toNat T (11 + x) - 20), m') ∧ puR aX mem m' := by
    intro k
    induction k with
    | zero =>
      intro i m i0 i1 hr hc hlow
      rw [q_As_firstCatch_14, if_neg (by omega), endc i m i0 (by omega) hr hc, if_pos hlow]
      exact ⟨m, rfl, hr⟩
    | succ k ih =>
      intro i m i0 i1 hr hc hlow
      obtain ⟨q1, q2, q3, q4, -⟩ := itT i i0 (by omega)
      rw [q_As_firstCatch_14, if_pos (by omega), jix_in x0 (by omega), (hc.2.1 x x0 (by omega)).1, s_E_isFreePlace]
      simp only [jbnd_s, jasI_v]
      by_cases hfr : 0 ≤ tIt ev i.toNat T (11 + x) ∧ tIt ev i.toNat T (11 + x) < 12
      case neg =>
        have hs : tIt ev i.toNat T (11 + x) = -1 := by have := place i i0 (by omega); omega
        rw [jb_n hfr, if_pos rfl, endc i m i0 (by omega) hr hc, if_pos hlow]
        have hg : puG (fun j => 20 ≤ tIt ev (j + 1).toNat T (11 + x)) (k + 1) i = -1 := puG_none _ i i0 (fun j j0 j1 => by
          have := sea2 (j + 1 - i).toNat i i0 (by omega) hs
          rw [show i + (((j + 1 - i).toNat : Nat) : Int) = j + 1 by omega] at this
          omega)
        rw [if_pos hg]
        exact ⟨m, rfl, hr⟩
      rw [jb_1 hfr, if_neg (by decide)]
      obtain ⟨m2, b1, b2, b3, v, b4, b5, b6⟩ := s_one 51 o ev T i mem m hR hW h1 i0 (by omega) (cRw_of cr) e2 hr hc
      rw [b1]
      simp only [jbnd_s]
      rw [b4, jw32_id (x := i + 1) (by omega) (by omega)]
      simp only [jbnd_s, jasI_v]
      have hp2 := place (i + 1) (by omega) (by omega)
      by_cases hv : v = 0
      · rw [if_pos hv]
        rw [puG_s]
        by_cases hin : 20 ≤ tIt ev (i + 1).toNat T (11 + x)
        · rw [if_pos hin, if_neg (show ¬ i = -1 by omega), q_As_firstCatch_14]
          obtain ⟨r1, r2, r3, r4, -⟩ := itT (i + 1) (by omega) (by omega)
          have hend := endc (i + 1) m2 (by omega) (by omega) b3 b2
          rw [if_neg (by omega), show T 10 + (i + 1) - 1 = T 10 + i by omega] at hend
          by_cases hlast : i + 1 < 200
          · rw [if_pos hlast, jix_in x0 (by omega), (b2.2.1 x x0 (by omega)).1, s_E_isFreePlace]
            simp only [jbnd_s, jasI_v]
            rw [jb_n (by omega), if_pos rfl, hend]
            exact ⟨m2, rfl, b3⟩
          · rw [if_neg hlast, hend]
            exact ⟨m2, rfl, b3⟩
        · rw [if_neg hin]
          exact ih (i + 1) m2 (by omega) (by omega) b3 b2 (by omega)
      · rw [if_neg hv]
        have hst := b6 (by omega)
        have hsame : ∀ j, i ≤ j → tIt ev (j + 1).toNat T (11 + x) = tIt ev i.toNat T (11 + x) := fun j j0 => by
          have h3 := hst (j - i).toNat
          rw [show i.toNat + 1 + (j - i).toNat = (j + 1).toNat by omega] at h3
          rw [h3, tUp_n (by omega)]
        have hg : puG (fun j => 20 ≤ tIt ev (j + 1).toNat T (11 + x)) (k + 1) i = -1 := puG_none _ i i0 (fun j j0 j1 => by rw [hsame j j0]; omega)
        rw [if_pos hg, endc (i + 1) m2 (by omega) (by omega) b3 b2, if_pos (by rw [hsame i (Int.le_refl i)]; exact hlow)]
        exact ⟨m2, rfl, b3⟩
  obtain ⟨m1, c1, c2⟩ := cls 200 0 m0 (Int.le_refl 0) (by omega) a3 a2 (by show T (11 + x) < 20; omega)
  rw [c1]
  simp only [jbnd_s, jasI_v]
  refine ⟨_, m1, rfl, fun _ => ?_⟩
  -- the reference
  have hs := X_said c2
  obtain ⟨m2, b1, b2, b3, b4, -⟩ := s_keep 58 m1
  rw [ms m1 (by rw [hs]; exact hT), jb_1 (p := (0 ≤ x ∧ x < T 5) ∧ 0 ≤ T (11 + x) ∧ T (11 + x) < 12) ⟨⟨x0, x1⟩, hf⟩, if_neg (by decide), jb_1 hy, if_neg (by decide), b1]
  simp only [jbnd_s]
  have hl1 : jrI m1 11 0 23 = -1 := by rw [X_23 c2]; exact hl
  have fin : ∀ (A : Int) (m : jMem), mKept m1 m → jrI m 11 0 23 = -1 → ∃ m', (jbnd (M_laysBack 59 m) fun _ mem6 => some (vI A, mem6)) = some (vI A, m') ∧ pInv m' := fun A m hk hl9 => by
    obtain ⟨m4, d1, d2, d3, -⟩ := s_back 58 m1 m hk (by rw [hl9, hl1])
    rw [d1]
    exact ⟨m4, rfl, pInv_fr d3 (pInv_fr c2 hi)⟩
  have ref : ∀ (k : Nat) (i : Int) (m : jMem), 0 ≤ i → i + (k : Int) = 200 → mKept m1 m → jrI m 55 0 = tIt ev i.toNat T → jrI m 11 0 23 = -1 → tIt ev i.toNat T (11 + x) < 20 → ∃ m', M_caught_30 59 x y (-2) i m = some (vI (if puG (fun j => 20 ≤ tIt ev (j + 1).toNat T (11 + x)) k i = -1 then -2 else if y = 0 then T 10 + puG (fun j => 20 ≤ tIt ev (j + 1).toNat T (11 + x)) k i else tIt ev (puG (fun j => 20 ≤ tIt ev (j + 1).toNat T (11 + x)) k i + 1).toNat T (11 + x) - 20), m') ∧ pInv m' := by
    intro k
    induction k with
    | zero =>
      intro i m i0 i1 hk hs9 hl9 hlow
      rw [q_M_caught_30, if_neg (by omega)]
      exact fin _ m hk hl9
    | succ k ih =>
      intro i m i0 i1 hk hs9 hl9 hlow
      obtain ⟨m2, g1, g2, g3, g4⟩ := s_mone 52 ev T i m1 m hR hW h1 i0 (by omega) (mEv_X c2 e3) hk hs9 hl9
      obtain ⟨q1, q2, q3, q4, q5, -⟩ := itT i i0 (by omega)
      obtain ⟨r1, r2, r3, r4, -⟩ := itT (i + 1) (by omega) (by omega)
      have hbit := (tNight_bit ev (tLi (tIt ev i.toNat T) (tIt ev i.toNat T 10)) q1 q2 q5 x0 (by omega)).1
      rw [← tIt_s ev i i0 T] at hbit
      have hp := place i i0 (by omega)
      have hp2 := place (i + 1) (by omega) (by omega)
      rw [q_M_caught_30, if_pos (by omega), if_pos (by decide), g1]
      simp only [jbnd_s, jasI_v]
      rw [s_M_isOf]
      simp only [jbnd_s, jasI_v]
      rw [g2, r4, puG_s, jw32_id (x := i + 1) (by omega) (by omega), jw32_id (x := T 10 + (i + 1) - 1) (by omega) (by omega), jw32_id (x := 11 + x) (by omega) (by omega), jix_in (by omega) (by omega), jw32_id (x := tIt ev (i + 1).toNat T (11 + x) - 20) (by omega) (by omega)]
      by_cases hin : 20 ≤ tIt ev (i + 1).toNat T (11 + x)
      · have hb : tBit (tNight (tIt ev i.toNat T) ev (tLi (tIt ev i.toNat T) (tIt ev i.toNat T 10))).2 x = 1 := hbit.mpr ⟨by
          rcases hp with h | h | h
          · exact h
          · have := sea i i0 (by omega) h; omega
          · omega, hin⟩
        rw [jb_1 hb, if_neg (by decide), if_pos hin, if_neg (show ¬ i = -1 by omega)]
        by_cases hy0 : y = 0
        · rw [if_pos hy0, if_pos hy0, show T 10 + (i + 1) - 1 = T 10 + i by omega, q_M_caught_30]
          by_cases hlast : i + 1 < 200
          · rw [if_pos hlast, if_neg (by omega)]
            exact fin _ m2 g3 g4
          · rw [if_neg hlast]
            exact fin _ m2 g3 g4
        · rw [if_neg hy0, if_neg hy0, q_M_caught_30]
          by_cases hlast : i + 1 < 200
          · rw [if_pos hlast, if_neg (by omega)]
            exact fin _ m2 g3 g4
          · rw [if_neg hlast]
            exact fin _ m2 g3 g4
      · have hb : ¬ tBit (tNight (tIt ev i.toNat T) ev (tLi (tIt ev i.toNat T) (tIt ev i.toNat T 10))).2 x = 1 := fun w => hin (hbit.mp w).2
        rw [jb_n hb, if_pos rfl, if_neg hin]
        exact ih (i + 1) m2 (by omega) (by omega) g3 g2 g4 (by omega)
  exact ref 200 0 m2 (Int.le_refl 0) (by omega) b2 (by rw [b3, hs, hT]; rfl) (by rw [X_23 b4]; exact hl1) (by show T (11 + x) < 20; omega)
