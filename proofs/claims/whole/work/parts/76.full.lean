/-! full, caught -/
theorem tIt_s (ev : tEvT) (i : Int) (h : 0 ≤ i) (T : Int → Int) : tIt ev (i + 1).toNat T = (tNight (tIt ev i.toNat T) ev (tLi (tIt ev i.toNat T) (tIt ev i.toNat T 10))).1 := by
  rw [show (i + 1).toNat = i.toNat + 1 by omega]
  rfl
theorem tIt_add (ev : tEvT) (b : Nat) (S : Int → Int) : ∀ a : Nat, tIt ev (a + b) S = tIt ev a (tIt ev b S)
  | 0 => by rw [Nat.zero_add]; rfl
  | a + 1 => by
    rw [show a + 1 + b = (a + b) + 1 by omega]
    show tStep ev (tIt ev (a + b) S) = tStep ev (tIt ev a (tIt ev b S))
    rw [tIt_add ev b S a]
/-- one night in the trial water -/
theorem s_one (d : Nat) (o : Option Int) (ev : tEvT) (T : Int → Int) (i : Int) (mem m : jMem) (hR : tRv T) (hW : tWv T) (h1 : T 0 = 1) (i0 : 0 ≤ i) (hi : T 10 + i < 99999) (cr : cRw mem 0 T) (hev : cEvt mem o ev) (hr : puR aX mem m) (cw : cWv m 25 (tIt ev i.toNat T)) : ∃ m', Sm_pass (d + 7) 1 0 25 o 1 m = some (vU, m') ∧ cWv m' 25 (tIt ev (i + 1).toNat T) ∧ puR aX mem m' ∧ ∃ v, Sm_isStill (d + 7) 1 m' = some (vI v, m') ∧ (v = 0 ∨ v = 1) ∧ (v = 1 → ∀ k : Nat, tIt ev (i.toNat + 1 + k) T = tUp (tIt ev i.toNat T) 10 (T 10 + i + 1 + (k : Int))) := by
  obtain ⟨q1, q2, q3⟩ := tIt_ok ev hR hW h1 i.toNat (by omega)
  have hRi := tRv_eq q1 hR
  have cri : cRw m 0 (tIt ev i.toNat T) := cRw_cong hR (fun k k0 k1 k2 k3 => q1 k (by omega)) (cRw_fr (fun f k hf => hr f 0 k (by unfold aX; omega)) cr)
  obtain ⟨m', a1, a2, a3, a4, a5⟩ := s_Sm_pass d 1 0 25 o ev (tIt ev i.toNat T) 1 m hRi q2 (by rw [q1 0 (by omega)]; exact h1) (by rw [q3]; omega) cri cw (cEvt_X hr hev) (fun _ => trivial)
  have hr2 := puR_tr hr (X_N (by decide) a3)
  obtain ⟨b1, b2, b3⟩ := a5 rfl
  obtain ⟨v, c1, c2, c3⟩ := s_Sm_isStill (d + 6) 1 o ev m' b1 b2 (cEvt_X hr2 hev)
  refine ⟨m', a1, by rw [tIt_s ev i i0 T]; exact a2, hr2, v, c1, c2, fun hv k => ?_⟩
  obtain ⟨d1, d2⟩ := c3 hv
  obtain ⟨e1, e2⟩ := b3 d1
  have hst := tIt_still d2 (cEvt_W hev) (tLi (tIt ev i.toNat T) (tIt ev i.toNat T 10)) e1 k
  rw [show i.toNat + 1 + k = k + (i.toNat + 1) by omega, tIt_add]
  have e9 : tIt ev (i.toNat + 1) T = (tNight (tIt ev i.toNat T) ev (tLi (tIt ev i.toNat T) (tIt ev i.toNat T 10))).1 := rfl
  rw [e9, hst, q3, show (i.toNat : Int) = i by omega]
theorem puG_none {p : Int → Prop} [DecidablePred p] (k : Nat) (i : Int) (i0 : 0 ≤ i) (h : ∀ j, i ≤ j → j < i + (k : Int) → ¬ p j) : puG p k i = -1 := by
  rcases puG_spec p k i i0 with ⟨a, _⟩ | ⟨a, b, c, _⟩
  · exact a
  · exact absurd c (h _ a b)
/-- the reference's night, from a state that is kept -/
theorem s_mone (d : Nat) (ev : tEvT) (T : Int → Int) (i : Int) (mem m : jMem) (hR : tRv T) (hW : tWv T) (h1 : T 0 = 1) (i0 : 0 ≤ i) (hi : T 10 + i < 99999) (hev : mEv mem ev) (hk : mKept mem m) (hs : jrI m 55 0 = tIt ev i.toNat T) (hl : jrI m 11 0 23 = -1) : ∃ m', M_passes (d + 7) m = some (vI (tNight (tIt ev i.toNat T) ev (tLi (tIt ev i.toNat T) (tIt ev i.toNat T 10))).2, m') ∧ jrI m' 55 0 = tIt ev (i + 1).toNat T ∧ mKept mem m' ∧ jrI m' 11 0 23 = -1 := by
  obtain ⟨q1, q2, q3⟩ := tIt_ok ev hR hW h1 i.toNat (by omega)
  obtain ⟨m', f1, f2, f3, f4⟩ := s_M_passes d (tLi (tIt ev i.toNat T) (tIt ev i.toNat T 10)) ev m (by rw [hs]; exact tRv_eq q1 hR) (by rw [hs]; exact q2) (by rw [hs, q1 0 (by omega)]; exact h1) (mEv_R (fun f i k hf => by unfold aY at hf; omega) hk.2 hev) ⟨by rw [hs, hl, if_pos (by decide)], by rw [hl]; decide⟩
  rw [hs] at f1 f2
  exact ⟨m', f1, by rw [f2, tIt_s ev i i0 T], mKept_Y hk (Y_3 f3), f4⟩
theorem p_full : pCase (E_full 60) (M_full 60) := fun mem hi hm => by
  obtain ⟨hR, hW, hN, h999, cr, cw, cn, hl⟩ := pNow hi
  have t5 := hR.2.2.2.1
  have t6 := hR.2.2.2.2.1
  have h10 := hW.1
  have r6 := cr.2.2.2.2.2.2.1
  rw [q_E_full 59, cr.1]
  rcases told01 hR with h0 | h1
  · rw [if_pos h0]
    refine ⟨-1, mem, rfl, fun _ => ⟨mem, ?_, hi⟩⟩
    rw [q_M_full 59, s_M_isRiver]
    simp only [jbnd_s, jasI_v]
    rw [jb_n (by omega), if_pos rfl]
  rw [if_neg (by omega)]
  obtain ⟨o, ev, e1, e2, e3⟩ := pEv hi 57
  rw [e1]
  simp only [jbnd_s, jasR_v]
  rw [q_As_firstFull]
  obtain ⟨m0, a1, a2, a3, -⟩ := s_copy25 57 _ mem hR cw
  rw [a1]
  simp only [jbnd_s]
  generalize hT : jrI mem 55 0 = T at *
  have fulT : ∀ i : Int, 0 ≤ i → i ≤ 200 → tRv (tIt ev i.toNat T) ∧ tWv (tIt ev i.toNat T) ∧ tIt ev i.toNat T 6 = T 6 ∧ tIt ev i.toNat T 10 = T 10 + i := fun i i0 i1 => by
    obtain ⟨q1, q2, q3⟩ := tIt_ok ev hR hW h1 i.toNat (by omega)
    exact ⟨tRv_eq q1 hR, q2, q1 6 (by omega), by rw [q3]; omega⟩
  have cls : ∀ (k : Nat) (i : Int) (m : jMem), 0 ≤ i → i + (k : Int) = 200 → puR aX mem m → cWv m 25 (tIt ev i.toNat T) → ∃ m', As_firstFull_13 58 0 o i m = some (vI (if puG (fun j => tFul (tIt ev (j + 1).toNat T) = T 6) k i = -1 then -2 else T 10 + puG (fun j => tFul (tIt ev (j + 1).toNat T) = T 6) k i), m') ∧ puR aX mem m' := by
    intro k
    induction k with
    | zero =>
      intro i m i0 i1 hr hc
      rw [q_As_firstFull_13, if_neg (by omega)]
      exact ⟨m, rfl, hr⟩
    | succ k ih =>
      intro i m i0 i1 hr hc
      obtain ⟨m2, b1, b2, b3, v, b4, b5, b6⟩ := s_one 51 o ev T i mem m hR hW h1 i0 (by omega) (cRw_of cr) e2 hr hc
      obtain ⟨q1, q2, q3, q4⟩ := fulT (i + 1) (by omega) (by omega)
      rw [q_As_firstFull_13, if_pos (by omega), b1]
      simp only [jbnd_s]
      have hf := s_Wa_fullTraps 57 25 (tIt ev (i + 1).toNat T) m2 q1 b2
      rw [q3] at hf
      rw [b3 4 0 6 (by unfold aX; omega), r6, hf]
      simp only [jbnd_s, jasI_v]
      rw [b3 4 0 6 (by unfold aX; omega), r6, puG_s]
      by_cases hfl : tFul (tIt ev (i + 1).toNat T) = T 6
      · rw [if_pos hfl, if_pos hfl, if_neg (by omega), hc.1, (fulT i i0 (by omega)).2.2.2]
        exact ⟨m2, rfl, b3⟩
      · rw [if_neg hfl, if_neg hfl, b4, jw32_id (x := i + 1) (by omega) (by omega)]
        simp only [jbnd_s, jasI_v]
        by_cases hv : v = 0
        · rw [if_pos hv]
          exact ih (i + 1) m2 (by omega) (by omega) b3 b2
        · rw [if_neg hv]
          have hst := b6 (by omega)
          have hg : puG (fun j => tFul (tIt ev (j + 1).toNat T) = T 6) k (i + 1) = -1 := puG_none k (i + 1) (by omega) (fun j j0 j1 => by
            have h2 := hst 0
            have h3 := hst (j - i).toNat
            rw [show i.toNat + 1 + (j - i).toNat = (j + 1).toNat by omega] at h3
            rw [show i.toNat + 1 + 0 = (i + 1).toNat by omega] at h2
            rw [h3, tFul_up]
            rw [h2, tFul_up] at hfl
            exact hfl)
          rw [if_pos hg]
          exact ⟨m2, rfl, b3⟩
  obtain ⟨m1, c1, c2⟩ := cls 200 0 m0 (Int.le_refl 0) (by omega) a3 a2
  rw [c1]
  simp only [jbnd_s, jasI_v]
  refine ⟨_, m1, rfl, fun _ => ?_⟩
  -- the reference
  have hs := X_said c2
  obtain ⟨m2, b1, b2, b3, b4, -⟩ := s_keep 58 m1
  rw [q_M_full 59, s_M_isRiver, hs, hT]
  simp only [jbnd_s, jasI_v]
  rw [jb_1 h1, if_neg (by decide), b1]
  simp only [jbnd_s]
  have hl1 : jrI m1 11 0 23 = -1 := by rw [X_23 c2]; exact hl
  have fin : ∀ (A : Int) (m : jMem), mKept m1 m → jrI m 11 0 23 = -1 → ∃ m', (jbnd (M_laysBack 59 m) fun _ mem6 => some (vI A, mem6)) = some (vI A, m') ∧ pInv m' := fun A m hk hl9 => by
    obtain ⟨m4, d1, d2, d3, -⟩ := s_back 58 m1 m hk (by rw [hl9, hl1])
    rw [d1]
    exact ⟨m4, rfl, pInv_fr d3 (pInv_fr c2 hi)⟩
  have ref : ∀ (k : Nat) (i : Int) (m : jMem), 0 ≤ i → i + (k : Int) = 200 → mKept m1 m → jrI m 55 0 = tIt ev i.toNat T → jrI m 11 0 23 = -1 → ∃ m', M_full_18 59 (-2) i m = some (vI (if puG (fun j => tFul (tIt ev (j + 1).toNat T) = T 6) k i = -1 then -2 else T 10 + puG (fun j => tFul (tIt ev (j + 1).toNat T) = T 6) k i), m') ∧ pInv m' := by
    intro k
    induction k with
    | zero =>
      intro i m i0 i1 hk hs9 hl9
      rw [q_M_full_18, if_neg (by omega)]
      exact fin _ m hk hl9
    | succ k ih =>
      intro i m i0 i1 hk hs9 hl9
      obtain ⟨m2, g1, g2, g3, g4⟩ := s_mone 52 ev T i m1 m hR hW h1 i0 (by omega) (mEv_X c2 e3) hk hs9 hl9
      obtain ⟨q1, q2, q3, q4⟩ := fulT (i + 1) (by omega) (by omega)
      rw [q_M_full_18, if_pos (by omega), if_pos (by decide), g1]
      simp only [jbnd_s]
      rw [s_M_trapped 56 _ m2 q1 q2 g2]
      simp only [jbnd_s, jasI_v]
      rw [g2, q3, q4, puG_s, jw32_id (x := i + 1) (by omega) (by omega), jw32_id (x := T 10 + (i + 1) - 1) (by omega) (by omega)]
      by_cases hfl : tFul (tIt ev (i + 1).toNat T) = T 6
      · rw [if_pos hfl, if_pos hfl, if_neg (show ¬ i = -1 by omega), show T 10 + (i + 1) - 1 = T 10 + i by omega, q_M_full_18]
        by_cases hlast : i + 1 < 200
        · rw [if_pos hlast, if_neg (by omega)]
          exact fin _ m2 g3 g4
        · rw [if_neg hlast]
          exact fin _ m2 g3 g4
      · rw [if_neg hfl, if_neg hfl]
        exact ih (i + 1) m2 (by omega) (by omega) g3 g2 g4
  exact ref 200 0 m2 (Int.le_refl 0) (by omega) b2 (by rw [b3, hs, hT]; rfl) (by rw [X_23 b4]; exact hl1)
