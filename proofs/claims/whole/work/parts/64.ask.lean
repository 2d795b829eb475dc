/-! What is asked of nights to come: the common ground; ahead, atSea -/
/-- what the invariant gives of the scene -/
theorem pNow {mem : jMem} (hi : pInv mem) : tRv (jrI mem 55 0) ∧ tWv (jrI mem 55 0) ∧ tNv (jrI mem 55 0) ∧ jrI mem 55 0 10 ≤ 999 ∧ cRv mem 0 (jrI mem 55 0) ∧ cWv mem 0 (jrI mem 55 0) ∧ cNv mem 0 (jrI mem 55 0) ∧ jrI mem 11 0 23 = -1 := by
  obtain ⟨-, -, ⟨⟨a1, a2, a3⟩, a4, a5, a6, a7⟩, ⟨-, -, b3⟩, -⟩ := hi
  exact ⟨a1, a2, a3, a4, a5, a6, a7, b3⟩
theorem pEv {mem : jMem} (hi : pInv mem) (d : Nat) : ∃ o ev, E_ruling (d + 2) mem = some (vR 5 o, mem) ∧ cEvt mem o ev ∧ mEv mem ev := by
  obtain ⟨-, ⟨a1, a2, a3, a4⟩, -, ⟨⟨b1, b2, b3⟩, -⟩, -⟩ := hi
  rw [q_E_ruling, s_E_within, b1, a1]
  simp only [jbnd_s, jasI_v]
  rw [jw32_id (x := jrI mem 11 0 2 - 1) (by omega) (by omega)]
  by_cases h : 0 ≤ jrI mem 11 0 21
  · rw [jb_1 ⟨h, by omega⟩, if_neg (by decide), b1, jix_in h (by omega)]
    exact ⟨some (jrI mem 11 0 21), some (cRl mem (jrI mem 11 0 21)), rfl, Or.inr ⟨_, rfl, a4 _ h b3, rfl⟩, Or.inr ⟨h, by omega, a4 _ h b3, rfl⟩⟩
  · rw [jb_n (fun w => h w.1), if_pos rfl]
    exact ⟨none, none, rfl, Or.inl ⟨rfl, rfl⟩, Or.inl ⟨by omega, rfl⟩⟩
theorem mEv_X {a b : jMem} (h : puR aX a b) {ev : tEvT} (hc : mEv a ev) : mEv b ev := by
  have e : jrI b 11 0 21 = jrI a 11 0 21 := h 11 0 21 (by unfold aX; omega)
  unfold mEv
  rw [e]
  rcases hc with hc | ⟨h1, h2, h3, h4⟩
  · exact Or.inl hc
  · refine Or.inr ⟨h1, h2, cRu_fr (fun f k hf => h f _ k (by unfold aX; omega)) (fun f k hf => h f 0 k (by unfold aX; omega)) h3, ?_⟩
    have e1 : jrI b 31 (jrI a 11 0 21) = jrI a 31 (jrI a 11 0 21) := funext fun k => h 31 _ k (by unfold aX; omega)
    have e2 : jrI b 32 (jrI a 11 0 21) = jrI a 32 (jrI a 11 0 21) := funext fun k => h 32 _ k (by unfold aX; omega)
    have e4 : cRl b (jrI a 11 0 21) = cRl a (jrI a 11 0 21) := by
      funext env
      unfold cRl
      rw [e1, e2, h 5 _ 2 (by unfold aX; omega)]
    rw [e4]
    exact h4
theorem cEvt_X {a b : jMem} (h : puR aX a b) {o : Option Int} {ev : tEvT} (hc : cEvt a o ev) : cEvt b o ev := cEvt_R (fun f i k hf => by unfold aX at hf; omega) h hc
theorem X_said {a b : jMem} (h : puR aX a b) : jrI b 55 0 = jrI a 55 0 := funext fun k => h 55 0 k (by unfold aX; omega)
theorem X_N {a b : jMem} {w : Int} (hw : 25 ≤ w) (h : puR (aN w) a b) : puR aX a b := puR_mono h (fun f i k hf => by unfold aN at hf; unfold aX; omega)
/-- a scene read elsewhere -/
theorem X_now {a b : jMem} (h : puR aX a b) {T : Int → Int} (cr : cRv a 0 T) (cw : cWv a 0 T) : cRv b 0 T ∧ cWv b 0 T := ⟨cRv_fr (fun f k hf => h f 0 k (by unfold aX; omega)) cr, cWv_fr (fun f k hf => h f 0 k (by unfold aX; omega)) cw⟩
/-- the trial water laid as the scene's -/
theorem s_copy25 (d : Nat) (T : Int → Int) (mem : jMem) (hR : tRv T) (cw : cWv mem 0 T) : ∃ mem', Wa_copy (d + 1) 25 0 mem = some (vU, mem') ∧ cWv mem' 25 T ∧ puR aX mem mem' ∧ (∀ f, jrJ mem' f = jrJ mem f) := by
  obtain ⟨m1, a1, a2, a3, a4⟩ := s_Wa_copy d 25 0 T mem (by decide) hR.2.2.2.1.2 hR.2.2.2.2.1.2 cw
  exact ⟨m1, a1, a2, puR_mono a3 (fun f i k hf => by unfold aX; omega), a4⟩
theorem s_As_after (d : Nat) (o : Option Int) (ev : tEvT) (T : Int → Int) (n : Nat) (mem : jMem) (hR : tRv T) (hW : tWv T) (h1 : T 0 = 1) (hn : T 10 + (n : Int) < 100000) (cr : cRv mem 0 T) (cw : cWv mem 0 T) (hev : cEvt mem o ev) : ∃ mem', As_after (d + 8) 0 o (n : Int) mem = some (vR 9 (some 25), mem') ∧ cWv mem' 25 (tIt ev n T) ∧ puR aX mem mem' := by
  rw [q_As_after]
  obtain ⟨m1, a1, a2, a3, -⟩ := s_copy25 (d + 6) T mem hR cw
  rw [a1]
  simp only [jbnd_s]
  obtain ⟨m2, b1, b2, b3, -⟩ := s_Sm_pass d 1 0 25 o ev T n m1 hR hW h1 hn (cRw_of (X_now a3 cr cw).1) a2 (cEvt_X a3 hev) (fun _ => trivial)
  rw [b1]
  exact ⟨m2, rfl, b2, puR_tr a3 (X_N (by decide) b3)⟩
/-- what the reference may change before it lays back -/
def aY (f : Nat) (i k : Int) : Prop := (f = 55 ∧ i = 0 ∧ 10 ≤ k ∧ k < 25) ∨ f = 56 ∨ (f = 11 ∧ (k = 18 ∨ (k = 23 ∧ i = 0))) ∨ (59 ≤ f ∧ f ≤ 62)
/-- kept, as it was -/
def mKept (mem m1 : jMem) : Prop := (∀ k, 0 ≤ k → k < 15 → jrI m1 58 0 k = jrI mem 55 0 (10 + k)) ∧ puR (fun f i k => f = 58 ∨ aY f i k) mem m1
theorem s_keep (d : Nat) (mem : jMem) : ∃ mem', M_keeps (d + 1) mem = some (vU, mem') ∧ mKept mem mem' ∧ jrI mem' 55 0 = jrI mem 55 0 ∧ puR aX mem mem' ∧ (∀ f, jrJ mem' f = jrJ mem f) := by
  obtain ⟨m1, a1, a2, a3, a4⟩ := s_M_keeps d mem
  exact ⟨m1, a1, ⟨a2, puR_mono a3 (fun f i k hf => Or.inl hf)⟩, funext fun k => a3 55 0 k (show ¬ (55 : Nat) = 58 by decide), puR_mono a3 (fun f i k hf => by unfold aX; omega), a4⟩
theorem mKept_Y {mem m1 m2 : jMem} (h : mKept mem m1) (h2 : puR aY m1 m2) : mKept mem m2 := ⟨fun k k0 k1 => by rw [h2 58 0 k (by unfold aY; omega)]; exact h.1 k k0 k1, puR_tr h.2 (puR_mono h2 (fun f i k hf => Or.inr hf))⟩
theorem Y_3 {a b : jMem} (h : uSm3 a b) : puR aY a b := puR_mono h.1 (fun f i k hf => by unfold aP at hf; unfold aY; omega)
theorem s_back (d : Nat) (mem m2 : jMem) (hk : mKept mem m2) (hl : jrI m2 11 0 23 = jrI mem 11 0 23) : ∃ m3, M_laysBack (d + 1) m2 = some (vU, m3) ∧ jrI m3 55 0 = jrI mem 55 0 ∧ puR aX mem m3 ∧ mKept mem m3 ∧ jrI m3 11 0 23 = jrI mem 11 0 23 ∧ puR (fun f i k => f = 55 ∧ i = 0 ∧ 10 ≤ k ∧ k < 25) m2 m3 ∧ (∀ f, jrJ m3 f = jrJ m2 f) := by
  obtain ⟨m3, a1, a2, a3, a4⟩ := s_M_laysBack d m2
  have hs : jrI m3 55 0 = jrI mem 55 0 := funext fun k => by
    rw [a2 k]
    by_cases h : 10 ≤ k ∧ k < 25
    · rw [if_pos h, hk.1 (k - 10) (by omega) (by omega), show 10 + (k - 10) = k by omega]
    · rw [if_neg h, hk.2 55 0 k (by unfold aY; omega)]
  have h23 : jrI m3 11 0 23 = jrI mem 11 0 23 := by rw [a3 11 0 23 (by omega)]; exact hl
  refine ⟨m3, a1, hs, fun f i k hf => ?_, mKept_Y hk (puR_mono a3 (fun f i k hf => Or.inl hf)), h23, a3, a4⟩
  by_cases h55 : f = 55 ∧ i = 0
  · rw [h55.1, h55.2, hs]
  · by_cases h11 : f = 11 ∧ i = 0 ∧ k = 23
    · rw [h11.1, h11.2.1, h11.2.2, h23]
    · rw [a3 f i k (by omega)]
      refine hk.2 f i k ?_
      unfold aX at hf
      unfold aY
      omega
theorem X_23 {a b : jMem} (h : puR aX a b) : jrI b 11 0 23 = jrI a 11 0 23 := h 11 0 23 (by unfold aX; omega)
theorem told1 {T : Int → Int} (hR : tRv T) (h5 : 0 < T 5 ∨ 0 < T 6 ∨ 0 < T 4 ∨ 0 < T 1) : T 0 = 1 := by
  rcases hR.1 with h | h
  · omega
  · exact h.1
theorem p_ahead (x n : Int) : pCase (E_ahead 60 x n) (M_ahead 60 x n) := fun mem hi hm => by
  obtain ⟨hR, hW, hN, h999, cr, cw, cn, hl⟩ := pNow hi
  have t5 := hR.2.2.2.1
  have h10 := hW.1
  have r5 := cr.2.2.2.2.2.1
  rw [q_E_ahead 59, s_E_isMemory 57 x mem (by omega) (by omega), r5]
  simp only [jbnd_s, jasI_v, s_E_within]
  by_cases hx : 0 ≤ x ∧ x < jrI mem 55 0 5
  · by_cases hn : 0 ≤ n ∧ n ≤ 100
    · rw [jb_1 hx, jb_1 hn, if_neg (by decide), if_neg (by decide)]
      have h1 := told1 hR (by omega)
      obtain ⟨o, ev, e1, e2, e3⟩ := pEv hi 57
      obtain ⟨k, rfl⟩ := Int.eq_ofNat_of_zero_le hn.1
      obtain ⟨m1, a1, a2, a3⟩ := s_As_after 51 o ev _ k mem hR hW h1 (by omega) cr cw e2
      obtain ⟨q1, q2, q3⟩ := tIt_ok ev hR hW h1 k (by omega)
      rw [e1]
      simp only [jbnd_s, jasR_v]
      rw [a1]
      simp only [jbnd_s, jasR_v, jsm_s]
      rw [jix_in hx.1 (by omega), (a2.2.1 x hx.1 (by rw [q1 5 (by omega)]; exact hx.2)).1]
      refine ⟨_, m1, rfl, fun _ => ?_⟩
      have hs := X_said a3
      obtain ⟨m2, b1, b2, b3, b4, -⟩ := s_keep 58 m1
      obtain ⟨m3, c1, c2, c3, c4⟩ := s_M_passesAll 51 ev k m2 (jrI mem 55 0) (by rw [b3, hs]) hR hW h1 (by omega) (mEv_X b4 (mEv_X a3 e3)) (by rw [X_23 b4, X_23 a3]; exact hl)
      obtain ⟨m4, d1, d2, d3, -⟩ := s_back 58 m1 m3 (mKept_Y b2 (Y_3 c3)) (by rw [c4, X_23 a3, hl])
      rw [q_M_ahead 59, s_M_isMemory, hs]
      simp only [jbnd_s, jasI_v, s_M_in]
      rw [jb_1 hx, jb_1 hn, if_neg (by decide), if_neg (by decide), b1]
      simp only [jbnd_s]
      rw [c1]
      simp only [jbnd_s]
      rw [jw32_id (x := 11 + x) (by omega) (by omega), jix_in (by omega) (by omega), d1]
      simp only [jbnd_s]
      rw [c2]
      exact ⟨m4, rfl, pInv_fr d3 (pInv_fr a3 hi)⟩
    · rw [jb_1 hx, jb_n hn, if_neg (by decide), if_pos rfl]
      refine ⟨-2, mem, rfl, fun _ => ⟨mem, ?_, hi⟩⟩
      rw [q_M_ahead 59, s_M_isMemory]
      simp only [jbnd_s, jasI_v, s_M_in]
      rw [jb_1 hx, jb_n hn, if_neg (by decide), if_pos rfl]
  · rw [jb_n hx, if_pos rfl]
    refine ⟨-2, mem, rfl, fun _ => ⟨mem, ?_, hi⟩⟩
    rw [q_M_ahead 59, s_M_isMemory]
    simp only [jbnd_s, jasI_v]
    rw [jb_n hx, if_pos rfl]
theorem told01 {T : Int → Int} (hR : tRv T) : T 0 = 0 ∨ T 0 = 1 := by
  rcases hR.1 with h | h
  · exact Or.inl h.1
  · exact Or.inr h.1
theorem p_atSea (n : Int) : pCase (E_atSea 60 n) (M_atSea 60 n) := fun mem hi hm => by
  obtain ⟨hR, hW, hN, h999, cr, cw, cn, hl⟩ := pNow hi
  have t5 := hR.2.2.2.1
  have h10 := hW.1
  have r5 := cr.2.2.2.2.2.1
  rw [q_E_atSea 59, cr.1]
  rcases told01 hR with h0 | h1
  · rw [if_pos h0]
    refine ⟨-1, mem, rfl, fun _ => ⟨mem, ?_, hi⟩⟩
    rw [q_M_atSea 59, s_M_isRiver]
    simp only [jbnd_s, jasI_v]
    rw [jb_n (by omega), if_pos rfl]
  · rw [if_neg (by omega), s_E_within]
    simp only [jbnd_s, jasI_v]
    by_cases hn : 0 ≤ n ∧ n ≤ 100
    · rw [jb_1 hn, if_neg (by decide)]
      obtain ⟨o, ev, e1, e2, e3⟩ := pEv hi 57
      obtain ⟨k, rfl⟩ := Int.eq_ofNat_of_zero_le hn.1
      obtain ⟨m1, a1, a2, a3⟩ := s_As_after 51 o ev _ k mem hR hW h1 (by omega) cr cw e2
      obtain ⟨q1, q2, q3⟩ := tIt_ok ev hR hW h1 k (by omega)
      rw [e1]
      simp only [jbnd_s, jasR_v]
      rw [a1]
      simp only [jbnd_s, jasR_v, jsm_s]
      have hri : jSem 59 75 [vR 9 (some 25), vI (-1), vI (jrI m1 4 0 5)] m1 = Wa_bitsAt 59 25 (-1) (jrI m1 4 0 5) m1 := rfl
      rw [hri, a3 4 0 5 (by unfold aX; omega), r5, s_Wa_bitsAt 58 25 (-1) _ m1 t5]
      simp only [jbnd_s, jasI_v]
      refine ⟨_, m1, rfl, fun _ => ?_⟩
      have hs := X_said a3
      obtain ⟨m2, b1, b2, b3, b4, -⟩ := s_keep 58 m1
      obtain ⟨m3, c1, c2, c3, c4⟩ := s_M_passesAll 51 ev k m2 (jrI mem 55 0) (by rw [b3, hs]) hR hW h1 (by omega) (mEv_X b4 (mEv_X a3 e3)) (by rw [X_23 b4, X_23 a3]; exact hl)
      obtain ⟨m4, d1, d2, d3, -⟩ := s_back 58 m1 m3 (mKept_Y b2 (Y_3 c3)) (by rw [c4, X_23 a3, hl])
      rw [q_M_atSea 59, s_M_isRiver, hs]
      simp only [jbnd_s, jasI_v, s_M_in]
      rw [jb_1 h1, jb_1 hn, if_neg (by decide), if_neg (by decide), b1]
      simp only [jbnd_s]
      rw [c1]
      simp only [jbnd_s]
      rw [s_M_onesThat 57 _ _ m3 (by rw [c2, q1 5 (by omega)]; exact t5)]
      simp only [jbnd_s, jasI_v]
      rw [d1, c2, q1 5 (by omega)]
      simp only [jbnd_s]
      refine ⟨m4, ?_, pInv_fr d3 (pInv_fr a3 hi)⟩
      congr 3
      refine tSet_cong t5.1 (fun m a b => ?_)
      rw [(a2.2.1 m a (by rw [q1 5 (by omega)]; exact b)).1]
      omega
    · rw [jb_n hn, if_pos rfl]
      refine ⟨-1, mem, rfl, fun _ => ⟨mem, ?_, hi⟩⟩
      rw [q_M_atSea 59, s_M_isRiver]
      simp only [jbnd_s, jasI_v, s_M_in]
      rw [jb_1 h1, jb_n hn, if_neg (by decide), if_pos rfl]
