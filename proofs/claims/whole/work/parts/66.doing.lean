/-! Acts: what they have in common; the night -/
/-- what the text told stays -/
def tS (T T' : Int → Int) : Prop := ∀ k, (k < 10 ∨ 25 ≤ k) → T' k = T k
theorem tS_E {T T' : Int → Int} (h : tEq T T') : tS T T' := fun k hk => h k (by omega)
theorem tRv_S {T T' : Int → Int} (h : tS T T') (hT : tRv T) : tRv T' := by
  obtain ⟨t0, t3, t4, t5, t6, t55, tm, tt, tp, tl⟩ := hT
  unfold tRv
  rw [h 0 (by omega), h 1 (by omega), h 2 (by omega), h 3 (by omega), h 4 (by omega), h 5 (by omega), h 6 (by omega), h 55 (by omega)]
  refine ⟨t0, t3, t4, t5, t6, t55, fun m a b => ?_, fun m a b => ?_, fun m a b => ?_, fun m a b => ?_⟩
  · rw [h (33 + m) (by omega), h (39 + m) (by omega), h (45 + m) (by omega), h (67 + m) (by omega)]
    exact tm m a b
  · rw [h (25 + m) (by omega), h (29 + m) (by omega), h (73 + 2 * m) (by omega), h (74 + 2 * m) (by omega)]
    exact tt m a b
  · rw [h (51 + m) (by omega)]
    exact tp m a b
  · rw [h (55 + m) (by omega)]
    exact tl m a b
theorem tNv_S {T T' : Int → Int} (h : tS T T') (hT : tNv T) : tNv T' := by
  obtain ⟨a1, a2⟩ := hT
  unfold tNv
  rw [h 111 (by omega), h 5 (by omega), h 1 (by omega)]
  refine ⟨a1, fun i a b => ?_⟩
  rw [h (81 + 3 * i) (by omega), h (82 + 3 * i) (by omega), h (83 + 3 * i) (by omega)]
  exact a2 i a b
theorem cRv_S {mem : jMem} {r : Int} {T T' : Int → Int} (h : tS T T') (hc : cRv mem r T) : cRv mem r T' := by
  obtain ⟨c0, c1, c2, c3, c4, c5, c6, c7, c8, c9, c10⟩ := hc
  unfold cRv
  rw [h 0 (by omega), h 1 (by omega), h 2 (by omega), h 3 (by omega), h 4 (by omega), h 5 (by omega), h 6 (by omega)]
  refine ⟨c0, c1, c2, c3, c4, c5, c6, fun m a b => ?_, fun m a b => ?_, fun m a b => ?_, fun m a b => ?_⟩
  · rw [h (67 + m) (by omega), h (33 + m) (by omega), h (39 + m) (by omega), h (45 + m) (by omega)]
    exact c7 m a b
  · rw [h (73 + 2 * m) (by omega), h (25 + m) (by omega), h (74 + 2 * m) (by omega), h (29 + m) (by omega)]
    exact c8 m a b
  · rw [h (51 + m) (by omega)]
    exact c9 m a b
  · rw [h (55 + m) (by omega)]
    exact c10 m a b
theorem cNv_S {mem : jMem} {q : Int} {T T' : Int → Int} (h : tS T T') (hc : cNv mem q T) : cNv mem q T' := by
  obtain ⟨c0, c1⟩ := hc
  unfold cNv
  rw [h 111 (by omega)]
  refine ⟨c0, fun i a b => ?_⟩
  rw [h (81 + 3 * i) (by omega), h (82 + 3 * i) (by omega), h (83 + 3 * i) (by omega)]
  exact c1 i a b
def aE (f : Nat) (i k : Int) : Prop := f = 7 ∨ (34 ≤ f ∧ f ≤ 36) ∨ (((f = 9 ∧ k = 0) ∨ (38 ≤ f ∧ f ≤ 43)) ∧ i = 0)
def aZ (f : Nat) (i k : Int) : Prop := (f = 55 ∧ i = 0 ∧ 10 ≤ k ∧ k < 25) ∨ f = 56 ∨ (f = 11 ∧ (k = 18 ∨ (k = 23 ∧ i = 0)))
def aB (f : Nat) (i k : Int) : Prop := f = 57 ∨ (f = 11 ∧ i = 0 ∧ k = 26)
/-- the invariant behind an act: class m1 (kept), mE (done); reference mM (kept), mF (done) -/
theorem pAct {mem mE mF : jMem} {u : Int} {blk : Int → Int → Int} {T' : Int → Int} (hi : pInv mem) (f1 : puR (fun f i k => aK f i k ∨ aE f i k ∨ aB f i k ∨ aZ f i k) mem mF) (f2 : puR (fun f i k => aB f i k ∨ aZ f i k) mE mF) (hS : tS (jrI mem 55 0) T') (hW : tWv T') (h999 : T' 10 ≤ 999) (cw : cWv mE 0 T') (hc : cH mE u blk (jrI mem 55 0)) (hv : vH u blk (jrI mem 55 0)) (hm : mH mF u blk) (hs : jrI mF 55 0 = T') (hl : jrI mF 11 0 23 = -1) : pInv mF := by
  obtain ⟨hR, hW0, hN, h9990, cr, cw0, cn, hl0⟩ := pNow hi
  obtain ⟨i1, i2, i3, i4, i5, i6⟩ := hi
  refine ⟨iTape_fr (fun f k hf => f1 f 0 k (by unfold aK aE aB aZ; omega)) i1, iRule_fr (fun f i k hf => f1 f i k (by unfold aK aE aB aZ; omega)) i2, ⟨?_, by rw [hs]; exact h999, ?_⟩, ?_, ?_, iImg_fr (fun f i k hf => f1 f i k (by unfold dSc at hf; unfold aK aE aB aZ; omega)) i6⟩
  · rw [hs]
    exact ⟨tRv_S hS hR, hW, tNv_S hS hN⟩
  · rw [hs]
    refine ⟨cRv_S hS (cRv_fr (fun f k hf => f1 f 0 k (by unfold aK aE aB aZ; omega)) cr), cWv_fr (fun f k hf => f2 f 0 k (by unfold aB aZ; omega)) cw, cNv_S hS (cNv_fr (fun f k hf => f1 f 0 k (by unfold aK aE aB aZ; omega)) cn)⟩
  · unfold iMis at i4 ⊢
    rw [f1 6 0 3 (by unfold aK aE aB aZ; omega), f1 6 0 4 (by unfold aK aE aB aZ; omega), f1 11 0 21 (by unfold aK aE aB aZ; omega), f1 11 0 22 (by unfold aK aE aB aZ; omega), f1 11 0 2 (by unfold aK aE aB aZ; omega), hl]
    exact ⟨i4.1, i4.2.1, rfl⟩
  · have et : ∀ B, tOv (jrI mF 55 0) B = tOv (jrI mem 55 0) B := fun B => by rw [hs]; exact tOv_cong hS (fun _ _ _ => rfl)
    obtain ⟨c1, c2, c3, c4⟩ := hc
    obtain ⟨v1, v2, v3⟩ := hv
    refine iAct_of (u := u) (blk := blk) ⟨by rw [f2 0 0 2 (by unfold aB aZ; omega)]; exact c1, by rw [f2 0 0 1 (by unfold aB aZ; omega)]; exact c2, by rw [f2 0 0 1 (by unfold aB aZ; omega)]; exact c3, fun j a b => ?_⟩ hm ⟨v1, v2, fun j a b => by rw [et]; exact v3 j a b⟩
    rw [et, f2 0 0 1 (by unfold aB aZ; omega)]
    exact cWv_fr (fun f k hf => f2 f _ k (by unfold aB aZ; omega)) (c4 j a b)
theorem pEv2 {mem : jMem} (h2 : iRule mem) (h4 : iMis mem) (d : Nat) : ∃ o ev, E_ruling (d + 2) mem = some (vR 5 o, mem) ∧ cEvt mem o ev ∧ mEv mem ev := by
  obtain ⟨a1, a2, a3, a4⟩ := h2
  obtain ⟨⟨b1, b2, b3⟩, -⟩ := h4
  rw [q_E_ruling, s_E_within, b1, a1]
  simp only [jbnd_s, jasI_v]
  rw [jw32_id (x := jrI mem 11 0 2 - 1) (by omega) (by omega)]
  by_cases h : 0 ≤ jrI mem 11 0 21
  · rw [jb_1 ⟨h, by omega⟩, if_neg (by decide), b1, jix_in h (by omega)]
    exact ⟨some (jrI mem 11 0 21), some (cRl mem (jrI mem 11 0 21)), rfl, Or.inr ⟨_, rfl, a4 _ h b3, rfl⟩, Or.inr ⟨h, by omega, a4 _ h b3, rfl⟩⟩
  · rw [jb_n (fun w => h w.1), if_pos rfl]
    exact ⟨none, none, rfl, Or.inl ⟨rfl, rfl⟩, Or.inl ⟨by omega, rfl⟩⟩
theorem mEv_R {A : Nat → Int → Int → Prop} (hA : ∀ f i k, A f i k → f ≠ 5 ∧ f ≠ 31 ∧ f ≠ 32 ∧ f ≠ 47 ∧ f ≠ 49 ∧ f ≠ 50 ∧ ¬ (f = 11 ∧ k = 21)) {a b : jMem} (h : puR A a b) {ev : tEvT} (hc : mEv a ev) : mEv b ev := by
  have e : jrI b 11 0 21 = jrI a 11 0 21 := h 11 0 21 (fun w => by have := hA _ _ _ w; omega)
  have hn : ∀ f i k, f = 5 ∨ f = 31 ∨ f = 32 ∨ f = 47 ∨ f = 49 ∨ f = 50 → jrI b f i k = jrI a f i k := fun f i k hf => h f i k (fun w => by have := hA f i k w; omega)
  unfold mEv
  rw [e]
  rcases hc with hc | ⟨h1, h2, h3, h4⟩
  · exact Or.inl hc
  · refine Or.inr ⟨h1, h2, cRu_fr (fun f k hf => hn f _ k (by omega)) (fun f k hf => hn f 0 k (by omega)) h3, ?_⟩
    have e1 : jrI b 31 (jrI a 11 0 21) = jrI a 31 (jrI a 11 0 21) := funext fun k => hn 31 _ k (by omega)
    have e2 : jrI b 32 (jrI a 11 0 21) = jrI a 32 (jrI a 11 0 21) := funext fun k => hn 32 _ k (by omega)
    have e4 : cRl b (jrI a 11 0 21) = cRl a (jrI a 11 0 21) := by
      funext env
      unfold cRl
      rw [e1, e2, hn 5 _ 2 (by omega)]
    rw [e4]
    exact h4
/-- an act kept in the class, the whole invariant's reading -/
theorem pKeep {mem : jMem} (hi : pInv mem) (d : Nat) : ∃ m1 u blk, Ac_keep (d + 2) 0 mem = some (vU, m1) ∧ puR aK mem m1 ∧ cH m1 (hU u) (hB u blk (fun k => jrI mem 55 0 (10 + k))) (jrI mem 55 0) ∧ vH (hU u) (hB u blk (fun k => jrI mem 55 0 (10 + k))) (jrI mem 55 0) ∧ mH mem u blk ∧ 0 ≤ u ∧ u ≤ 20 ∧ cRv m1 0 (jrI mem 55 0) ∧ cWv m1 0 (jrI mem 55 0) := by
  obtain ⟨hR, hW0, hN, h999, cr, cw, cn, hl⟩ := pNow hi
  obtain ⟨a1, a2, a3⟩ := iAct_to hi.2.2.2.2.1
  obtain ⟨m1, b1, b2, b3⟩ := s_Ac_keep d (jrI mem 55 0) _ _ (fun k => jrI mem 55 0 (10 + k)) mem hR cw ⟨a3.1, a3.2.1⟩ a1 (fun _ _ _ => rfl)
  exact ⟨m1, _, _, b1, b3, b2, vH_push a3 hW0 h999 (fun _ _ _ => rfl), a2, a3.1, a3.2.1, cRv_fr (fun f k hf => b3 f 0 k (by unfold aK; omega)) cr, cWv_fr (fun f k hf => b3 f 0 k (by unfold aK; omega)) cw⟩
theorem cH_E {a b : jMem} (h : puR aE a b) {u : Int} {blk : Int → Int → Int} {T : Int → Int} (hu : 0 ≤ u ∧ u ≤ 20) (hc : cH a u blk T) : cH b u blk T := by
  obtain ⟨c1, c2, c3, c4⟩ := hc
  refine ⟨by rw [h 0 0 2 (by unfold aE; omega)]; exact c1, by rw [h 0 0 1 (by unfold aE; omega)]; exact c2, by rw [h 0 0 1 (by unfold aE; omega)]; exact c3, fun j x y => ?_⟩
  rw [h 0 0 1 (by unfold aE; omega)]
  exact cWv_fr (fun f k hf => h f _ k (by unfold aE; omega)) (c4 j x y)
theorem mH_R {A : Nat → Int → Int → Prop} (hA : ∀ f i k, A f i k → f ≠ 57 ∧ ¬ (f = 11 ∧ k = 26)) {a b : jMem} (h : puR A a b) {u : Int} {blk : Int → Int → Int} (hm : mH a u blk) : mH b u blk := ⟨by rw [h 11 0 26 (fun w => by have := hA _ _ _ w; omega)]; exact hm.1, fun j k j0 j1 k0 k1 => by rw [h 57 0 _ (fun w => by have := hA _ _ _ w; omega)]; exact hm.2 j k j0 j1 k0 k1⟩
theorem p_night : pCase (E_night 60) (M_night 60) := fun mem hi hm => by
  obtain ⟨hR, hW, hN, h999, cr, cw, cn, hl⟩ := pNow hi
  have h10 := hW.1
  rw [q_E_night 59, cr.1, cw.1]
  rcases told01 hR with h0 | h1
  · rw [if_pos h0]
    refine ⟨-1, mem, rfl, fun _ => ⟨mem, ?_, hi⟩⟩
    rw [q_M_night 59, s_M_isRiver]
    simp only [jbnd_s, jasI_v]
    rw [jb_n (by omega), if_pos rfl]
  rw [if_neg (by omega)]
  by_cases hn : jrI mem 55 0 10 < 999
  · rw [if_pos hn]
    obtain ⟨m1, u, blk, k1, k2, k3, k4, k5, k6, k7, k8, k9⟩ := pKeep hi 57
    obtain ⟨i1, i2, i3, i4, i5, i6⟩ := id hi
    obtain ⟨o, ev, e1, e2, e3⟩ := pEv2 (iRule_fr (fun f i k hf => k2 f i k (by unfold aK; omega)) i2) (iMis_fr (fun f k hf => k2 f 0 k (by unfold aK; omega)) i4) 57
    rw [k1]
    simp only [jbnd_s]
    rw [e1]
    simp only [jbnd_s, jasR_v]
    rw [k9.1, s_Ri_lightOf 58 0 _ _ m1 k8 hR (by omega)]
    simp only [jbnd_s, jasI_v]
    obtain ⟨mE, a1, a2, a3, -⟩ := s_Sm_step 53 0 0 0 (tLi (jrI mem 55 0) (jrI mem 55 0 10)) o ev _ m1 hR hW h1 (cRw_of k8) k9 e2
    rw [a1]
    simp only [jbnd_s, jasI_v]
    refine ⟨_, mE, rfl, fun _ => ?_⟩
    have fE : puR aE m1 mE := puR_mono a3 (fun f i k hf => by unfold aN at hf; unfold aE; omega)
    have sE : jrI mE 55 0 = jrI mem 55 0 := funext fun k => by rw [a3 55 0 k (by unfold aN; omega), k2 55 0 k (by unfold aK; omega)]
    have lE : jrI mE 11 0 23 = -1 := by rw [a3 11 0 23 (by unfold aN; omega), k2 11 0 23 (by unfold aK; omega)]; exact hl
    obtain ⟨mM, b1, b2, b3⟩ := s_M_keepsAct 58 u blk mE ⟨k6, k7⟩ (mH_R (fun f i k hf => by unfold aE at hf; omega) fE (mH_R (fun f i k hf => by unfold aK at hf; omega) k2 k5))
    have sM : jrI mM 55 0 = jrI mem 55 0 := by rw [← sE]; exact funext fun k => b3 55 0 k (by omega)
    have lM : jrI mM 11 0 23 = -1 := by rw [b3 11 0 23 (by omega)]; exact lE
    obtain ⟨mF, c1, c2, c3, c4⟩ := s_M_passes 52 (tLi (jrI mem 55 0) (jrI mem 55 0 10)) ev mM (by rw [sM]; exact hR) (by rw [sM]; exact hW) (by rw [sM]; exact h1) (mEv_R (A := fun f i k => aE f i k ∨ f = 57 ∨ (f = 11 ∧ i = 0 ∧ k = 26)) (fun f i k hf => by unfold aE at hf; omega) (puR_tr (puR_mono fE (fun f i k hf => Or.inl hf)) (puR_mono b3 (fun f i k hf => Or.inr hf))) e3) ⟨by rw [sM, lM, if_pos (by decide)], by rw [lM]; decide⟩
    rw [sM] at c1 c2
    obtain ⟨n1, n2, n3, -⟩ := tNight_ok ev (tLi (jrI mem 55 0) (jrI mem 55 0 10)) hR hW h1 (by omega)
    rw [q_M_night 59, s_M_isRiver, sE]
    simp only [jbnd_s, jasI_v]
    rw [jb_1 h1, if_neg (by decide), sE, if_neg (by omega), b1]
    simp only [jbnd_s]
    rw [c1]
    simp only [jbnd_s, jasI_v]
    refine ⟨mF, rfl, pAct (mE := mE) (u := hU u) (blk := hB u blk (fun k => jrI mem 55 0 (10 + k))) hi ?_ ?_ (tS_E n1) n2 (by rw [n3]; omega) a2 (cH_E fE (by unfold hU; split <;> omega) k3) k4 ?_ c2 c4⟩
    · refine puR_tr (puR_mono k2 (fun f i k hf => Or.inl hf)) (puR_tr (puR_mono fE (fun f i k hf => Or.inr (Or.inl hf))) (puR_tr (puR_mono b3 (fun f i k hf => Or.inr (Or.inr (Or.inl hf)))) (puR_mono c3.1 (fun f i k hf => ?_))))
      unfold aP at hf
      unfold aZ
      omega
    · refine puR_tr (puR_mono b3 (fun f i k hf => Or.inl hf)) (puR_mono c3.1 (fun f i k hf => ?_))
      unfold aP at hf
      unfold aZ
      omega
    · rw [sE] at b2
      exact mH_R (fun f i k hf => by unfold aP at hf; omega) c3.1 b2
  · rw [if_neg hn]
    refine ⟨-1, mem, rfl, fun _ => ⟨mem, ?_, hi⟩⟩
    rw [q_M_night 59, s_M_isRiver]
    simp only [jbnd_s, jasI_v]
    rw [jb_1 h1, if_neg (by decide), if_pos (by omega)]
