/-! Nights one behind another, in both; copies -/
/-- the rule of a stream: as cEvt, and its words -/
theorem cEvt_W {mem : jMem} {o : Option Int} {ev : tEvT} (h : cEvt mem o ev) : evW ev := by
  rcases h with ⟨_, h⟩ | ⟨q, _, h2, h3⟩
  · rw [h]
    exact fun f hf => by cases hf
  · rw [h3]
    exact cRu_W h2
theorem cEvt_R {A : Nat → Int → Int → Prop} (hA : ∀ f i k, A f i k → f ≠ 5 ∧ f ≠ 31 ∧ f ≠ 32 ∧ f ≠ 47 ∧ f ≠ 49 ∧ f ≠ 50) {a b : jMem} (h : puR A a b) {o : Option Int} {ev : tEvT} (hc : cEvt a o ev) : cEvt b o ev := by
  have hn : ∀ f i k, f = 5 ∨ f = 31 ∨ f = 32 ∨ f = 47 ∨ f = 49 ∨ f = 50 → jrI b f i k = jrI a f i k := fun f i k hf => h f i k (fun w => by have := hA f i k w; omega)
  rcases hc with hc | ⟨q, h1, h2, h3⟩
  · exact Or.inl hc
  · refine Or.inr ⟨q, h1, cRu_fr (fun f k hf => hn f q k (by omega)) (fun f k hf => hn f 0 k (by omega)) h2, ?_⟩
    have e1 : jrI b 31 q = jrI a 31 q := funext fun k => hn 31 q k (by omega)
    have e2 : jrI b 32 q = jrI a 32 q := funext fun k => hn 32 q k (by omega)
    have e3 : jrI b 5 q 2 = jrI a 5 q 2 := hn 5 q 2 (by omega)
    have e4 : cRl b q = cRl a q := by
      funext env
      unfold cRl
      rw [e1, e2, e3]
    rw [e4]
    exact h3
theorem s_Sm_isStill (d : Nat) (s : Int) (o : Option Int) (ev : tEvT) (mem : jMem) (hS : jrS mem 7 s 6 = o) (hm : jrI mem 7 s 11 = 0 ∨ jrI mem 7 s 11 = 1) (hev : cEvt mem o ev) : ∃ v, Sm_isStill (d + 1) s mem = some (vI v, mem) ∧ (v = 0 ∨ v = 1) ∧ (v = 1 → jrI mem 7 s 11 = 0 ∧ evU ev) := by
  rw [q_Sm_isStill]
  by_cases h0 : jrI mem 7 s 11 = 0
  · rw [if_pos h0, hS]
    rcases hev with ⟨h1, h2⟩ | ⟨q, h1, h2, h3⟩
    · rw [h1]
      exact ⟨1, rfl, Or.inr rfl, fun _ => ⟨h0, by rw [h2]; exact fun f hf => by cases hf⟩⟩
    · rw [h1]
      show ∃ v, (if jrI mem 5 q 3 = 0 then some (vI 1, mem) else some (vI 0, mem)) = some (vI v, mem) ∧ _
      by_cases ht : jrI mem 5 q 3 = 0
      · rw [if_pos ht]
        exact ⟨1, rfl, Or.inr rfl, fun _ => ⟨h0, by rw [h3]; exact cRu_U h2 ht⟩⟩
      · rw [if_neg ht]
        exact ⟨0, rfl, Or.inl rfl, fun h => by omega⟩
  · rw [if_neg h0]
    exact ⟨0, rfl, Or.inl rfl, fun h => by omega⟩
/-- nights by the moons, in the class -/
theorem s_Sm_pass (d : Nat) (s r w : Int) (o : Option Int) (ev : tEvT) (T : Int → Int) (n : Nat) (mem : jMem) (hR : tRv T) (hW : tWv T) (h1 : T 0 = 1) (hn : T 10 + (n : Int) < 100000) (cr : cRw mem r T) (cw : cWv mem w T) (hev : cEvt mem o ev) (hS0 : n = 0 → True) : ∃ mem', Sm_pass (d + 7) s r w o (n : Int) mem = some (vU, mem') ∧ cWv mem' w (tIt ev n T) ∧ puR (aN w) mem mem' ∧ (∀ f, f ≠ 33 → jrJ mem' f = jrJ mem f) ∧ (n = 1 → jrS mem' 7 s 6 = o ∧ (jrI mem' 7 s 11 = 0 ∨ jrI mem' 7 s 11 = 1) ∧ (jrI mem' 7 s 11 = 0 → (tNight T ev (tLi T (T 10))).1 = tUp T 10 (T 10 + 1) ∧ (tNight T ev (tLi T (T 10))).2 = 0)) := by
  have hAN : ∀ f i k, aN w f i k → f ≠ 5 ∧ f ≠ 31 ∧ f ≠ 32 ∧ f ≠ 47 ∧ f ≠ 49 ∧ f ≠ 50 := fun f i k hf => by unfold aN at hf; omega
  have h10 := hW.1
  have hWd := cEvt_W hev
  rw [q_Sm_pass, cw.1, jw32_id (x := T 10 + (n : Int)) (by omega) (by omega)]
  have fin : ∀ (m1 : jMem) (T' : Int → Int), cWv m1 w T' → tEq T T' → cWv (jwI m1 9 w 0 (T 10 + (n : Int))) w (tUp T' 10 (T 10 + (n : Int))) := fun m1 T' hc he => by
    obtain ⟨c0, c1, c2⟩ := hc
    refine ⟨by rw [jrI_ws, tUp_s], fun m a b => ?_, fun t a b => ?_⟩
    · rw [tUp_n (j := 5) (by decide)] at b
      rw [jrI_wf (by decide), jrI_wf (by decide), tUp_n (by omega), tUp_n (by omega)]
      exact c1 m a b
    · rw [tUp_n (j := 6) (by decide)] at b
      rw [jrI_wf (by decide), jrI_wf (by decide), jrI_wf (by decide), jrI_wf (by decide), tUp_n (by omega), tUp_n (by omega), tUp_n (by omega), tIn_up]
      exact c2 t a b
  have key : ∀ (k : Nat) (i : Int) (m1 : jMem), 0 ≤ i → i + (k : Int) = (n : Int) → cWv m1 w (tIt ev i.toNat T) → puR (aN w) mem m1 → (∀ f, f ≠ 33 → jrJ m1 f = jrJ mem f) → (i = 1 → n = 1 → jrS m1 7 s 6 = o ∧ (jrI m1 7 s 11 = 0 ∨ jrI m1 7 s 11 = 1) ∧ (jrI m1 7 s 11 = 0 → (tNight T ev (tLi T (T 10))).1 = tUp T 10 (T 10 + 1) ∧ (tNight T ev (tLi T (T 10))).2 = 0)) → ∃ mem', Sm_pass_12 (d + 6) s r w o (n : Int) (T 10 + (n : Int)) i m1 = some (vU, mem') ∧ cWv mem' w (tIt ev n T) ∧ puR (aN w) mem mem' ∧ (∀ f, f ≠ 33 → jrJ mem' f = jrJ mem f) ∧ (n = 1 → jrS mem' 7 s 6 = o ∧ (jrI mem' 7 s 11 = 0 ∨ jrI mem' 7 s 11 = 1) ∧ (jrI mem' 7 s 11 = 0 → (tNight T ev (tLi T (T 10))).1 = tUp T 10 (T 10 + 1) ∧ (tNight T ev (tLi T (T 10))).2 = 0)) := by
    intro k
    induction k with
    | zero =>
      intro i m1 i0 hi hc hr hj hs
      have ei : i.toNat = n := by omega
      rw [ei] at hc
      obtain ⟨e1, e2, e3⟩ := tIt_ok ev hR hW h1 n (by omega)
      have hup : tUp (tIt ev n T) 10 (T 10 + (n : Int)) = tIt ev n T := by
        funext j
        unfold tUp
        by_cases hj : j = 10
        · rw [if_pos hj, hj, e3]
        · rw [if_neg hj]
      have hf := fin m1 _ hc e1
      rw [hup] at hf
      rw [q_Sm_pass_12, if_neg (by omega)]
      refine ⟨_, rfl, hf, puR_w hr (Or.inr (Or.inr (Or.inl ⟨rfl, rfl, rfl⟩))), hj, fun hn1 => ?_⟩
      obtain ⟨s1, s2, s3⟩ := hs (by omega) hn1
      rw [jrI_wf (by decide)]
      exact ⟨s1, s2, s3⟩
    | succ k ih =>
      intro i m1 i0 hi hc hr hj hs
      obtain ⟨e1, e2, e3⟩ := tIt_ok ev hR hW h1 i.toNat (by omega)
      have crm : cRw m1 r (tIt ev i.toNat T) := by
        have c0 := cRw_fr (mem' := m1) (fun f k hf => hr f r k (by unfold aN; omega)) cr
        obtain ⟨c0, c1, c2, c3, c4, c5, c6, c7, c8, c9, c10⟩ := c0
        unfold cRw
        rw [e1 0 (by omega), e1 1 (by omega), e1 2 (by omega), e1 3 (by omega), e1 4 (by omega), e1 5 (by omega), e1 6 (by omega)]
        refine ⟨c0, c1, c2, c3, c4, c5, c6, fun m a b => ?_, fun m a b => ?_, fun m a b => ?_, fun m a b => ?_⟩
        · rw [e1 (67 + m) (by omega), e1 (33 + m) (by omega), e1 (39 + m) (by omega)]
          exact c7 m a b
        · rw [e1 (73 + 2 * m) (by omega), e1 (74 + 2 * m) (by omega), e1 (29 + m) (by omega)]
          exact c8 m a b
        · rw [e1 (51 + m) (by omega)]
          exact c9 m a b
        · rw [e1 (55 + m) (by omega)]
          exact c10 m a b
      have hRm := tRv_eq e1 hR
      have h1m : tIt ev i.toNat T 0 = 1 := by rw [e1 0 (by omega)]; exact h1
      have hevm := cEvt_R hAN hr hev
      rw [q_Sm_pass_12, if_pos (by omega), hc.1, s_Ri_lightOw (d + 5) r _ _ m1 crm hRm (by rw [e3]; omega)]
      simp only [jbnd_s, jasI_v]
      obtain ⟨m2, f1, f2, f3, f4, f5, f6, f7⟩ := s_Sm_step d s r w (tLi (tIt ev i.toNat T) (tIt ev i.toNat T 10)) o ev (tIt ev i.toNat T) m1 hRm e2 h1m crm hc hevm
      have hr2 := puR_tr hr f3
      have hj2 : ∀ f, f ≠ 33 → jrJ m2 f = jrJ mem f := fun f hf => (f4 f hf).trans (hj f hf)
      rw [f1]
      simp only [jbnd_s]
      obtain ⟨v, g1, g2, g3⟩ := s_Sm_isStill (d + 5) s o ev m2 f5 f6 (cEvt_R hAN f3 hevm)
      rw [g1]
      simp only [jbnd_s, jasI_v]
      rw [jw32_id (x := i + 1) (by omega) (by omega)]
      have eit : (i + 1).toNat = i.toNat + 1 := by omega
      have hc2 : cWv m2 w (tIt ev (i + 1).toNat T) := by rw [eit]; exact f2
      have hs2 : i + 1 = 1 → n = 1 → jrS m2 7 s 6 = o ∧ (jrI m2 7 s 11 = 0 ∨ jrI m2 7 s 11 = 1) ∧ (jrI m2 7 s 11 = 0 → (tNight T ev (tLi T (T 10))).1 = tUp T 10 (T 10 + 1) ∧ (tNight T ev (tLi T (T 10))).2 = 0) := fun hi1 _ => by
        have : i = 0 := by omega
        subst this
        exact ⟨f5, f6, f7⟩
      rcases g2 with hv | hv
      · rw [if_pos hv]
        exact ih (i + 1) m2 (by omega) (by omega) hc2 hr2 hj2 hs2
      · rw [if_neg (by omega)]
        obtain ⟨q1, q2⟩ := g3 hv
        obtain ⟨q3, q4⟩ := f7 q1
        -- all nights behind are alike
        have hlast : tIt ev n T = tUp (tIt ev (i + 1).toNat T) 10 (T 10 + (n : Int)) := by
          have hsum : n = k + (i.toNat + 1) := by omega
          have hassoc : ∀ (a b : Nat) (S : Int → Int), tIt ev (a + b) S = tIt ev a (tIt ev b S) := by
            intro a b S
            induction a with
            | zero => rw [Nat.zero_add]; rfl
            | succ a iha =>
              rw [show a + 1 + b = (a + b) + 1 by omega]
              show tStep ev (tIt ev (a + b) S) = tStep ev (tIt ev a (tIt ev b S))
              rw [iha]
          rw [hsum, hassoc k (i.toNat + 1) T, eit]
          have hst := tIt_still q2 hWd (tLi (tIt ev i.toNat T) (tIt ev i.toNat T 10)) q3 k
          have e9 : tIt ev (i.toNat + 1) T = (tNight (tIt ev i.toNat T) ev (tLi (tIt ev i.toNat T) (tIt ev i.toNat T 10))).1 := rfl
          rw [e9, hst, q3]
          funext j
          unfold tUp
          by_cases hj9 : j = 10
          · rw [if_pos hj9, if_pos hj9, e3]
            omega
          · rw [if_neg hj9, if_neg hj9, if_neg hj9]
        have hf := fin m2 _ hc2 (by rw [eit]; exact (tIt_ok ev hR hW h1 (i.toNat + 1) (by omega)).1)
        rw [← hlast] at hf
        refine ⟨_, rfl, hf, puR_w hr2 (Or.inr (Or.inr (Or.inl ⟨rfl, rfl, rfl⟩))), hj2, fun hn1 => ?_⟩
        obtain ⟨s1, s2, s3⟩ := hs2 (by omega) hn1
        rw [jrI_wf (by decide)]
        exact ⟨s1, s2, s3⟩
  exact key n 0 mem (Int.le_refl 0) (by omega) cw (puR_rf _ mem) (fun _ _ => rfl) (fun h => by omega)
theorem s_Wa_copy (d : Nat) (a b : Int) (T : Int → Int) (mem : jMem) (hab : a ≠ b) (h5 : T 5 ≤ 6) (h6 : T 6 ≤ 4) (hc : cWv mem b T) : ∃ mem', Wa_copy (d + 1) a b mem = some (vU, mem') ∧ cWv mem' a T ∧ puR (fun f i k => ((f = 9 ∧ k = 0) ∨ (38 ≤ f ∧ f ≤ 43)) ∧ i = a) mem mem' ∧ (∀ f, jrJ mem' f = jrJ mem f) := by
  rw [q_Wa_copy]
  refine ⟨_, rfl, ?_, ?_, fun _ => rfl⟩
  · obtain ⟨c0, c1, c2⟩ := hc
    refine ⟨?_, fun m x y => ?_, fun t x y => ?_⟩
    · rw [jrI_cf (by decide), jrI_cf (by decide), jrI_cf (by decide), jrI_cf (by decide), jrI_cf (by decide), jrI_cf (by decide), jrI_ws]
      exact c0
    · constructor
      · rw [jrI_cf (by decide), jrI_cf (by decide), jrI_cf (by decide), jrI_cf (by decide), jrI_cf (by decide), jrI_cs x (by omega), jrI_wf (by decide)]
        exact (c1 m x y).1
      · rw [jrI_cf (by decide), jrI_cf (by decide), jrI_cf (by decide), jrI_cf (by decide), jrI_cs x (by omega), jrI_cf (by decide), jrI_wf (by decide)]
        exact (c1 m x y).2
    · obtain ⟨e1, e2, e3, e4⟩ := c2 t x y
      refine ⟨?_, ?_, ?_, ?_⟩
      · rw [jrI_cf (by decide), jrI_cf (by decide), jrI_cf (by decide), jrI_cs x (by omega), jrI_cf (by decide), jrI_cf (by decide), jrI_wf (by decide)]
        exact e1
      · rw [jrI_cf (by decide), jrI_cf (by decide), jrI_cs x (by omega), jrI_cf (by decide), jrI_cf (by decide), jrI_cf (by decide), jrI_wf (by decide)]
        exact e2
      · rw [jrI_cf (by decide), jrI_cs x (by omega), jrI_cf (by decide), jrI_cf (by decide), jrI_cf (by decide), jrI_cf (by decide), jrI_wf (by decide)]
        exact e3
      · rw [jrI_cs x (by omega), jrI_cf (by decide), jrI_cf (by decide), jrI_cf (by decide), jrI_cf (by decide), jrI_cf (by decide), jrI_wf (by decide)]
        exact e4
  · exact puR_C (puR_C (puR_C (puR_C (puR_C (puR_C (puR_w (puR_rf _ mem) ⟨Or.inl ⟨rfl, rfl⟩, rfl⟩) (fun k => ⟨Or.inr (by decide), rfl⟩)) (fun k => ⟨Or.inr (by decide), rfl⟩)) (fun k => ⟨Or.inr (by decide), rfl⟩)) (fun k => ⟨Or.inr (by decide), rfl⟩)) (fun k => ⟨Or.inr (by decide), rfl⟩)) (fun k => ⟨Or.inr (by decide), rfl⟩)
/-! The reference: nights, what is kept and laid back -/
theorem mEv_3 {a b : jMem} (h : uSm3 a b) {ev : tEvT} (hc : mEv a ev) : mEv b ev := by
  have e : jrI b 11 0 21 = jrI a 11 0 21 := h.1 11 0 21 (by unfold aP; omega)
  unfold mEv
  rw [e]
  rcases hc with hc | ⟨h1, h2, h3, h4⟩
  · exact Or.inl hc
  · refine Or.inr ⟨h1, h2, cRu_fr (fun f k hf => h.1 f _ k (by unfold aP; omega)) (fun f k hf => h.1 f 0 k (by unfold aP; omega)) h3, ?_⟩
    have e1 : jrI b 31 (jrI a 11 0 21) = jrI a 31 (jrI a 11 0 21) := funext fun k => h.1 31 _ k (by unfold aP; omega)
    have e2 : jrI b 32 (jrI a 11 0 21) = jrI a 32 (jrI a 11 0 21) := funext fun k => h.1 32 _ k (by unfold aP; omega)
    have e4 : cRl b (jrI a 11 0 21) = cRl a (jrI a 11 0 21) := by
      funext env
      unfold cRl
      rw [e1, e2, h.1 5 _ 2 (by unfold aP; omega)]
    rw [e4]
    exact h4
theorem s_M_passesAll (d : Nat) (ev : tEvT) (n : Nat) (mem : jMem) (T : Int → Int) (hT : jrI mem 55 0 = T) (hR : tRv T) (hW : tWv T) (h1 : T 0 = 1) (hn : T 10 + (n : Int) < 100000) (hev : mEv mem ev) (hl : jrI mem 11 0 23 = -1) : ∃ mem', M_passesAll (d + 8) (n : Int) mem = some (vU, mem') ∧ jrI mem' 55 0 = tIt ev n T ∧ uSm3 mem mem' ∧ jrI mem' 11 0 23 = -1 := by
  have h10 := hW.1
  rw [q_M_passesAll]
  obtain ⟨m1, a1, a2, a3, a4⟩ := puUpE (P := fun i m1 => jrI m1 55 0 = tIt ev i.toNat T ∧ uSm3 mem m1 ∧ jrI m1 11 0 23 = -1) (L := fun i m1 => M_passesAll_2 (d + 7) (n : Int) i m1) (n := (n : Int)) (by omega) (fun i m1 i0 i1 hP => by
    obtain ⟨p1, p2, p3⟩ := hP
    obtain ⟨e1, e2, e3⟩ := tIt_ok ev hR hW h1 i.toNat (by omega)
    obtain ⟨m2, f1, f2, f3, f4⟩ := s_M_passes d (tLi (tIt ev i.toNat T) (tIt ev i.toNat T 10)) ev m1 (by rw [p1]; exact tRv_eq e1 hR) (by rw [p1]; exact e2) (by rw [p1, e1 0 (by omega)]; exact h1) (mEv_3 p2 hev) ⟨by rw [p1, p3, if_pos (by decide)], by rw [p3]; decide⟩
    rw [q_M_passesAll_2, if_pos i1, f1]
    simp only [jbnd_s]
    rw [jw32_id (x := i + 1) (by omega) (by omega)]
    refine ⟨m2, rfl, ?_, uSm3_tr p2 f3, f4⟩
    rw [f2, p1, show (i + 1).toNat = i.toNat + 1 by omega]
    rfl) mem ⟨hT, uSm3_rf mem, hl⟩
  rw [a1, q_M_passesAll_2, if_neg (by omega)]
  exact ⟨m1, rfl, by rw [a2, Int.toNat_natCast], a3, a4⟩
theorem s_M_keeps (d : Nat) (mem : jMem) : ∃ mem', M_keeps (d + 1) mem = some (vU, mem') ∧ (∀ k, 0 ≤ k → k < 15 → jrI mem' 58 0 k = jrI mem 55 0 (10 + k)) ∧ puR (fun f _ _ => f = 58) mem mem' ∧ (∀ f, jrJ mem' f = jrJ mem f) := by
  rw [q_M_keeps]
  obtain ⟨m1, a1, a2, a3, a4⟩ := puUpE (P := fun i m1 => (∀ k, 0 ≤ k → k < i → jrI m1 58 0 k = jrI mem 55 0 (10 + k)) ∧ puR (fun f _ _ => f = 58) mem m1 ∧ (∀ f, jrJ m1 f = jrJ mem f)) (L := fun i m1 => M_keeps_2 d i m1) (n := 15) (by decide) (fun i m1 i0 i1 hP => by
    obtain ⟨p1, p2, p3⟩ := hP
    rw [q_M_keeps_2, if_pos i1, jw32_id (x := 10 + i) (by omega) (by omega), jix_in (by omega) (by omega), jix_in i0 i1, jw32_id (x := i + 1) (by omega) (by omega)]
    refine ⟨_, rfl, fun k k0 k1 => ?_, puR_w p2 rfl, p3⟩
    by_cases e : k = i
    · rw [e, jrI_ws, p2 55 0 _ (show ¬ (55 : Nat) = 58 by decide)]
    · rw [jrI_wk e]
      exact p1 k k0 (by omega)) mem ⟨fun k k0 k1 => by omega, puR_rf _ mem, fun _ => rfl⟩
  rw [a1, q_M_keeps_2, if_neg (by decide)]
  exact ⟨m1, rfl, a2, a3, a4⟩
theorem s_M_laysBack (d : Nat) (mem : jMem) : ∃ mem', M_laysBack (d + 1) mem = some (vU, mem') ∧ (∀ k, jrI mem' 55 0 k = if 10 ≤ k ∧ k < 25 then jrI mem 58 0 (k - 10) else jrI mem 55 0 k) ∧ puR (fun f i k => f = 55 ∧ i = 0 ∧ 10 ≤ k ∧ k < 25) mem mem' ∧ (∀ f, jrJ mem' f = jrJ mem f) := by
  rw [q_M_laysBack]
  obtain ⟨m1, a1, a2, a3, a4⟩ := puUpE (P := fun i m1 => (∀ k, jrI m1 55 0 k = if 10 ≤ k ∧ k < 10 + i then jrI mem 58 0 (k - 10) else jrI mem 55 0 k) ∧ puR (fun f i k => f = 55 ∧ i = 0 ∧ 10 ≤ k ∧ k < 25) mem m1 ∧ (∀ f, jrJ m1 f = jrJ mem f)) (L := fun i m1 => M_laysBack_2 d i m1) (n := 15) (by decide) (fun i m1 i0 i1 hP => by
    obtain ⟨p1, p2, p3⟩ := hP
    rw [q_M_laysBack_2, if_pos i1, jw32_id (x := 10 + i) (by omega) (by omega), jix_in i0 i1, jix_in (by omega) (by omega), jw32_id (x := i + 1) (by omega) (by omega), p2 58 0 i (by omega)]
    refine ⟨_, rfl, fun k => ?_, puR_w p2 ⟨rfl, rfl, by omega, by omega⟩, p3⟩
    by_cases e : k = 10 + i
    · rw [e, jrI_ws, if_pos (by omega)]
      congr 1
      omega
    · rw [jrI_wk e, p1 k]
      by_cases hk : 10 ≤ k ∧ k < 10 + i
      · rw [if_pos hk, if_pos (by omega)]
      · rw [if_neg hk, if_neg (by omega)]) mem ⟨fun k => by rw [if_neg (by omega)], puR_rf _ mem, fun _ => rfl⟩
  rw [a1, q_M_laysBack_2, if_neg (by decide)]
  exact ⟨m1, rfl, a2, a3, a4⟩
