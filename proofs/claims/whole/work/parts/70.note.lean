/-! Notes; images -/
/-- alike but for notes -/
def tA (T T' : Int → Int) : Prop := ∀ k, k < 81 → T' k = T k
theorem tRv_A {T T' : Int → Int} (h : tA T T') (hT : tRv T) : tRv T' := by
  obtain ⟨t0, t3, t4, t5, t6, t55, tm, tt, tp, tl⟩ := hT
  unfold tRv
  rw [h 0 (by omega), h 1 (by omega), h 2 (by omega), h 3 (by omega), h 4 (by omega), h 5 (by omega), h 6 (by omega), h 55 (by omega)]
  refine ⟨t0, t3, t4, t5, t6, t55, fun m a b => ?_, fun m a b => ?_, fun m a b => ?_, fun m a b => ?_⟩
  · rw [h (33 + m) (by omega), h (39 + m) (by omega), h (45 + m) (by omega), h (67 + m) (by omega)]
    exact tm m a b
  · rw [h (25 + m) (by omega), h (29 + m) (by omega), h (73 + 2 * m) (by omega), h (74 + 2 * m) (by omega)]
    exact tt m a b
  · rw [h (51 + m) (by omega)]
    exact tp m a b
  · rw [h (55 + m) (by omega)]
    exact tl m a b
theorem cRv_A {mem : jMem} {r : Int} {T T' : Int → Int} (hR : tRv T) (h : tA T T') (hc : cRv mem r T) : cRv mem r T' := by
  obtain ⟨t0, t3, t4, t5, t6, t55, tm, tt, tp, tl⟩ := hR
  obtain ⟨c0, c1, c2, c3, c4, c5, c6, c7, c8, c9, c10⟩ := hc
  unfold cRv
  rw [h 0 (by omega), h 1 (by omega), h 2 (by omega), h 3 (by omega), h 4 (by omega), h 5 (by omega), h 6 (by omega)]
  refine ⟨c0, c1, c2, c3, c4, c5, c6, fun m a b => ?_, fun m a b => ?_, fun m a b => ?_, fun m a b => ?_⟩
  · rw [h (67 + m) (by omega), h (33 + m) (by omega), h (39 + m) (by omega), h (45 + m) (by omega)]
    exact c7 m a b
  · rw [h (73 + 2 * m) (by omega), h (25 + m) (by omega), h (74 + 2 * m) (by omega), h (29 + m) (by omega)]
    exact c8 m a b
  · rw [h (51 + m) (by omega)]
    exact c9 m a b
  · rw [h (55 + m) (by omega)]
    exact c10 m a b
theorem tWv_A {T T' : Int → Int} (h5 : T 5 ≤ 6) (h6 : T 6 ≤ 4) (h : tA T T') (hT : tWv T) : tWv T' := by
  obtain ⟨a1, a2, a3, a4⟩ := hT
  unfold tWv
  rw [h 10 (by omega), h 1 (by omega), h 4 (by omega), h 5 (by omega), h 6 (by omega)]
  refine ⟨a1, fun m a b => ?_, fun t a b => ?_, fun m m' a b c d => ?_⟩
  · rw [h (11 + m) (by omega)]
    exact a2 m a b
  · rw [h (17 + 2 * t) (by omega), h (18 + 2 * t) (by omega)]
    exact a3 t a b
  · rw [h (11 + m) (by omega), h (11 + m') (by omega)]
    exact a4 m m' a b c d
theorem cWv_A {mem : jMem} {w : Int} {T T' : Int → Int} (h5 : T 5 ≤ 6) (h6 : T 6 ≤ 4) (h : tA T T') (hc : cWv mem w T) : cWv mem w T' := by
  obtain ⟨a1, a2, a3⟩ := hc
  unfold cWv
  rw [h 10 (by omega), h 5 (by omega), h 6 (by omega)]
  refine ⟨a1, fun m a b => ?_, fun t a b => ?_⟩
  · rw [h (11 + m) (by omega), h (45 + m) (by omega)]
    exact a2 m a b
  · rw [h (17 + 2 * t) (by omega), h (25 + t) (by omega), h (18 + 2 * t) (by omega), tIn_cong (T' := T') (T := T) (h 5 (by omega)) (fun m a b => by rw [h (11 + m) (by omega)])]
    exact a3 t a b
theorem pNote {mem mF : jMem} (hi : pInv mem) (f1 : puR (fun f i k => (f = 3 ∧ i = 0 ∧ k = 0) ∨ ((18 ≤ f ∧ f ≤ 20) ∧ i = 0) ∨ (f = 55 ∧ i = 0 ∧ 81 ≤ k)) mem mF) (hN : tNv (jrI mF 55 0)) (cn : cNv mF 0 (jrI mF 55 0)) : pInv mF := by
  obtain ⟨hR, hW, hN0, h999, cr, cw, cn0, hl⟩ := pNow hi
  obtain ⟨i1, i2, i3, i4, i5, i6⟩ := hi
  have hA : tA (jrI mem 55 0) (jrI mF 55 0) := fun k hk => f1 55 0 k (by omega)
  have t5 := hR.2.2.2.1.2
  have t6 := hR.2.2.2.2.1.2
  refine ⟨iTape_fr (fun f k hf => f1 f 0 k (by omega)) i1, iRule_fr (fun f i k hf => f1 f i k (by omega)) i2, ⟨⟨tRv_A hA hR, tWv_A t5 t6 hA hW, hN⟩, by rw [hA 10 (by omega)]; exact h999, cRv_A hR hA (cRv_fr (fun f k hf => f1 f 0 k (by omega)) cr), cWv_A t5 t6 hA (cWv_fr (fun f k hf => f1 f 0 k (by omega)) cw), cn⟩, iMis_fr (fun f k hf => f1 f 0 k (by omega)) i4, ?_, iImg_fr (fun f i k hf => f1 f i k (by unfold dSc at hf; omega)) i6⟩
  obtain ⟨c1, c2, c3, c4, c5, c6⟩ := i5
  unfold iAct
  rw [f1 0 0 2 (by omega), f1 0 0 1 (by omega), f1 11 0 26 (by omega)]
  refine ⟨c1, c2, c3, c4, c5, fun j a b => ?_⟩
  obtain ⟨w1, w2, w3⟩ := c6 j a b
  have hO : tA (tOv (jrI mem 55 0) fun k => jrI mem 57 0 (15 * j + k)) (tOv (jrI mF 55 0) fun k => jrI mF 57 0 (15 * j + k)) := fun k hk => by
    unfold tOv
    by_cases h : 10 ≤ k ∧ k < 25
    · rw [if_pos h, if_pos h]
      exact f1 57 0 _ (by omega)
    · rw [if_neg h, if_neg h, hA k hk]
  have o5 : tOv (jrI mem 55 0) (fun k => jrI mem 57 0 (15 * j + k)) 5 ≤ 6 := by
    unfold tOv
    rw [if_neg (by decide)]
    exact t5
  have o6 : tOv (jrI mem 55 0) (fun k => jrI mem 57 0 (15 * j + k)) 6 ≤ 4 := by
    unfold tOv
    rw [if_neg (by decide)]
    exact t6
  exact ⟨tWv_A o5 o6 hO w1, by rw [hO 10 (by omega)]; exact w2, cWv_A o5 o6 hO (cWv_fr (fun f k hf => f1 f _ k (by omega)) w3)⟩
theorem p_note (n x p : Int) : pCase (E_note 60 n x p) (M_note 60 n x p) := fun mem hi hm => by
  obtain ⟨hR, hW, hN, h999, cr, cw, cn, hl⟩ := pNow hi
  have t5 := hR.2.2.2.1
  have t1 : 0 ≤ jrI mem 55 0 1 ∧ jrI mem 55 0 1 ≤ 12 := by have := hR.1; omega
  have r5 := cr.2.2.2.2.2.1
  have r1 := cr.2.1
  rw [q_E_note 59]
  by_cases hn1 : n = -1
  · rw [if_pos hn1]
    refine ⟨0, _, rfl, fun _ => ⟨jwI (jwI mem 3 0 0 0) 55 0 111 0, ?_, ?_⟩⟩
    · rw [q_M_note 59, if_pos hn1]
    · refine pNote hi (puR_w (puR_w (puR_rf _ mem) (Or.inl ⟨rfl, rfl, rfl⟩)) (Or.inr (Or.inr ⟨rfl, rfl, by decide⟩))) ?_ ?_
      · unfold tNv
        rw [jrI_ws]
        exact ⟨by decide, fun i a b => by omega⟩
      · unfold cNv
        rw [jrI_ws, jrI_wf (g := 3) (by decide), jrI_ws]
        exact ⟨rfl, fun i a b => by omega⟩
  rw [if_neg hn1, s_E_within]
  simp only [jbnd_s, jasI_v]
  by_cases hn : 0 ≤ n ∧ n ≤ 60
  case neg =>
    rw [jb_n hn, if_pos rfl]
    refine ⟨-2, mem, rfl, fun _ => ⟨mem, ?_, hi⟩⟩
    rw [q_M_note 59, if_neg hn1, s_M_in]
    simp only [jbnd_s, jasI_v]
    rw [jb_n hn, if_pos rfl]
  rw [jb_1 hn, if_neg (by decide), s_E_isMemory 57 x mem (by omega) (by omega), r5]
  simp only [jbnd_s, jasI_v]
  by_cases hx : 0 ≤ x ∧ x < jrI mem 55 0 5
  case neg =>
    rw [jb_n hx, if_pos rfl]
    refine ⟨-2, mem, rfl, fun _ => ⟨mem, ?_, hi⟩⟩
    rw [q_M_note 59, if_neg hn1, s_M_in]
    simp only [jbnd_s, jasI_v]
    rw [jb_1 hn, if_neg (by decide), s_M_isMemory]
    simp only [jbnd_s, jasI_v]
    rw [jb_n hx, if_pos rfl]
  rw [jb_1 hx, if_neg (by decide)]
  -- both at the last part
  have last : -1 ≤ p → p < jrI mem 55 0 1 → ∃ r mem1, E_note_52 59 n x p mem = some (vI r, mem1) ∧ ((∀ m2, jrI m2 55 0 = jrI mem 55 0 → M_note 60 n x p m2 = M_note_48 59 n x p m2) → ∃ mem2, M_note 60 n x p mem1 = some (vI r, mem2) ∧ pInv mem2) := fun p0 p1 => by
    obtain ⟨n1, n2⟩ := id hN
    rw [q_E_note_52, q_No_add 58, cn.1]
    generalize hc : jrI mem 55 0 111 = c at n1 n2
    by_cases h10 : c < 10
    · rw [if_pos h10, jix_in n1.1 h10, jix_in n1.1 h10, jix_in n1.1 h10, jw32_id (x := c + 1) (by omega) (by omega)]
      simp only [jbnd_s, jasI_v]
      rw [if_neg (by decide), jrI_ws]
      refine ⟨_, _, rfl, fun hM => ?_⟩
      have e55 : jrI (jwI (jwI (jwI (jwI mem 18 0 c n) 19 0 c x) 20 0 c p) 3 0 0 (c + 1)) 55 0 = jrI mem 55 0 := by rw [jrI_wf (by decide), jrI_wf (by decide), jrI_wf (by decide), jrI_wf (by decide)]
      rw [hM _ e55, q_M_note_48]
      generalize hm1 : jwI (jwI (jwI (jwI mem 18 0 c n) 19 0 c x) 20 0 c p) 3 0 0 (c + 1) = m1 at e55
      rw [e55, hc, if_neg (by omega), jw32_id (x := 3 * c) (by omega) (by omega), jw32_id (x := 81 + 3 * c) (by omega) (by omega), jw32_id (x := 81 + 3 * c + 1) (by omega) (by omega), jw32_id (x := 81 + 3 * c + 2) (by omega) (by omega), jix_in (by omega) (by omega), jix_in (by omega) (by omega), jix_in (by omega) (by omega), jrI_wk (n := 111) (by omega), jrI_wk (n := 111) (by omega), jrI_wk (n := 111) (by omega), e55, hc, jw32_id (x := c + 1) (by omega) (by omega)]
      generalize hmF : jwI (jwI (jwI (jwI m1 55 0 (81 + 3 * c) n) 55 0 (81 + 3 * c + 1) x) 55 0 (81 + 3 * c + 2) p) 55 0 111 (c + 1) = mF
      refine ⟨mF, rfl, pNote hi ?_ ?_ ?_⟩
      · rw [← hmF, ← hm1]
        exact puR_w (puR_w (puR_w (puR_w (puR_w (puR_w (puR_w (puR_w (puR_rf _ mem) (by omega)) (by omega)) (by omega)) (by omega)) (by omega)) (by omega)) (by omega)) (by omega)
      all_goals
        have v111 : jrI mF 55 0 111 = c + 1 := by rw [← hmF, jrI_ws]
        have vA : ∀ k, k < 81 → jrI mF 55 0 k = jrI mem 55 0 k := fun k hk => by rw [← hmF, jrI_wk (by omega), jrI_wk (by omega), jrI_wk (by omega), jrI_wk (by omega), e55]
        have vO : ∀ k, 81 ≤ k → k < 81 + 3 * c → jrI mF 55 0 k = jrI mem 55 0 k := fun k hk hk2 => by rw [← hmF, jrI_wk (by omega), jrI_wk (by omega), jrI_wk (by omega), jrI_wk (by omega), e55]
        have v1 : jrI mF 55 0 (81 + 3 * c) = n := by rw [← hmF, jrI_wk (by omega), jrI_wk (by omega), jrI_wk (by omega), jrI_ws]
        have v2 : jrI mF 55 0 (82 + 3 * c) = x := by rw [show 82 + 3 * c = 81 + 3 * c + 1 by omega, ← hmF, jrI_wk (by omega), jrI_wk (by omega), jrI_ws]
        have v3 : jrI mF 55 0 (83 + 3 * c) = p := by rw [show 83 + 3 * c = 81 + 3 * c + 2 by omega, ← hmF, jrI_wk (by omega), jrI_ws]
      · unfold tNv
        rw [v111, vA 5 (by omega), vA 1 (by omega)]
        refine ⟨by omega, fun i a b => ?_⟩
        by_cases e : i = c
        · rw [e, v1, v2, v3]
          exact ⟨hn.1, hn.2, hx.1, hx.2, p0, p1⟩
        · rw [vO (81 + 3 * i) (by omega) (by omega), vO (82 + 3 * i) (by omega) (by omega), vO (83 + 3 * i) (by omega) (by omega)]
          exact n2 i a (by omega)
      · have g : ∀ f k, f ≠ 55 → jrI mF f 0 k = jrI m1 f 0 k := fun f k hf => by rw [← hmF, jrI_wf hf, jrI_wf hf, jrI_wf hf, jrI_wf hf]
        unfold cNv
        rw [v111, g 3 0 (by decide), ← hm1, jrI_ws]
        refine ⟨rfl, fun i a b => ?_⟩
        rw [g 18 i (by decide), g 19 i (by decide), g 20 i (by decide)]
        have r18 : ∀ j, jrI m1 18 0 j = jrI (jwI mem 18 0 c n) 18 0 j := fun j => by rw [← hm1, jrI_wf (f := 3) (by decide), jrI_wf (f := 20) (by decide), jrI_wf (f := 19) (by decide)]
        have r19 : ∀ j, jrI m1 19 0 j = jrI (jwI (jwI mem 18 0 c n) 19 0 c x) 19 0 j := fun j => by rw [← hm1, jrI_wf (f := 3) (by decide), jrI_wf (f := 20) (by decide)]
        have r20 : ∀ j, jrI m1 20 0 j = jrI (jwI (jwI (jwI mem 18 0 c n) 19 0 c x) 20 0 c p) 20 0 j := fun j => by rw [← hm1, jrI_wf (f := 3) (by decide)]
        rw [r18, r19, r20]
        by_cases e : i = c
        · rw [e, v1, v2, v3, jrI_ws, jrI_ws, jrI_ws]
          exact ⟨rfl, rfl, rfl⟩
        · rw [jrI_wk (f := 18) e, jrI_wk (f := 19) e, jrI_wk (f := 20) e, vO (81 + 3 * i) (by omega) (by omega), vO (82 + 3 * i) (by omega) (by omega), vO (83 + 3 * i) (by omega) (by omega), jrI_wf (f := 18) (g := 19) (by decide), jrI_wf (f := 19) (g := 20) (by decide), jrI_wf (f := 18) (g := 20) (by decide)]
          exact cn.2 i a (by omega)
    · rw [if_neg h10]
      simp only [jbnd_s, jasI_v]
      rw [if_pos trivial]
      refine ⟨-2, mem, rfl, fun hM => ⟨mem, ?_, hi⟩⟩
      rw [hM mem rfl, q_M_note_48, hc, if_pos (by omega)]
  have ms : ∀ m2, jrI m2 55 0 = jrI mem 55 0 → (p = -1 ∨ (0 ≤ p ∧ p < jrI mem 55 0 1)) → M_note 60 n x p m2 = M_note_48 59 n x p m2 := fun m2 h2 hp => by
    rw [q_M_note 59, if_neg hn1, s_M_in]
    simp only [jbnd_s, jasI_v]
    rw [jb_1 hn, if_neg (by decide), s_M_isMemory, h2]
    simp only [jbnd_s, jasI_v]
    rw [jb_1 hx, if_neg (by decide)]
    by_cases e : p = -1
    · rw [if_pos e]
    · rw [if_neg e, s_M_isPool, h2]
      simp only [jbnd_s, jasI_v]
      rw [jb_1 (p := 0 ≤ p ∧ p < jrI mem 55 0 1) (by omega), if_neg (by decide)]
  by_cases e : p = -1
  · rw [if_pos e]
    obtain ⟨r, mem1, l1, l2⟩ := last (by omega) (by omega)
    exact ⟨r, mem1, l1, fun _ => l2 (fun m2 h2 => ms m2 h2 (Or.inl e))⟩
  · rw [if_neg e, s_E_isPool 57 p mem (by omega) (by omega), r1]
    simp only [jbnd_s, jasI_v]
    by_cases hp : 0 ≤ p ∧ p < jrI mem 55 0 1
    · rw [jb_1 hp, if_neg (by decide)]
      obtain ⟨r, mem1, l1, l2⟩ := last (by omega) (by omega)
      exact ⟨r, mem1, l1, fun _ => l2 (fun m2 h2 => ms m2 h2 (Or.inr hp))⟩
    · rw [jb_n hp, if_pos rfl]
      refine ⟨-2, mem, rfl, fun _ => ⟨mem, ?_, hi⟩⟩
      rw [q_M_note 59, if_neg hn1, s_M_in]
      simp only [jbnd_s, jasI_v]
      rw [jb_1 hn, if_neg (by decide), s_M_isMemory]
      simp only [jbnd_s, jasI_v]
      rw [jb_1 hx, if_neg (by decide), if_neg e, s_M_isPool]
      simp only [jbnd_s, jasI_v]
      rw [jb_n hp, if_pos rfl]
