/-! From the begin on; notes -/
def tBg (T : Int → Int) : Int → Int := fun k => if k = 10 then 0 else if 11 ≤ k ∧ k < 17 then T (67 + (k - 11)) else if 17 ≤ k ∧ k < 25 then T (73 + (k - 17)) else T k
theorem tBg_o {T : Int → Int} {k : Int} (h : k < 10 ∨ 25 ≤ k) : tBg T k = T k := by
  unfold tBg
  rw [if_neg (by omega), if_neg (by omega), if_neg (by omega)]
theorem tBg_S (T : Int → Int) : tS T (tBg T) := fun k hk => tBg_o (by omega)
theorem tBg_10 (T : Int → Int) : tBg T 10 = 0 := if_pos rfl
theorem tBg_m (T : Int → Int) {m : Int} (h0 : 0 ≤ m) (h1 : m < 6) : tBg T (11 + m) = T (67 + m) := by
  unfold tBg
  rw [if_neg (by omega), if_pos (by omega), show 67 + (11 + m - 11) = 67 + m by omega]
theorem tBg_t (T : Int → Int) {i : Int} (h0 : 0 ≤ i) (h1 : i < 8) : tBg T (17 + i) = T (73 + i) := by
  unfold tBg
  rw [if_neg (by omega), if_neg (by omega), if_pos (by omega), show 73 + (17 + i - 17) = 73 + i by omega]
theorem tBg_ok {T : Int → Int} (hR : tRv T) : tRv (tBg T) ∧ tWv (tBg T) ∧ ∀ t, 0 ≤ t → tIn (tBg T) t = -1 := by
  have hS := tBg_S T
  have hRb := tRv_S hS hR
  obtain ⟨t0, t3, t4, t5, t6, t55, tm, tt, tp, tl⟩ := hR
  refine ⟨hRb, ⟨by rw [tBg_10]; omega, fun m a b => ?_, fun t a b => ?_, fun m m' a b a' b' c1 c2 c3 => ?_⟩, fun t ht => tIn_n (fun j j0 j1 => ?_)⟩
  · rw [hS 5 (by omega)] at b
    rw [tBg_m T a (by omega), hS 1 (by omega)]
    have := tm m a b
    exact Or.inl ⟨this.2.2.2.2.2.2.1, this.2.2.2.2.2.2.2⟩
  · rw [hS 6 (by omega)] at b
    rw [tBg_t T (i := 2 * t) (by omega) (by omega), show 18 + 2 * t = 17 + (2 * t + 1) by omega, tBg_t T (i := 2 * t + 1) (by omega) (by omega), hS 1 (by omega), show 73 + (2 * t + 1) = 74 + 2 * t by omega]
    have := tt t a b
    omega
  · rw [hS 5 (by omega)] at b
    rw [tBg_m T a (by omega)] at c1
    have := tm m a b
    omega
  · rw [hS 5 (by omega)] at j1
    rw [tBg_m T j0 (by omega)]
    have := tm j j0 j1
    omega
theorem s_M_begins (d : Nat) (mem : jMem) : ∃ mem', M_begins (d + 1) mem = some (vU, mem') ∧ jrI mem' 55 0 = tBg (jrI mem 55 0) ∧ puR (fun f i k => f = 55 ∧ i = 0 ∧ 10 ≤ k ∧ k < 25) mem mem' := by
  rw [q_M_begins]
  obtain ⟨m1, a1, a2, a3⟩ := puUpE (P := fun i (m : jMem) => puR (fun f i k => f = 55 ∧ i = 0 ∧ 10 ≤ k ∧ k < 25) mem m ∧ ∀ k, jrI m 55 0 k = if k = 10 then 0 else if 11 ≤ k ∧ k < 11 + i then jrI mem 55 0 (67 + (k - 11)) else jrI mem 55 0 k) (L := fun i m => M_begins_10 d i m) (n := 6) (by decide) (fun i m i0 i1 hP => by
    obtain ⟨p1, p2⟩ := hP
    rw [q_M_begins_10, if_pos i1, jw32_id (x := 67 + i) (by omega) (by omega), jix_in (by omega) (by omega), jw32_id (x := 11 + i) (by omega) (by omega), jix_in (by omega) (by omega), jw32_id (x := i + 1) (by omega) (by omega), p1 55 0 (67 + i) (by omega)]
    refine ⟨_, rfl, puR_w p1 ⟨rfl, rfl, by omega, by omega⟩, fun k => ?_⟩
    by_cases e : k = 11 + i
    · rw [e, jrI_ws, if_neg (by omega), if_pos (by omega), show 67 + (11 + i - 11) = 67 + i by omega]
    · rw [jrI_wk e, p2 k]
      by_cases h10 : k = 10
      · rw [if_pos h10, if_pos h10]
      · rw [if_neg h10, if_neg h10]
        by_cases hk : 11 ≤ k ∧ k < 11 + i
        · rw [if_pos hk, if_pos (by omega)]
        · rw [if_neg hk, if_neg (by omega)]) (jwI mem 55 0 10 0) ⟨puR_w (puR_rf _ mem) ⟨rfl, rfl, by decide, by decide⟩, fun k => by
      by_cases h10 : k = 10
      · rw [if_pos h10, h10, jrI_ws]
      · rw [if_neg h10, jrI_wk h10, if_neg (by omega)]⟩
  obtain ⟨m2, b1, b2, b3⟩ := puUpE (P := fun i (m : jMem) => puR (fun f i k => f = 55 ∧ i = 0 ∧ 10 ≤ k ∧ k < 25) mem m ∧ ∀ k, jrI m 55 0 k = if k = 10 then 0 else if 11 ≤ k ∧ k < 17 then jrI mem 55 0 (67 + (k - 11)) else if 17 ≤ k ∧ k < 17 + i then jrI mem 55 0 (73 + (k - 17)) else jrI mem 55 0 k) (L := fun i m => M_begins_42 d i m) (n := 8) (by decide) (fun i m i0 i1 hP => by
    obtain ⟨p1, p2⟩ := hP
    rw [q_M_begins_42, if_pos i1, jw32_id (x := 73 + i) (by omega) (by omega), jix_in (by omega) (by omega), jw32_id (x := 17 + i) (by omega) (by omega), jix_in (by omega) (by omega), jw32_id (x := i + 1) (by omega) (by omega), p1 55 0 (73 + i) (by omega)]
    refine ⟨_, rfl, puR_w p1 ⟨rfl, rfl, by omega, by omega⟩, fun k => ?_⟩
    by_cases e : k = 17 + i
    · rw [e, jrI_ws, if_neg (by omega), if_neg (by omega), if_pos (by omega), show 73 + (17 + i - 17) = 73 + i by omega]
    · rw [jrI_wk e, p2 k]
      by_cases h10 : k = 10
      · rw [if_pos h10, if_pos h10]
      · rw [if_neg h10, if_neg h10]
        by_cases hk : 11 ≤ k ∧ k < 17
        · rw [if_pos hk, if_pos hk]
        · rw [if_neg hk, if_neg hk]
          by_cases hj : 17 ≤ k ∧ k < 17 + i
          · rw [if_pos hj, if_pos (by omega)]
          · rw [if_neg hj, if_neg (by omega)]) m1 ⟨a2, fun k => by
      rw [a3 k]
      by_cases h10 : k = 10
      · rw [if_pos h10, if_pos h10]
      · rw [if_neg h10, if_neg h10]
        by_cases hk : 11 ≤ k ∧ k < 17
        · rw [if_pos (show 11 ≤ k ∧ k < 11 + 6 by omega), if_pos hk]
        · rw [if_neg (show ¬ (11 ≤ k ∧ k < 11 + 6) by omega), if_neg hk, if_neg (by omega)]⟩
  have a1' : M_begins_10 d 0 (jwI mem 55 0 10 0) = M_begins_10 d 6 m1 := a1
  have b1' : M_begins_42 d 0 m1 = M_begins_42 d 8 m2 := b1
  rw [a1', q_M_begins_10, if_neg (by decide), b1', q_M_begins_42, if_neg (by decide)]
  refine ⟨m2, rfl, funext fun k => ?_, b2⟩
  rw [b3 k]
  rfl
theorem s_Wa_begin (d : Nat) (w r : Int) (T : Int → Int) (mem : jMem) (hR : tRv T) (cr : cRv mem r T) : ∃ mem', Wa_begin (d + 1) w r mem = some (vU, mem') ∧ cWv mem' w (tBg T) ∧ puR (fun f i k => ((f = 9 ∧ k = 0) ∨ (38 ≤ f ∧ f ≤ 43)) ∧ i = w) mem mem' := by
  obtain ⟨b1, b2, b3⟩ := tBg_ok hR
  have hS := tBg_S T
  have t5 := hR.2.2.2.1
  have t6 := hR.2.2.2.2.1
  rw [q_Wa_begin]
  obtain ⟨m1, c1, c2, c3, c4⟩ := puUpE (P := fun i (m : jMem) => puR (fun f i k => ((f = 9 ∧ k = 0) ∨ (38 ≤ f ∧ f ≤ 43)) ∧ i = w) mem m ∧ jrI m 9 w 0 = 0 ∧ ∀ k, 0 ≤ k → k < i → jrI m 38 w k = jrI mem 23 r k ∧ jrI m 39 w k = jrI mem 26 r k) (L := fun i m => Wa_begin_7 d w r i m) (n := 6) (by decide) (fun i m i0 i1 hP => by
    obtain ⟨p1, p2, p3⟩ := hP
    rw [q_Wa_begin_7, if_pos i1, jix_in i0 i1, jix_in i0 i1, jix_in i0 i1, jix_in i0 i1, jw32_id (x := i + 1) (by omega) (by omega), p1 23 r i (by omega)]
    rw [p1 26 r i (by omega)]
    refine ⟨_, rfl, puR_w (puR_w p1 ⟨Or.inr (by decide), rfl⟩) ⟨Or.inr (by decide), rfl⟩, by rw [jrI_wf (by decide), jrI_wf (by decide)]; exact p2, fun k k0 k1 => ?_⟩
    rw [jrI_wf (f := 39) (g := 38) (by decide)]
    by_cases e : k = i
    · rw [e, jrI_ws, jrI_ws]
      exact ⟨rfl, rfl⟩
    · rw [jrI_wk (f := 38) e, jrI_wk (f := 39) e, jrI_wf (g := 39) (by decide)]
      exact p3 k k0 (by omega)) (jwI mem 9 w 0 0) ⟨puR_w (puR_rf _ mem) ⟨Or.inl ⟨rfl, rfl⟩, rfl⟩, jrI_ws _ _ _ _ _, fun k k0 k1 => by omega⟩
  obtain ⟨m2, d1, d2, d3, d4, d5⟩ := puUpE (P := fun i (m : jMem) => puR (fun f i k => ((f = 9 ∧ k = 0) ∨ (38 ≤ f ∧ f ≤ 43)) ∧ i = w) mem m ∧ jrI m 9 w 0 = 0 ∧ (∀ k, 0 ≤ k → k < 6 → jrI m 38 w k = jrI mem 23 r k ∧ jrI m 39 w k = jrI mem 26 r k) ∧ ∀ k, 0 ≤ k → k < i → jrI m 40 w k = jrI mem 27 r k ∧ jrI m 41 w k = jrI mem 28 r k ∧ jrI m 42 w k = jrI mem 29 r k ∧ jrI m 43 w k = -1) (L := fun i m => Wa_begin_45 d w r i m) (n := 4) (by decide) (fun i m i0 i1 hP => by
    obtain ⟨p1, p2, p3, p4⟩ := hP
    rw [q_Wa_begin_45, if_pos i1, jix_in i0 i1, jix_in i0 i1, jix_in i0 i1, jix_in i0 i1, jix_in i0 i1, jix_in i0 i1, jix_in i0 i1, jw32_id (x := i + 1) (by omega) (by omega), p1 27 r i (by omega), p1 28 r i (by omega), p1 29 r i (by omega)]
    refine ⟨_, rfl, puR_w (puR_w (puR_w (puR_w p1 ⟨Or.inr (by decide), rfl⟩) ⟨Or.inr (by decide), rfl⟩) ⟨Or.inr (by decide), rfl⟩) ⟨Or.inr (by decide), rfl⟩, by rw [jrI_wf (by decide), jrI_wf (by decide), jrI_wf (by decide), jrI_wf (by decide)]; exact p2, fun k k0 k1 => ?_, fun k k0 k1 => ?_⟩
    · rw [jrI_wf (g := 38) (by decide), jrI_wf (g := 38) (by decide), jrI_wf (g := 38) (by decide), jrI_wf (g := 38) (by decide), jrI_wf (g := 39) (by decide), jrI_wf (g := 39) (by decide), jrI_wf (g := 39) (by decide), jrI_wf (g := 39) (by decide)]
      exact p3 k k0 k1
    · have r40 : ∀ j, jrI (jwI (jwI (jwI (jwI m 40 w i (jrI mem 27 r i)) 41 w i (jrI mem 28 r i)) 42 w i (jrI mem 29 r i)) 43 w i (-1)) 40 w j = jrI (jwI m 40 w i (jrI mem 27 r i)) 40 w j := fun j => by rw [jrI_wf (by decide), jrI_wf (by decide), jrI_wf (by decide)]
      have r41 : ∀ j, jrI (jwI (jwI (jwI (jwI m 40 w i (jrI mem 27 r i)) 41 w i (jrI mem 28 r i)) 42 w i (jrI mem 29 r i)) 43 w i (-1)) 41 w j = jrI (jwI (jwI m 40 w i (jrI mem 27 r i)) 41 w i (jrI mem 28 r i)) 41 w j := fun j => by rw [jrI_wf (by decide), jrI_wf (by decide)]
      have r42 : ∀ j, jrI (jwI (jwI (jwI (jwI m 40 w i (jrI mem 27 r i)) 41 w i (jrI mem 28 r i)) 42 w i (jrI mem 29 r i)) 43 w i (-1)) 42 w j = jrI (jwI (jwI (jwI m 40 w i (jrI mem 27 r i)) 41 w i (jrI mem 28 r i)) 42 w i (jrI mem 29 r i)) 42 w j := fun j => by rw [jrI_wf (by decide)]
      rw [r40, r41, r42]
      by_cases e : k = i
      · rw [e, jrI_ws, jrI_ws, jrI_ws, jrI_ws]
        exact ⟨rfl, rfl, rfl, rfl⟩
      · rw [jrI_wk (f := 40) e, jrI_wk (f := 41) e, jrI_wk (f := 42) e, jrI_wk (f := 43) e, jrI_wf (f := 40) (g := 41) (by decide), jrI_wf (f := 41) (g := 42) (by decide), jrI_wf (f := 40) (g := 42) (by decide), jrI_wf (f := 42) (g := 43) (by decide), jrI_wf (f := 41) (g := 43) (by decide), jrI_wf (f := 40) (g := 43) (by decide)]
        exact p4 k k0 (by omega)) m1 ⟨c2, c3, c4, fun k k0 k1 => by omega⟩
  have c1' : Wa_begin_7 d w r 0 (jwI mem 9 w 0 0) = Wa_begin_7 d w r 6 m1 := c1
  have d1' : Wa_begin_45 d w r 0 m1 = Wa_begin_45 d w r 4 m2 := d1
  rw [c1', q_Wa_begin_7, if_neg (by decide), d1', q_Wa_begin_45, if_neg (by decide)]
  refine ⟨m2, rfl, ⟨by rw [d3, tBg_10], fun m a b => ?_, fun t a b => ?_⟩, d2⟩
  · rw [hS 5 (by omega)] at b
    rw [(d4 m a (by omega)).1, (d4 m a (by omega)).2, tBg_m T a (by omega), hS (45 + m) (by omega)]
    exact ⟨(cr.2.2.2.2.2.2.2.1 m a b).1, (cr.2.2.2.2.2.2.2.1 m a b).2.2.2⟩
  · rw [hS 6 (by omega)] at b
    obtain ⟨g1, g2, g3, g4⟩ := d5 t a (by omega)
    obtain ⟨h1, h2, h3, h4⟩ := cr.2.2.2.2.2.2.2.2.1 t a b
    rw [g1, g2, g3, g4, b3 t a, tBg_t T (i := 2 * t) (by omega) (by omega), show 18 + 2 * t = 17 + (2 * t + 1) by omega, tBg_t T (i := 2 * t + 1) (by omega) (by omega), hS (25 + t) (by omega), show 73 + (2 * t + 1) = 74 + 2 * t by omega]
    exact ⟨h1, h2, h3, rfl⟩
