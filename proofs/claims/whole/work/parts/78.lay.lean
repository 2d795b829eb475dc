/-! Trials in another water: lay, throats -/
theorem s_try (d : Nat) (o : Option Int) (ev : tEvT) (T' : Int → Int) (n : Nat) (mem m : jMem) (hR : tRv T') (hW : tWv T') (h1 : T' 0 = 1) (hn : T' 10 + (n : Int) < 100000) (cr : cRw mem 0 T') (hev : cEvt mem o ev) (hr : puR aX mem m) (cw : cWv m 25 T') : ∃ m', Sm_pass (d + 7) 1 0 25 o (n : Int) m = some (vU, m') ∧ cWv m' 25 (tIt ev n T') ∧ puR aX mem m' := by
  obtain ⟨m', a1, a2, a3, -⟩ := s_Sm_pass d 1 0 25 o ev T' n m hR hW h1 hn (cRw_fr (fun f k hf => hr f 0 k (by unfold aX; omega)) cr) cw (cEvt_X hr hev) (fun _ => trivial)
  exact ⟨m', a1, a2, puR_tr hr (X_N (by decide) a3)⟩
theorem s_mtry (d : Nat) (ev : tEvT) (T' : Int → Int) (n : Nat) (mem m : jMem) (hR : tRv T') (hW : tWv T') (h1 : T' 0 = 1) (hn : T' 10 + (n : Int) < 100000) (hev : mEv mem ev) (hk : mKept mem m) (hs : jrI m 55 0 = T') (hl : jrI m 11 0 23 = -1) : ∃ m', M_passesAll (d + 8) (n : Int) m = some (vU, m') ∧ jrI m' 55 0 = tIt ev n T' ∧ mKept mem m' ∧ jrI m' 11 0 23 = -1 := by
  obtain ⟨m', a1, a2, a3, a4⟩ := s_M_passesAll d ev n m T' hs hR hW h1 hn (mEv_R (fun f i k hf => by unfold aY at hf; omega) hk.2 hev) hl
  exact ⟨m', a1, a2, mKept_Y hk (Y_3 a3), a4⟩
/-- the trial water, laid as the scene's, from any state -/
theorem s_lay25 (d : Nat) (T : Int → Int) (mem m : jMem) (hR : tRv T) (cw : cWv mem 0 T) (hr : puR aX mem m) : ∃ m', Wa_copy (d + 1) 25 0 m = some (vU, m') ∧ cWv m' 25 T ∧ puR aX mem m' := by
  obtain ⟨m', a1, a2, a3, -⟩ := s_copy25 d T m hR (cWv_fr (fun f k hf => hr f 0 k (by unfold aX; omega)) cw)
  exact ⟨m', a1, a2, puR_tr hr a3⟩
theorem cWv_pl {mem : jMem} {w x v : Int} {T : Int → Int} (h5 : T 5 ≤ 6) (hx : 0 ≤ x ∧ x < T 5) (h1 : T (11 + x) < 20 ∨ 30 ≤ T (11 + x)) (h2 : v < 20 ∨ 30 ≤ v) (h6 : T 6 ≤ 4) (hc : cWv mem w T) : cWv (jwI mem 38 w x v) w (tUp T (11 + x) v) := by
  obtain ⟨c0, c1, c2⟩ := hc
  unfold cWv
  rw [tUp_n (j := 10) (by omega), tUp_n (j := 5) (by omega), tUp_n (j := 6) (by omega), jrI_wf (g := 9) (by decide)]
  refine ⟨c0, fun m a b => ?_, fun t a b => ?_⟩
  · rw [jrI_wf (g := 39) (by decide), tUp_n (j := 45 + m) (by omega)]
    by_cases e : m = x
    · rw [e, jrI_ws, tUp_s]
      exact ⟨rfl, (c1 x hx.1 hx.2).2⟩
    · rw [jrI_wk e, tUp_n (by omega)]
      exact c1 m a b
  · rw [jrI_wf (g := 40) (by decide), jrI_wf (g := 41) (by decide), jrI_wf (g := 42) (by decide), jrI_wf (g := 43) (by decide), tUp_n (j := 17 + 2 * t) (by omega), tUp_n (j := 25 + t) (by omega), tUp_n (j := 18 + 2 * t) (by omega), tIn_pl (by omega) (by omega) ⟨hx.1, by omega⟩]
    exact c2 t a b
theorem mKept_w {mem m : jMem} {k v : Int} (h : mKept mem m) (h0 : 10 ≤ k) (h1 : k < 25) : mKept mem (jwI m 55 0 k v) := mKept_Y h (puR_w (puR_rf _ m) (by unfold aY; omega))
theorem said_w {m : jMem} {T : Int → Int} (k v : Int) (h : jrI m 55 0 = T) : jrI (jwI m 55 0 k v) 55 0 = tUp T k v := by
  funext j
  unfold tUp
  by_cases e : j = k
  · rw [if_pos e, e, jrI_ws]
  · rw [if_neg e, jrI_wk e, h]
theorem p_lay (x n p y : Int) : pCase (E_lay 60 x n p y) (M_lay 60 x n p y) := fun mem hi hm => by
  obtain ⟨hR, hW, hN, h999, cr, cw, cn, hl⟩ := pNow hi
  have t5 := hR.2.2.2.1
  have t6 := hR.2.2.2.2.1
  have h10 := hW.1
  have t1 : 0 ≤ jrI mem 55 0 1 ∧ jrI mem 55 0 1 ≤ 12 := by have := hR.1; omega
  have r1 := cr.2.1
  generalize hT : jrI mem 55 0 = T at *
  have ms : ∀ m, jrI m 55 0 = T → M_lay 60 x n p y m = if jb ((0 ≤ x ∧ x < T 5) ∧ 0 ≤ T (11 + x) ∧ T (11 + x) < 12) = 0 then some (vI (-1), m) else if jb (1 ≤ n ∧ n ≤ 40) = 0 then some (vI (-1), m) else if jb (0 ≤ p ∧ p < T 1) = 0 then some (vI (-1), m) else if jb (0 ≤ y ∧ y ≤ 1) = 0 then some (vI (-1), m) else jbnd (M_keeps 59 m) fun _ mem6 => M_lay_51 59 x n p y 0 0 mem6 := fun m h9 => by
    rw [q_M_lay 59, s_M_isFree2 57 x T m hR hW h9]
    simp only [jbnd_s, jasI_v, s_M_in, s_M_isPool, h9]
  rw [q_E_lay 59, s_E_isFree 56 x T mem hR cr cw]
  simp only [jbnd_s, jasI_v, s_E_within]
  by_cases hx : (0 ≤ x ∧ x < T 5) ∧ 0 ≤ T (11 + x) ∧ T (11 + x) < 12
  case neg =>
    rw [jb_n hx, if_pos rfl]
    refine ⟨-1, mem, rfl, fun _ => ⟨mem, ?_, hi⟩⟩
    rw [ms mem hT, jb_n hx, if_pos rfl]
  rw [jb_1 hx, if_neg (by decide)]
  by_cases hn : 1 ≤ n ∧ n ≤ 40
  case neg =>
    rw [jb_n hn, if_pos rfl]
    refine ⟨-1, mem, rfl, fun _ => ⟨mem, ?_, hi⟩⟩
    rw [ms mem hT, jb_1 hx, if_neg (by decide), jb_n hn, if_pos rfl]
  rw [jb_1 hn, if_neg (by decide), s_E_isPool 57 p mem (by omega) (by omega), r1]
  simp only [jbnd_s, jasI_v]
  by_cases hp : 0 ≤ p ∧ p < T 1
  case neg =>
    rw [jb_n hp, if_pos rfl]
    refine ⟨-1, mem, rfl, fun _ => ⟨mem, ?_, hi⟩⟩
    rw [ms mem hT, jb_1 hx, if_neg (by decide), jb_1 hn, if_neg (by decide), jb_n hp, if_pos rfl]
  rw [jb_1 hp, if_neg (by decide)]
  by_cases hy : 0 ≤ y ∧ y ≤ 1
  case neg =>
    rw [jb_n hy, if_pos rfl]
    refine ⟨-1, mem, rfl, fun _ => ⟨mem, ?_, hi⟩⟩
    rw [ms mem hT, jb_1 hx, if_neg (by decide), jb_1 hn, if_neg (by decide), jb_1 hp, if_neg (by decide), jb_n hy, if_pos rfl]
  rw [jb_1 hy, if_neg (by decide)]
  have hx2 := hx
  obtain ⟨⟨x0, x1⟩, hf⟩ := hx
  have h1 := told1 hR (by omega)
  obtain ⟨o, ev, e1, e2, e3⟩ := pEv hi 57
  obtain ⟨k, rfl⟩ := Int.eq_ofNat_of_zero_le (show 0 ≤ n by omega)
  rw [e1]
  simp only [jbnd_s, jasR_v]
  rw [q_As_poolsBefore]
  -- of each pool
  have hV : ∀ v, 0 ≤ v → v < T 1 → tS T (tUp T (11 + x) v) ∧ tRv (tUp T (11 + x) v) ∧ tWv (tUp T (11 + x) v) ∧ tUp T (11 + x) v 0 = 1 ∧ tUp T (11 + x) v 10 = T 10 := fun v v0 v1 => by
    have hS : tS T (tUp T (11 + x) v) := fun j hj => tUp_n (by omega)
    exact ⟨hS, tRv_S hS hR, tWv_pl hW ⟨x0, x1⟩ t5.2 (Or.inl ⟨v0, v1, by omega⟩), by rw [tUp_n (by omega)]; exact h1, tUp_n (by omega)⟩
  have hI : ∀ v, 0 ≤ v → v < T 1 → tIt ev k (tUp T (11 + x) v) 5 = T 5 ∧ -100 ≤ tIt ev k (tUp T (11 + x) v) 10 := fun v v0 v1 => by
    obtain ⟨s1, s2, s3, s4, s5⟩ := hV v v0 v1
    obtain ⟨q1, q2, q3⟩ := tIt_ok ev s2 s3 s4 k (by omega)
    exact ⟨by rw [q1 5 (by omega)]; exact s1 5 (by omega), by rw [q3]; omega⟩
  obtain ⟨⟨S, m1⟩, c1, c2, c3⟩ := puUpE (P := fun i (z : Int × jMem) => z.1 = tSet (fun v => tIt ev k (tUp T (11 + x) v) (11 + x) = p) i ∧ puR aX mem z.2) (L := fun i z => As_poolsBefore_6 58 0 o x (k : Int) p z.1 i z.2) (n := T 1) t1.1 (fun i z i0 i1 hP => by
    obtain ⟨S, m⟩ := z
    obtain ⟨p1, p2⟩ := hP
    show ∃ z' : Int × jMem, As_poolsBefore_6 58 0 o x (k : Int) p S i m = As_poolsBefore_6 58 0 o x (k : Int) p z'.1 (i + 1) z'.2 ∧ _
    obtain ⟨s1, s2, s3, s4, s5⟩ := hV i i0 i1
    obtain ⟨m2, d1, d2, d3⟩ := s_lay25 57 T mem m hR cw p2
    rw [q_As_poolsBefore_6, p2 4 0 1 (by unfold aX; omega), r1, if_pos i1, d1]
    simp only [jbnd_s]
    rw [jix_in x0 (by omega)]
    obtain ⟨m3, f1, f2, f3⟩ := s_try 51 o ev (tUp T (11 + x) i) k mem (jwI m2 38 25 x i) s2 s3 s4 (by omega) (cRw_cong hR (fun j j0 j1 j2 j3 => s1 j (by omega)) (cRw_of cr)) e2 (puR_w d3 (by unfold aX; omega)) (cWv_pl t5.2 ⟨x0, x1⟩ (by omega) (by omega) t6.2 d2)
    rw [f1]
    simp only [jbnd_s]
    rw [jix_in x0 (by omega), (f2.2.1 x x0 (by rw [(hI i i0 i1).1]; exact x1)).1, jw32_id (x := i + 1) (by omega) (by omega), tSet_s _ i0]
    have hS : S = tSet (fun v => tIt ev k (tUp T (11 + x) v) (11 + x) = p) i := p1
    by_cases hq : tIt ev k (tUp T (11 + x) i) (11 + x) = p
    · rw [if_pos hq, if_pos hq]
      exact ⟨(jor S (jshl 1 i), m3), rfl, by rw [hS], f3⟩
    · rw [if_neg hq, if_neg hq]
      exact ⟨(S, m3), rfl, hS, f3⟩) (0, mem) ⟨rfl, puR_rf _ mem⟩
  have c1' : As_poolsBefore_6 58 0 o x (k : Int) p 0 0 mem = As_poolsBefore_6 58 0 o x (k : Int) p S (T 1) m1 := c1
  have c2' : S = tSet (fun v => tIt ev k (tUp T (11 + x) v) (11 + x) = p) (T 1) := c2
  have c3' : puR aX mem m1 := c3
  rw [c1', q_As_poolsBefore_6, c3' 4 0 1 (by unfold aX; omega), r1, if_neg (by omega)]
  simp only [jbnd_s, jasI_v]
  obtain ⟨w, hw⟩ := Int.eq_ofNat_of_zero_le t1.1
  have hpop := tSet_pop (fun v => tIt ev k (tUp T (11 + x) v) (11 + x) = p) w (by omega)
  have hpw : ((2 ^ w : Nat) : Int) ≤ 4096 := by
    have : 2 ^ w ≤ 2 ^ 12 := Nat.pow_le_pow_right (by decide) (by omega)
    omega
  rw [← hw, ← c2'] at hpop
  have hres : ∃ r, (if y = 0 then jbnd (J_bitCount 59 S m1) fun v13 mem14 => some (vI (jasI v13), mem14) else some (vI S, m1)) = some (vI r, m1) ∧ r = if y = 0 then tPop S else S := by
    by_cases hy0 : y = 0
    · rw [if_pos hy0, if_pos hy0, s_J_bitCount 58 S m1 hpop.1 (by omega)]
      simp only [jbnd_s, jasI_v]
      exact ⟨_, rfl, rfl⟩
    · rw [if_neg hy0, if_neg hy0]
      exact ⟨_, rfl, rfl⟩
  obtain ⟨r, hr1, hr2⟩ := hres
  refine ⟨r, m1, hr1, fun _ => ?_⟩
  -- the reference
  have hs : jrI m1 55 0 = T := by rw [X_said c3']; exact hT
  obtain ⟨m2, b1, b2, b3, b4, -⟩ := s_keep 58 m1
  have hl1 : jrI m1 11 0 23 = -1 := by rw [X_23 c3']; exact hl
  rw [ms m1 hs, jb_1 hx2, if_neg (by decide), jb_1 hn, if_neg (by decide), jb_1 hp, if_neg (by decide), jb_1 hy, if_neg (by decide), b1]
  simp only [jbnd_s]
  obtain ⟨⟨S2, m9⟩, g1, g2, g3, g4, g5, g6⟩ := puUpE (P := fun i (z : Int × jMem) => z.1 = tSet (fun v => tIt ev k (tUp T (11 + x) v) (11 + x) = p) i ∧ mKept m1 z.2 ∧ jrI z.2 55 0 = T ∧ jrI z.2 11 0 23 = -1 ∧ puR aX m1 z.2) (L := fun i z => M_lay_51 59 x (k : Int) p y z.1 i z.2) (n := T 1) t1.1 (fun i z i0 i1 hP => by
    obtain ⟨S, m⟩ := z
    obtain ⟨p1, p2, p3, p4, p5⟩ := hP
    show ∃ z' : Int × jMem, M_lay_51 59 x (k : Int) p y S i m = M_lay_51 59 x (k : Int) p y z'.1 (i + 1) z'.2 ∧ _
    have p3' : jrI m 55 0 = T := p3
    obtain ⟨s1, s2, s3, s4, s5⟩ := hV i i0 i1
    obtain ⟨m3, f1, f2, f3, f4⟩ := s_mtry 51 ev (tUp T (11 + x) i) k m1 (jwI m 55 0 (11 + x) i) s2 s3 s4 (by omega) (mEv_X c3' e3) (mKept_w p2 (by omega) (by omega)) (said_w _ _ p3') (by rw [jrI_wf (by decide)]; exact p4)
    obtain ⟨m4, d1, d2, d3, d4, d5, -⟩ := s_back 58 m1 m3 f3 (by rw [f4, hl1])
    rw [q_M_lay_51, p3', if_pos i1, jw32_id (x := 11 + x) (by omega) (by omega), jix_in (by omega) (by omega), f1]
    simp only [jbnd_s]
    rw [jix_in (by omega) (by omega), f2, jw32_id (x := i + 1) (by omega) (by omega), d1, tSet_s _ i0]
    simp only [jbnd_s]
    have hS : S = tSet (fun v => tIt ev k (tUp T (11 + x) v) (11 + x) = p) i := p1
    by_cases hq : tIt ev k (tUp T (11 + x) i) (11 + x) = p
    · rw [if_pos hq, if_pos hq]
      exact ⟨(jor S (jshl 1 i), m4), rfl, by rw [hS], d4, by rw [← hs]; exact d2, by rw [← hl1]; exact d5, d3⟩
    · rw [if_neg hq, if_neg hq]
      exact ⟨(S, m4), rfl, hS, d4, by rw [← hs]; exact d2, by rw [← hl1]; exact d5, d3⟩) (0, m2) ⟨rfl, b2, by rw [b3]; exact hs, by rw [X_23 b4]; exact hl1, b4⟩
  have g1' : M_lay_51 59 x (k : Int) p y 0 0 m2 = M_lay_51 59 x (k : Int) p y S2 (T 1) m9 := g1
  have g2' : S2 = S := by rw [c2']; exact g2
  have g4' : jrI m9 55 0 = T := g4
  rw [g1', q_M_lay_51, g4', if_neg (by omega), g2', hr2]
  have hfin : pInv m9 := pInv_fr g6 (pInv_fr c3' hi)
  by_cases hy0 : y = 0
  · rw [if_pos hy0, if_pos hy0, s_M_bits 58 S m9 hpop.1 (by omega)]
    simp only [jbnd_s, jasI_v]
    exact ⟨m9, rfl, hfin⟩
  · rw [if_neg hy0, if_neg hy0]
    exact ⟨m9, rfl, hfin⟩
/-! throats -/
theorem tThr {T : Int → Int} {x v : Int} (hR : tRv T) (hW : tWv T) (hx : 0 ≤ x ∧ x < T 6) (hv : 1 ≤ v ∧ v ≤ 9) : tRv (tUp T (25 + x) v) ∧ tWv (tUp T (25 + x) v) := by
  obtain ⟨t0, t3, t4, t5, t6, t55, tm, tt, tp, tl⟩ := hR
  obtain ⟨w1, w2, w3, w4⟩ := hW
  have e : ∀ j, j < 25 ∨ 29 ≤ j → tUp T (25 + x) v j = T j := fun j hj => tUp_n (by omega)
  constructor
  · unfold tRv
    rw [e 0 (by omega), e 1 (by omega), e 2 (by omega), e 3 (by omega), e 4 (by omega), e 5 (by omega), e 6 (by omega), e 55 (by omega)]
    refine ⟨t0, t3, t4, t5, t6, t55, fun m a b => ?_, fun m a b => ?_, fun m a b => ?_, fun m a b => ?_⟩
    · rw [e (33 + m) (by omega), e (39 + m) (by omega), e (45 + m) (by omega), e (67 + m) (by omega)]
      exact tm m a b
    · rw [e (29 + m) (by omega), e (73 + 2 * m) (by omega), e (74 + 2 * m) (by omega)]
      have := tt m a b
      by_cases h : m = x
      · rw [h, tUp_s]
        rw [h] at this
        omega
      · rw [tUp_n (by omega)]
        exact this
    · rw [e (51 + m) (by omega)]
      exact tp m a b
    · rw [e (55 + m) (by omega)]
      exact tl m a b
  · unfold tWv
    rw [e 10 (by omega), e 1 (by omega), e 4 (by omega), e 5 (by omega), e 6 (by omega)]
    refine ⟨w1, fun m a b => ?_, fun t a b => ?_, fun m m' a b c d => ?_⟩
    · rw [e (11 + m) (by omega)]
      exact w2 m a b
    · rw [e (17 + 2 * t) (by omega), e (18 + 2 * t) (by omega)]
      exact w3 t a b
    · rw [e (11 + m) (by omega), e (11 + m') (by omega)]
      exact w4 m m' a b c d
theorem cWv_th {mem : jMem} {w x v : Int} {T : Int → Int} (h5 : T 5 ≤ 6) (h6 : T 6 ≤ 4) (hx : 0 ≤ x ∧ x < T 6) (hc : cWv mem w T) : cWv (jwI mem 41 w x v) w (tUp T (25 + x) v) := by
  obtain ⟨c0, c1, c2⟩ := hc
  unfold cWv
  rw [tUp_n (j := 10) (by omega), tUp_n (j := 5) (by omega), tUp_n (j := 6) (by omega), jrI_wf (g := 9) (by decide)]
  refine ⟨c0, fun m a b => ?_, fun t a b => ?_⟩
  · rw [jrI_wf (g := 38) (by decide), jrI_wf (g := 39) (by decide), tUp_n (j := 11 + m) (by omega), tUp_n (j := 45 + m) (by omega)]
    exact c1 m a b
  · rw [jrI_wf (g := 40) (by decide), jrI_wf (g := 42) (by decide), jrI_wf (g := 43) (by decide), tUp_n (j := 17 + 2 * t) (by omega), tUp_n (j := 18 + 2 * t) (by omega), tIn_cong (T' := tUp T (25 + x) v) (T := T) (tUp_n (by omega)) (fun m a b => by rw [tUp_n (by omega)])]
    by_cases e : t = x
    · rw [e, jrI_ws, tUp_s]
      exact ⟨(c2 x hx.1 hx.2).1, rfl, (c2 x hx.1 hx.2).2.2⟩
    · rw [jrI_wk e, tUp_n (by omega)]
      exact c2 t a b
/-- kept, but for one number that is told otherwise -/
theorem mKept_o {mem m : jMem} {k u v : Int} (hk : 25 ≤ k) (h : mKept (jwI mem 55 0 k u) m) : mKept (jwI mem 55 0 k v) (jwI m 55 0 k v) := by
  obtain ⟨a, b⟩ := h
  refine ⟨fun j j0 j1 => ?_, fun f i j hf => ?_⟩
  · have := a j j0 j1
    rw [jrI_wk (by omega)] at this
    rw [jrI_wf (by decide), jrI_wk (by omega)]
    exact this
  · rw [jrI_w, jrI_w]
    by_cases e : f = 55 ∧ i = 0 ∧ j = k
    · rw [if_pos e, if_pos e]
    · rw [if_neg e, if_neg e]
      have := b f i j hf
      rw [jrI_w, if_neg e] at this
      exact this
theorem p_throats (x n : Int) : pCase (E_throats 60 x n) (M_throats 60 x n) := fun mem hi hm => by
  obtain ⟨hR, hW, hN, h999, cr, cw, cn, hl⟩ := pNow hi
  have t5 := hR.2.2.2.1
  have t6 := hR.2.2.2.2.1
  have h10 := hW.1
  generalize hT : jrI mem 55 0 = T at *
  have ms : ∀ m, jrI m 55 0 = T → M_throats 60 x n m = if jb (0 ≤ x ∧ x < T 6 ∧ tIn T x = -1) = 0 then some (vI (-1), m) else if jb (1 ≤ n ∧ n ≤ 40) = 0 then some (vI (-1), m) else jix 112 (jw32 (25 + x)) (jbnd (M_keeps 59 m) fun _ mem6 => M_throats_43 59 x n (T (jw32 (25 + x))) (-2) 1 mem6) := fun m h9 => by
    rw [q_M_throats 59, s_M_isEmptyTrap 57 x T m hR h9]
    simp only [jbnd_s, jasI_v, s_M_in, h9]
  rw [q_E_throats 59, s_E_isEmptyTrap 56 x T mem hR cr cw]
  simp only [jbnd_s, jasI_v, s_E_within]
  by_cases hx : 0 ≤ x ∧ x < T 6 ∧ tIn T x = -1
  case neg =>
    rw [jb_n hx, if_pos rfl]
    refine ⟨-1, mem, rfl, fun _ => ⟨mem, ?_, hi⟩⟩
    rw [ms mem hT, jb_n hx, if_pos rfl]
  rw [jb_1 hx, if_neg (by decide)]
  by_cases hn : 1 ≤ n ∧ n ≤ 40
  case neg =>
    rw [jb_n hn, if_pos rfl]
    refine ⟨-1, mem, rfl, fun _ => ⟨mem, ?_, hi⟩⟩
    rw [ms mem hT, jb_1 hx, if_neg (by decide), jb_n hn, if_pos rfl]
  rw [jb_1 hn, if_neg (by decide)]
  have hx2 := hx
  obtain ⟨x0, x1, hin⟩ := hx
  have h1 := told1 hR (by omega)
  obtain ⟨o, ev, e1, e2, e3⟩ := pEv hi 57
  obtain ⟨k, rfl⟩ := Int.eq_ofNat_of_zero_le (show 0 ≤ n by omega)
  rw [e1]
  simp only [jbnd_s, jasR_v]
  rw [q_As_leastThroat]
  have hV : ∀ v, 1 ≤ v → v ≤ 9 → tRv (tUp T (25 + x) v) ∧ tWv (tUp T (25 + x) v) ∧ tUp T (25 + x) v 0 = 1 ∧ tUp T (25 + x) v 10 = T 10 ∧ tUp T (25 + x) v 6 = T 6 ∧ tUp T (25 + x) v 5 = T 5 := fun v v0 v1 => by
    obtain ⟨a, b⟩ := tThr hR hW ⟨x0, x1⟩ ⟨v0, v1⟩
    exact ⟨a, b, by rw [tUp_n (by omega)]; exact h1, tUp_n (by omega), tUp_n (by omega), tUp_n (by omega)⟩
  have hI : ∀ v, 1 ≤ v → v ≤ 9 → tIt ev k (tUp T (25 + x) v) 5 = T 5 ∧ tIt ev k (tUp T (25 + x) v) 6 = T 6 := fun v v0 v1 => by
    obtain ⟨s2, s3, s4, s5, s6, s7⟩ := hV v v0 v1
    obtain ⟨q1, q2, q3⟩ := tIt_ok ev s2 s3 s4 k (by omega)
    exact ⟨by rw [q1 5 (by omega)]; exact s7, by rw [q1 6 (by omega)]; exact s6⟩
  have cls : ∀ (c : Nat) (v : Int) (m : jMem), 1 ≤ v → v + (c : Int) = 10 → puR aX mem m → ∃ m', As_leastThroat_3 58 0 o x (k : Int) v m = some (vI (tCv (puG (fun v => tIn (tIt ev k (tUp T (25 + x) v)) x ≠ -1) c v)), m') ∧ puR aX mem m' := by
    intro c
    induction c with
    | zero =>
      intro v m v0 v1 hr
      rw [q_As_leastThroat_3, if_pos (by omega)]
      exact ⟨m, rfl, hr⟩
    | succ c ih =>
      intro v m v0 v1 hr
      obtain ⟨s2, s3, s4, s5, s6, s7⟩ := hV v v0 (by omega)
      obtain ⟨m2, d1, d2, d3⟩ := s_lay25 57 T mem m hR cw hr
      rw [q_As_leastThroat_3, if_neg (by omega), d1]
      simp only [jbnd_s]
      rw [jix_in x0 (by omega)]
      obtain ⟨m3, f1, f2, f3⟩ := s_try 51 o ev (tUp T (25 + x) v) k mem (jwI m2 41 25 x v) s2 s3 s4 (by omega) (cRw_cong hR (fun j j0 j1 j2 j3 => tUp_n (by omega)) (cRw_of cr)) e2 (puR_w d3 (by unfold aX; omega)) (cWv_th t5.2 t6.2 ⟨x0, x1⟩ d2)
      rw [f1]
      simp only [jbnd_s]
      rw [jix_in x0 (by omega), (f2.2.2 x x0 (by rw [(hI v v0 (by omega)).2]; exact x1)).2.2.2, jw32_id (x := v + 1) (by omega) (by omega), puG_s]
      by_cases hq : tIn (tIt ev k (tUp T (25 + x) v)) x = -1
      · rw [if_pos hq, if_neg (fun w => w hq)]
        exact ih (v + 1) m3 (by omega) (by omega) f3
      · rw [if_neg hq, if_pos hq, show tCv v = v from if_neg (by omega)]
        exact ⟨m3, rfl, f3⟩
  obtain ⟨m1, c1, c2⟩ := cls 9 1 mem (by decide) (by omega) (puR_rf _ mem)
  rw [c1]
  simp only [jbnd_s, jasI_v]
  refine ⟨_, m1, rfl, fun _ => ?_⟩
  -- the reference
  have hs : jrI m1 55 0 = T := by rw [X_said c2]; exact hT
  obtain ⟨m2, b1, b2, b3, b4, -⟩ := s_keep 58 m1
  have hl1 : jrI m1 11 0 23 = -1 := by rw [X_23 c2]; exact hl
  rw [ms m1 hs, jb_1 hx2, if_neg (by decide), jb_1 hn, if_neg (by decide), jw32_id (x := 25 + x) (by omega) (by omega), jix_in (by omega) (by omega), b1]
  simp only [jbnd_s]
  -- the end: the throat as it was
  have fin : ∀ (A u : Int) (m : jMem), jrI m 55 0 = tUp T (25 + x) u → puR aX (jwI m1 55 0 (25 + x) u) m → ∃ m', M_throats_93 59 x (T (25 + x)) A m = some (vI A, m') ∧ pInv m' := fun A u m hs9 hr9 => by
    rw [q_M_throats_93, jw32_id (x := 25 + x) (by omega) (by omega), jix_in (by omega) (by omega)]
    refine ⟨_, rfl, pInv_fr (mem := m1) (fun f i j hf => ?_) (pInv_fr c2 hi)⟩
    rw [jrI_w]
    by_cases e : f = 55 ∧ i = 0 ∧ j = 25 + x
    · rw [if_pos e, e.1, e.2.1, e.2.2, hs]
    · rw [if_neg e, hr9 f i j hf, jrI_w, if_neg e]
  have evb : ∀ u, mEv (jwI m1 55 0 (25 + x) u) ev := fun u => mEv_R (A := fun f _ _ => f = 55) (fun f i k hf => by omega) (puR_w (puR_rf _ m1) rfl) (mEv_X c2 e3)
  have ref : ∀ (c : Nat) (v u : Int) (m : jMem), 1 ≤ v → v + (c : Int) = 10 → mKept (jwI m1 55 0 (25 + x) u) m → jrI m 55 0 = tUp T (25 + x) u → jrI m 11 0 23 = -1 → puR aX (jwI m1 55 0 (25 + x) u) m → ∃ m', M_throats_43 59 x (k : Int) (T (25 + x)) (-2) v m = some (vI (tCv (puG (fun v => tIn (tIt ev k (tUp T (25 + x) v)) x ≠ -1) c v)), m') ∧ pInv m' := by
    intro c
    induction c with
    | zero =>
      intro v u m v0 v1 hk hs9 hl9 hr9
      rw [q_M_throats_43, if_pos (by omega)]
      exact fin _ u m hs9 hr9
    | succ c ih =>
      intro v u m v0 v1 hk hs9 hl9 hr9
      obtain ⟨s2, s3, s4, s5, s6, s7⟩ := hV v v0 (by omega)
      have hs8 : jrI (jwI m 55 0 (25 + x) v) 55 0 = tUp T (25 + x) v := by
        rw [said_w _ _ hs9]
        funext j
        unfold tUp
        by_cases e : j = 25 + x
        · rw [if_pos e, if_pos e]
        · rw [if_neg e, if_neg e, if_neg e]
      obtain ⟨m3, f1, f2, f3, f4⟩ := s_mtry 51 ev (tUp T (25 + x) v) k (jwI m1 55 0 (25 + x) v) (jwI m 55 0 (25 + x) v) s2 s3 s4 (by omega) (evb v) (mKept_o (by omega) hk) hs8 (by rw [jrI_wf (by decide)]; exact hl9)
      have hlb : jrI (jwI m1 55 0 (25 + x) v) 11 0 23 = -1 := by rw [jrI_wf (by decide)]; exact hl1
      obtain ⟨m4, d1, d2, d3, d4, d5, -⟩ := s_back 58 (jwI m1 55 0 (25 + x) v) m3 f3 (by rw [f4, hlb])
      have d2' : jrI m4 55 0 = tUp T (25 + x) v := by rw [d2]; exact said_w _ _ hs
      rw [q_M_throats_43, if_neg (by omega), if_pos (by decide), jw32_id (x := 25 + x) (by omega) (by omega), jix_in (by omega) (by omega), f1]
      simp only [jbnd_s]
      rw [s_M_memoryIn 58 x m3 (by rw [f2, (hI v v0 (by omega)).1]; exact t5) ⟨x0, by omega⟩, f2]
      simp only [jbnd_s, jasI_v]
      rw [d1, jw32_id (x := v + 1) (by omega) (by omega), puG_s]
      simp only [jbnd_s]
      rw [hlb] at d5
      by_cases hq : tIn (tIt ev k (tUp T (25 + x) v)) x = -1
      · rw [if_pos (by omega), if_neg (fun w => w hq)]
        exact ih (v + 1) v m4 (by omega) (by omega) d4 d2' d5 d3
      · have hge : ¬ tIn (tIt ev k (tUp T (25 + x) v)) x < 0 := by
          rw [tIn_neg]
          exact hq
        rw [if_neg hge, if_pos hq, show tCv v = v from if_neg (by omega), q_M_throats_43]
        by_cases hlast : 9 < v + 1
        · rw [if_pos hlast]
          exact fin _ v m4 d2' d3
        · rw [if_neg hlast, if_neg (by omega)]
          exact fin _ v m4 d2' d3
  have hself : jwI m1 55 0 (25 + x) (T (25 + x)) = jwI m1 55 0 (25 + x) (T (25 + x)) := rfl
  have hst : ∀ f i j, jrI (jwI m1 55 0 (25 + x) (T (25 + x))) f i j = jrI m1 f i j := fun f i j => by
    rw [jrI_w]
    by_cases e : f = 55 ∧ i = 0 ∧ j = 25 + x
    · rw [if_pos e, e.1, e.2.1, e.2.2, hs]
    · rw [if_neg e]
  have hup : tUp T (25 + x) (T (25 + x)) = T := by
    funext j
    unfold tUp
    by_cases e : j = 25 + x
    · rw [if_pos e, e]
    · rw [if_neg e]
  exact ref 9 1 (T (25 + x)) m2 (by decide) (by omega) ⟨fun j j0 j1 => by rw [hst]; exact b2.1 j j0 j1, fun f i j hf => by rw [hst]; exact b2.2 f i j hf⟩ (by rw [b3, hs, hup]) (by rw [X_23 b4]; exact hl1) (fun f i j hf => by rw [hst]; exact b4 f i j hf)
