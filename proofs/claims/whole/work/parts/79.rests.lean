/-! rests -/
def aT (f : Nat) (i k : Int) : Prop := f = 7 ∨ (34 ≤ f ∧ f ≤ 36) ∨ (((f = 9 ∧ k = 0) ∨ (38 ≤ f ∧ f ≤ 43)) ∧ i = 25)
theorem s_tryb (d : Nat) (o : Option Int) (ev : tEvT) (T' : Int → Int) (n : Nat) (mem m : jMem) (hR : tRv T') (hW : tWv T') (h1 : T' 0 = 1) (hn : T' 10 + (n : Int) < 100000) (cr : cRw mem 0 T') (hev : cEvt mem o ev) (hr : puR aX mem m) (cw : cWv m 25 T') : ∃ m', Sm_pass (d + 7) 1 0 25 o (n : Int) m = some (vU, m') ∧ cWv m' 25 (tIt ev n T') ∧ puR aX mem m' ∧ puR aT m m' ∧ (∀ f, f ≠ 33 → jrJ m' f = jrJ m f) := by
  obtain ⟨m', a1, a2, a3, a4, -⟩ := s_Sm_pass d 1 0 25 o ev T' n m hR hW h1 hn (cRw_fr (fun f k hf => hr f 0 k (by unfold aX; omega)) cr) cw (cEvt_X hr hev) (fun _ => trivial)
  exact ⟨m', a1, a2, puR_tr hr (X_N (by decide) a3), puR_mono a3 (fun f i k hf => by unfold aN at hf; unfold aT; omega), a4⟩
theorem s_lay25b (d : Nat) (T : Int → Int) (mem m : jMem) (hR : tRv T) (cw : cWv mem 0 T) (hr : puR aX mem m) : ∃ m', Wa_copy (d + 1) 25 0 m = some (vU, m') ∧ cWv m' 25 T ∧ puR aX mem m' ∧ puR aT m m' ∧ (∀ f, jrJ m' f = jrJ m f) := by
  obtain ⟨m', a1, a2, a3, a4⟩ := s_Wa_copy d 25 0 T m (by decide) hR.2.2.2.1.2 hR.2.2.2.2.1.2 (cWv_fr (fun f k hf => hr f 0 k (by unfold aX; omega)) cw)
  exact ⟨m', a1, a2, puR_tr hr (puR_mono a3 (fun f i k hf => by unfold aX; omega)), puR_mono a3 (fun f i k hf => by unfold aT; omega), a4⟩
theorem s_mtryb (d : Nat) (ev : tEvT) (T' : Int → Int) (n : Nat) (mem m : jMem) (hR : tRv T') (hW : tWv T') (h1 : T' 0 = 1) (hn : T' 10 + (n : Int) < 100000) (hev : mEv mem ev) (hk : mKept mem m) (hs : jrI m 55 0 = T') (hl : jrI m 11 0 23 = -1) : ∃ m', M_passesAll (d + 8) (n : Int) m = some (vU, m') ∧ jrI m' 55 0 = tIt ev n T' ∧ mKept mem m' ∧ jrI m' 11 0 23 = -1 ∧ uSm3 m m' := by
  obtain ⟨m', a1, a2, a3, a4⟩ := s_M_passesAll d ev n m T' hs hR hW h1 hn (mEv_R (fun f i k hf => by unfold aY at hf; omega) hk.2 hev) hl
  exact ⟨m', a1, a2, mKept_Y hk (Y_3 a3), a4, a3⟩
theorem tWv_bt {T : Int → Int} {x v : Int} (hW : tWv T) (h5 : T 5 ≤ 6) (h6 : T 6 ≤ 4) (hx : 0 ≤ x ∧ x < T 6) (hv : 0 ≤ v ∧ v ≤ 7) : tWv (tUp T (18 + 2 * x) v) := by
  obtain ⟨w1, w2, w3, w4⟩ := hW
  unfold tWv
  rw [tUp_n (j := 10) (by omega), tUp_n (j := 1) (by omega), tUp_n (j := 4) (by omega), tUp_n (j := 5) (by omega), tUp_n (j := 6) (by omega)]
  refine ⟨w1, fun m a b => ?_, fun t a b => ?_, fun m m' a b c d => ?_⟩
  · rw [tUp_n (by omega)]
    exact w2 m a b
  · rw [tUp_n (j := 17 + 2 * t) (by omega)]
    have := w3 t a b
    by_cases e : t = x
    · rw [e, tUp_s]
      rw [e] at this
      omega
    · rw [tUp_n (by omega)]
      exact this
  · rw [tUp_n (by omega), tUp_n (by omega)]
    exact w4 m m' a b c d
theorem cWv_bt {mem : jMem} {w x v : Int} {T : Int → Int} (h5 : T 5 ≤ 6) (h6 : T 6 ≤ 4) (hx : 0 ≤ x ∧ x < T 6) (hc : cWv mem w T) : cWv (jwI mem 42 w x v) w (tUp T (18 + 2 * x) v) := by
  obtain ⟨c0, c1, c2⟩ := hc
  unfold cWv
  rw [tUp_n (j := 10) (by omega), tUp_n (j := 5) (by omega), tUp_n (j := 6) (by omega), jrI_wf (g := 9) (by decide)]
  refine ⟨c0, fun m a b => ?_, fun t a b => ?_⟩
  · rw [jrI_wf (g := 38) (by decide), jrI_wf (g := 39) (by decide), tUp_n (j := 11 + m) (by omega), tUp_n (j := 45 + m) (by omega)]
    exact c1 m a b
  · rw [jrI_wf (g := 40) (by decide), jrI_wf (g := 41) (by decide), jrI_wf (g := 43) (by decide), tUp_n (j := 17 + 2 * t) (by omega), tUp_n (j := 25 + t) (by omega), tIn_cong (T' := tUp T (18 + 2 * x) v) (T := T) (tUp_n (by omega)) (fun m a b => by rw [tUp_n (by omega)])]
    by_cases e : t = x
    · rw [e, jrI_ws, tUp_s]
      exact ⟨(c2 x hx.1 hx.2).1, (c2 x hx.1 hx.2).2.1, rfl, (c2 x hx.1 hx.2).2.2.2⟩
    · rw [jrI_wk e, tUp_n (by omega)]
      exact c2 t a b
def tSzI (T : Int → Int) (t : Int) : Int := if tIn T t = -1 then 0 else T (33 + tIn T t)
theorem s_As_sizeIn (d : Nat) (t : Int) (T : Int → Int) (mem : jMem) (cr : cRw mem 0 T) (cw : cWv mem 25 T) (h5 : T 5 ≤ 6) (h6 : T 6 ≤ 4) (ht : 0 ≤ t ∧ t < T 6) : As_sizeIn (d + 1) 0 t mem = some (vI (tSzI T t), mem) := by
  rw [q_As_sizeIn, jix_in ht.1 (by omega), (cw.2.2 t ht.1 ht.2).2.2.2]
  unfold tSzI
  rcases tIn_sp T t with ⟨a, _⟩ | ⟨a, b, _⟩
  · rw [if_pos a, if_pos a]
  · rw [if_neg (by omega), if_neg (by omega), jix_in a (by omega), (cr.2.2.2.2.2.2.2.1 _ a b).2.1]
theorem s_M_sizeIn (d : Nat) (t : Int) (T : Int → Int) (mem : jMem) (hT : jrI mem 55 0 = T) (h5 : 0 ≤ T 5 ∧ T 5 ≤ 6) (ht : 0 ≤ t ∧ t < 4) : M_sizeIn (d + 2) t mem = some (vI (tSzI T t), mem) := by
  rw [q_M_sizeIn, s_M_memoryIn d t mem (by rw [hT]; exact h5) ⟨ht.1, by omega⟩, hT]
  simp only [jbnd_s, jasI_v]
  unfold tSzI
  rcases tIn_sp T t with ⟨a, _⟩ | ⟨a, b, _⟩
  · rw [if_pos (by omega), if_pos a]
  · rw [if_neg (by omega), if_neg (by omega), s_M_memoryIn d t mem (by rw [hT]; exact h5) ⟨ht.1, by omega⟩, hT]
    simp only [jbnd_s, jasI_v]
    rw [jw32_id (x := 33 + tIn T t) (by omega) (by omega), jix_in (by omega) (by omega), hT]
def tBad (A B : Int → Int) (i k : Int) : Prop := A i < A (8 * k + i % 8) ∨ B i < B (8 * (i / 8) + k)
theorem s_As_isSteady (d : Nat) (i : Int) (A B : Int → Int) (mem : jMem) (hA : ∀ j, 0 ≤ j → j < 64 → jrI mem 14 0 j = A j) (hB : ∀ j, 0 ≤ j → j < 64 → jrI mem 15 0 j = B j) (h0 : 0 ≤ i) (h1 : i < 64) : As_isSteady (d + 1) i mem = some (vI (jb (puG (fun k => A i < A (8 * k + i % 8) ∨ B i < B (8 * (i / 8) + k)) 8 0 = -1)), mem) := by
  rw [q_As_isSteady, Int.tdiv_eq_ediv_of_nonneg h0, Int.tmod_eq_emod_of_nonneg h0, jw32_id (x := i / 8) (by omega) (by omega)]
  have key : ∀ (c : Nat) (k : Int), 0 ≤ k → k + (c : Int) = 8 → As_isSteady_13 d i (i / 8) (i % 8) k mem = some (vI (jb (puG (fun k => A i < A (8 * k + i % 8) ∨ B i < B (8 * (i / 8) + k)) c k = -1)), mem) := by
    intro c
    induction c with
    | zero =>
      intro k k0 k1
      rw [q_As_isSteady_13, if_neg (by omega)]
      rfl
    | succ c ih =>
      intro k k0 k1
      rw [q_As_isSteady_13, if_pos (by omega), jw32_id (x := k * 8) (by omega) (by omega), jw32_id (x := k * 8 + i % 8) (by omega) (by omega), jix_in (by omega) (by omega), jix_in h0 h1, jw32_id (x := i / 8 * 8) (by omega) (by omega), jw32_id (x := i / 8 * 8 + k) (by omega) (by omega), jix_in (by omega) (by omega), jix_in h0 h1, jw32_id (x := k + 1) (by omega) (by omega), hA i h0 h1, hB i h0 h1, show k * 8 + i % 8 = 8 * k + i % 8 by omega, show i / 8 * 8 + k = 8 * (i / 8) + k by omega, hA _ (by omega) (by omega), hB _ (by omega) (by omega), puG_s]
      by_cases ha : A i < A (8 * k + i % 8)
      · rw [if_pos ha, if_pos (Or.inl ha), jb_n (by omega)]
      · rw [if_neg ha]
        by_cases hb : B i < B (8 * (i / 8) + k)
        · rw [if_pos hb, if_pos (Or.inr hb), jb_n (by omega)]
        · rw [if_neg hb, if_neg (fun w => w.elim ha hb)]
          exact ih (k + 1) (by omega) (by omega)
  exact key 8 0 (Int.le_refl 0) (by omega)
theorem s_M_isRest (d : Nat) (i : Int) (A B : Int → Int) (mem : jMem) (hA : ∀ j, 0 ≤ j → j < 64 → jrI mem 59 0 (2 * j) = A j) (hB : ∀ j, 0 ≤ j → j < 64 → jrI mem 59 0 (2 * j + 1) = B j) (h0 : 0 ≤ i) (h1 : i < 64) : M_isRest (d + 1) (i / 8) (i % 8) mem = some (vI (jb (puG (fun k => A i < A (8 * k + i % 8) ∨ B i < B (8 * (i / 8) + k)) 8 0 = -1)), mem) := by
  rw [q_M_isRest]
  have key : ∀ (c : Nat) (k : Int), 0 ≤ k → k + (c : Int) = 8 → M_isRest_2 d (i / 8) (i % 8) k mem = some (vI (jb (puG (fun k => A i < A (8 * k + i % 8) ∨ B i < B (8 * (i / 8) + k)) c k = -1)), mem) := by
    intro c
    induction c with
    | zero =>
      intro k k0 k1
      rw [q_M_isRest_2, if_neg (by omega)]
      rfl
    | succ c ih =>
      intro k k0 k1
      rw [q_M_isRest_2, if_pos (by omega), jw32_id (x := 8 * k) (by omega) (by omega), jw32_id (x := 8 * k + i % 8) (by omega) (by omega), jw32_id (x := 2 * (8 * k + i % 8)) (by omega) (by omega), jix_in (by omega) (by omega), jw32_id (x := 8 * (i / 8)) (by omega) (by omega), jw32_id (x := 8 * (i / 8) + i % 8) (by omega) (by omega), show 8 * (i / 8) + i % 8 = i by omega, jw32_id (x := 2 * i) (by omega) (by omega), jix_in (by omega) (by omega), jw32_id (x := 8 * (i / 8) + k) (by omega) (by omega), jw32_id (x := 2 * (8 * (i / 8) + k)) (by omega) (by omega), jw32_id (x := 2 * (8 * (i / 8) + k) + 1) (by omega) (by omega), jix_in (by omega) (by omega), jw32_id (x := 2 * i + 1) (by omega) (by omega), jix_in (by omega) (by omega), jw32_id (x := k + 1) (by omega) (by omega), hA i h0 h1, hB i h0 h1, hA _ (by omega) (by omega), hB _ (by omega) (by omega), puG_s]
      by_cases ha : A i < A (8 * k + i % 8)
      · rw [if_pos ha, if_pos (Or.inl ha), jb_n (by omega)]
      · rw [if_neg ha]
        by_cases hb : B i < B (8 * (i / 8) + k)
        · rw [if_pos hb, if_pos (Or.inr hb), jb_n (by omega)]
        · rw [if_neg hb, if_neg (fun w => w.elim ha hb)]
          exact ih (k + 1) (by omega) (by omega)
  exact key 8 0 (Int.le_refl 0) (by omega)
/-- the two counts down, side by side -/
theorem rest_down (y : Int) (A B : Int → Int) (m n : jMem) (hA : ∀ j, 0 ≤ j → j < 64 → jrI m 14 0 j = A j) (hB : ∀ j, 0 ≤ j → j < 64 → jrI m 15 0 j = B j) (gA : ∀ j, 0 ≤ j → j < 64 → jrI n 59 0 (2 * j) = A j) (gB : ∀ j, 0 ≤ j → j < 64 → jrI n 59 0 (2 * j + 1) = B j) : ∀ (c : Nat) (s f : Int), c ≤ 64 → 0 ≤ s → s + (c : Int) ≤ 64 → -1 ≤ f → f < 64 → ∃ r, As_steadyBaits_117 58 y s f ((c : Int) - 1) m = some (vI r, m) ∧ M_rests_153 59 y s f ((c : Int) - 1) n = some (vI r, n) := by
  intro c
  induction c with
  | zero =>
    intro s f _ s0 s1 f0 f1
    rw [q_As_steadyBaits_117, q_M_rests_153, if_pos (show ((0 : Nat) : Int) - 1 < 0 by omega), if_pos (show ((0 : Nat) : Int) - 1 < 0 by omega)]
    by_cases y0 : y = 0
    · rw [if_pos y0, if_pos y0]
      exact ⟨_, rfl, rfl⟩
    rw [if_neg y0, if_neg y0]
    by_cases hf : f = -1
    · rw [if_pos hf, if_pos (show f < 0 by omega)]
      exact ⟨_, rfl, rfl⟩
    rw [if_neg hf, if_neg (show ¬ f < 0 by omega)]
    by_cases y1 : y = 1
    · rw [if_pos y1, if_pos y1]
      exact ⟨_, rfl, rfl⟩
    · rw [if_neg y1, if_neg y1]
      exact ⟨_, rfl, rfl⟩
  | succ c ih =>
    intro s f hc s0 s1 f0 f1
    rw [show ((c + 1 : Nat) : Int) - 1 = (c : Int) by omega, q_As_steadyBaits_117, q_M_rests_153, if_neg (show ¬ (c : Int) < 0 by omega), if_neg (show ¬ (c : Int) < 0 by omega), Int.tdiv_eq_ediv_of_nonneg (show 0 ≤ (c : Int) by omega), Int.tmod_eq_emod_of_nonneg (show 0 ≤ (c : Int) by omega), jw32_id (x := (c : Int) / 8) (by omega) (by omega), s_As_isSteady 57 (c : Int) A B m hA hB (by omega) (by omega), s_M_isRest 58 (c : Int) A B n gA gB (by omega) (by omega), jw32_id (x := (c : Int) + -1) (by omega) (by omega), jw32_id (x := s + 1) (by omega) (by omega), show (c : Int) + -1 = (c : Int) - 1 by omega]
    simp only [jbnd_s, jasI_v]
    by_cases hq : puG (fun k => A (c : Int) < A (8 * k + (c : Int) % 8) ∨ B (c : Int) < B (8 * ((c : Int) / 8) + k)) 8 0 = -1
    · rw [jb_1 hq, if_neg (by decide), if_neg (by decide)]
      exact ih (s + 1) (c : Int) (by omega) (by omega) (by omega) (by omega) (by omega)
    · rw [jb_n hq, if_pos rfl, if_pos rfl]
      exact ih s f (by omega) s0 (by omega) f0 f1
theorem p_rests (a b n y : Int) : pCase (E_rests 60 a b n y) (M_rests 60 a b n y) := fun mem hi hm => by
  obtain ⟨hR, hW, hN, h999, cr, cw, cn, hl⟩ := pNow hi
  have t5 := hR.2.2.2.1
  have t6 := hR.2.2.2.2.1
  have h10 := hW.1
  generalize hT : jrI mem 55 0 = T at *
  have ms : ∀ m, jrI m 55 0 = T → M_rests 60 a b n y m = if jb (0 ≤ a ∧ a < T 6 ∧ tIn T a = -1) = 0 then some (vI (-1), m) else if jb (0 ≤ b ∧ b < T 6 ∧ tIn T b = -1) = 0 then some (vI (-1), m) else if a = b then some (vI (-1), m) else if jb (1 ≤ n ∧ n ≤ 20) = 0 then some (vI (-1), m) else if jb (0 ≤ y ∧ y ≤ 2) = 0 then some (vI (-1), m) else jbnd (M_keeps 59 m) fun _ mem6 => M_rests_55 59 a b n y 0 mem6 := fun m h9 => by
    rw [q_M_rests 59, s_M_isEmptyTrap 57 a T m hR h9]
    simp only [jbnd_s, jasI_v, s_M_in]
    rw [s_M_isEmptyTrap 57 b T m hR h9]
    simp only [jbnd_s, jasI_v]
  rw [q_E_rests 59]
  by_cases hab : a = b
  · rw [if_pos hab]
    refine ⟨-1, mem, rfl, fun _ => ⟨mem, ?_, hi⟩⟩
    rw [ms mem hT, if_pos hab]
    split
    · rfl
    · split <;> rfl
  rw [if_neg hab, s_E_isEmptyTrap 56 a T mem hR cr cw]
  simp only [jbnd_s, jasI_v, s_E_within]
  by_cases ha : 0 ≤ a ∧ a < T 6 ∧ tIn T a = -1
  case neg =>
    rw [jb_n ha, if_pos rfl]
    refine ⟨-1, mem, rfl, fun _ => ⟨mem, ?_, hi⟩⟩
    rw [ms mem hT, jb_n ha, if_pos rfl]
  rw [jb_1 ha, if_neg (by decide), s_E_isEmptyTrap 56 b T mem hR cr cw]
  simp only [jbnd_s, jasI_v]
  by_cases hb : 0 ≤ b ∧ b < T 6 ∧ tIn T b = -1
  case neg =>
    rw [jb_n hb, if_pos rfl]
    refine ⟨-1, mem, rfl, fun _ => ⟨mem, ?_, hi⟩⟩
    rw [ms mem hT, jb_1 ha, if_neg (by decide), jb_n hb, if_pos rfl]
  rw [jb_1 hb, if_neg (by decide)]
  by_cases hn : 1 ≤ n ∧ n ≤ 20
  case neg =>
    rw [jb_n hn, if_pos rfl]
    refine ⟨-1, mem, rfl, fun _ => ⟨mem, ?_, hi⟩⟩
    rw [ms mem hT, jb_1 ha, if_neg (by decide), jb_1 hb, if_neg (by decide), if_neg hab, jb_n hn, if_pos rfl]
  rw [jb_1 hn, if_neg (by decide)]
  by_cases hy : 0 ≤ y ∧ y ≤ 2
  case neg =>
    rw [jb_n hy, if_pos rfl]
    refine ⟨-1, mem, rfl, fun _ => ⟨mem, ?_, hi⟩⟩
    rw [ms mem hT, jb_1 ha, if_neg (by decide), jb_1 hb, if_neg (by decide), if_neg hab, jb_1 hn, if_neg (by decide), jb_n hy, if_pos rfl]
  rw [jb_1 hy, if_neg (by decide)]
  have h1 := told1 hR (by omega)
  obtain ⟨o, ev, e1, e2, e3⟩ := pEv hi 57
  obtain ⟨k, rfl⟩ := Int.eq_ofNat_of_zero_le (show 0 ≤ n by omega)
  rw [e1]
  simp only [jbnd_s, jasR_v]
  rw [q_As_steadyBaits]
  have hV : ∀ i, 0 ≤ i → i < 64 → tS T (tUp (tUp T (18 + 2 * a) (i / 8)) (18 + 2 * b) (i % 8)) ∧ tRv (tUp (tUp T (18 + 2 * a) (i / 8)) (18 + 2 * b) (i % 8)) ∧ tWv (tUp (tUp T (18 + 2 * a) (i / 8)) (18 + 2 * b) (i % 8)) ∧ tUp (tUp T (18 + 2 * a) (i / 8)) (18 + 2 * b) (i % 8) 0 = 1 ∧ tUp (tUp T (18 + 2 * a) (i / 8)) (18 + 2 * b) (i % 8) 10 = T 10 := fun i i0 i1 => by
    have hS : tS T (tUp (tUp T (18 + 2 * a) (i / 8)) (18 + 2 * b) (i % 8)) := fun j hj => by rw [tUp_n (by omega), tUp_n (by omega)]
    refine ⟨hS, tRv_S hS hR, tWv_bt (tWv_bt hW t5.2 t6.2 ⟨ha.1, ha.2.1⟩ (by omega)) (by rw [tUp_n (by omega)]; exact t5.2) (by rw [tUp_n (by omega)]; exact t6.2) (by rw [tUp_n (by omega)]; exact ⟨hb.1, hb.2.1⟩) (by omega), by rw [hS 0 (by omega)]; exact h1, by rw [tUp_n (by omega), tUp_n (by omega)]⟩
  have hI : ∀ i, 0 ≤ i → i < 64 → tEq (tUp (tUp T (18 + 2 * a) (i / 8)) (18 + 2 * b) (i % 8)) (tIt ev k (tUp (tUp T (18 + 2 * a) (i / 8)) (18 + 2 * b) (i % 8))) ∧ tIt ev k (tUp (tUp T (18 + 2 * a) (i / 8)) (18 + 2 * b) (i % 8)) 5 = T 5 ∧ tIt ev k (tUp (tUp T (18 + 2 * a) (i / 8)) (18 + 2 * b) (i % 8)) 6 = T 6 := fun i i0 i1 => by
    obtain ⟨s1, s2, s3, s4, s5⟩ := hV i i0 i1
    obtain ⟨q1, q2, q3⟩ := tIt_ok ev s2 s3 s4 k (by omega)
    exact ⟨q1, by rw [q1 5 (by omega)]; exact s1 5 (by omega), by rw [q1 6 (by omega)]; exact s1 6 (by omega)⟩
  generalize hQ : (fun i : Int => tUp (tUp T (18 + 2 * a) (i / 8)) (18 + 2 * b) (i % 8)) = Q at *
  have hQi : ∀ i, tUp (tUp T (18 + 2 * a) (i / 8)) (18 + 2 * b) (i % 8) = Q i := fun i => by rw [← hQ]
  simp only [hQi] at hV hI
  have cRq : ∀ i, 0 ≤ i → i < 64 → cRw mem 0 (Q i) := fun i i0 i1 => cRw_cong hR (fun j j0 j1 j2 j3 => (hV i i0 i1).1 j (by omega)) (cRw_of cr)
  have cRq2 : ∀ i, 0 ≤ i → i < 64 → cRw mem 0 (tIt ev k (Q i)) := fun i i0 i1 => cRw_cong (hV i i0 i1).2.1 (fun j j0 j1 j2 j3 => (hI i i0 i1).1 j (by omega)) (cRq i i0 i1)
  -- the class
  obtain ⟨m1, c1, c2, c3, c4⟩ := puUpE (P := fun i (m : jMem) => puR aX mem m ∧ (∀ j, 0 ≤ j → j < i → jrI m 14 0 j = tSzI (tIt ev k (Q j)) a) ∧ (∀ j, 0 ≤ j → j < i → jrI m 15 0 j = tSzI (tIt ev k (Q j)) b)) (L := fun i m => As_steadyBaits_3 58 0 o a b (k : Int) y i m) (n := 64) (by decide) (fun i m i0 i1 hP => by
    obtain ⟨p1, p2, p3⟩ := hP
    obtain ⟨s1, s2, s3, s4, s5⟩ := hV i i0 i1
    obtain ⟨u1, u2, u3⟩ := hI i i0 i1
    obtain ⟨m2, d1, d2, d3, d4, -⟩ := s_lay25b 57 T mem m hR cw p1
    rw [q_As_steadyBaits_3, if_pos i1, d1]
    simp only [jbnd_s]
    rw [jix_in ha.1 (by omega), jix_in hb.1 (by omega), Int.tdiv_eq_ediv_of_nonneg i0, Int.tmod_eq_emod_of_nonneg i0, jw32_id (x := i / 8) (by omega) (by omega)]
    have cwq : cWv (jwI (jwI m2 42 25 a (i / 8)) 42 25 b (i % 8)) 25 (Q i) := by
      rw [← hQi]
      exact cWv_bt (by rw [tUp_n (by omega)]; exact t5.2) (by rw [tUp_n (by omega)]; exact t6.2) (by rw [tUp_n (by omega)]; exact ⟨hb.1, hb.2.1⟩) (cWv_bt t5.2 t6.2 ⟨ha.1, ha.2.1⟩ d2)
    obtain ⟨m3, f1, f2, f3, f4, -⟩ := s_tryb 51 o ev (Q i) k mem (jwI (jwI m2 42 25 a (i / 8)) 42 25 b (i % 8)) s2 s3 s4 (by omega) (cRq i i0 i1) e2 (puR_w (puR_w d3 (by unfold aX; omega)) (by unfold aX; omega)) cwq
    rw [f1]
    simp only [jbnd_s]
    have cr3 : cRw m3 0 (tIt ev k (Q i)) := cRw_fr (fun f j hf => f3 f 0 j (by unfold aX; omega)) (cRq2 i i0 i1)
    rw [s_As_sizeIn 57 a (tIt ev k (Q i)) m3 cr3 f2 (by omega) (by omega) ⟨ha.1, by omega⟩]
    simp only [jbnd_s, jasI_v]
    rw [jix_in i0 i1, s_As_sizeIn 57 b (tIt ev k (Q i)) (jwI m3 14 0 i (tSzI (tIt ev k (Q i)) a)) (cRw_fr (fun f j hf => by rw [jrI_wf (by omega)]) cr3) (cWv_fr (fun f j hf => by rw [jrI_wf (by omega)]) f2) (by omega) (by omega) ⟨hb.1, by omega⟩]
    simp only [jbnd_s, jasI_v]
    rw [jix_in i0 i1, jw32_id (x := i + 1) (by omega) (by omega)]
    have f5 : ∀ f j, f = 14 ∨ f = 15 → jrI m3 f 0 j = jrI m f 0 j := fun f j hf => by
      rw [f4 f 0 j (by unfold aT; omega), jrI_wf (by omega), jrI_wf (by omega), d4 f 0 j (by unfold aT; omega)]
    refine ⟨_, rfl, puR_w (puR_w f3 (by unfold aX; omega)) (by unfold aX; omega), fun j j0 j1 => ?_, fun j j0 j1 => ?_⟩
    · rw [jrI_wf (by decide)]
      by_cases e : j = i
      · rw [e, jrI_ws]
      · rw [jrI_wk e, f5 14 j (Or.inl rfl)]
        exact p2 j j0 (by omega)
    · by_cases e : j = i
      · rw [e, jrI_ws]
      · rw [jrI_wk e, jrI_wf (by decide), f5 15 j (Or.inr rfl)]
        exact p3 j j0 (by omega)) mem ⟨puR_rf _ mem, fun j j0 j1 => by omega, fun j j0 j1 => by omega⟩
  have c1' : As_steadyBaits_3 58 0 o a b (k : Int) y 0 mem = As_steadyBaits_3 58 0 o a b (k : Int) y 64 m1 := c1
  rw [c1', q_As_steadyBaits_3, if_neg (by decide)]
  have hs : jrI m1 55 0 = T := by rw [X_said c2]; exact hT
  have hl1 : jrI m1 11 0 23 = -1 := by rw [X_23 c2]; exact hl
  obtain ⟨m2, b1, b2, b3, b4, -⟩ := s_keep 58 m1
  obtain ⟨m9, g1, g2, g3, g4, g5, g6, g7⟩ := puUpE (P := fun i (m : jMem) => mKept m1 m ∧ jrI m 55 0 = T ∧ jrI m 11 0 23 = -1 ∧ puR aX m1 m ∧ (∀ j, 0 ≤ j → j < i → jrI m 59 0 (2 * j) = tSzI (tIt ev k (Q j)) a) ∧ (∀ j, 0 ≤ j → j < i → jrI m 59 0 (2 * j + 1) = tSzI (tIt ev k (Q j)) b)) (L := fun i m => M_rests_55 59 a b (k : Int) y i m) (n := 64) (by decide) (fun i m i0 i1 hP => by
    obtain ⟨p1, p2, p3, p4, p5, p6⟩ := hP
    obtain ⟨s1, s2, s3, s4, s5⟩ := hV i i0 i1
    obtain ⟨u1, u2, u3⟩ := hI i i0 i1
    rw [q_M_rests_55, if_pos i1, jw32_id (x := 2 * a) (by omega) (by omega), jw32_id (x := 17 + 2 * a) (by omega) (by omega), jw32_id (x := 17 + 2 * a + 1) (by omega) (by omega), jix_in (by omega) (by omega), jw32_id (x := 2 * b) (by omega) (by omega), jw32_id (x := 17 + 2 * b) (by omega) (by omega), jw32_id (x := 17 + 2 * b + 1) (by omega) (by omega), jix_in (by omega) (by omega), Int.tdiv_eq_ediv_of_nonneg i0, Int.tmod_eq_emod_of_nonneg i0, jw32_id (x := i / 8) (by omega) (by omega), show 17 + 2 * a + 1 = 18 + 2 * a by omega, show 17 + 2 * b + 1 = 18 + 2 * b by omega]
    obtain ⟨m3, f1, f2, f3, f4, f5⟩ := s_mtryb 51 ev (Q i) k m1 (jwI (jwI m 55 0 (18 + 2 * a) (i / 8)) 55 0 (18 + 2 * b) (i % 8)) s2 s3 s4 (by omega) (mEv_X c2 e3) (mKept_w (mKept_w p1 (by omega) (by omega)) (by omega) (by omega)) (by rw [← hQi]; exact said_w _ _ (said_w _ _ p2)) (by rw [jrI_wf (by decide), jrI_wf (by decide)]; exact p3)
    rw [f1]
    simp only [jbnd_s]
    rw [s_M_sizeIn 57 a (tIt ev k (Q i)) m3 f2 (by rw [u2]; exact t5) ⟨ha.1, by omega⟩, jw32_id (x := 2 * i) (by omega) (by omega)]
    simp only [jbnd_s, jasI_v]
    rw [jix_in (by omega) (by omega), s_M_sizeIn 57 b (tIt ev k (Q i)) (jwI m3 59 0 (2 * i) (tSzI (tIt ev k (Q i)) a)) (by rw [jrI_wf (by decide)]; exact f2) (by rw [u2]; exact t5) ⟨hb.1, by omega⟩]
    simp only [jbnd_s, jasI_v]
    rw [jw32_id (x := 2 * i + 1) (by omega) (by omega), jix_in (by omega) (by omega), jw32_id (x := i + 1) (by omega) (by omega)]
    have hk5 : mKept m1 (jwI (jwI m3 59 0 (2 * i) (tSzI (tIt ev k (Q i)) a)) 59 0 (2 * i + 1) (tSzI (tIt ev k (Q i)) b)) := mKept_Y f3 (puR_w (puR_w (puR_rf _ m3) (by unfold aY; omega)) (by unfold aY; omega))
    obtain ⟨m4, d1, d2, d3, d4, d5, d6, -⟩ := s_back 58 m1 _ hk5 (by rw [jrI_wf (by decide), jrI_wf (by decide), f4, hl1])
    rw [d1]
    simp only [jbnd_s]
    have h59 : ∀ j, jrI m4 59 0 j = jrI (jwI (jwI m3 59 0 (2 * i) (tSzI (tIt ev k (Q i)) a)) 59 0 (2 * i + 1) (tSzI (tIt ev k (Q i)) b)) 59 0 j := fun j => d6 59 0 j (by omega)
    have h3 : ∀ j, jrI m3 59 0 j = jrI m 59 0 j := fun j => by rw [f5.1 59 0 j (by unfold aP; omega), jrI_wf (by decide), jrI_wf (by decide)]
    refine ⟨m4, rfl, d4, by rw [← hs]; exact d2, by rw [← hl1]; exact d5, d3, fun j j0 j1 => ?_, fun j j0 j1 => ?_⟩
    · rw [h59, jrI_wk (by omega)]
      by_cases e : j = i
      · rw [e, jrI_ws]
      · rw [jrI_wk (by omega), h3]
        exact p5 j j0 (by omega)
    · rw [h59]
      by_cases e : j = i
      · rw [e, jrI_ws]
      · rw [jrI_wk (by omega), jrI_wk (by omega), h3]
        exact p6 j j0 (by omega)) m2 ⟨b2, by rw [b3]; exact hs, by rw [X_23 b4]; exact hl1, b4, fun j j0 j1 => by omega, fun j j0 j1 => by omega⟩
  have g1' : M_rests_55 59 a b (k : Int) y 0 m2 = M_rests_55 59 a b (k : Int) y 64 m9 := g1
  obtain ⟨r, z1, z2⟩ := rest_down y (fun j => tSzI (tIt ev k (Q j)) a) (fun j => tSzI (tIt ev k (Q j)) b) m1 m9 c3 c4 g6 g7 64 0 (-1) (by decide) (by decide) (by decide) (by decide) (by decide)
  rw [show ((64 : Nat) : Int) - 1 = 63 from rfl] at z1 z2
  rw [z1]
  simp only [jbnd_s, jasI_v]
  refine ⟨r, m1, rfl, fun _ => ⟨m9, ?_, pInv_fr g5 (pInv_fr c2 hi)⟩⟩
  rw [ms m1 hs, jb_1 ha, if_neg (by decide), jb_1 hb, if_neg (by decide), if_neg hab, jb_1 hn, if_neg (by decide), jb_1 hy, if_neg (by decide), b1]
  simp only [jbnd_s]
  rw [g1', q_M_rests_55, if_neg (by decide), z2]
