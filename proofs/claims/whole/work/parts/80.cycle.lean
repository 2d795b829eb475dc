/-! cycle -/
def tPk (T : Int → Int) (n : Int) : Int := puF (fun m a => a * 64 + T (11 + m) + 1) n.toNat 0 0
theorem tPk_s (T : Int → Int) {i : Int} (h : 0 ≤ i) : tPk T (i + 1) = tPk T i * 64 + T (11 + i) + 1 := by
  unfold tPk
  rw [puF_s _ h]
theorem tPk_in {T : Int → Int} {n : Int} (h : ∀ m, 0 ≤ m → m < n → -1 ≤ T (11 + m) ∧ T (11 + m) ≤ 40) : ∀ k : Nat, (k : Int) ≤ n → 0 ≤ tPk T (k : Int) ∧ tPk T (k : Int) < ((64 ^ k : Nat) : Int) := by
  intro k
  induction k with
  | zero => intro _; exact ⟨by show (0 : Int) ≤ 0; decide, by show (0 : Int) < 1; decide⟩
  | succ k ih =>
    intro hk
    obtain ⟨a, b⟩ := ih (by omega)
    have := h (k : Int) (by omega) (by omega)
    rw [show ((k + 1 : Nat) : Int) = (k : Int) + 1 by omega, tPk_s T (by omega), Nat.pow_succ]
    omega
theorem tPk_eq {A B : Int → Int} {n : Int} (hA : ∀ m, 0 ≤ m → m < n → -1 ≤ A (11 + m) ∧ A (11 + m) ≤ 40) (hB : ∀ m, 0 ≤ m → m < n → -1 ≤ B (11 + m) ∧ B (11 + m) ≤ 40) : ∀ k : Nat, (k : Int) ≤ n → (tPk A (k : Int) = tPk B (k : Int) ↔ ∀ m, 0 ≤ m → m < (k : Int) → A (11 + m) = B (11 + m)) := by
  intro k
  induction k with
  | zero => intro _; exact ⟨fun _ m a b => by omega, fun _ => rfl⟩
  | succ k ih =>
    intro hk
    have e := ih (by omega)
    have ha := hA (k : Int) (by omega) (by omega)
    have hb := hB (k : Int) (by omega) (by omega)
    rw [show ((k + 1 : Nat) : Int) = (k : Int) + 1 by omega, tPk_s A (by omega), tPk_s B (by omega)]
    constructor
    · intro h m m0 m1
      have h1 : tPk A (k : Int) = tPk B (k : Int) := by omega
      by_cases em : m = (k : Int)
      · rw [em]; omega
      · exact e.mp h1 m m0 (by omega)
    · intro h
      rw [e.mpr (fun m m0 m1 => h m m0 (by omega)), h (k : Int) (by omega) (by omega)]
theorem s_Wa_places (d : Nat) (w : Int) (T : Int → Int) (mem : jMem) (h5 : 0 ≤ T 5 ∧ T 5 ≤ 6) (cw : cWv mem w T) (h : ∀ m, 0 ≤ m → m < T 5 → -1 ≤ T (11 + m) ∧ T (11 + m) ≤ 40) : Wa_places (d + 1) w (T 5) mem = some (vJ (tPk T (T 5)), mem) := by
  rw [q_Wa_places]
  have hh : Wa_places_5 d w (T 5) 0 0 mem = Wa_places_5 d w (T 5) (tPk T (T 5)) (T 5) mem := puUp (L := fun i => Wa_places_5 d w (T 5) (tPk T i) i mem) h5.1 (fun i i0 i1 => by
    obtain ⟨k, rfl⟩ := Int.eq_ofNat_of_zero_le i0
    obtain ⟨b1, b2⟩ := tPk_in h k (by omega)
    have hp : 64 ^ k ≤ 64 ^ 5 := Nat.pow_le_pow_right (by decide) (by omega)
    have hq : ((64 ^ k : Nat) : Int) ≤ 1073741824 := by omega
    have hm := h (k : Int) i0 i1
    rw [q_Wa_places_5, if_pos i1, if_pos (by omega), jix_in i0 (by omega), (cw.2.1 _ i0 i1).1, jw64_id (x := tPk T (k : Int) * 64) (by omega) (by omega), jw64_id (x := tPk T (k : Int) * 64 + T (11 + (k : Int))) (by omega) (by omega), jw64_id (x := tPk T (k : Int) * 64 + T (11 + (k : Int)) + 1) (by omega) (by omega), jw32_id (x := (k : Int) + 1) (by omega) (by omega), tPk_s T i0])
  rw [hh, q_Wa_places_5, if_neg (by omega)]
theorem puG_skip (p : Int → Prop) [DecidablePred p] : ∀ (s k : Nat) (c : Int), 0 ≤ c → (∀ j, c ≤ j → j < c + (s : Int) → ¬ p j) → puG p k c = puG p (k - s) (c + (s : Int))
  | 0, k, c, _, _ => by rw [Nat.sub_zero, show c + ((0 : Nat) : Int) = c by omega]
  | s + 1, 0, c, _, _ => by rw [show 0 - (s + 1) = 0 by omega]; rfl
  | s + 1, k + 1, c, h0, h => by
    rw [puG_s, if_neg (h c (by omega) (by omega)), puG_skip p s k (c + 1) (by omega) (fun j a b => h j (by omega) (by omega)), show k + 1 - (s + 1) = k - s by omega, show c + 1 + (s : Int) = c + ((s + 1 : Nat) : Int) by omega]
/-- the search in both, of the nights' numbers K -/
theorem cyc_c (y R N0 : Int) (K : Int → Int) (m : jMem) (hK : ∀ j, 0 ≤ j → j ≤ 60 → jrJ m 13 0 j = K j) (hR : 1 ≤ R ∧ R ≤ 12) (hN : jrI m 9 0 0 = N0) (h0 : 0 ≤ N0 ∧ N0 ≤ 999) (i : Int) (i0 : 0 ≤ i) (i1 : i < 60) : ∀ (q : Nat) (x : Int), i < x → x ≤ 80 → (x - i) % R = 0 → 81 - x ≤ (q : Int) → As_firstRound_95 58 0 y R i x m = if puG (fun b => (b - i) % R = 0 ∧ K i = K b) (61 - x).toNat x = -1 then As_firstRound_81 58 0 y R (i + 1) m else some (vI (if y = 0 then N0 + i else puG (fun b => (b - i) % R = 0 ∧ K i = K b) (61 - x).toNat x - i), m) := by
  intro q
  induction q with
  | zero => intro x h1 h2 h3 h4; omega
  | succ q ih =>
    intro x h1 h2 h3 h4
    rw [q_As_firstRound_95]
    by_cases hx : 60 < x
    · have hg : puG (fun b => (b - i) % R = 0 ∧ K i = K b) (61 - x).toNat x = -1 := by
        rw [show (61 - x).toNat = 0 by omega]
        rfl
      rw [if_pos hx, if_pos hg, jw32_id (x := i + 1) (by omega) (by omega)]
    · rw [if_neg hx, jix_in i0 (by omega), jix_in (by omega) (by omega), hK i i0 (by omega), hK x (by omega) (by omega), hN, jw32_id (x := N0 + i) (by omega) (by omega), jw32_id (x := x - i) (by omega) (by omega), jw32_id (x := x + R) (by omega) (by omega)]
      have hs : (61 - x).toNat = (60 - x).toNat + 1 := by omega
      by_cases he : K i = K x
      · rw [if_pos (show jlcmp (K i) (K x) = 0 by rw [jlcmp_eq]; exact he), hs, puG_s, if_pos (show (x - i) % R = 0 ∧ K i = K x from ⟨h3, he⟩), if_neg (show ¬ x = -1 by omega)]
        by_cases hy : y = 0
        · rw [if_pos hy, if_pos hy]
        · rw [if_neg hy, if_neg hy]
      · have hskip := puG_skip (fun b => (b - i) % R = 0 ∧ K i = K b) R.toNat (61 - x).toNat x (by omega) (fun j a b w => by
          by_cases ej : j = x
          · rw [ej] at w; exact he w.2
          · have h5 : (j - i) % R = 0 := w.1
            have h6 : (j - x) % R = 0 := by
              have : j - x = (j - i) - (x - i) := by omega
              rw [this, Int.sub_emod, h5, h3]
              simp
            have h7 : (j - x) % R = j - x := Int.emod_eq_of_lt (by omega) (by omega)
            omega)
        rw [if_neg (show ¬ jlcmp (K i) (K x) = 0 by rw [jlcmp_eq]; exact he), hskip, show (61 - x).toNat - R.toNat = (61 - (x + R)).toNat by omega, show x + (R.toNat : Int) = x + R by omega]
        by_cases hbig : x + R ≤ 80
        · exact ih (x + R) (by omega) hbig (by rw [show x + R - i = (x - i) + R by omega, Int.add_emod, h3, Int.emod_self]; simp) (by omega)
        · omega
theorem s_M_areAlike (d : Nat) (i j : Int) (T : Int → Int) (V : Int → Int → Int) (n : jMem) (hT : jrI n 55 0 = T) (h1 : T 0 = 1) (h5 : 0 ≤ T 5 ∧ T 5 ≤ 6) (h3 : 0 ≤ T 3 ∧ T 3 ≤ 12) (hV : ∀ k, 0 ≤ k → k ≤ 60 → ∀ m, 0 ≤ m → m < T 5 → jrI n 60 0 (6 * k + m) = V k (11 + m)) (hB : ∀ k, 0 ≤ k → k ≤ 60 → ∀ m, 0 ≤ m → m < T 5 → -1 ≤ V k (11 + m) ∧ V k (11 + m) ≤ 40) (i0 : 0 ≤ i) (ij : i < j) (j1 : j ≤ 60) : M_areAlike (d + 3) i j n = some (vI (jb ((j - i) % tRo T = 0 ∧ tPk (V i) (T 5) = tPk (V j) (T 5))), n) := by
  have hro : 1 ≤ tRo T ∧ tRo T ≤ 12 := by
    unfold tRo
    rw [if_pos h1]
    by_cases h : T 3 = 0
    · rw [if_pos h]; omega
    · rw [if_neg h]; omega
  rw [q_M_areAlike, s_M_rounds, hT]
  simp only [jbnd_s, jasI_v]
  rw [jnz_in (by omega), jw32_id (x := j - i) (by omega) (by omega), Int.tmod_eq_emod_of_nonneg (by omega)]
  by_cases hm : (j - i) % tRo T = 0
  case neg => rw [if_neg hm, jb_n (fun w => hm w.1)]
  rw [if_pos hm]
  have key : ∀ (c : Nat) (k : Int), 0 ≤ k → k + (c : Int) = T 5 → (∀ m, 0 ≤ m → m < k → V i (11 + m) = V j (11 + m)) → ∃ v, M_areAlike_15 (d + 2) i j k n = some (vI v, n) ∧ (v = 0 ∨ v = 1) ∧ (v = 1 ↔ ∀ m, 0 ≤ m → m < T 5 → V i (11 + m) = V j (11 + m)) := by
    intro c
    induction c with
    | zero =>
      intro k k0 k1 hall
      rw [q_M_areAlike_15, hT, if_neg (by omega)]
      exact ⟨1, rfl, Or.inr rfl, ⟨fun _ m a b => hall m a (by omega), fun _ => rfl⟩⟩
    | succ c ih =>
      intro k k0 k1 hall
      rw [q_M_areAlike_15, hT, if_pos (by omega), jw32_id (x := 6 * i) (by omega) (by omega), jw32_id (x := 6 * i + k) (by omega) (by omega), jix_in (by omega) (by omega), jw32_id (x := 6 * j) (by omega) (by omega), jw32_id (x := 6 * j + k) (by omega) (by omega), jix_in (by omega) (by omega), hV i i0 (by omega) k k0 (by omega), hV j (by omega) j1 k k0 (by omega), jw32_id (x := k + 1) (by omega) (by omega)]
      by_cases he : V i (11 + k) = V j (11 + k)
      · rw [if_pos he]
        refine ih (k + 1) (by omega) (by omega) (fun m a b => ?_)
        by_cases e : m = k
        · rw [e]; exact he
        · exact hall m a (by omega)
      · rw [if_neg he]
        exact ⟨0, rfl, Or.inl rfl, ⟨fun w => by omega, fun w => absurd (w k k0 (by omega)) he⟩⟩
  obtain ⟨v, a1, a2, a3⟩ := key (T 5).toNat 0 (Int.le_refl 0) (by omega) (fun m a b => by omega)
  obtain ⟨w, hw⟩ := Int.eq_ofNat_of_zero_le h5.1
  have hpk := tPk_eq (A := V i) (B := V j) (n := T 5) (fun m a b => hB i i0 (by omega) m a b) (fun m a b => hB j (by omega) j1 m a b) w (by omega)
  rw [← hw] at hpk
  rw [a1]
  congr 3
  by_cases hq : tPk (V i) (T 5) = tPk (V j) (T 5)
  · rw [jb_1 ⟨hm, hq⟩]
    exact a3.mpr (hpk.mp hq)
  · rw [jb_n (fun w => hq w.2)]
    rcases a2 with h | h
    · exact h
    · exact absurd (hpk.mpr (a3.mp h)) hq
theorem cyc_m (y : Int) (T : Int → Int) (V : Int → Int → Int) (n : jMem) (hT : jrI n 55 0 = T) (h1 : T 0 = 1) (h5 : 0 ≤ T 5 ∧ T 5 ≤ 6) (h3 : 0 ≤ T 3 ∧ T 3 ≤ 12) (h10 : 0 ≤ T 10 ∧ T 10 ≤ 999) (hV : ∀ k, 0 ≤ k → k ≤ 60 → ∀ m, 0 ≤ m → m < T 5 → jrI n 60 0 (6 * k + m) = V k (11 + m)) (hB : ∀ k, 0 ≤ k → k ≤ 60 → ∀ m, 0 ≤ m → m < T 5 → -1 ≤ V k (11 + m) ∧ V k (11 + m) ≤ 40) (i : Int) (i0 : 0 ≤ i) (i1 : i < 60) : ∀ (q : Nat) (x : Int), i < x → x + (q : Int) = 61 → M_cycle_96 59 y i x n = if puG (fun b => (b - i) % tRo T = 0 ∧ tPk (V i) (T 5) = tPk (V b) (T 5)) q x = -1 then M_cycle_86 59 y (i + 1) n else some (vI (if y = 0 then T 10 + i else puG (fun b => (b - i) % tRo T = 0 ∧ tPk (V i) (T 5) = tPk (V b) (T 5)) q x - i), n) := by
  intro q
  induction q with
  | zero =>
    intro x h1 h2
    rw [q_M_cycle_96, if_pos (by omega), jw32_id (x := i + 1) (by omega) (by omega)]
    rfl
  | succ q ih =>
    intro x hx h2
    rw [q_M_cycle_96, if_neg (by omega), s_M_areAlike 56 i x T V n hT h1 h5 h3 hV hB i0 hx (by omega), jw32_id (x := x + 1) (by omega) (by omega), puG_s]
    simp only [jbnd_s, jasI_v]
    by_cases hq : (x - i) % tRo T = 0 ∧ tPk (V i) (T 5) = tPk (V x) (T 5)
    · rw [jb_1 hq, if_neg (by decide), if_pos hq, if_neg (show ¬ x = -1 by omega), hT, jw32_id (x := T 10 + i) (by omega) (by omega), jw32_id (x := x - i) (by omega) (by omega)]
      by_cases hy : y = 0
      · rw [if_pos hy, if_pos hy]
      · rw [if_neg hy, if_neg hy]
    · rw [jb_n hq, if_pos rfl, if_neg hq]
      exact ih (x + 1) (by omega) (by omega)
theorem s_moneb (d : Nat) (ev : tEvT) (T : Int → Int) (i : Int) (mem m : jMem) (hR : tRv T) (hW : tWv T) (h1 : T 0 = 1) (i0 : 0 ≤ i) (hi : T 10 + i < 99999) (hev : mEv mem ev) (hk : mKept mem m) (hs : jrI m 55 0 = tIt ev i.toNat T) (hl : jrI m 11 0 23 = -1) : ∃ r m', M_passes (d + 7) m = some (vI r, m') ∧ jrI m' 55 0 = tIt ev (i + 1).toNat T ∧ mKept mem m' ∧ jrI m' 11 0 23 = -1 ∧ uSm3 m m' := by
  obtain ⟨q1, q2, q3⟩ := tIt_ok ev hR hW h1 i.toNat (by omega)
  obtain ⟨m', f1, f2, f3, f4⟩ := s_M_passes d (tLi (tIt ev i.toNat T) (tIt ev i.toNat T 10)) ev m (by rw [hs]; exact tRv_eq q1 hR) (by rw [hs]; exact q2) (by rw [hs, q1 0 (by omega)]; exact h1) (mEv_R (fun f i k hf => by unfold aY at hf; omega) hk.2 hev) ⟨by rw [hs, hl, if_pos (by decide)], by rw [hl]; decide⟩
  rw [hs] at f1 f2
  exact ⟨_, m', f1, by rw [f2, tIt_s ev i i0 T], mKept_Y hk (Y_3 f3), f4, f3⟩
theorem p_cycle (y : Int) : pCase (E_cycle 60 y) (M_cycle 60 y) := fun mem hi hm => by
  obtain ⟨hR, hW, hN, h999, cr, cw, cn, hl⟩ := pNow hi
  have t5 := hR.2.2.2.1
  have t3 := hR.2.1
  have t6 := hR.2.2.2.2.1
  have t4 := hR.2.2.1
  have h10 := hW.1
  have r5 := cr.2.2.2.2.2.1
  generalize hT : jrI mem 55 0 = T at *
  rw [q_E_cycle 59, cr.1]
  rcases told01 hR with h0 | h1
  · rw [if_pos h0]
    refine ⟨-1, mem, rfl, fun _ => ⟨mem, ?_, hi⟩⟩
    rw [q_M_cycle 59, s_M_isRiver, hT]
    simp only [jbnd_s, jasI_v]
    rw [jb_n (by omega), if_pos rfl]
  rw [if_neg (by omega), s_E_within]
  simp only [jbnd_s, jasI_v]
  by_cases hy : 0 ≤ y ∧ y ≤ 1
  case neg =>
    rw [jb_n hy, if_pos rfl]
    refine ⟨-1, mem, rfl, fun _ => ⟨mem, ?_, hi⟩⟩
    rw [q_M_cycle 59, s_M_isRiver, hT]
    simp only [jbnd_s, jasI_v, s_M_in]
    rw [jb_1 h1, if_neg (by decide), jb_n hy, if_pos rfl]
  rw [jb_1 hy, if_neg (by decide)]
  obtain ⟨o, ev, e1, e2, e3⟩ := pEv hi 57
  rw [e1]
  simp only [jbnd_s, jasR_v]
  rw [q_As_firstRound]
  obtain ⟨m0, a1, a2, a3, -⟩ := s_copy25 57 T mem hR cw
  rw [a1]
  simp only [jbnd_s]
  have t1 : T 1 ≤ 12 := by have := hR.1; omega
  have itT : ∀ i : Int, 0 ≤ i → i ≤ 70 → tRv (tIt ev i.toNat T) ∧ tWv (tIt ev i.toNat T) ∧ tIt ev i.toNat T 5 = T 5 ∧ tIt ev i.toNat T 10 = T 10 + i ∧ tIt ev i.toNat T 0 = 1 ∧ tEq T (tIt ev i.toNat T) := fun i i0 i1 => by
    obtain ⟨q1, q2, q3⟩ := tIt_ok ev hR hW h1 i.toNat (by omega)
    exact ⟨tRv_eq q1 hR, q2, q1 5 (by omega), by rw [q3]; omega, by rw [q1 0 (by omega)]; exact h1, q1⟩
  have hB : ∀ k : Int, 0 ≤ k → k ≤ 60 → ∀ m, 0 ≤ m → m < T 5 → -1 ≤ tIt ev k.toNat T (11 + m) ∧ tIt ev k.toNat T (11 + m) ≤ 40 := fun k k0 k1 m m0 m1 => by
    obtain ⟨q1, q2, q3, q4, q5, q6⟩ := itT k k0 (by omega)
    have hw := q2.2.1 m m0 (by omega)
    rw [q6 1 (by omega), q6 6 (by omega), q6 4 (by omega)] at hw
    omega
  -- the class
  obtain ⟨m1, c1, c2, c3, c4⟩ := puUpE (P := fun i (m : jMem) => puR aX mem m ∧ cWv m 25 (tIt ev i.toNat T) ∧ (∀ j, 0 ≤ j → j < i → jrJ m 13 0 j = tPk (tIt ev j.toNat T) (T 5))) (L := fun i m => As_firstRound_14 58 0 o y i m) (n := 61) (by decide) (fun i m i0 i1 hP => by
    obtain ⟨p1, p2, p3⟩ := hP
    obtain ⟨q1, q2, q3, q4, q5, q6⟩ := itT i i0 (by omega)
    have hpl := s_Wa_places 57 25 (tIt ev i.toNat T) m (by rw [q3]; exact t5) p2 (fun m a b => hB i i0 (by omega) m a (by omega))
    rw [q3] at hpl
    rw [q_As_firstRound_14, if_neg (by omega), p1 4 0 5 (by unfold aX; omega), r5, hpl]
    simp only [jbnd_s, jasJ_v]
    rw [jix_in i0 (by omega)]
    have cri : cRw mem 0 (tIt ev i.toNat T) := cRw_cong hR (fun k k0 k1 k2 k3 => q6 k (by omega)) (cRw_of cr)
    obtain ⟨m3, f1, f2, f3, f4, f5⟩ := s_tryb 51 o ev (tIt ev i.toNat T) 1 mem (jwJ m 13 0 i (tPk (tIt ev i.toNat T) (T 5))) q1 q2 q5 (by rw [q4]; omega) cri e2 (puR_J p1) (cWv_fr (fun f k hf => rfl) p2)
    have f1' : Sm_pass 58 1 0 25 o 1 (jwJ m 13 0 i (tPk (tIt ev i.toNat T) (T 5))) = some (vU, m3) := f1
    rw [f1', jw32_id (x := i + 1) (by omega) (by omega)]
    simp only [jbnd_s]
    refine ⟨m3, rfl, f3, by rw [tIt_s ev i i0 T]; exact f2, fun j j0 j1 => ?_⟩
    rw [f5 13 (by decide)]
    by_cases e : j = i
    · rw [e, jrJ_ws]
    · rw [jrJ_wk e]
      exact p3 j j0 (by omega)) m0 ⟨a3, a2, fun j j0 j1 => by omega⟩
  have c1' : As_firstRound_14 58 0 o y 0 m0 = As_firstRound_14 58 0 o y 61 m1 := c1
  have hro : 1 ≤ tRo T ∧ tRo T ≤ 12 := by
    unfold tRo
    rw [if_pos h1]
    by_cases h : T 3 = 0
    · rw [if_pos h]; omega
    · rw [if_neg h]; omega
  rw [c1', q_As_firstRound_14, if_pos (by decide), s_Ri_round 56 0 T m1 (X_now c2 cr cw).1 hR]
  simp only [jbnd_s, jasI_v]
  rw [s_J_max]
  simp only [jbnd_s, jasI_v]
  have hmx : (if 1 < tRo T then tRo T else 1) = tRo T := by
    by_cases h : 1 < tRo T
    · rw [if_pos h]
    · rw [if_neg h]; omega
  rw [hmx]
  -- the reference
  have hs : jrI m1 55 0 = T := by rw [X_said c2]; exact hT
  have hl1 : jrI m1 11 0 23 = -1 := by rw [X_23 c2]; exact hl
  obtain ⟨m2, b1, b2, b3, b4, -⟩ := s_keep 58 m1
  obtain ⟨m9, g1, g2, g3, g4, g5⟩ := puUpE (P := fun i (m : jMem) => mKept m1 m ∧ jrI m 55 0 = tIt ev i.toNat T ∧ jrI m 11 0 23 = -1 ∧ (∀ k, 0 ≤ k → k < i → ∀ j, 0 ≤ j → j < T 5 → jrI m 60 0 (6 * k + j) = tIt ev k.toNat T (11 + j))) (L := fun i m => M_cycle_25 59 y i m) (n := 61) (by decide) (fun i m i0 i1 hP => by
    obtain ⟨p1, p2, p3, p4⟩ := hP
    obtain ⟨q1, q2, q3, q4, q5, q6⟩ := itT i i0 (by omega)
    rw [q_M_cycle_25, if_neg (by omega)]
    obtain ⟨m5, u1, u2, u3⟩ := puUpE (P := fun j (m5 : jMem) => puR (fun f i _ => f = 60 ∧ i = 0) m m5 ∧ (∀ k, jrI m5 60 0 k = if 6 * i ≤ k ∧ k < 6 * i + j then tIt ev i.toNat T (11 + (k - 6 * i)) else jrI m 60 0 k)) (L := fun j m5 => M_cycle_33 59 y i j m5) (n := T 5) t5.1 (fun j m5 j0 j1 hP => by
      obtain ⟨w1, w2⟩ := hP
      have w3 : jrI m5 55 0 = tIt ev i.toNat T := by
        rw [← p2]
        exact funext fun k => w1 55 0 k (by omega)
      rw [q_M_cycle_33, w3, q3, if_pos j1, jw32_id (x := 11 + j) (by omega) (by omega), jix_in (by omega) (by omega), jw32_id (x := 6 * i) (by omega) (by omega), jw32_id (x := 6 * i + j) (by omega) (by omega), jix_in (by omega) (by omega), jw32_id (x := j + 1) (by omega) (by omega)]
      refine ⟨_, rfl, puR_w w1 ⟨rfl, rfl⟩, fun k => ?_⟩
      by_cases e : k = 6 * i + j
      · rw [e, jrI_ws, if_pos (by omega), show 6 * i + j - 6 * i = j by omega]
      · rw [jrI_wk e, w2 k]
        by_cases hk : 6 * i ≤ k ∧ k < 6 * i + j
        · rw [if_pos hk, if_pos (by omega)]
        · rw [if_neg hk, if_neg (by omega)]) m ⟨puR_rf _ m, fun k => by rw [if_neg (by omega)]⟩
    have u1' : M_cycle_33 59 y i 0 m = M_cycle_33 59 y i (T 5) m5 := u1
    have w3 : jrI m5 55 0 = tIt ev i.toNat T := by
      rw [← p2]
      exact funext fun k => u2 55 0 k (by omega)
    have hk5 : mKept m1 m5 := mKept_Y p1 (puR_mono u2 (fun f i k hf => by unfold aY; omega))
    obtain ⟨r, m6, v1, v2, v3, v4, v5⟩ := s_moneb 52 ev T i m1 m5 hR hW h1 i0 (by omega) (mEv_X c2 e3) hk5 w3 (by rw [u2 11 0 23 (by omega)]; exact p3)
    rw [u1', q_M_cycle_33, w3, q3, if_neg (by omega), v1, jw32_id (x := i + 1) (by omega) (by omega)]
    simp only [jbnd_s]
    refine ⟨m6, rfl, v3, v2, v4, fun k k0 k1 j j0 j1 => ?_⟩
    rw [v5.1 60 0 _ (by unfold aP; omega), u3]
    by_cases e : k = i
    · rw [e, if_pos (by omega), show 6 * i + j - 6 * i = j by omega]
    · rw [if_neg (by omega)]
      exact p4 k k0 (by omega) j j0 j1) m2 ⟨b2, by rw [b3, hs]; rfl, by rw [X_23 b4]; exact hl1, fun k k0 k1 => by omega⟩
  have g1' : M_cycle_25 59 y 0 m2 = M_cycle_25 59 y 61 m9 := g1
  obtain ⟨m4, d1, d2, d3, d4, d5, d6, -⟩ := s_back 58 m1 m9 g2 (by rw [g4, hl1])
  have d2' : jrI m4 55 0 = T := by rw [d2]; exact hs
  have hV4 : ∀ k : Int, 0 ≤ k → k ≤ 60 → ∀ j, 0 ≤ j → j < T 5 → jrI m4 60 0 (6 * k + j) = tIt ev k.toNat T (11 + j) := fun k k0 k1 j j0 j1 => by
    rw [d6 60 0 _ (by omega)]
    exact g5 k k0 (by omega) j j0 j1
  have joint : ∀ (c : Nat) (i : Int), 0 ≤ i → i + (c : Int) = 60 → ∃ r, As_firstRound_81 58 0 y (tRo T) i m1 = some (vI r, m1) ∧ M_cycle_86 59 y i m4 = some (vI r, m4) := by
    intro c
    induction c with
    | zero =>
      intro i i0 i1
      rw [q_As_firstRound_81, q_M_cycle_86, if_neg (by omega), if_neg (by omega)]
      exact ⟨_, rfl, rfl⟩
    | succ c ih =>
      intro i i0 i1
      obtain ⟨r, r1, r2⟩ := ih (i + 1) (by omega) (by omega)
      have hc := cyc_c y (tRo T) (T 10) (fun j => tPk (tIt ev j.toNat T) (T 5)) m1 (fun j j0 j1 => c4 j j0 (by omega)) hro ((X_now c2 cr cw).2.1) (by omega) i i0 (by omega) 200 (i + tRo T) (by omega) (by omega) (by rw [show i + tRo T - i = tRo T by omega]; exact Int.emod_self) (by omega)
      have hm9 := cyc_m y T (fun k => tIt ev k.toNat T) m4 d2' h1 t5 t3 (by omega) hV4 hB i i0 (by omega) (60 - i).toNat (i + 1) (by omega) (by omega)
      have hskip := puG_skip (fun b => (b - i) % tRo T = 0 ∧ tPk (tIt ev i.toNat T) (T 5) = tPk (tIt ev b.toNat T) (T 5)) (tRo T - 1).toNat (60 - i).toNat (i + 1) (by omega) (fun j a b w => by
        have h7 : (j - i) % tRo T = j - i := Int.emod_eq_of_lt (by omega) (by omega)
        have h8 := w.1
        omega)
      rw [hskip, show (60 - i).toNat - (tRo T - 1).toNat = (61 - (i + tRo T)).toNat by omega, show i + 1 + ((tRo T - 1).toNat : Int) = i + tRo T by omega] at hm9
      rw [q_As_firstRound_81, q_M_cycle_86, if_pos (by omega), if_pos (by omega), jw32_id (x := i + tRo T) (by omega) (by omega), jw32_id (x := i + 1) (by omega) (by omega), hc, hm9]
      by_cases hg : puG (fun b => (b - i) % tRo T = 0 ∧ tPk (tIt ev i.toNat T) (T 5) = tPk (tIt ev b.toNat T) (T 5)) (61 - (i + tRo T)).toNat (i + tRo T) = -1
      · rw [if_pos hg, if_pos hg]
        exact ⟨r, r1, r2⟩
      · rw [if_neg hg, if_neg hg]
        exact ⟨_, rfl, rfl⟩
  obtain ⟨r, z1, z2⟩ := joint 60 0 (Int.le_refl 0) (by omega)
  rw [z1]
  simp only [jbnd_s, jasI_v]
  refine ⟨r, m1, rfl, fun _ => ⟨m4, ?_, pInv_fr d3 (pInv_fr c2 hi)⟩⟩
  rw [q_M_cycle 59, s_M_isRiver, hs]
  simp only [jbnd_s, jasI_v, s_M_in]
  rw [jb_1 h1, if_neg (by decide), jb_1 hy, if_neg (by decide), b1]
  simp only [jbnd_s]
  rw [g1', q_M_cycle_25, if_pos (by decide), d1]
  simp only [jbnd_s]
  rw [z2]
