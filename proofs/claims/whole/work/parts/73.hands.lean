/-! What people have: astray, right, pence -/
def tAs (T : Int → Int) (m : Int) : Prop := 30 ≤ T (11 + m) ∧ T (11 + m) ≠ 30 + T (45 + m)
theorem s_Ha_strayed (d : Nat) (T : Int → Int) (mem : jMem) (hR : tRv T) (cr : cRv mem 0 T) (cw : cWv mem 0 T) : Ha_strayed (d + 1) 0 mem = some (vI (tSet (fun m => 30 ≤ T (11 + m) ∧ T (11 + m) ≠ 30 + T (45 + m)) (T 5)), mem) := by
  have t5 := hR.2.2.2.1
  have r5 := cr.2.2.2.2.2.1
  rw [q_Ha_strayed]
  unfold tSet
  obtain ⟨h1, -⟩ := puF_run0 (P := fun _ _ => True) (L := fun i s => Ha_strayed_4 d 0 s i mem) (f := fun m s => if 30 ≤ T (11 + m) ∧ T (11 + m) ≠ 30 + T (45 + m) then jor s (jshl 1 m) else s) (n := T 5) t5.1 (fun i s g0 g1 _ => by
    have hm := hR.2.2.2.2.2.2.1 i g0 g1
    have t4 := hR.2.2.1
    rw [q_Ha_strayed_4, r5, if_pos g1, jix_in g0 (by omega), jix_in g0 (by omega), jw32_id (x := i + 1) (by omega) (by omega), (cw.2.1 i g0 g1).1, (cr.2.2.2.2.2.2.2.1 i g0 g1).2.2.2, jw32_id (x := 30 + T (45 + i)) (by omega) (by omega)]
    by_cases ha : T (11 + i) < 30
    · rw [if_pos ha, if_neg (by omega)]
      exact ⟨rfl, trivial⟩
    · rw [if_neg ha]
      by_cases hb : T (11 + i) = 30 + T (45 + i)
      · rw [if_pos hb, if_neg (fun w => w.2 hb)]
        exact ⟨rfl, trivial⟩
      · rw [if_neg hb, if_pos ⟨by omega, hb⟩]
        exact ⟨rfl, trivial⟩) 0 trivial
  rw [h1, q_Ha_strayed_4, r5, if_neg (by omega)]
theorem s_M_isAstray (d : Nat) (m : Int) (T : Int → Int) (mem : jMem) (hR : tRv T) (hT : jrI mem 55 0 = T) (h0 : 0 ≤ m) (h1 : m < T 5) : M_isAstray (d + 3) m mem = some (vI (jb (30 ≤ T (11 + m) ∧ T (11 + m) ≠ 30 + T (45 + m))), mem) := by
  have t5 := hR.2.2.2.1
  have t4 := hR.2.2.1
  have hm := hR.2.2.2.2.2.2.1 m h0 h1
  rw [q_M_isAstray, s_M_isHad d m T mem hR hT]
  simp only [jbnd_s, jasI_v]
  rw [hT, jw32_id (x := 11 + m) (by omega) (by omega), jw32_id (x := 45 + m) (by omega) (by omega), jix_in (by omega) (by omega), jix_in (by omega) (by omega), jw32_id (x := 30 + T (45 + m)) (by omega) (by omega)]
  by_cases ha : 30 ≤ T (11 + m)
  · rw [jb_1 ⟨h0, h1, ha⟩, if_neg (by decide)]
    by_cases hb : T (11 + m) = 30 + T (45 + m)
    · rw [if_pos hb, jb_n (fun w => w.2 hb)]
    · rw [if_neg hb, jb_1 ⟨ha, hb⟩]
  · rw [jb_n (fun w => ha w.2.2), if_pos rfl, jb_n (fun w => ha w.1)]
theorem p_astray : pCase (E_astray 60) (M_astray 60) := pCase_ro fun mem hi hm => by
  obtain ⟨hR, hW, hN, h999, cr, cw, cn, hl⟩ := pNow hi
  have t5 := hR.2.2.2.1
  rw [q_E_astray 59, q_M_astray 59, cr.1, s_M_isRiver]
  simp only [jbnd_s, jasI_v]
  rcases told01 hR with h0 | h1
  · rw [if_pos h0, jb_n (by omega), if_pos rfl]
    exact ⟨_, rfl, rfl⟩
  · rw [if_neg (by omega), jb_1 h1, if_neg (by decide), s_Ha_strayed 58 _ mem hR cr cw]
    simp only [jbnd_s, jasI_v]
    refine ⟨_, rfl, ?_⟩
    unfold tSet
    obtain ⟨e1, -⟩ := puF_run0 (P := fun _ s => jokI s) (L := fun i s => M_astray_13 59 s i mem) (f := fun m s => if 30 ≤ jrI mem 55 0 (11 + m) ∧ jrI mem 55 0 (11 + m) ≠ 30 + jrI mem 55 0 (45 + m) then jor s (jshl 1 m) else s) (n := jrI mem 55 0 5) t5.1 (fun i s g0 g1 gs => by
      rw [q_M_astray_13, if_pos g1, s_M_isAstray 56 i _ mem hR rfl g0 g1, jw32_id (x := i + 1) (by omega) (by omega)]
      simp only [jbnd_s, jasI_v]
      by_cases hp : 30 ≤ jrI mem 55 0 (11 + i) ∧ jrI mem 55 0 (11 + i) ≠ 30 + jrI mem 55 0 (45 + i)
      · rw [jb_1 hp, if_neg (by decide), if_pos hp]
        exact ⟨rfl, jokI_or _ _⟩
      · rw [jb_n hp, if_pos rfl, if_neg hp, jor_0 gs]
        exact ⟨rfl, gs⟩) 0 ⟨by decide, by decide⟩
    rw [e1, q_M_astray_13, if_neg (by omega)]
theorem puF_add (p : Int → Prop) [DecidablePred p] : ∀ (k : Nat) (i a : Int), puF (fun i a => if p i then a + 1 else a) k i a = a + puF (fun i a => if p i then a + 1 else a) k i 0
  | 0, i, a => by
    show a = a + 0
    omega
  | k + 1, i, a => by
    show puF _ k (i + 1) (if p i then a + 1 else a) = a + puF _ k (i + 1) (if p i then 0 + 1 else 0)
    rw [puF_add p k (i + 1) (if p i then a + 1 else a), puF_add p k (i + 1) (if p i then 0 + 1 else 0)]
    by_cases h : p i
    · rw [if_pos h, if_pos h]; omega
    · rw [if_neg h, if_neg h]; omega
def tCv (g : Int) : Int := if g = -1 then -2 else g
theorem puF_c (p : Int → Prop) [DecidablePred p] (k : Nat) (i : Int) : puF (fun m (a : Int) => if p m then a + 1 else a) (k + 1) i 0 = puF (fun m (a : Int) => if p m then a + 1 else a) k (i + 1) (if p i then 0 + 1 else 0) := rfl
theorem right_down (p : Int → Prop) [DecidablePred p] (x : Int) (mem : jMem) (n : Nat) (h6 : n ≤ 6) (hT : ∀ m, 0 ≤ m → m < (n : Int) → M_isAstray 59 m mem = some (vI (jb (p m)), mem)) : M_right_36 59 x (-2) 0 ((n : Int) - 1) mem = M_right_36 59 x (tCv (puG p n 0)) (tCnt p (n : Int)) (-1) mem := by
  have down : ∀ i : Nat, i ≤ n → M_right_36 59 x (tCv (puG p (n - i) (i : Int))) (puF (fun m a => if p m then a + 1 else a) (n - i) (i : Int) 0) ((i : Int) - 1) mem = M_right_36 59 x (tCv (puG p n 0)) (puF (fun m a => if p m then a + 1 else a) n 0 0) (-1) mem := by
    intro i
    induction i with
    | zero => intro _; rfl
    | succ i ih =>
      intro hi2
      rw [← ih (by omega)]
      rw [show n - i = (n - (i + 1)) + 1 by omega, puG_s, puF_c p, show ((i + 1 : Nat) : Int) = (i : Int) + 1 by omega, show (i : Int) + 1 - 1 = (i : Int) by omega]
      have b := tCnt_b p (n - (i + 1)) ((i : Int) + 1) 0
      have hM : ∀ A B : Int, 0 ≤ B → B ≤ 6 → M_right_36 59 x A B (i : Int) mem = if p (i : Int) then M_right_36 59 x (i : Int) (B + 1) ((i : Int) - 1) mem else M_right_36 59 x A B ((i : Int) - 1) mem := fun A B h0 h1 => by
        rw [q_M_right_36, if_neg (by omega), hT (i : Int) (by omega) (by omega), jw32_id (x := (i : Int) + -1) (by omega) (by omega), jw32_id (x := B + 1) (by omega) (by omega), show (i : Int) + -1 = (i : Int) - 1 by omega]
        simp only [jbnd_s, jasI_v]
        by_cases hp : p (i : Int)
        · rw [jb_1 hp, if_neg (by decide), if_pos hp]
        · rw [jb_n hp, if_pos rfl, if_neg hp]
      rw [hM _ _ (by omega) (by omega)]
      by_cases hp : p (i : Int)
      · rw [if_pos hp, if_pos hp, if_pos hp, puF_add p _ _ (0 + 1)]
        rw [show tCv (i : Int) = (i : Int) from if_neg (by omega)]
        congr 1
        omega
      · rw [if_neg hp, if_neg hp, if_neg hp]
  have h := down n (Nat.le_refl n)
  rw [show n - n = 0 by omega] at h
  unfold tCnt
  rw [Int.toNat_natCast]
  exact h
theorem right_up (p : Int → Prop) [DecidablePred p] (x S : Int) (mem : jMem) (T : Int → Int) (n : Nat) (h6 : n ≤ 6) (r5 : jrI mem 4 0 5 = (n : Int)) (s3 : ∀ q : Nat, q < 8 → tBit S (q : Int) = jb ((q : Int) < (n : Int) ∧ p (q : Int))) (rw7 : ∀ m, 0 ≤ m → m < (n : Int) → jrI mem 26 0 m = T (45 + m)) : ∀ (k : Nat) (i : Int), 0 ≤ i → i + (k : Int) = (n : Int) → E_right_43 59 x S i mem = some (vI (if puG p k i = -1 then -2 else if x = 1 then puG p k i else T (45 + puG p k i)), mem) := by
  intro k
  induction k with
  | zero =>
    intro i i0 i1
    rw [q_E_right_43, r5, if_neg (by omega)]
    rfl
  | succ k ih =>
    intro i i0 i1
    obtain ⟨q, rfl⟩ := Int.eq_ofNat_of_zero_le i0
    have hb := s3 q (by omega)
    unfold tBit at hb
    rw [q_E_right_43, r5, if_pos (by omega), hb, puG_s]
    by_cases hp : p (q : Int)
    · rw [jb_1 ⟨by omega, hp⟩, if_neg (by decide), if_pos hp]
      by_cases x1 : x = 1
      · rw [if_pos x1, if_neg (show ¬ (q : Int) = -1 by omega), if_pos x1]
      · rw [if_neg x1, if_neg (show ¬ (q : Int) = -1 by omega), if_neg x1, jix_in i0 (by omega), rw7 _ i0 (by omega)]
    · rw [jb_n (fun w => hp w.2), if_pos rfl, if_neg hp, jw32_id (x := (q : Int) + 1) (by omega) (by omega)]
      exact ih _ (by omega) (by omega)
theorem p_right (x : Int) : pCase (E_right 60 x) (M_right 60 x) := pCase_ro fun mem hi hm => by
  obtain ⟨hR, hW, hN, h999, cr, cw, cn, hl⟩ := pNow hi
  have t5 := hR.2.2.2.1
  have r5 := cr.2.2.2.2.2.1
  rw [q_E_right 59, q_M_right 59, cr.1, s_M_isRiver]
  simp only [jbnd_s, jasI_v]
  rcases told01 hR with h0 | h1
  · rw [if_pos h0, jb_n (by omega), if_pos rfl]
    exact ⟨_, rfl, rfl⟩
  rw [if_neg (by omega), jb_1 h1, if_neg (by decide), s_E_within, s_M_in]
  simp only [jbnd_s, jasI_v]
  by_cases hx : 0 ≤ x ∧ x ≤ 2
  case neg =>
    rw [jb_n hx, if_pos rfl, if_pos rfl]
    exact ⟨_, rfl, rfl⟩
  rw [jb_1 hx, if_neg (by decide), if_neg (by decide), s_Ha_strayed 58 _ mem hR cr cw]
  simp only [jbnd_s, jasI_v]
  have hT : ∀ m, 0 ≤ m → m < jrI mem 55 0 5 → M_isAstray 59 m mem = some (vI (jb (30 ≤ jrI mem 55 0 (11 + m) ∧ jrI mem 55 0 (11 + m) ≠ 30 + jrI mem 55 0 (45 + m))), mem) := fun m a b => s_M_isAstray 56 m _ mem hR rfl a b
  have rw7 : ∀ m, 0 ≤ m → m < jrI mem 55 0 5 → jrI mem 26 0 m = jrI mem 55 0 (45 + m) := fun m a b => (cr.2.2.2.2.2.2.2.1 m a b).2.2.2
  obtain ⟨n, hn⟩ := Int.eq_ofNat_of_zero_le t5.1
  rw [hn] at t5 r5 hT rw7 ⊢
  rw [jw32_id (x := (n : Int) - 1) (by omega) (by omega), right_down _ x mem n (by omega) hT, q_M_right_36, if_pos (show (-1 : Int) < 0 by decide)]
  obtain ⟨s1, s2, s3⟩ := tSet_bit (fun m => 30 ≤ jrI mem 55 0 (11 + m) ∧ jrI mem 55 0 (11 + m) ≠ 30 + jrI mem 55 0 (45 + m)) n (by omega)
  have hc := (tSet_pop (fun m => 30 ≤ jrI mem 55 0 (11 + m) ∧ jrI mem 55 0 (11 + m) ≠ 30 + jrI mem 55 0 (45 + m)) n (by omega)).2.2
  by_cases x0 : x = 0
  · rw [if_pos x0, if_pos x0, s_J_bitCount 58 _ mem s1 (by omega), hc]
    simp only [jbnd_s, jasI_v]
    exact ⟨_, rfl, rfl⟩
  rw [if_neg x0, if_neg x0]
  rw [right_up (fun m => 30 ≤ jrI mem 55 0 (11 + m) ∧ jrI mem 55 0 (11 + m) ≠ 30 + jrI mem 55 0 (45 + m)) x _ mem (jrI mem 55 0) n (by omega) r5 s3 rw7 n 0 (Int.le_refl 0) (by omega)]
  refine ⟨_, rfl, ?_⟩
  have hsp := puG_spec (fun m => 30 ≤ jrI mem 55 0 (11 + m) ∧ jrI mem 55 0 (11 + m) ≠ 30 + jrI mem 55 0 (45 + m)) n 0 (Int.le_refl 0)
  generalize puG (fun m => 30 ≤ jrI mem 55 0 (11 + m) ∧ jrI mem 55 0 (11 + m) ≠ 30 + jrI mem 55 0 (45 + m)) n 0 = g at hsp ⊢
  unfold tCv
  rcases hsp with ⟨g1, -⟩ | ⟨g1, g2, -, -⟩
  · rw [if_pos g1, if_pos g1]
    by_cases x1 : x = 1
    · rw [if_pos x1]
    · rw [if_neg x1, if_pos (by decide)]
  · have e : (if g = -1 then (-2 : Int) else g) = g := if_neg (by omega)
    rw [e, if_neg (show ¬ g = -1 by omega)]
    by_cases x1 : x = 1
    · rw [if_pos x1, if_pos x1]
    · rw [if_neg x1, if_neg x1, if_neg (show ¬ g < 0 by omega), jw32_id (x := 45 + g) (by omega) (by omega), jix_in (by omega) (by omega)]
/-! pence -/
def tSz (T : Int → Int) (p n : Int) : Int := puF (fun m a => if T (11 + m) = 30 + p then a + T (33 + m) else a) n.toNat 0 0
theorem tSz_s (T : Int → Int) (p : Int) {i : Int} (h : 0 ≤ i) : tSz T p (i + 1) = if T (11 + i) = 30 + p then tSz T p i + T (33 + i) else tSz T p i := by
  unfold tSz
  rw [puF_s _ h]
theorem tSz_in {T : Int → Int} (hR : tRv T) (p : Int) : ∀ k : Nat, (k : Int) ≤ T 5 → 0 ≤ tSz T p (k : Int) ∧ tSz T p (k : Int) ≤ 9 * (k : Int) := by
  intro k
  induction k with
  | zero => intro _; exact ⟨by show (0 : Int) ≤ 0; decide, by show (0 : Int) ≤ 9 * 0; decide⟩
  | succ k ih =>
    intro hk
    obtain ⟨a, b⟩ := ih (by omega)
    have hm := hR.2.2.2.2.2.2.1 (k : Int) (by omega) (by omega)
    rw [show ((k + 1 : Nat) : Int) = (k : Int) + 1 by omega, tSz_s T p (by omega)]
    split <;> omega
theorem tSz_b {T : Int → Int} (hR : tRv T) (p i : Int) (h0 : 0 ≤ i) (h1 : i ≤ T 5) : 0 ≤ tSz T p i ∧ tSz T p i ≤ 54 := by
  have t5 := hR.2.2.2.1
  obtain ⟨k, rfl⟩ := Int.eq_ofNat_of_zero_le h0
  have := tSz_in hR p k h1
  omega
theorem s_Ha_sizesOf (d : Nat) (p : Int) (T : Int → Int) (mem : jMem) (hR : tRv T) (cr : cRv mem 0 T) (cw : cWv mem 0 T) (hp : 0 ≤ p ∧ p < 4) : Ha_sizesOf (d + 1) 0 p mem = some (vI (tSz T p (T 5)), mem) := by
  have t5 := hR.2.2.2.1
  have r5 := cr.2.2.2.2.2.1
  rw [q_Ha_sizesOf]
  have h := puUp (L := fun i => Ha_sizesOf_4 d 0 p (tSz T p i) i mem) t5.1 (fun i i0 i1 => by
    have hm := hR.2.2.2.2.2.2.1 i i0 i1
    have hb := tSz_b hR p i i0 (by omega)
    rw [q_Ha_sizesOf_4, r5, if_pos i1, jix_in i0 (by omega), jix_in i0 (by omega), (cw.2.1 i i0 i1).1, (cr.2.2.2.2.2.2.2.1 i i0 i1).2.1, jw32_id (x := 30 + p) (by omega) (by omega), jw32_id (x := i + 1) (by omega) (by omega), jw32_id (x := tSz T p i + T (33 + i)) (by omega) (by omega), tSz_s T p i0]
    split <;> rfl)
  have h2 : Ha_sizesOf_4 d 0 p 0 0 mem = Ha_sizesOf_4 d 0 p (tSz T p (T 5)) (T 5) mem := h
  rw [h2, q_Ha_sizesOf_4, r5, if_neg (by omega)]
theorem s_M_sizesOf (d : Nat) (p : Int) (T : Int → Int) (mem : jMem) (hR : tRv T) (hT : jrI mem 55 0 = T) (hp : 0 ≤ p ∧ p < 4) : M_sizesOf (d + 1) p mem = some (vI (tSz T p (T 5)), mem) := by
  have t5 := hR.2.2.2.1
  rw [q_M_sizesOf]
  have h := puUp (L := fun i => M_sizesOf_4 d p (tSz T p i) i mem) t5.1 (fun i i0 i1 => by
    have hm := hR.2.2.2.2.2.2.1 i i0 i1
    have hb := tSz_b hR p i i0 (by omega)
    rw [q_M_sizesOf_4, hT, if_pos i1, jw32_id (x := 11 + i) (by omega) (by omega), jw32_id (x := 33 + i) (by omega) (by omega), jix_in (by omega) (by omega), jix_in (by omega) (by omega), jw32_id (x := 30 + p) (by omega) (by omega), jw32_id (x := i + 1) (by omega) (by omega), jw32_id (x := tSz T p i + T (33 + i)) (by omega) (by omega), jw32_id (x := tSz T p i + 0) (by omega) (by omega), show tSz T p i + 0 = tSz T p i by omega, tSz_s T p i0]
    split <;> rfl)
  have h2 : M_sizesOf_4 d p 0 0 mem = M_sizesOf_4 d p (tSz T p (T 5)) (T 5) mem := h
  rw [h2, q_M_sizesOf_4, hT, if_neg (by omega)]
def tAl (T : Int → Int) (n : Int) : Int := puF (fun p a => a + tSz T p (T 5)) n.toNat 0 0
theorem tAl_s (T : Int → Int) {i : Int} (h : 0 ≤ i) : tAl T (i + 1) = tAl T i + tSz T i (T 5) := by
  unfold tAl
  rw [puF_s _ h]
theorem tAl_in {T : Int → Int} (hR : tRv T) (i : Int) (h0 : 0 ≤ i) : 0 ≤ tAl T i ∧ tAl T i ≤ 54 * i := by
  obtain ⟨k, rfl⟩ := Int.eq_ofNat_of_zero_le h0
  clear h0
  induction k with
  | zero => exact ⟨by show (0 : Int) ≤ 0; decide, by show (0 : Int) ≤ 54 * 0; decide⟩
  | succ k ih =>
    have hb := tSz_b hR (k : Int) (T 5) hR.2.2.2.1.1 (Int.le_refl _)
    rw [show ((k + 1 : Nat) : Int) = (k : Int) + 1 by omega, tAl_s T (by omega)]
    omega
def tGv (T : Int → Int) (c a n : Int) : Int := puF (fun p s => s + (c * tSz T p (T 5)).tdiv a) n.toNat 0 0
theorem tGv_s (T : Int → Int) (c a : Int) {i : Int} (h : 0 ≤ i) : tGv T c a (i + 1) = tGv T c a i + (c * tSz T i (T 5)).tdiv a := by
  unfold tGv
  rw [puF_s _ h]
theorem mul54 {c s : Int} (hc : 0 ≤ c ∧ c ≤ 9999) (hs : 0 ≤ s ∧ s ≤ 54) : 0 ≤ c * s ∧ c * s ≤ 539946 := by
  refine ⟨Int.mul_nonneg hc.1 hs.1, ?_⟩
  have h1 : c * s ≤ 9999 * s := Int.mul_le_mul_of_nonneg_right hc.2 hs.1
  omega
theorem tdiv_in {x a : Int} (h0 : 0 ≤ x) (ha : 0 < a) : 0 ≤ x.tdiv a ∧ x.tdiv a ≤ x := by
  rw [Int.tdiv_eq_ediv_of_nonneg h0]
  exact ⟨Int.ediv_nonneg h0 (by omega), Int.ediv_le_self a h0⟩
theorem tGv_in {T : Int → Int} (hR : tRv T) {c a : Int} (hc : 0 ≤ c ∧ c ≤ 9999) (ha : 0 < a) (i : Int) (h0 : 0 ≤ i) : 0 ≤ tGv T c a i ∧ tGv T c a i ≤ 539946 * i := by
  obtain ⟨k, rfl⟩ := Int.eq_ofNat_of_zero_le h0
  clear h0
  induction k with
  | zero => exact ⟨by show (0 : Int) ≤ 0; decide, by show (0 : Int) ≤ 539946 * 0; decide⟩
  | succ k ih =>
    have hb := mul54 hc (tSz_b hR (k : Int) (T 5) hR.2.2.2.1.1 (Int.le_refl _))
    have hd := tdiv_in hb.1 ha
    rw [show ((k + 1 : Nat) : Int) = (k : Int) + 1 by omega, tGv_s T c a (by omega)]
    omega
theorem p_pence (c q : Int) : pCase (E_pence 60 c q) (M_pence 60 c q) := pCase_ro fun mem hi hm => by
  obtain ⟨hR, hW, hN, h999, cr, cw, cn, hl⟩ := pNow hi
  have t5 := hR.2.2.2.1
  have t4 := hR.2.2.1
  have r4 := cr.2.2.2.2.1
  generalize hT : jrI mem 55 0 = T at *
  rw [q_E_pence 59, q_M_pence 59, s_E_isPerson 57 q mem (by omega) (by omega), s_M_isPerson, r4, hT]
  simp only [jbnd_s, jasI_v]
  by_cases hq : 0 ≤ q ∧ q < T 4
  case neg =>
    rw [jb_n hq, if_pos rfl, if_pos rfl]
    exact ⟨_, rfl, rfl⟩
  rw [jb_1 hq, if_neg (by decide), if_neg (by decide), s_E_within, s_M_in]
  simp only [jbnd_s, jasI_v]
  by_cases hc : 0 ≤ c ∧ c ≤ 9999
  case neg =>
    rw [jb_n hc, if_pos rfl, if_pos rfl]
    exact ⟨_, rfl, rfl⟩
  rw [jb_1 hc, if_neg (by decide), if_neg (by decide), q_Ha_share]
  have hS : ∀ p, 0 ≤ tSz T p (T 5) ∧ tSz T p (T 5) ≤ 54 := fun p => tSz_b hR p (T 5) t5.1 (Int.le_refl _)
  have e1 : Ha_share_8 58 0 c q 0 0 0 mem = Ha_share_8 58 0 c q (tAl T (T 4)) 0 (T 4) mem := puUp (L := fun i => Ha_share_8 58 0 c q (tAl T i) 0 i mem) t4.1 (fun i i0 i1 => by
    have hb := tAl_in hR i i0
    have hs := hS i
    rw [q_Ha_share_8, r4, if_pos i1, s_Ha_sizesOf 57 i T mem hR cr cw ⟨i0, by omega⟩, jw32_id (x := i + 1) (by omega) (by omega), tAl_s T i0]
    simp only [jbnd_s, jasI_v]
    rw [jw32_id (x := tAl T i + tSz T i (T 5)) (by omega) (by omega)])
  have e2 : M_pence_27 59 c q 0 0 mem = M_pence_27 59 c q (tAl T (T 4)) (T 4) mem := puUp (L := fun i => M_pence_27 59 c q (tAl T i) i mem) t4.1 (fun i i0 i1 => by
    have hb := tAl_in hR i i0
    have hs := hS i
    rw [q_M_pence_27, hT, if_pos i1, s_M_sizesOf 58 i T mem hR hT ⟨i0, by omega⟩, jw32_id (x := i + 1) (by omega) (by omega), tAl_s T i0]
    simp only [jbnd_s, jasI_v]
    rw [jw32_id (x := tAl T i + tSz T i (T 5)) (by omega) (by omega)])
  rw [e1, q_Ha_share_8, r4, if_neg (show ¬ T 4 < T 4 by omega), e2, q_M_pence_27, hT, if_neg (show ¬ T 4 < T 4 by omega)]
  have hA := tAl_in hR (T 4) t4.1
  generalize tAl T (T 4) = al at hA ⊢
  by_cases ha : al = 0
  · rw [if_pos ha, if_pos ha]
    simp only [jbnd_s, jasI_v]
    exact ⟨_, rfl, rfl⟩
  have ha2 : 0 < al := by omega
  rw [if_neg ha, if_neg ha, s_Ha_sizesOf 57 q T mem hR cr cw ⟨hq.1, by omega⟩, s_M_sizesOf 58 q T mem hR hT ⟨hq.1, by omega⟩]
  simp only [jbnd_s, jasI_v]
  have hX : ∀ p, 0 ≤ c * tSz T p (T 5) ∧ c * tSz T p (T 5) ≤ 539946 := fun p => mul54 hc (hS p)
  have hD : ∀ p, 0 ≤ (c * tSz T p (T 5)).tdiv al ∧ (c * tSz T p (T 5)).tdiv al ≤ 539946 := fun p => by
    have h1 := hX p
    have h2 := tdiv_in h1.1 ha2
    omega
  have hq2 := hX q
  rw [jnz_in ha, jw32_id (x := c * tSz T q (T 5)) (by omega) (by omega)]
  generalize hlo : (c * tSz T q (T 5)).tmod al = lo
  have hcn : ∀ i, 0 ≤ i → 0 ≤ tCnt (fun p => lo < (c * tSz T p (T 5)).tmod al ∨ ((c * tSz T p (T 5)).tmod al = lo ∧ p < q)) i ∧ tCnt (fun p => lo < (c * tSz T p (T 5)).tmod al ∨ ((c * tSz T p (T 5)).tmod al = lo ∧ p < q)) i ≤ i := fun i h => tCnt_in _ h
  have f1 : Ha_share_58 58 0 c q al 0 lo 0 0 mem = Ha_share_58 58 0 c q al (tGv T c al (T 4)) lo (tCnt (fun p => lo < (c * tSz T p (T 5)).tmod al ∨ ((c * tSz T p (T 5)).tmod al = lo ∧ p < q)) (T 4)) (T 4) mem := puUp (L := fun i => Ha_share_58 58 0 c q al (tGv T c al i) lo (tCnt (fun p => lo < (c * tSz T p (T 5)).tmod al ∨ ((c * tSz T p (T 5)).tmod al = lo ∧ p < q)) i) i mem) t4.1 (fun i i0 i1 => by
    have hg := tGv_in hR hc ha2 i i0
    have h1 := hX i
    have h2 := hD i
    have h3 := hcn i i0
    rw [q_Ha_share_58, r4, if_pos i1, s_Ha_sizesOf 57 i T mem hR cr cw ⟨i0, by omega⟩, tGv_s T c al i0, tCnt_s _ i0]
    simp only [jbnd_s, jasI_v]
    rw [jnz_in ha, jnz_in ha, jnz_in ha, jw32_id (x := c * tSz T i (T 5)) (by omega) (by omega), jw32_id (x := (c * tSz T i (T 5)).tdiv al) (by omega) (by omega), jw32_id (x := tGv T c al i + (c * tSz T i (T 5)).tdiv al) (by omega) (by omega), jw32_id (x := i + 1) (by omega) (by omega), jw32_id (x := tCnt (fun p => lo < (c * tSz T p (T 5)).tmod al ∨ ((c * tSz T p (T 5)).tmod al = lo ∧ p < q)) i + 1) (by omega) (by omega)]
    by_cases a1 : lo < (c * tSz T i (T 5)).tmod al
    · rw [if_pos a1, if_pos (Or.inl a1)]
    · rw [if_neg a1]
      by_cases a2 : (c * tSz T i (T 5)).tmod al = lo
      · rw [if_pos a2]
        by_cases a3 : i < q
        · rw [if_pos a3, if_pos (Or.inr ⟨a2, a3⟩)]
        · rw [if_neg a3, if_neg (by omega)]
      · rw [if_neg a2, if_neg (by omega)])
  have f2 : M_pence_77 59 c q al (c * tSz T q (T 5)) c 0 0 mem = M_pence_77 59 c q al (c * tSz T q (T 5)) (c - tGv T c al (T 4)) (tCnt (fun p => lo < (c * tSz T p (T 5)).tmod al ∨ ((c * tSz T p (T 5)).tmod al = lo ∧ p < q)) (T 4)) (T 4) mem := by
    have h := puUp (L := fun i => M_pence_77 59 c q al (c * tSz T q (T 5)) (c - tGv T c al i) (tCnt (fun p => lo < (c * tSz T p (T 5)).tmod al ∨ ((c * tSz T p (T 5)).tmod al = lo ∧ p < q)) i) i mem) t4.1 (fun i i0 i1 => by
      have hg := tGv_in hR hc ha2 i i0
      have h1 := hX i
      have h2 := hD i
      have h3 := hcn i i0
      rw [q_M_pence_77, hT, if_pos i1, s_M_sizesOf 58 i T mem hR hT ⟨i0, by omega⟩, tGv_s T c al i0, tCnt_s _ i0]
      simp only [jbnd_s, jasI_v]
      rw [jnz_in ha, jnz_in ha, jnz_in ha, jnz_in ha, jnz_in ha, hlo, jw32_id (x := c * tSz T i (T 5)) (by omega) (by omega), jw32_id (x := (c * tSz T i (T 5)).tdiv al) (by omega) (by omega), jw32_id (x := c - tGv T c al i - (c * tSz T i (T 5)).tdiv al) (by omega) (by omega), jw32_id (x := i + 1) (by omega) (by omega), jw32_id (x := tCnt (fun p => lo < (c * tSz T p (T 5)).tmod al ∨ ((c * tSz T p (T 5)).tmod al = lo ∧ p < q)) i + 1) (by omega) (by omega), jw32_id (x := tCnt (fun p => lo < (c * tSz T p (T 5)).tmod al ∨ ((c * tSz T p (T 5)).tmod al = lo ∧ p < q)) i + 0) (by omega) (by omega), show c - tGv T c al i - (c * tSz T i (T 5)).tdiv al = c - (tGv T c al i + (c * tSz T i (T 5)).tdiv al) by omega, Int.add_zero]
      by_cases a1 : lo < (c * tSz T i (T 5)).tmod al
      · rw [if_pos a1, if_pos (Or.inl a1)]
      · rw [if_neg a1]
        by_cases a2 : (c * tSz T i (T 5)).tmod al = lo
        · rw [if_pos a2]
          by_cases a3 : i < q
          · rw [if_pos a3, if_pos (Or.inr ⟨a2, a3⟩)]
          · rw [if_neg a3, if_neg (by omega)]
        · rw [if_neg a2, if_neg (by omega)])
    have h0 : c - tGv T c al 0 = c := by
      show c - 0 = c
      omega
    simp only [h0] at h
    exact h
  rw [f1, q_Ha_share_58, r4, if_neg (show ¬ T 4 < T 4 by omega), f2, q_M_pence_77, hT, if_neg (show ¬ T 4 < T 4 by omega), s_Ha_sizesOf 57 q T mem hR cr cw ⟨hq.1, by omega⟩]
  simp only [jbnd_s, jasI_v]
  have hg := tGv_in hR hc ha2 (T 4) t4.1
  have hd := hD q
  rw [jnz_in ha, jnz_in ha, jw32_id (x := c * tSz T q (T 5)) (by omega) (by omega), jw32_id (x := c - tGv T c al (T 4)) (by omega) (by omega)]
  by_cases hlt : tCnt (fun p => lo < (c * tSz T p (T 5)).tmod al ∨ ((c * tSz T p (T 5)).tmod al = lo ∧ p < q)) (T 4) < c - tGv T c al (T 4)
  · rw [if_pos hlt]
    simp only [jbnd_s, jasI_v]
    exact ⟨_, rfl, rfl⟩
  · rw [if_neg hlt]
    simp only [jbnd_s, jasI_v]
    exact ⟨_, rfl, rfl⟩
