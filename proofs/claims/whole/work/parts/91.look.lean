/-! look -/
theorem sel_cnt (p : Int → Prop) [DecidablePred p] (sn V : Int → Int) (v : Int) (N : Int) (h : ∀ b, 0 ≤ b → b < N → p b → sn (tCnt p b) = V b) : ∀ k : Nat, (k : Int) ≤ N → tCnt (fun i => v = sn i) (tCnt p (k : Int)) = tCnt (fun b => p b ∧ v = V b) (k : Int) := by
  intro k
  induction k with
  | zero => intro _; rfl
  | succ k ih =>
    intro hk
    have e := ih (by omega)
    have hc := tCnt_in p (n := (k : Int)) (by omega)
    rw [show ((k + 1 : Nat) : Int) = (k : Int) + 1 by omega, tCnt_s p (by omega), tCnt_s (fun b => p b ∧ v = V b) (by omega)]
    by_cases hp : p (k : Int)
    · rw [if_pos hp, tCnt_s _ hc.1, h (k : Int) (by omega) (by omega) hp, e]
      by_cases hv : v = V (k : Int)
      · rw [if_pos hv, if_pos ⟨hp, hv⟩]
      · rw [if_neg hv, if_neg (fun w => hv w.2)]
    · rw [if_neg hp, if_neg (fun w => hp w.1), e]
def tMx (g : Int → Int) (n : Int) : Int := puF (fun i a => if a < g i then g i else a) n.toNat 0 0
theorem tMx_s (g : Int → Int) {i : Int} (h : 0 ≤ i) : tMx g (i + 1) = if tMx g i < g i then g i else tMx g i := by
  unfold tMx
  rw [puF_s _ h]
theorem tMx_in (g : Int → Int) (B : Int) (hB : 0 ≤ B) (h : ∀ i, g i ≤ B) : ∀ k : Nat, 0 ≤ tMx g (k : Int) ∧ tMx g (k : Int) ≤ B ∧ ∀ i, 0 ≤ i → i < (k : Int) → g i ≤ tMx g (k : Int) := by
  intro k
  induction k with
  | zero => exact ⟨by show (0 : Int) ≤ 0; decide, by show (0 : Int) ≤ B; exact hB, fun i a b => by omega⟩
  | succ k ih =>
    obtain ⟨a, b, c⟩ := ih
    have hk := h (k : Int)
    rw [show ((k + 1 : Nat) : Int) = (k : Int) + 1 by omega, tMx_s g (by omega)]
    by_cases hl : tMx g (k : Int) < g (k : Int)
    · rw [if_pos hl]
      refine ⟨by omega, hk, fun i i0 i1 => ?_⟩
      by_cases e : i = (k : Int)
      · rw [e]; exact Int.le_refl _
      · have := c i i0 (by omega); omega
    · rw [if_neg hl]
      refine ⟨a, b, fun i i0 i1 => ?_⟩
      by_cases e : i = (k : Int)
      · rw [e]; omega
      · exact c i i0 (by omega)
theorem sel_max (p : Int → Prop) [DecidablePred p] (al A : Int → Int) (N B : Int) (hB : 0 ≤ B) (hA : ∀ i, A i ≤ B) (h : ∀ b, 0 ≤ b → b < N → p b → al (tCnt p b) = A b) : ∀ k : Nat, (k : Int) ≤ N → tMx al (tCnt p (k : Int)) = tMx (fun b => if p b then A b else 0) (k : Int) := by
  intro k
  induction k with
  | zero => intro _; rfl
  | succ k ih =>
    intro hk
    have e := ih (by omega)
    have hc := tCnt_in p (n := (k : Int)) (by omega)
    rw [show ((k + 1 : Nat) : Int) = (k : Int) + 1 by omega, tCnt_s p (by omega), tMx_s (fun b => if p b then A b else 0) (by omega)]
    by_cases hp : p (k : Int)
    · rw [if_pos hp, tMx_s _ hc.1, h (k : Int) (by omega) (by omega) hp, e, if_pos hp]
    · have h0 := (tMx_in (fun b => if p b then A b else 0) B hB (fun i => by
        split
        · exact hA i
        · exact hB) k).1
      rw [if_neg hp, if_neg hp, e, if_neg (by omega)]
/-- the class -/
theorem s_Gu_mostAlike (d : Nat) (many x : Int) (sn : Int → Int) (mem : jMem) (hm : 0 ≤ many ∧ many ≤ 7) (hx : 0 ≤ x ∧ x < 6) (hs : ∀ i, 0 ≤ i → i < many → jrI mem 17 0 (6 * i + x) = sn i) : Gu_mostAlike (d + 2) many x mem = some (vI (tMx (fun i => tCnt (fun j => sn i = sn j) many) many), mem) := by
  rw [q_Gu_mostAlike]
  have hu : Gu_mostAlike_5 (d + 1) many x 0 0 mem = Gu_mostAlike_5 (d + 1) many x (tMx (fun i => tCnt (fun j => sn i = sn j) many) many) many mem := puUp (L := fun i => Gu_mostAlike_5 (d + 1) many x (tMx (fun i => tCnt (fun j => sn i = sn j) many) i) i mem) hm.1 (fun i i0 i1 => by
    rw [q_Gu_mostAlike_5, if_pos i1]
    have hv : Gu_mostAlike_17 (d + 1) many x (tMx (fun i => tCnt (fun j => sn i = sn j) many) i) i 0 0 mem = Gu_mostAlike_17 (d + 1) many x (tMx (fun i => tCnt (fun j => sn i = sn j) many) i) i (tCnt (fun j => sn i = sn j) many) many mem := puUp (L := fun j => Gu_mostAlike_17 (d + 1) many x (tMx (fun i => tCnt (fun j => sn i = sn j) many) i) i (tCnt (fun j => sn i = sn j) j) j mem) hm.1 (fun j j0 j1 => by
      have hc := tCnt_in (fun j => sn i = sn j) j0
      rw [q_Gu_mostAlike_17, if_pos j1, jw32_id (x := i * 6) (by omega) (by omega), jw32_id (x := i * 6 + x) (by omega) (by omega), jix_in (by omega) (by omega), jw32_id (x := j * 6) (by omega) (by omega), jw32_id (x := j * 6 + x) (by omega) (by omega), jix_in (by omega) (by omega), show i * 6 + x = 6 * i + x by omega, show j * 6 + x = 6 * j + x by omega, hs i i0 i1, hs j j0 j1, jw32_id (x := j + 1) (by omega) (by omega), jw32_id (x := tCnt (fun j => sn i = sn j) j + 1) (by omega) (by omega), tCnt_s _ j0]
      by_cases h : sn i = sn j
      · rw [if_pos h, if_pos h]
      · rw [if_neg h, if_neg h])
    rw [hv, q_Gu_mostAlike_17, if_neg (by omega), s_J_max, jw32_id (x := i + 1) (by omega) (by omega), tMx_s _ i0]
    simp only [jbnd_s, jasI_v])
  rw [hu, q_Gu_mostAlike_5, if_neg (by omega)]
/-- the reference -/
theorem s_M_alikeAt (d : Nat) (p : Int → Prop) [DecidablePred p] (V : Int → Int) (x R : Int) (mem : jMem) (hR : 0 ≤ R ∧ R ≤ 6) (hRn : jrI mem 11 0 2 = R) (hx : 0 ≤ x ∧ x < 6) (hf : ∀ j, 0 ≤ j → j < R + 1 → jrI mem 61 0 j = jb (p j)) (hV : ∀ j, 0 ≤ j → j < R + 1 → jrI mem 62 0 (6 * j + x) = V j) : M_alikeAt (d + 1) x mem = some (vI (tMx (fun a => if p a then tCnt (fun b => p b ∧ V a = V b) (R + 1) else 0) (R + 1)), mem) := by
  rw [q_M_alikeAt]
  have hu : M_alikeAt_4 d x 0 0 mem = M_alikeAt_4 d x (tMx (fun a => if p a then tCnt (fun b => p b ∧ V a = V b) (R + 1) else 0) (R + 1)) (R + 1) mem := puUp (L := fun i => M_alikeAt_4 d x (tMx (fun a => if p a then tCnt (fun b => p b ∧ V a = V b) (R + 1) else 0) i) i mem) (by omega) (fun i i0 i1 => by
    have hrow : ∀ mx, M_alikeAt_18 d x mx i 0 0 mem = M_alikeAt_88 d x mx i (if p i then tCnt (fun b => p b ∧ V i = V b) (R + 1) else 0) mem := fun mx => by
      by_cases hp : p i
      · have hv : M_alikeAt_18 d x mx i 0 0 mem = M_alikeAt_18 d x mx i (tCnt (fun b => p b ∧ V i = V b) (R + 1)) (R + 1) mem := puUp (L := fun j => M_alikeAt_18 d x mx i (tCnt (fun b => p b ∧ V i = V b) j) j mem) (by omega) (fun j j0 j1 => by
          have hc := tCnt_in (fun b => p b ∧ V i = V b) j0
          rw [q_M_alikeAt_18, hRn, if_neg (by omega), jix_in i0 (by omega), hf i i0 i1, jb_1 hp, if_neg (by decide), jix_in j0 (by omega), hf j j0 j1, jw32_id (x := 6 * i) (by omega) (by omega), jw32_id (x := 6 * i + x) (by omega) (by omega), jix_in (by omega) (by omega), jw32_id (x := 6 * j) (by omega) (by omega), jw32_id (x := 6 * j + x) (by omega) (by omega), jix_in (by omega) (by omega), hV i i0 i1, hV j j0 j1, jw32_id (x := j + 1) (by omega) (by omega), jw32_id (x := tCnt (fun b => p b ∧ V i = V b) j + 0) (by omega) (by omega), jw32_id (x := tCnt (fun b => p b ∧ V i = V b) j + 1) (by omega) (by omega), Int.add_zero, tCnt_s _ j0]
          by_cases hq : p j
          · rw [jb_1 hq, if_neg (by decide)]
            by_cases h : V i = V j
            · rw [if_pos h, if_pos ⟨hq, h⟩]
            · rw [if_neg h, if_neg (fun w => h w.2)]
          · rw [jb_n hq, if_pos rfl, if_neg (fun w => hq w.1)])
        rw [hv, q_M_alikeAt_18, hRn, if_pos (by omega), if_pos hp]
      · rw [q_M_alikeAt_18, hRn, if_neg (by omega), jix_in i0 (by omega), hf i i0 i1, jb_n hp, if_pos rfl, if_neg hp]
    rw [q_M_alikeAt_4, hRn, if_neg (by omega), hrow, q_M_alikeAt_88, jw32_id (x := i + 1) (by omega) (by omega), tMx_s _ i0]
    by_cases hlt : tMx (fun a => if p a then tCnt (fun b => p b ∧ V a = V b) (R + 1) else 0) i < if p i then tCnt (fun b => p b ∧ V i = V b) (R + 1) else 0
    · rw [if_pos hlt, if_pos hlt]
    · rw [if_neg hlt, if_neg hlt])
  rw [hu, q_M_alikeAt_4, hRn, if_pos (by omega)]
theorem p_look (n y : Int) : pCase (E_look 60 n y) (M_look 60 n y) := fun mem hi hm => by
  obtain ⟨hR, hW, hN, h999, cr, cw, cn, hl⟩ := pNow hi
  obtain ⟨-, i2, -⟩ := id hi
  have t5 := hR.2.2.2.1
  have r5 := cr.2.2.2.2.2.1
  generalize hT : jrI mem 55 0 = T at *
  rw [q_E_look 59, cr.1]
  have ms : ∀ m, jrI m 55 0 = T → M_look 60 n y m = if jb (T 0 = 1) = 0 then some (vI (-1), m) else if jb (0 ≤ n ∧ n ≤ 60) = 0 then some (vI (-1), m) else if jb (0 ≤ y ∧ y ≤ 1) = 0 then some (vI (-1), m) else jbnd (M_fillsFits 59 n m) fun _ mem8 => M_look_46 59 y (-2) (-2) 0 mem8 := fun m h9 => by
    rw [q_M_look 59, s_M_isRiver, h9]
    simp only [jbnd_s, jasI_v, s_M_in]
  rcases told01 hR with h0 | h1
  · rw [if_pos h0]
    refine ⟨-1, mem, rfl, fun _ => ⟨mem, ?_, hi⟩⟩
    rw [ms mem hT, jb_n (by omega), if_pos rfl]
  rw [if_neg (by omega)]
  simp only [jbnd_s, jasI_v, s_E_within]
  by_cases hn : 0 ≤ n ∧ n ≤ 60
  case neg =>
    rw [jb_n hn, if_pos rfl]
    refine ⟨-1, mem, rfl, fun _ => ⟨mem, ?_, hi⟩⟩
    rw [ms mem hT, jb_1 h1, if_neg (by decide), jb_n hn, if_pos rfl]
  rw [jb_1 hn, if_neg (by decide)]
  by_cases hy : 0 ≤ y ∧ y ≤ 1
  case neg =>
    rw [jb_n hy, if_pos rfl]
    refine ⟨-1, mem, rfl, fun _ => ⟨mem, ?_, hi⟩⟩
    rw [ms mem hT, jb_1 h1, if_neg (by decide), jb_1 hn, if_neg (by decide), jb_n hy, if_pos rfl]
  rw [jb_1 hy, if_neg (by decide), i2.1]
  generalize hRn : jrI mem 11 0 2 = R
  have hR6 : 0 ≤ R ∧ R ≤ 6 := by rw [← hRn]; exact ⟨i2.2.1, i2.2.2.1⟩
  obtain ⟨m1, a1, a2, a3⟩ := s_Gu_sieve 50 T n R mem hR hN h1 hn i2 hRn cr cn
  rw [a1]
  simp only [jbnd_s, jasI_v]
  have hi1 := pInv_fr a2 hi
  have i21 : iRule m1 := hi1.2.1
  have hR1 : jrI m1 11 0 2 = R := by rw [a2 11 0 2 (by unfold aX; omega)]; exact hRn
  have hs : jrI m1 55 0 = T := by rw [X_said a2]; exact hT
  have hl1 : jrI m1 11 0 23 = -1 := by rw [X_23 a2]; exact hl
  obtain ⟨m2, b1, b2, b3⟩ := s_M_fillsFits 50 T n R m1 hR hN h1 hn i21 hR1 hs hl1
  simp only [tEr_X a2] at b3
  have hs2 : jrI m2 55 0 = T := by rw [X_said b2]; exact hs
  have hR2 : jrI m2 11 0 2 = R := by rw [b2 11 0 2 (by unfold aX; omega)]; exact hR1
  have hfin : pInv m2 := pInv_fr b2 hi1
  obtain ⟨N, hNn⟩ := Int.eq_ofNat_of_zero_le (show 0 ≤ R + 1 by omega)
  -- the greatest number alike, in both
  have hmany := tCnt_in (fun j => tFt (tEr mem (j - 1)) (tBg T) = -1) (n := R + 1) (by omega)
  have hMx : ∀ x, 0 ≤ x → x < T 5 → ∃ v, Gu_mostAlike 58 (tCnt (fun j => tFt (tEr mem (j - 1)) (tBg T) = -1) (R + 1)) x m1 = some (vI v, m1) ∧ M_alikeAt 59 x m2 = some (vI v, m2) ∧ 0 ≤ v ∧ v ≤ tCnt (fun j => tFt (tEr mem (j - 1)) (tBg T) = -1) (R + 1) ∧ (tCnt (fun j => tFt (tEr mem (j - 1)) (tBg T) = -1) (R + 1) ≠ 0 → 1 ≤ v) := fun x x0 x1 => by
    have hal := s_Gu_mostAlike 56 (tCnt (fun j => tFt (tEr mem (j - 1)) (tBg T) = -1) (R + 1)) x (fun i => jrI m1 17 0 (6 * i + x)) m1 (by omega) (by omega) (fun i _ _ => rfl)
    have hre := s_M_alikeAt 58 (fun j => tFt (tEr mem (j - 1)) (tBg T) = -1) (fun j => tFr (tIt (tEr mem (j - 1)) n.toNat (tBg T)) x) x R m2 hR6 hR2 (by omega) (fun j j0 j1 => (b3 j j0 j1).1) (fun j j0 j1 => (b3 j j0 j1).2 x x0 x1)
    have hsel := sel_max (fun j => tFt (tEr mem (j - 1)) (tBg T) = -1) (fun i => tCnt (fun j => jrI m1 17 0 (6 * i + x) = jrI m1 17 0 (6 * j + x)) (tCnt (fun j => tFt (tEr mem (j - 1)) (tBg T) = -1) (R + 1))) (fun a => tCnt (fun b => tFt (tEr mem (b - 1)) (tBg T) = -1 ∧ tFr (tIt (tEr mem (a - 1)) n.toNat (tBg T)) x = tFr (tIt (tEr mem (b - 1)) n.toNat (tBg T)) x) (R + 1)) (R + 1) (R + 1) (by omega) (fun i => (tCnt_in _ (by omega)).2) (fun b b0 b1' hb => by
      have h17 : jrI m1 17 0 (6 * tCnt (fun j => tFt (tEr mem (j - 1)) (tBg T) = -1) b + x) = tFr (tIt (tEr mem (b - 1)) n.toNat (tBg T)) x := (a3 b b0 b1' hb).2 x x0 x1
      rw [h17]
      have hc := sel_cnt (fun j => tFt (tEr mem (j - 1)) (tBg T) = -1) (fun i => jrI m1 17 0 (6 * i + x)) (fun j => tFr (tIt (tEr mem (j - 1)) n.toNat (tBg T)) x) (tFr (tIt (tEr mem (b - 1)) n.toNat (tBg T)) x) (R + 1) (fun c c0 c1 hc => (a3 c c0 c1 hc).2 x x0 x1) N (by omega)
      rw [← hNn] at hc
      exact hc) N (by omega)
    rw [← hNn] at hsel
    refine ⟨_, hal, by rw [hre, ← hsel], ?_⟩
    obtain ⟨c, hc⟩ := Int.eq_ofNat_of_zero_le hmany.1
    have hin := tMx_in (fun i => tCnt (fun j => jrI m1 17 0 (6 * i + x) = jrI m1 17 0 (6 * j + x)) (tCnt (fun j => tFt (tEr mem (j - 1)) (tBg T) = -1) (R + 1))) (tCnt (fun j => tFt (tEr mem (j - 1)) (tBg T) = -1) (R + 1)) hmany.1 (fun i => (tCnt_in _ hmany.1).2) c
    rw [← hc] at hin
    refine ⟨hin.1, hin.2.1, fun hne => ?_⟩
    have h0 := hin.2.2 0 (Int.le_refl 0) (by omega)
    have hlt := tCnt_lt (fun j => jrI m1 17 0 (6 * 0 + x) = jrI m1 17 0 (6 * j + x)) (j := 0) (i := tCnt (fun j => tFt (tEr mem (j - 1)) (tBg T) = -1) (R + 1)) (Int.le_refl 0) (by omega) rfl
    have hz := (tCnt_in (fun j => jrI m1 17 0 (6 * 0 + x) = jrI m1 17 0 (6 * j + x)) (n := 0) (Int.le_refl 0)).1
    omega
  generalize tCnt (fun j => tFt (tEr mem (j - 1)) (tBg T) = -1) (R + 1) = C at hmany hMx ⊢
  have hM : M_look 60 n y m1 = M_look_46 59 y (-2) (-2) 0 m2 := by
    rw [ms m1 hs, jb_1 h1, if_neg (by decide), jb_1 hn, if_neg (by decide), jb_1 hy, if_neg (by decide), b1]
    rfl
  -- none fits, or no memories
  have none9 : (C = 0 ∨ T 5 = 0) → M_look 60 n y m1 = some (vI (-2), m2) := fun hz => by
    have key : ∀ (k : Nat) (x : Int), 0 ≤ x → x + (k : Int) = T 5 → M_look_46 59 y (-2) (-2) x m2 = some (vI (-2), m2) := by
      intro k
      induction k with
      | zero =>
        intro x x0 x1
        rw [q_M_look_46, hs2, if_neg (by omega)]
        split <;> rfl
      | succ k ih =>
        intro x x0 x1
        obtain ⟨v, v1, v2, v3, v4, v5⟩ := hMx x x0 (by omega)
        rw [q_M_look_46, hs2, if_pos (by omega), v2, jw32_id (x := x + 1) (by omega) (by omega)]
        simp only [jbnd_s, jasI_v]
        rw [if_pos (by omega)]
        exact ih (x + 1) (by omega) (by omega)
    rw [hM]
    exact key (T 5).toNat 0 (Int.le_refl 0) (by omega)
  by_cases hC : C = 0
  · rw [if_pos hC]
    exact ⟨-2, m1, rfl, fun _ => ⟨m2, none9 (Or.inl hC), hfin⟩⟩
  rw [if_neg hC, a2 4 0 5 (by unfold aX; omega), r5]
  by_cases h5 : T 5 = 0
  · rw [if_pos h5]
    exact ⟨-2, m1, rfl, fun _ => ⟨m2, none9 (Or.inr h5), hfin⟩⟩
  rw [if_neg h5, q_Gu_bestParting, jw32_id (x := C + 1) (by omega) (by omega)]
  -- from the second memory on both are alike
  have run : ∀ (k : Nat) (x w f : Int), 0 ≤ x → x + (k : Int) = T 5 → 0 ≤ w → 0 ≤ f → ∃ r, Gu_bestParting_11 58 C (T 5) y w f x m1 = some (vI r, m1) ∧ M_look_46 59 y w f x m2 = some (vI r, m2) := by
    intro k
    induction k with
    | zero =>
      intro x w f x0 x1 w0 f0
      rw [q_Gu_bestParting_11, if_neg (show ¬ x < T 5 by omega), q_M_look_46, hs2, if_neg (show ¬ x < T 5 by omega)]
      by_cases y0 : y = 0
      · rw [if_pos y0, if_pos y0]
        exact ⟨_, rfl, rfl⟩
      · rw [if_neg y0, if_neg y0]
        exact ⟨_, rfl, rfl⟩
    | succ k ih =>
      intro x w f x0 x1 w0 f0
      obtain ⟨v, v1, v2, v3, v4, v5⟩ := hMx x x0 (by omega)
      have v6 := v5 hC
      rw [q_Gu_bestParting_11, if_pos (by omega), v1, q_M_look_46, hs2, if_pos (by omega), v2, jw32_id (x := x + 1) (by omega) (by omega)]
      simp only [jbnd_s, jasI_v]
      rw [if_neg (show ¬ v = 0 by omega), if_neg (show ¬ w < 0 by omega)]
      by_cases hlt : v < f
      · rw [if_pos hlt, if_pos hlt]
        exact ih (x + 1) x v (by omega) (by omega) x0 v3
      · rw [if_neg hlt, if_neg hlt]
        exact ih (x + 1) w f (by omega) (by omega) w0 f0
  obtain ⟨v, v1, v2, v3, v4, v5⟩ := hMx 0 (Int.le_refl 0) (by omega)
  have v6 := v5 hC
  obtain ⟨r, r1, r2⟩ := run (T 5 - 1).toNat 1 0 v (by decide) (by omega) (Int.le_refl 0) v3
  rw [q_Gu_bestParting_11, if_pos (by omega), v1]
  simp only [jbnd_s, jasI_v]
  rw [if_pos (show v < C + 1 by omega), show jw32 (0 + 1) = 1 from rfl, r1]
  simp only [jbnd_s, jasI_v]
  refine ⟨r, m1, rfl, fun _ => ⟨m2, ?_, hfin⟩⟩
  rw [hM, q_M_look_46, hs2, if_pos (by omega), v2]
  simp only [jbnd_s, jasI_v]
  rw [if_neg (show ¬ v = 0 by omega), if_pos (show (-2 : Int) < 0 by decide), show jw32 (0 + 1) = 1 from rfl, r2]
