/-! ruled -/
theorem tEr_X {a b : jMem} (h : puR aX a b) (r : Int) : tEr b r = tEr a r := by
  unfold tEr
  by_cases e : r < 0
  · rw [if_pos e, if_pos e]
  · rw [if_neg e, if_neg e]
    have e1 : jrI b 31 r = jrI a 31 r := funext fun k => h 31 r k (by unfold aX; omega)
    have e2 : jrI b 32 r = jrI a 32 r := funext fun k => h 32 r k (by unfold aX; omega)
    have e3 : jrI b 5 r 2 = jrI a 5 r 2 := h 5 r 2 (by unfold aX; omega)
    have e4 : cRl b r = cRl a r := by
      funext env
      unfold cRl
      rw [e1, e2, e3]
    rw [e4]
def tCw (g : Int) : Int := if g = -1 then -2 else g - 1
theorem ruled_down (p : Int → Prop) [DecidablePred p] (y : Int) (m : jMem) (N : Nat) (h7 : N ≤ 7) (hT : ∀ j, 0 ≤ j → j < (N : Int) → jrI m 61 0 j = jb (p j)) : M_ruled_36 59 y 0 (-2) ((N : Int) - 1) m = M_ruled_36 59 y (tCnt p (N : Int)) (tCw (puG p N 0)) (-1) m := by
  have down : ∀ i : Nat, i ≤ N → M_ruled_36 59 y (puF (fun m a => if p m then a + 1 else a) (N - i) (i : Int) 0) (tCw (puG p (N - i) (i : Int))) ((i : Int) - 1) m = M_ruled_36 59 y (puF (fun m a => if p m then a + 1 else a) N 0 0) (tCw (puG p N 0)) (-1) m := by
    intro i
    induction i with
    | zero => intro _; rfl
    | succ i ih =>
      intro hi2
      rw [← ih (by omega)]
      rw [show N - i = (N - (i + 1)) + 1 by omega, puG_s, puF_c p, show ((i + 1 : Nat) : Int) = (i : Int) + 1 by omega, show (i : Int) + 1 - 1 = (i : Int) by omega]
      have b := tCnt_b p (N - (i + 1)) ((i : Int) + 1) 0
      have hM : ∀ A B : Int, 0 ≤ B → B ≤ 7 → M_ruled_36 59 y B A (i : Int) m = if p (i : Int) then M_ruled_36 59 y (B + 1) ((i : Int) - 1) ((i : Int) - 1) m else M_ruled_36 59 y B A ((i : Int) - 1) m := fun A B h0 h1 => by
        rw [q_M_ruled_36, if_neg (by omega), jix_in (by omega) (by omega), hT (i : Int) (by omega) (by omega), jw32_id (x := (i : Int) + -1) (by omega) (by omega), jw32_id (x := B + 1) (by omega) (by omega), jw32_id (x := (i : Int) - 1) (by omega) (by omega), show (i : Int) + -1 = (i : Int) - 1 by omega]
        by_cases hp : p (i : Int)
        · rw [jb_1 hp, if_neg (by decide), if_pos hp]
        · rw [jb_n hp, if_pos rfl, if_neg hp]
      rw [hM _ _ (by omega) (by omega)]
      by_cases hp : p (i : Int)
      · rw [if_pos hp, if_pos hp, if_pos hp, puF_add p _ _ (0 + 1)]
        rw [show tCw (i : Int) = (i : Int) - 1 from if_neg (by omega)]
        congr 1
        omega
      · rw [if_neg hp, if_neg hp, if_neg hp]
  have h := down N (Nat.le_refl N)
  rw [show N - N = 0 by omega] at h
  unfold tCnt
  rw [Int.toNat_natCast]
  exact h
theorem tCnt_zero {p : Int → Prop} [DecidablePred p] {n : Int} (h : ∀ j, 0 ≤ j → j < n → ¬ p j) (hn : 0 ≤ n) : tCnt p n = 0 := by
  obtain ⟨k, rfl⟩ := Int.eq_ofNat_of_zero_le hn
  rw [tCnt_cong (q := fun _ => False) hn (fun m a b => ⟨fun w => h m a b w, fun w => w.elim⟩)]
  exact tCnt_none (fun _ w => w) k
theorem p_ruled (y : Int) : pCase (E_ruled 60 y) (M_ruled 60 y) := fun mem hi hm => by
  obtain ⟨hR, hW, hN, h999, cr, cw, cn, hl⟩ := pNow hi
  obtain ⟨-, i2, -⟩ := id hi
  generalize hT : jrI mem 55 0 = T at *
  rw [q_E_ruled 59, cr.1]
  rcases told01 hR with h0 | h1
  · rw [if_pos h0]
    refine ⟨-3, mem, rfl, fun _ => ⟨mem, ?_, hi⟩⟩
    rw [q_M_ruled 59, s_M_isRiver, hT]
    simp only [jbnd_s, jasI_v]
    rw [jb_n (by omega), if_pos rfl]
  rw [if_neg (by omega), s_E_within]
  simp only [jbnd_s, jasI_v]
  by_cases hy : 0 ≤ y ∧ y ≤ 1
  case neg =>
    rw [jb_n hy, if_pos rfl]
    refine ⟨-3, mem, rfl, fun _ => ⟨mem, ?_, hi⟩⟩
    rw [q_M_ruled 59, s_M_isRiver, hT]
    simp only [jbnd_s, jasI_v, s_M_in]
    rw [jb_1 h1, if_neg (by decide), jb_n hy, if_pos rfl]
  rw [jb_1 hy, if_neg (by decide), i2.1]
  generalize hRn : jrI mem 11 0 2 = R
  have hR6 : 0 ≤ R ∧ R ≤ 6 := by rw [← hRn]; exact ⟨i2.2.1, i2.2.2.1⟩
  obtain ⟨m1, a1, a2, a3⟩ := s_Gu_sieve 50 T 0 R mem hR hN h1 (by decide) i2 hRn cr cn
  rw [a1]
  simp only [jbnd_s, jasI_v]
  have hi1 := pInv_fr a2 hi
  have i21 : iRule m1 := hi1.2.1
  have hR1 : jrI m1 11 0 2 = R := by rw [a2 11 0 2 (by unfold aX; omega)]; exact hRn
  have hs : jrI m1 55 0 = T := by rw [X_said a2]; exact hT
  have hl1 : jrI m1 11 0 23 = -1 := by rw [X_23 a2]; exact hl
  obtain ⟨m2, b1, b2, b3⟩ := s_M_fillsFits 50 T 0 R m1 hR hN h1 (by decide) i21 hR1 hs hl1
  obtain ⟨N, hNn⟩ := Int.eq_ofNat_of_zero_le (show 0 ≤ R + 1 by omega)
  have hd := ruled_down (fun j => tFt (tEr mem (j - 1)) (tBg T) = -1) y m2 N (by omega) (fun j j0 j1 => by
    rw [(b3 j j0 (by omega)).1, tEr_X a2])
  have hM : M_ruled 60 y m1 = M_ruled_36 59 y (tCnt (fun j => tFt (tEr mem (j - 1)) (tBg T) = -1) (R + 1)) (tCw (puG (fun j => tFt (tEr mem (j - 1)) (tBg T) = -1) N 0)) (-1) m2 := by
    rw [q_M_ruled 59, s_M_isRiver, hs]
    simp only [jbnd_s, jasI_v, s_M_in]
    rw [jb_1 h1, if_neg (by decide), jb_1 hy, if_neg (by decide), b1]
    simp only [jbnd_s]
    rw [b2 11 0 2 (by unfold aX; omega), hR1, hNn, ← hd, show (N : Int) - 1 = R by omega]
  rw [q_M_ruled_36, if_pos (show (-1 : Int) < 0 by decide)] at hM
  have hfin : pInv m2 := pInv_fr b2 hi1
  by_cases y0 : y = 0
  · rw [if_pos y0]
    rw [if_pos y0] at hM
    exact ⟨_, m1, rfl, fun _ => ⟨m2, hM, hfin⟩⟩
  rw [if_neg y0]
  rw [if_neg y0] at hM
  rcases puG_spec (fun j => tFt (tEr mem (j - 1)) (tBg T) = -1) N 0 (Int.le_refl 0) with ⟨g1, g2⟩ | ⟨g1, g2, g3, g4⟩
  · rw [if_pos (tCnt_zero (fun j j0 j1 => g2 j j0 (by omega)) (by omega))]
    rw [show tCw (puG (fun j => tFt (tEr mem (j - 1)) (tBg T) = -1) N 0) = -2 from if_pos g1] at hM
    exact ⟨_, m1, rfl, fun _ => ⟨m2, hM, hfin⟩⟩
  · have hlt := tCnt_lt (fun j => tFt (tEr mem (j - 1)) (tBg T) = -1) g1 (i := R + 1) (by omega) g3
    have hz := tCnt_zero (p := fun j => tFt (tEr mem (j - 1)) (tBg T) = -1) (fun j j0 j1 => g4 j j0 j1) g1
    have h16 := (a3 _ g1 (by omega) g3).1
    rw [hz] at h16 hlt
    rw [if_neg (by omega), q_Gu_firstFitting 58, h16]
    simp only [jbnd_s, jasI_v]
    rw [show tCw (puG (fun j => tFt (tEr mem (j - 1)) (tBg T) = -1) N 0) = puG (fun j => tFt (tEr mem (j - 1)) (tBg T) = -1) N 0 - 1 from if_neg (by omega)] at hM
    exact ⟨_, m1, rfl, fun _ => ⟨m2, hM, hfin⟩⟩
