/-! A river read clause by clause, in both -/
theorem rBd_t {T : Int → Int} (h : tRv T) : rBd T := by
  obtain ⟨t0, t3, t4, t5, t6, t55, tm, tt, tp, tl⟩ := h
  exact ⟨t3, t4, t5, t6, by omega⟩
theorem t_cl {b : Int → Int} {n k i : Int} {T : Int → Int} (h : tRv T) (hr : rRm T k) (hz : (rCl b n k i T).1 = 0) : tRv (rCl b n k i T).2.2 ∧ (rCl b n k i T).2.2 0 = 1 ∧ ∀ j, 81 ≤ j ∨ j < 0 → (rCl b n k i T).2.2 j = T j := by
  obtain ⟨t0, t3, t4, t5, t6, t55, tm, tt, tp, tl⟩ := id h
  rcases hr with ⟨k0, z0⟩ | ⟨z0, hk⟩
  · subst k0
    unfold rCl at hz ⊢
    rw [if_pos rfl] at hz ⊢
    obtain ⟨f1, f2, f3⟩ := rN1_in hz
    obtain ⟨-, g2, g3⟩ := rN1_in f1
    generalize (rN1 b n 1 9 (rN1 b n 2 12 0 i).1 (rN1 b n 2 12 0 i).2.1).2.2 = v2 at *
    generalize (rN1 b n 2 12 0 i).2.2 = v1 at *
    show tRv (rSt (rSt (rSt T 1 v1) 2 v2) 0 1) ∧ rSt (rSt (rSt T 1 v1) 2 v2) 0 1 0 = 1 ∧ ∀ j, 81 ≤ j ∨ j < 0 → rSt (rSt (rSt T 1 v1) 2 v2) 0 1 j = T j
    have hT : ∀ j, 3 ≤ j → rSt (rSt (rSt T 1 v1) 2 v2) 0 1 j = T j := fun j hj => by rw [rSt_o (by omega), rSt_o (by omega), rSt_o (by omega)]
    have e1 : rSt (rSt (rSt T 1 v1) 2 v2) 0 1 1 = v1 := by rw [rSt_o (by decide), rSt_o (by decide), rSt_s]
    have e2 : rSt (rSt (rSt T 1 v1) 2 v2) 0 1 2 = v2 := by rw [rSt_o (by decide), rSt_s]
    refine ⟨⟨Or.inr ⟨rSt_s _ _ _, by rw [e1]; exact g2, by rw [e1]; exact g3, by rw [e2]; exact f2, by rw [e2]; exact f3⟩, by rw [hT 3 (by omega)]; exact t3, by rw [hT 4 (by omega)]; exact t4, by rw [hT 5 (by omega)]; exact t5, by rw [hT 6 (by omega)]; exact t6, by rw [hT 3 (by omega), hT 55 (by omega)]; exact t55, fun m a c => ?_, fun m a c => ?_, fun m a c => ?_, fun m a c => ?_⟩, rSt_s _ _ _, fun j hj => by rw [rSt_o (by omega), rSt_o (by omega), rSt_o (by omega)]⟩
    · rw [hT 5 (by omega)] at c; omega
    · rw [hT 6 (by omega)] at c; omega
    · rw [hT 4 (by omega)] at c; omega
    · rw [hT 3 (by omega)] at c; omega
  · have t0' : T 0 = 1 ∧ 2 ≤ T 1 ∧ T 1 ≤ 12 ∧ 1 ≤ T 2 ∧ T 2 ≤ 9 := by omega
    rcases hk with ⟨rfl, hl⟩ | ⟨rfl, hl⟩ | ⟨rfl, hl⟩ | ⟨rfl, hl⟩
    · unfold rCl at hz ⊢
      rw [if_neg (show ¬ (1 : Int) = 0 by decide), if_pos rfl] at hz ⊢
      obtain ⟨f1, f2, f3⟩ := rN1_in hz
      generalize (rN1 b n 0 9 0 i).2.2 = v1 at *
      show tRv (rSt (rSt T (55 + T 3) v1) 3 (T 3 + 1)) ∧ rSt (rSt T (55 + T 3) v1) 3 (T 3 + 1) 0 = 1 ∧ ∀ j, 81 ≤ j ∨ j < 0 → rSt (rSt T (55 + T 3) v1) 3 (T 3 + 1) j = T j
      have hT : ∀ j, j ≠ 3 → j ≠ 55 + T 3 → rSt (rSt T (55 + T 3) v1) 3 (T 3 + 1) j = T j := fun j h1 h2 => by rw [rSt_o h1, rSt_o h2]
      have e3 : rSt (rSt T (55 + T 3) v1) 3 (T 3 + 1) 3 = T 3 + 1 := rSt_s _ _ _
      refine ⟨⟨Or.inr ?_, by rw [e3]; omega, by rw [hT 4 (by omega) (by omega)]; exact t4, by rw [hT 5 (by omega) (by omega)]; exact t5, by rw [hT 6 (by omega) (by omega)]; exact t6, by rw [e3]; omega, fun m a c => ?_, fun m a c => ?_, fun m a c => ?_, fun m a c => ?_⟩, by rw [hT 0 (by omega) (by omega)]; exact z0, fun j hj => hT j (by omega) (by omega)⟩
      · rw [hT 0 (by omega) (by omega), hT 1 (by omega) (by omega), hT 2 (by omega) (by omega)]; exact t0'
      · rw [hT 5 (by omega) (by omega)] at c
        rw [hT (33 + m) (by omega) (by omega), hT (39 + m) (by omega) (by omega), hT (45 + m) (by omega) (by omega), hT (67 + m) (by omega) (by omega), hT 4 (by omega) (by omega), hT 1 (by omega) (by omega)]
        exact tm m a c
      · rw [hT 6 (by omega) (by omega)] at c
        rw [hT (25 + m) (by omega) (by omega), hT (29 + m) (by omega) (by omega), hT (73 + 2 * m) (by omega) (by omega), hT (74 + 2 * m) (by omega) (by omega), hT 4 (by omega) (by omega), hT 1 (by omega) (by omega)]
        exact tt m a c
      · rw [hT 4 (by omega) (by omega)] at c
        rw [hT (51 + m) (by omega) (by omega)]
        exact tp m a c
      · rw [e3] at c
        by_cases e : m = T 3
        · rw [e, rSt_o (by omega), rSt_s]
          exact ⟨f2, f3⟩
        · rw [hT (55 + m) (by omega) (by omega)]
          exact tl m a (by omega)
    · unfold rCl at hz ⊢
      rw [if_neg (show ¬ (2 : Int) = 0 by decide), if_neg (show ¬ (2 : Int) = 1 by decide), if_pos rfl] at hz ⊢
      obtain ⟨f1, f2, f3⟩ := rN1_in hz
      generalize (rN1 b n 1 9 0 i).2.2 = v1 at *
      show tRv (rSt (rSt T (51 + T 4) v1) 4 (T 4 + 1)) ∧ rSt (rSt T (51 + T 4) v1) 4 (T 4 + 1) 0 = 1 ∧ ∀ j, 81 ≤ j ∨ j < 0 → rSt (rSt T (51 + T 4) v1) 4 (T 4 + 1) j = T j
      have hT : ∀ j, j ≠ 4 → j ≠ 51 + T 4 → rSt (rSt T (51 + T 4) v1) 4 (T 4 + 1) j = T j := fun j h1 h2 => by rw [rSt_o h1, rSt_o h2]
      have e3 : rSt (rSt T (51 + T 4) v1) 4 (T 4 + 1) 4 = T 4 + 1 := rSt_s _ _ _
      refine ⟨⟨Or.inr ?_, by rw [hT 3 (by omega) (by omega)]; exact t3, by rw [e3]; omega, by rw [hT 5 (by omega) (by omega)]; exact t5, by rw [hT 6 (by omega) (by omega)]; exact t6, by rw [hT 3 (by omega) (by omega), hT 55 (by omega) (by omega)]; exact t55, fun m a c => ?_, fun m a c => ?_, fun m a c => ?_, fun m a c => ?_⟩, by rw [hT 0 (by omega) (by omega)]; exact z0, fun j hj => hT j (by omega) (by omega)⟩
      · rw [hT 0 (by omega) (by omega), hT 1 (by omega) (by omega), hT 2 (by omega) (by omega)]; exact t0'
      · rw [hT 5 (by omega) (by omega)] at c
        rw [hT (33 + m) (by omega) (by omega), hT (39 + m) (by omega) (by omega), hT (45 + m) (by omega) (by omega), hT (67 + m) (by omega) (by omega), e3, hT 1 (by omega) (by omega)]
        have := tm m a c
        omega
      · rw [hT 6 (by omega) (by omega)] at c
        rw [hT (25 + m) (by omega) (by omega), hT (29 + m) (by omega) (by omega), hT (73 + 2 * m) (by omega) (by omega), hT (74 + 2 * m) (by omega) (by omega), e3, hT 1 (by omega) (by omega)]
        have := tt m a c
        omega
      · rw [e3] at c
        by_cases e : m = T 4
        · rw [e, rSt_o (by omega), rSt_s]
          exact ⟨f2, f3⟩
        · rw [hT (51 + m) (by omega) (by omega)]
          exact tp m a (by omega)
      · rw [hT 3 (by omega) (by omega)] at c
        rw [hT (55 + m) (by omega) (by omega)]
        exact tl m a c
    · unfold rCl at hz ⊢
      rw [if_neg (show ¬ (3 : Int) = 0 by decide), if_neg (show ¬ (3 : Int) = 1 by decide), if_neg (show ¬ (3 : Int) = 2 by decide)] at hz ⊢
      simp only [] at hz ⊢
      first | rw [if_pos rfl] | rw [if_pos trivial] | skip
      obtain ⟨f1, f2, f3⟩ := rN1_in hz
      obtain ⟨g1, g2, g3⟩ := rN1_in f1
      obtain ⟨k1, k2, k3⟩ := rN1_in g1
      obtain ⟨-, l2, l3⟩ := rN1_in k1
      generalize (rN1 b n 0 (T 4 - 1) (rN1 b n 0 7 (rN1 b n 1 9 (rN1 b n 0 (T 1 - 1) 0 i).1 (rN1 b n 0 (T 1 - 1) 0 i).2.1).1 (rN1 b n 1 9 (rN1 b n 0 (T 1 - 1) 0 i).1 (rN1 b n 0 (T 1 - 1) 0 i).2.1).2.1).1 (rN1 b n 0 7 (rN1 b n 1 9 (rN1 b n 0 (T 1 - 1) 0 i).1 (rN1 b n 0 (T 1 - 1) 0 i).2.1).1 (rN1 b n 1 9 (rN1 b n 0 (T 1 - 1) 0 i).1 (rN1 b n 0 (T 1 - 1) 0 i).2.1).2.1).2.1).2.2 = v4 at *
      generalize (rN1 b n 0 7 (rN1 b n 1 9 (rN1 b n 0 (T 1 - 1) 0 i).1 (rN1 b n 0 (T 1 - 1) 0 i).2.1).1 (rN1 b n 1 9 (rN1 b n 0 (T 1 - 1) 0 i).1 (rN1 b n 0 (T 1 - 1) 0 i).2.1).2.1).2.2 = v3 at *
      generalize (rN1 b n 1 9 (rN1 b n 0 (T 1 - 1) 0 i).1 (rN1 b n 0 (T 1 - 1) 0 i).2.1).2.2 = v2 at *
      generalize (rN1 b n 0 (T 1 - 1) 0 i).2.2 = v1 at *
      generalize hS : rSt (rSt (rSt (rSt (rSt T (67 + T 5) v1) (33 + T 5) v2) (39 + T 5) v3) (45 + T 5) v4) 5 (T 5 + 1) = S
      have hT : ∀ j, j ≠ 5 → j ≠ 67 + T 5 → j ≠ 33 + T 5 → j ≠ 39 + T 5 → j ≠ 45 + T 5 → S j = T j := fun j h1 h2 h3 h4 h5 => by rw [← hS, rSt_o h1, rSt_o h5, rSt_o h4, rSt_o h3, rSt_o h2]
      have e5 : S 5 = T 5 + 1 := by rw [← hS, rSt_s]
      have w1 : S (67 + T 5) = v1 := by rw [← hS, rSt_o (by omega), rSt_o (by omega), rSt_o (by omega), rSt_o (by omega), rSt_s]
      have w2 : S (33 + T 5) = v2 := by rw [← hS, rSt_o (by omega), rSt_o (by omega), rSt_o (by omega), rSt_s]
      have w3 : S (39 + T 5) = v3 := by rw [← hS, rSt_o (by omega), rSt_o (by omega), rSt_s]
      have w4 : S (45 + T 5) = v4 := by rw [← hS, rSt_o (by omega), rSt_s]
      have s0 := hT 0 (by omega) (by omega) (by omega) (by omega) (by omega)
      have s1 := hT 1 (by omega) (by omega) (by omega) (by omega) (by omega)
      have s2 := hT 2 (by omega) (by omega) (by omega) (by omega) (by omega)
      have s3 := hT 3 (by omega) (by omega) (by omega) (by omega) (by omega)
      have s4 := hT 4 (by omega) (by omega) (by omega) (by omega) (by omega)
      have s6 := hT 6 (by omega) (by omega) (by omega) (by omega) (by omega)
      have s55 := hT 55 (by omega) (by omega) (by omega) (by omega) (by omega)
      show tRv S ∧ S 0 = 1 ∧ ∀ j, 81 ≤ j ∨ j < 0 → S j = T j
      refine ⟨⟨Or.inr (by omega), by omega, by omega, by omega, by omega, by omega, fun m a c => ?_, fun m a c => ?_, fun m a c => ?_, fun m a c => ?_⟩, by omega, fun j hj => hT j (by omega) (by omega) (by omega) (by omega) (by omega)⟩
      · by_cases e : m = T 5
        · subst e
          rw [w1, w2, w3, w4, s4, s1]
          omega
        · rw [hT (33 + m) (by omega) (by omega) (by omega) (by omega) (by omega), hT (39 + m) (by omega) (by omega) (by omega) (by omega) (by omega), hT (45 + m) (by omega) (by omega) (by omega) (by omega) (by omega), hT (67 + m) (by omega) (by omega) (by omega) (by omega) (by omega), s4, s1]
          exact tm m a (by omega)
      · rw [hT (25 + m) (by omega) (by omega) (by omega) (by omega) (by omega), hT (29 + m) (by omega) (by omega) (by omega) (by omega) (by omega), hT (73 + 2 * m) (by omega) (by omega) (by omega) (by omega) (by omega), hT (74 + 2 * m) (by omega) (by omega) (by omega) (by omega) (by omega), s4, s1]
        exact tt m a (by omega)
      · rw [hT (51 + m) (by omega) (by omega) (by omega) (by omega) (by omega)]
        exact tp m a (by omega)
      · rw [hT (55 + m) (by omega) (by omega) (by omega) (by omega) (by omega)]
        exact tl m a (by omega)
    · unfold rCl at hz ⊢
      rw [if_neg (show ¬ (4 : Int) = 0 by decide), if_neg (show ¬ (4 : Int) = 1 by decide), if_neg (show ¬ (4 : Int) = 2 by decide)] at hz ⊢
      simp only [] at hz ⊢
      first | rw [if_neg (show ¬ (4 : Int) = 3 by decide)] | skip
      obtain ⟨f1, f2, f3⟩ := rN1_in hz
      obtain ⟨g1, g2, g3⟩ := rN1_in f1
      obtain ⟨k1, k2, k3⟩ := rN1_in g1
      obtain ⟨-, l2, l3⟩ := rN1_in k1
      generalize (rN1 b n 0 (T 4 - 1) (rN1 b n 0 7 (rN1 b n 1 9 (rN1 b n 0 (T 1 - 1) 0 i).1 (rN1 b n 0 (T 1 - 1) 0 i).2.1).1 (rN1 b n 1 9 (rN1 b n 0 (T 1 - 1) 0 i).1 (rN1 b n 0 (T 1 - 1) 0 i).2.1).2.1).1 (rN1 b n 0 7 (rN1 b n 1 9 (rN1 b n 0 (T 1 - 1) 0 i).1 (rN1 b n 0 (T 1 - 1) 0 i).2.1).1 (rN1 b n 1 9 (rN1 b n 0 (T 1 - 1) 0 i).1 (rN1 b n 0 (T 1 - 1) 0 i).2.1).2.1).2.1).2.2 = v4 at *
      generalize (rN1 b n 0 7 (rN1 b n 1 9 (rN1 b n 0 (T 1 - 1) 0 i).1 (rN1 b n 0 (T 1 - 1) 0 i).2.1).1 (rN1 b n 1 9 (rN1 b n 0 (T 1 - 1) 0 i).1 (rN1 b n 0 (T 1 - 1) 0 i).2.1).2.1).2.2 = v3 at *
      generalize (rN1 b n 1 9 (rN1 b n 0 (T 1 - 1) 0 i).1 (rN1 b n 0 (T 1 - 1) 0 i).2.1).2.2 = v2 at *
      generalize (rN1 b n 0 (T 1 - 1) 0 i).2.2 = v1 at *
      generalize hS : rSt (rSt (rSt (rSt (rSt T (73 + 2 * T 6) v1) (25 + T 6) v2) (74 + 2 * T 6) v3) (29 + T 6) v4) 6 (T 6 + 1) = S
      have hT : ∀ j, j ≠ 6 → j ≠ 73 + 2 * T 6 → j ≠ 25 + T 6 → j ≠ 74 + 2 * T 6 → j ≠ 29 + T 6 → S j = T j := fun j h1 h2 h3 h4 h5 => by rw [← hS, rSt_o h1, rSt_o h5, rSt_o h4, rSt_o h3, rSt_o h2]
      have e6 : S 6 = T 6 + 1 := by rw [← hS, rSt_s]
      have w1 : S (73 + 2 * T 6) = v1 := by rw [← hS, rSt_o (by omega), rSt_o (by omega), rSt_o (by omega), rSt_o (by omega), rSt_s]
      have w2 : S (25 + T 6) = v2 := by rw [← hS, rSt_o (by omega), rSt_o (by omega), rSt_o (by omega), rSt_s]
      have w3 : S (74 + 2 * T 6) = v3 := by rw [← hS, rSt_o (by omega), rSt_o (by omega), rSt_s]
      have w4 : S (29 + T 6) = v4 := by rw [← hS, rSt_o (by omega), rSt_s]
      have s0 := hT 0 (by omega) (by omega) (by omega) (by omega) (by omega)
      have s1 := hT 1 (by omega) (by omega) (by omega) (by omega) (by omega)
      have s2 := hT 2 (by omega) (by omega) (by omega) (by omega) (by omega)
      have s3 := hT 3 (by omega) (by omega) (by omega) (by omega) (by omega)
      have s4 := hT 4 (by omega) (by omega) (by omega) (by omega) (by omega)
      have s5 := hT 5 (by omega) (by omega) (by omega) (by omega) (by omega)
      have s55 := hT 55 (by omega) (by omega) (by omega) (by omega) (by omega)
      show tRv S ∧ S 0 = 1 ∧ ∀ j, 81 ≤ j ∨ j < 0 → S j = T j
      refine ⟨⟨Or.inr (by omega), by omega, by omega, by omega, by omega, by omega, fun m a c => ?_, fun m a c => ?_, fun m a c => ?_, fun m a c => ?_⟩, by omega, fun j hj => hT j (by omega) (by omega) (by omega) (by omega) (by omega)⟩
      · rw [hT (33 + m) (by omega) (by omega) (by omega) (by omega) (by omega), hT (39 + m) (by omega) (by omega) (by omega) (by omega) (by omega), hT (45 + m) (by omega) (by omega) (by omega) (by omega) (by omega), hT (67 + m) (by omega) (by omega) (by omega) (by omega) (by omega), s4, s1]
        exact tm m a (by omega)
      · by_cases e : m = T 6
        · subst e
          rw [w1, w2, w3, w4, s4, s1]
          omega
        · rw [hT (25 + m) (by omega) (by omega) (by omega) (by omega) (by omega), hT (29 + m) (by omega) (by omega) (by omega) (by omega) (by omega), hT (73 + 2 * m) (by omega) (by omega) (by omega) (by omega) (by omega), hT (74 + 2 * m) (by omega) (by omega) (by omega) (by omega) (by omega), s4, s1]
          exact tt m a (by omega)
      · rw [hT (51 + m) (by omega) (by omega) (by omega) (by omega) (by omega)]
        exact tp m a (by omega)
      · rw [hT (55 + m) (by omega) (by omega) (by omega) (by omega) (by omega)]
        exact tl m a (by omega)
def rKd (b : Int → Int) (n s : Int) : Int := rIx (rW b n s) nRv 0
def rRv (b : Int → Int) (n : Int) : Nat → Int → Int → (Int → Int) → Int × (Int → Int)
  | 0, _, _, T => (0, T)
  | k + 1, c, i, T =>
    if rKd b n (rSk b n i) = -1 then (1 + 8 * rSk b n i, T)
    else if c = 40 ∨ ¬ rRm T (rKd b n (rSk b n i)) then (1 + 8 * rSk b n i + 4, T)
    else if (rCl b n (rKd b n (rSk b n i)) (rPw b n (rSk b n i)) T).1 ≠ 0 then ((rCl b n (rKd b n (rSk b n i)) (rPw b n (rSk b n i)) T).1, T)
    else if rCh b n (rSk b n (rCl b n (rKd b n (rSk b n i)) (rPw b n (rSk b n i)) T).2.1) = -1 then (0, (rCl b n (rKd b n (rSk b n i)) (rPw b n (rSk b n i)) T).2.2)
    else if rCh b n (rSk b n (rCl b n (rKd b n (rSk b n i)) (rPw b n (rSk b n i)) T).2.1) = 59 then rRv b n k (c + 1) (rSk b n (rCl b n (rKd b n (rSk b n i)) (rPw b n (rSk b n i)) T).2.1 + 1) (rCl b n (rKd b n (rSk b n i)) (rPw b n (rSk b n i)) T).2.2
    else (1 + 8 * rSk b n (rCl b n (rKd b n (rSk b n i)) (rPw b n (rSk b n i)) T).2.1, T)
theorem rKd_in (b : Int → Int) (n s : Int) : -1 ≤ rKd b n s ∧ rKd b n s ≤ 4 := by
  unfold rKd
  generalize rW b n s = W
  show -1 ≤ (if W = _ then (0 : Int) else if W = _ then 1 else if W = _ then 2 else if W = _ then 3 else if W = _ then 4 else -1) ∧ (if W = _ then (0 : Int) else if W = _ then 1 else if W = _ then 2 else if W = _ then 3 else if W = _ then 4 else -1) ≤ 4
  split
  · omega
  split
  · omega
  split
  · omega
  split
  · omega
  split
  · omega
  · omega
