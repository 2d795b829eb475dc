/-! areAllSo; of -/
def aQr (r : Int) (f : Nat) (i k : Int) : Prop := aP f i k ∨ (f = 62 ∧ i = 0 ∧ 6 * r ≤ k ∧ k < 6 * r + 6)
theorem mEv_Q {r : Int} {a b : jMem} (h : puR (aQr r) a b) {ev : tEvT} (hc : mEv a ev) : mEv b ev := mEv_R (fun f i k hf => by unfold aQr aP at hf; omega) h hc
theorem s_M_areAllSo (d : Nat) (ev : tEvT) (Z : Int → Int) (r n : Int) (m : jMem) (hR : tRv Z) (hW : tWv Z) (hN : tNv Z) (h1 : Z 0 = 1) (h10 : Z 10 = 0) (hn : -1 ≤ n ∧ n ≤ 60) (hr : 0 ≤ r ∧ r < 7) (hev : mEv m ev) (hs : jrI m 55 0 = Z) (hl : jrI m 11 0 23 = -1) : ∃ m', M_areAllSo (d + 8) r n m = some (vI (jb (tFt ev Z = -1)), m') ∧ puR (aQr r) m m' ∧ (0 ≤ n → ∀ k, 0 ≤ k → k < Z 5 → jrI m' 62 0 (6 * r + k) = tFr (tIt ev n.toNat Z) k) ∧ jrI m' 11 0 23 = -1 := by
  have t5 := hR.2.2.2.1
  rw [q_M_areAllSo]
  have key : ∀ (k : Nat) (i is : Int) (m1 : jMem), 0 ≤ i → i + (k : Int) = 61 → (is = 0 ∨ is = 1) → puR (aQr r) m m1 → jrI m1 55 0 = tIt ev i.toNat Z → jrI m1 11 0 23 = -1 → (0 ≤ n → n < i → ∀ k, 0 ≤ k → k < Z 5 → jrI m1 62 0 (6 * r + k) = tFr (tIt ev n.toNat Z) k) → ∃ m', M_areAllSo_5 (d + 7) r n is i m1 = some (vI (jb (is = 1 ∧ puG (fun i => tHo (tIt ev i.toNat Z) ≠ -1) k i = -1)), m') ∧ puR (aQr r) m m' ∧ (0 ≤ n → ∀ k, 0 ≤ k → k < Z 5 → jrI m' 62 0 (6 * r + k) = tFr (tIt ev n.toNat Z) k) ∧ jrI m' 11 0 23 = -1 := by
    intro k
    induction k with
    | zero =>
      intro i is m1 i0 i1 his hr1 hs1 hl1 hp1
      rw [q_M_areAllSo_5, if_pos (by omega), jbo_in his]
      refine ⟨m1, ?_, hr1, fun h => hp1 h (by omega), hl1⟩
      rcases his with h | h
      · rw [h, jb_n (by omega)]
      · rw [h, jb_1 ⟨rfl, rfl⟩]
    | succ k ih =>
      intro i is m1 i0 i1 his hr1 hs1 hl1 hp1
      obtain ⟨q1, q2, q3, q4, q5⟩ := tZ_ok ev hR hW hN h1 h10 i i0 (by omega)
      -- a night on, from any state that is laid so
      have nxt : ∀ (is' : Int) (m2 : jMem), (is' = 0 ∨ is' = 1) → puR (aQr r) m m2 → jrI m2 55 0 = tIt ev i.toNat Z → jrI m2 11 0 23 = -1 → (0 ≤ n → n < i + 1 → ∀ k, 0 ≤ k → k < Z 5 → jrI m2 62 0 (6 * r + k) = tFr (tIt ev n.toNat Z) k) → ∃ m', (jbnd (M_passes (d + 7) m2) fun _ mem4 => M_areAllSo_5 (d + 7) r n is' (jw32 (i + 1)) mem4) = some (vI (jb (is' = 1 ∧ puG (fun i => tHo (tIt ev i.toNat Z) ≠ -1) k (i + 1) = -1)), m') ∧ puR (aQr r) m m' ∧ (0 ≤ n → ∀ k, 0 ≤ k → k < Z 5 → jrI m' 62 0 (6 * r + k) = tFr (tIt ev n.toNat Z) k) ∧ jrI m' 11 0 23 = -1 := fun is' m2 his' hr2 hs2 hl2 hp2 => by
        obtain ⟨m3, f1, f2, f3, f4⟩ := s_M_passes d (tLi (tIt ev i.toNat Z) (tIt ev i.toNat Z 10)) ev m2 (by rw [hs2]; exact q1) (by rw [hs2]; exact q2) (by rw [hs2, q4 0 (by omega)]; exact h1) (mEv_Q hr2 hev) ⟨by rw [hs2, hl2, if_pos (by decide)], by rw [hl2]; decide⟩
        rw [f1, jw32_id (x := i + 1) (by omega) (by omega)]
        simp only [jbnd_s]
        rw [hs2] at f2
        refine ih (i + 1) is' m3 (by omega) (by omega) his' (puR_tr hr2 (puR_mono f3.1 (fun f i k hf => Or.inl hf))) (by rw [f2, tIt_s ev i i0 Z]) f4 (fun h h2 k k0 k1 => ?_)
        rw [f3.1 62 0 _ (by unfold aP; omega)]
        exact hp2 h h2 k k0 k1
      -- the row laid down, if it is the night
      have lay : ∀ (is' : Int), (is' = 0 ∨ is' = 1) → ∃ m', M_areAllSo_34 (d + 7) r n is' i 0 m1 = some (vI (jb (is' = 1 ∧ puG (fun i => tHo (tIt ev i.toNat Z) ≠ -1) k (i + 1) = -1)), m') ∧ puR (aQr r) m m' ∧ (0 ≤ n → ∀ k, 0 ≤ k → k < Z 5 → jrI m' 62 0 (6 * r + k) = tFr (tIt ev n.toNat Z) k) ∧ jrI m' 11 0 23 = -1 := fun is' his' => by
        by_cases hin : i = n
        · obtain ⟨m2, u1, u2, u3⟩ := puUpE (P := fun j (m2 : jMem) => puR (fun f i k => f = 62 ∧ i = 0 ∧ 6 * r ≤ k ∧ k < 6 * r + 6) m1 m2 ∧ ∀ k, 0 ≤ k → k < j → jrI m2 62 0 (6 * r + k) = tFr (tIt ev n.toNat Z) k) (L := fun j m2 => M_areAllSo_34 (d + 7) r n is' i j m2) (n := Z 5) t5.1 (fun j m2 j0 j1 hP => by
            obtain ⟨p1, p2⟩ := hP
            have hs2 : jrI m2 55 0 = tIt ev i.toNat Z := by
              rw [← hs1]
              exact funext fun k => p1 55 0 k (by omega)
            rw [q_M_areAllSo_34, hs2, q4 5 (by omega), if_pos j1, if_pos hin, s_M_freeIn (d + 4) j (tIt ev i.toNat Z) m2 q1 q2 hs2 j0 (by rw [q4 5 (by omega)]; exact j1)]
            simp only [jbnd_s, jasI_v]
            rw [jw32_id (x := 6 * r) (by omega) (by omega), jw32_id (x := 6 * r + j) (by omega) (by omega), jix_in (by omega) (by omega), jw32_id (x := j + 1) (by omega) (by omega)]
            refine ⟨_, rfl, puR_w p1 ⟨rfl, rfl, by omega, by omega⟩, fun k k0 k1 => ?_⟩
            by_cases e : k = j
            · rw [e, jrI_ws, hin]
            · rw [jrI_wk (by omega)]
              exact p2 k k0 (by omega)) m1 ⟨puR_rf _ m1, fun k k0 k1 => by omega⟩
          have u1' : M_areAllSo_34 (d + 7) r n is' i 0 m1 = M_areAllSo_34 (d + 7) r n is' i (Z 5) m2 := u1
          have hs2 : jrI m2 55 0 = tIt ev i.toNat Z := by
            rw [← hs1]
            exact funext fun k => u2 55 0 k (by omega)
          rw [u1', q_M_areAllSo_34, hs2, q4 5 (by omega), if_neg (by omega)]
          exact nxt is' m2 his' (puR_tr hr1 (puR_mono u2 (fun f i k hf => Or.inr hf))) hs2 (by rw [u2 11 0 23 (by omega)]; exact hl1) (fun _ _ k k0 k1 => u3 k k0 k1)
        · have hg := nxt is' m1 his' hr1 hs1 hl1 (fun h h2 => hp1 h (by omega))
          rw [q_M_areAllSo_34]
          by_cases h5 : (0 : Int) < jrI m1 55 0 5
          · rw [if_pos h5, if_neg hin]
            exact hg
          · rw [if_neg h5]
            exact hg
      have hns := s_M_areNotesSo (d + 3) (tIt ev i.toNat Z) m1 q1 q2 q3 hs1
      rw [q5] at hns
      rw [q_M_areAllSo_5, if_neg (by omega), puG_s]
      rcases his with h | h
      · rw [if_pos h]
        obtain ⟨m', a1, a2⟩ := lay 0 (Or.inl rfl)
        refine ⟨m', ?_, a2⟩
        rw [a1, h, jb_n (by omega), jb_n (by omega)]
      · rw [if_neg (show ¬ is = 0 by omega), hns]
        simp only [jbnd_s, jasI_v]
        by_cases ho : tHo (tIt ev i.toNat Z) = -1
        · rw [jb_1 ho, if_neg (by decide), if_neg (show ¬ tHo (tIt ev i.toNat Z) ≠ -1 from fun w => w ho)]
          obtain ⟨m', a1, a2⟩ := lay 1 (Or.inr rfl)
          refine ⟨m', ?_, a2⟩
          rw [a1, h]
        · rw [jb_n ho, if_pos rfl, if_pos (show tHo (tIt ev i.toNat Z) ≠ -1 from ho)]
          obtain ⟨m', a1, a2⟩ := lay 0 (Or.inl rfl)
          refine ⟨m', ?_, a2⟩
          rw [a1, jb_n (by omega), jb_n (by omega)]
  obtain ⟨m', a1, a2, a3, a4⟩ := key 61 0 1 m (Int.le_refl 0) (by omega) (Or.inr rfl) (puR_rf _ m) (by rw [hs]; rfl) hl (fun h h2 => by omega)
  refine ⟨m', ?_, a2, a3, a4⟩
  rw [a1]
  congr 3
  exact jb_cong ⟨fun w => w.2, fun w => ⟨rfl, w⟩⟩
/-! of -/
theorem tWh_ok {Z : Int → Int} {x p : Int} (hR : tRv Z) (hW : tWv Z) (hN : tNv Z) (hx : 0 ≤ x ∧ x < Z 5) (hp : 0 ≤ p ∧ p < Z 4) : tRv (tUp Z (45 + x) p) ∧ tWv (tUp Z (45 + x) p) ∧ tNv (tUp Z (45 + x) p) := by
  obtain ⟨t0, t3, t4, t5, t6, t55, tm, tt, tp, tl⟩ := hR
  obtain ⟨w1, w2, w3, w4⟩ := hW
  obtain ⟨n1, n2⟩ := hN
  have e : ∀ j, j < 45 ∨ 51 ≤ j → tUp Z (45 + x) p j = Z j := fun j hj => tUp_n (by omega)
  refine ⟨?_, ?_, ?_⟩
  · unfold tRv
    rw [e 0 (by omega), e 1 (by omega), e 2 (by omega), e 3 (by omega), e 4 (by omega), e 5 (by omega), e 6 (by omega), e 55 (by omega)]
    refine ⟨t0, t3, t4, t5, t6, t55, fun m a b => ?_, fun m a b => ?_, fun m a b => ?_, fun m a b => ?_⟩
    · rw [e (33 + m) (by omega), e (39 + m) (by omega), e (67 + m) (by omega)]
      have := tm m a b
      by_cases h : m = x
      · rw [h, tUp_s]
        rw [h] at this
        omega
      · rw [tUp_n (by omega)]
        exact this
    · rw [e (25 + m) (by omega), e (29 + m) (by omega), e (73 + 2 * m) (by omega), e (74 + 2 * m) (by omega)]
      exact tt m a b
    · rw [e (51 + m) (by omega)]
      exact tp m a b
    · rw [e (55 + m) (by omega)]
      exact tl m a b
  · unfold tWv
    rw [e 10 (by omega), e 1 (by omega), e 4 (by omega), e 5 (by omega), e 6 (by omega)]
    refine ⟨w1, fun m a b => ?_, fun t a b => ?_, fun m m' a b c d => ?_⟩
    · rw [e (11 + m) (by omega)]
      exact w2 m a b
    · rw [e (17 + 2 * t) (by omega), e (18 + 2 * t) (by omega)]
      exact w3 t a b
    · rw [e (11 + m) (by omega), e (11 + m') (by omega)]
      exact w4 m m' a b c d
  · unfold tNv
    rw [e 111 (by omega), e 5 (by omega), e 1 (by omega)]
    refine ⟨n1, fun i a b => ?_⟩
    rw [e (81 + 3 * i) (by omega), e (82 + 3 * i) (by omega), e (83 + 3 * i) (by omega)]
    exact n2 i a b
theorem cWv_wh {mem : jMem} {w x v : Int} {T : Int → Int} (h5 : T 5 ≤ 6) (h6 : T 6 ≤ 4) (hx : 0 ≤ x ∧ x < T 5) (hc : cWv mem w T) : cWv (jwI mem 39 w x v) w (tUp T (45 + x) v) := by
  obtain ⟨c0, c1, c2⟩ := hc
  unfold cWv
  rw [tUp_n (j := 10) (by omega), tUp_n (j := 5) (by omega), tUp_n (j := 6) (by omega), jrI_wf (g := 9) (by decide)]
  refine ⟨c0, fun m a b => ?_, fun t a b => ?_⟩
  · rw [jrI_wf (g := 38) (by decide), tUp_n (j := 11 + m) (by omega)]
    by_cases e : m = x
    · rw [e, jrI_ws, tUp_s]
      exact ⟨(c1 x hx.1 hx.2).1, rfl⟩
    · rw [jrI_wk e, tUp_n (by omega)]
      exact c1 m a b
  · rw [jrI_wf (g := 40) (by decide), jrI_wf (g := 41) (by decide), jrI_wf (g := 42) (by decide), jrI_wf (g := 43) (by decide), tUp_n (j := 17 + 2 * t) (by omega), tUp_n (j := 25 + t) (by omega), tUp_n (j := 18 + 2 * t) (by omega), tIn_cong (T' := tUp T (45 + x) v) (T := T) (tUp_n (by omega)) (fun m a b => by rw [tUp_n (by omega)])]
    exact c2 t a b
