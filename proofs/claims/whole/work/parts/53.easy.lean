/-! Calls that ask or set one number -/
/-- one case of what is owed: both answer alike and the invariant is kept -/
def pCase (e m : jMem → jR) : Prop := ∀ mem, pInv mem → jokM mem → ∃ r mem1, e mem = some (vI r, mem1) ∧ (jokM mem1 → ∃ mem2, m mem1 = some (vI r, mem2) ∧ pInv mem2)
theorem pCase_ro {e m : jMem → jR} (h : ∀ mem, pInv mem → jokM mem → ∃ r, e mem = some (vI r, mem) ∧ m mem = some (vI r, mem)) : pCase e m := fun mem hi hm => by
  obtain ⟨r, h1, h2⟩ := h mem hi hm
  exact ⟨r, mem, h1, fun _ => ⟨mem, h2, hi⟩⟩
theorem p_end (x : Int) : pCase (E_end 60 x) (M_end 60 x) := fun mem hi hm => by
  have ht := hi.1.1
  rw [q_E_end 59]
  by_cases h1 : x < 0
  · refine ⟨-1, mem, by rw [if_pos h1], fun _ => ⟨mem, ?_, hi⟩⟩
    rw [q_M_end 59, if_pos h1]
  by_cases h2 : jrI mem 8 0 1 < x
  · refine ⟨-1, mem, by rw [if_neg h1, if_pos h2], fun _ => ⟨mem, ?_, hi⟩⟩
    rw [q_M_end 59, if_neg h1, if_pos (by rw [← ht]; exact h2)]
  · refine ⟨x, _, by rw [if_neg h1, if_neg h2], fun _ => ⟨jwI (jwI mem 8 0 1 x) 11 0 1 x, ?_, ?_⟩⟩
    · rw [q_M_end 59, if_neg h1]
      rw [show jrI (jwI mem 8 0 1 x) 11 0 1 = jrI mem 11 0 1 by rw [jrI_wf (by decide)], ← ht, if_neg h2]
    · obtain ⟨c1, c2, c3, c4, c5, c6⟩ := hi
      have key : ∀ f i k, ¬ ((f = 8 ∨ f = 11) ∧ k = 1) → jrI (jwI (jwI mem 8 0 1 x) 11 0 1 x) f i k = jrI mem f i k := fun f i k hf => by
        rw [jrI_w, if_neg (by omega), jrI_w, if_neg (by omega)]
      refine ⟨?_, iRule_fr (fun f i k hf => key f i k (by omega)) c2, iNow_fr (fun f k hf => key f 0 k (by unfold dSc at hf; omega)) c3, iMis_fr (fun f k hf => key f 0 k (by omega)) c4, iAct_fr (fun f i k hf => key f i k (by omega)) c5, iImg_fr (fun f i k hf => key f i k (by unfold dSc at hf; omega)) c6⟩
      obtain ⟨a1, a2, a3, a4⟩ := c1
      have e1 : jrI (jwI (jwI mem 8 0 1 x) 11 0 1 x) 11 0 1 = x := jrI_ws _ _ _ _ _
      have e2 : jrI (jwI (jwI mem 8 0 1 x) 11 0 1 x) 8 0 1 = x := by rw [jrI_wf (by decide), jrI_ws]
      refine ⟨by rw [e1, e2], by rw [e1]; omega, by rw [e1]; omega, fun i a b => ?_⟩
      rw [e1] at b
      rw [key 37 0 i (by omega), key 46 0 i (by omega)]
      exact a4 i a (by omega)
theorem p_force (x : Int) : pCase (E_force 60 x) (M_force 60 x) := fun mem hi hm => by
  obtain ⟨c1, c2, c3, c4, c5, c6⟩ := id hi
  obtain ⟨a1, a2, a3, a4⟩ := c2
  obtain ⟨⟨b1, b2, b3⟩, b4, b5⟩ := c4
  rw [q_E_force 59]
  by_cases h1 : x < -1
  · refine ⟨-2, mem, by rw [if_pos h1], fun _ => ⟨mem, ?_, hi⟩⟩
    rw [q_M_force 59, if_neg (by omega), s_M_isRule, jbnd_s, jasI_v, jb_n (by omega), if_pos rfl]
  by_cases h2 : x < jrI mem 10 0 2
  · refine ⟨_, _, by rw [if_neg h1, if_pos h2], fun _ => ⟨jwI (jwI mem 6 0 3 x) 11 0 21 x, ?_, ?_⟩⟩
    · have e1 : jrI (jwI mem 6 0 3 x) 11 0 21 = jrI mem 6 0 3 := by rw [jrI_wf (by decide), b1]
      by_cases h3 : x = -1
      · rw [q_M_force 59, if_pos h3, q_M_force_16, e1]
      · rw [q_M_force 59, if_neg h3, s_M_isRule, jbnd_s, jasI_v, jb_1 ⟨by omega, by rw [jrI_wf (by decide)]; omega⟩, if_neg (by decide), q_M_force_16, e1]
    · have key : ∀ f i k, ¬ ((f = 6 ∧ i = 0 ∧ k = 3) ∨ (f = 11 ∧ k = 21)) → jrI (jwI (jwI mem 6 0 3 x) 11 0 21 x) f i k = jrI mem f i k := fun f i k hf => by
        rw [jrI_w, if_neg (by omega), jrI_w, if_neg (by omega)]
      refine ⟨iTape_fr (fun f k hf => key f 0 k (by omega)) c1, iRule_fr (fun f i k hf => key f i k (by omega)) ⟨a1, a2, a3, a4⟩, iNow_fr (fun f k hf => key f 0 k (by unfold dSc at hf; omega)) c3, ?_, iAct_fr (fun f i k hf => key f i k (by omega)) c5, iImg_fr (fun f i k hf => key f i k (by unfold dSc at hf; omega)) c6⟩
      unfold iMis
      rw [key 6 0 4 (by omega), key 11 0 2 (by omega), key 11 0 22 (by omega), key 11 0 23 (by omega), jrI_ws, jrI_wf (by decide), jrI_ws]
      exact ⟨⟨rfl, by omega, by omega⟩, b4, b5⟩
  · refine ⟨-2, mem, by rw [if_neg h1, if_neg h2], fun _ => ⟨mem, ?_, hi⟩⟩
    rw [q_M_force 59, if_neg (by omega), s_M_isRule, jbnd_s, jasI_v, jb_n (by omega), if_pos rfl]
theorem p_seed (x : Int) : pCase (E_seed 60 x) (M_seed 60 x) := fun mem hi hm => by
  obtain ⟨c1, c2, c3, c4, c5, c6⟩ := id hi
  obtain ⟨b1, ⟨b2, b3⟩, b4⟩ := c4
  rw [q_E_seed 59]
  by_cases h1 : x < 0
  · refine ⟨-1, mem, by rw [if_pos h1], fun _ => ⟨mem, ?_, hi⟩⟩
    rw [q_M_seed 59, if_pos h1]
  · refine ⟨_, _, by rw [if_neg h1], fun _ => ⟨jwI (jwI mem 6 0 4 x) 11 0 22 x, ?_, ?_⟩⟩
    · rw [q_M_seed 59, if_neg h1, jrI_wf (f := 6) (by decide), b2]
    · have key : ∀ f i k, ¬ ((f = 6 ∧ i = 0 ∧ k = 4) ∨ (f = 11 ∧ k = 22)) → jrI (jwI (jwI mem 6 0 4 x) 11 0 22 x) f i k = jrI mem f i k := fun f i k hf => by
        rw [jrI_w, if_neg (by omega), jrI_w, if_neg (by omega)]
      refine ⟨iTape_fr (fun f k hf => key f 0 k (by omega)) c1, iRule_fr (fun f i k hf => key f i k (by omega)) c2, iNow_fr (fun f k hf => key f 0 k (by unfold dSc at hf; omega)) c3, ?_, iAct_fr (fun f i k hf => key f i k (by omega)) c5, iImg_fr (fun f i k hf => key f i k (by unfold dSc at hf; omega)) c6⟩
      unfold iMis
      rw [key 6 0 3 (by omega), key 11 0 2 (by omega), key 11 0 21 (by omega), key 11 0 23 (by omega), jrI_ws, jrI_wf (by decide), jrI_ws]
      exact ⟨b1, ⟨rfl, by omega⟩, b4⟩
theorem p_memory (x y : Int) : pCase (E_memory 60 x y) (M_memory 60 x y) := pCase_ro fun mem hi hm => by
  obtain ⟨-, -, ⟨⟨⟨t0, t3, t4, t5, t6, t55, tm, tt, tp, tl⟩, tw, tn⟩, -, ⟨r0, r1, r2, r3, r4, r5, r6, rm, rt, rp, rl⟩, ⟨w0, wm, wt⟩, -⟩, -⟩ := id hi
  rw [q_E_memory 59, q_M_memory 59, s_E_isMemory 57 x mem (by omega) (by omega), s_M_isMemory, r5]
  simp only [jbnd_s, jasI_v, s_M_in]
  by_cases hx : 0 ≤ x ∧ x < jrI mem 55 0 5
  · obtain ⟨m1, m2, m3, m4⟩ := rm x hx.1 hx.2
    obtain ⟨n1, n2⟩ := wm x hx.1 hx.2
    rw [jw32_id (x := 33 + x) (by omega) (by omega), jw32_id (x := 39 + x) (by omega) (by omega), jw32_id (x := 45 + x) (by omega) (by omega), jw32_id (x := 11 + x) (by omega) (by omega)]
    simp only [jb_1 hx, jix_in (n := 6) (x := x) hx.1 (by omega), jix_in (n := 112) (x := 33 + x) (by omega) (by omega), jix_in (n := 112) (x := 39 + x) (by omega) (by omega), jix_in (n := 112) (x := 45 + x) (by omega) (by omega), jix_in (n := 112) (x := 11 + x) (by omega) (by omega), m2, m3, m4, n1]
    by_cases y0 : y = 0
    · simp [y0, jb]
    by_cases y1 : y = 1
    · simp [y1, jb]
    by_cases y2 : y = 2
    · simp [y2, jb]
    by_cases y3 : y = 3
    · simp [y3, jb]
    · simp [y0, y1, y2, y3, jb_n (p := 0 ≤ y ∧ y ≤ 3) (by omega)]
  · simp [jb_n hx]
