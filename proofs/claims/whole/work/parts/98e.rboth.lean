/-! The class reads a river -/
theorem c_clk (d : Nat) {b : Int → Int} {n k i : Int} {T : Int → Int} {m : jMem} (h : rC b n i m) (hd : cRd m T) (hB : rBd T) (hr : rRm T k) : ∃ m', Ri_readClause (d + 3) 5 k m = some (vU, m') ∧ rCf b n (rCl b n k i T).1 (rCl b n k i T).2.1 m' ∧ cRd m' (rCl b n k i T).2.2 ∧ puR aR m m' := by
  rcases hr with ⟨rfl, -⟩ | ⟨h0, ⟨rfl, hl⟩ | ⟨rfl, hl⟩ | ⟨rfl, hl⟩ | ⟨rfl, hl⟩⟩
  · exact c_cl0 d h hd hB
  · exact c_cl1 d h hd hB hl
  · exact c_cl2 d h hd hB hl
  · exact c_cl3 d h hd hB h0 hl
  · exact c_cl4 d h hd hB h0 hl
theorem c_room (d : Nat) {k : Int} {T : Int → Int} {m : jMem} (hd : cRd m T) (k0 : 0 ≤ k) (k4 : k ≤ 4) (hB : rBd T) (h01 : T 0 = 0 ∨ T 0 = 1) (hc : T 0 = 0 ↔ k = 0) : Ri_hasNoRoom (d + 1) 5 k m = some (vI (jb (¬ rRm T k)), m) := by
  obtain ⟨-, ⟨c3, c4, c5, c6⟩, -⟩ := hd
  obtain ⟨b3, b4, b5, b6, b1⟩ := hB
  rw [q_Ri_hasNoRoom, c3, c4, c5, c6]
  unfold jb
  by_cases e1 : k = 1
  · rw [if_pos e1]
    by_cases q : T 3 < 12
    · rw [if_pos q, if_neg (by omega)]
    · rw [if_neg q, if_pos (by omega)]
  rw [if_neg e1]
  by_cases e2 : k = 2
  · rw [if_pos e2]
    by_cases q : T 4 < 4
    · rw [if_pos q, if_neg (by omega)]
    · rw [if_neg q, if_pos (by omega)]
  rw [if_neg e2]
  by_cases e3 : k = 3
  · rw [if_pos e3]
    by_cases q : T 5 < 6
    · rw [if_pos q, if_neg (by omega)]
    · rw [if_neg q, if_pos (by omega)]
  rw [if_neg e3]
  by_cases e4 : k = 4
  · rw [if_pos e4]
    by_cases q : T 6 < 4
    · rw [if_pos q, if_neg (by omega)]
    · rw [if_neg q, if_pos (by omega)]
  rw [if_neg e4, if_neg (by omega)]
theorem c_blame (d : Nat) (q : Int) {b : Int → Int} {n i : Int} {m : jMem} (h : rC b n i m) (hq : 0 ≤ q ∧ q ≤ 8) : (jbnd (Ta_blame (d + 1) (jrI m 8 0 2) q m) fun v5 mem6 => jbo (jasI v5) (some (vI (jasI v5), mem6))) = some (vI 0, jwI m 8 0 3 (1 + 8 * i + q)) := by
  have h5 := h.2.2.2.2
  rw [h.2.2.1, s_Ta_blame d i q m h.2.2.2.1 (by omega) hq]
  rfl
theorem c_rv (d : Nat) {b : Int → Int} {n : Int} : ∀ (k : Nat) (c i : Int) (T : Int → Int) (m : jMem), (k : Int) + c = 41 → 0 ≤ c → 1 ≤ k → rC b n i m → cRd m T → tRv T → T 0 = (if c = 0 then 0 else 1) → ∃ m', Ri_read_31 (d + 3) 5 c m = some (vI (jb ((rRv b n k c i T).1 = 0)), m') ∧ puR aR m m' ∧ ((rRv b n k c i T).1 = 0 → cRd m' (rRv b n k c i T).2 ∧ jrI m' 4 5 0 = 1 ∧ tRv (rRv b n k c i T).2 ∧ (rRv b n k c i T).2 0 = 1 ∧ ∀ j, 81 ≤ j ∨ j < 0 → (rRv b n k c i T).2 j = T j) ∧ ((rRv b n k c i T).1 ≠ 0 → jrI m' 8 0 3 = (rRv b n k c i T).1) := by
  intro k
  induction k with
  | zero => intro c i T m _ _ h; omega
  | succ k ih =>
    intro c i T m hk c0 _ h hd hT h0
    have hB := rBd_t hT
    have h5 := h.2.2.2.2
    have h01 : (c = 0 ∧ T 0 = 0) ∨ (c ≠ 0 ∧ T 0 = 1) := by
      by_cases e : c = 0
      · rw [if_pos e] at h0; exact Or.inl ⟨e, h0⟩
      · rw [if_neg e] at h0; exact Or.inr ⟨e, h0⟩
    obtain ⟨m1, a1, a2, a3⟩ := c_skip (d + 2) h
    have hsk := rSk_in (b := b) h5.1 h5.2.1
    have hd1 : cRd m1 T := cRd_fr (fun f q w => a3 f 5 q (by unfold aC; omega)) hd
    have hf : Ta_find (d + 3) 0 m1 = some (vI (rKd b n (rSk b n i)), m1) := c_find (d + 1) 0 nRv a2 rfl (by decide) (by decide) (by decide)
    have hkd := rKd_in b n (rSk b n i)
    unfold rRv
    rw [q_Ri_read_31, if_neg (by omega), a1]
    simp only [jbnd_s]
    rw [hf]
    simp only [jbnd_s, jasI_v]
    have bl : ∀ q, 0 ≤ q ∧ q ≤ 8 → ∀ F, F = 1 + 8 * rSk b n i + q → ∃ m', some (vI 0, jwI m1 8 0 3 (1 + 8 * rSk b n i + q)) = some (vI (jb (((F, T) : Int × (Int → Int)).1 = 0)), m') ∧ puR aR m m' ∧ (((F, T) : Int × (Int → Int)).1 = 0 → cRd m' ((F, T) : Int × (Int → Int)).2 ∧ jrI m' 4 5 0 = 1 ∧ tRv ((F, T) : Int × (Int → Int)).2 ∧ ((F, T) : Int × (Int → Int)).2 0 = 1 ∧ ∀ j, 81 ≤ j ∨ j < 0 → ((F, T) : Int × (Int → Int)).2 j = T j) ∧ (((F, T) : Int × (Int → Int)).1 ≠ 0 → jrI m' 8 0 3 = ((F, T) : Int × (Int → Int)).1) := by
      intro q hq F hF
      have hn : F ≠ 0 := by omega
      refine ⟨_, by rw [jb_n hn], puR_w (aC_R a3) (by unfold aR; omega), fun w => absurd w hn, fun _ => ?_⟩
      rw [jrI_ws]
      exact hF.symm
    have eB0 : (jbnd (Ta_blame (d + 3) (jrI m1 8 0 2) 0 m1) fun v5 mem6 => jbo (jasI v5) (some (vI (jasI v5), mem6))) = some (vI 0, jwI m1 8 0 3 (1 + 8 * rSk b n i + 0)) := c_blame (d + 2) 0 a2 (by decide)
    have eB4 : (jbnd (Ta_blame (d + 3) (jrI m1 8 0 2) 4 m1) fun v5 mem6 => jbo (jasI v5) (some (vI (jasI v5), mem6))) = some (vI 0, jwI m1 8 0 3 (1 + 8 * rSk b n i + 4)) := c_blame (d + 2) 4 a2 (by decide)
    by_cases kn : rKd b n (rSk b n i) = -1
    · rw [if_pos kn, if_pos kn, eB0]
      exact bl 0 (by decide) _ (by omega)
    rw [if_neg kn, if_neg kn]
    have e72 : ∀ s0, Ri_read_72 (d + 3) 5 c (rKd b n (rSk b n i)) s0 m1 = if c = 40 then some (vI 0, jwI m1 8 0 3 (1 + 8 * rSk b n i + 4)) else Ri_read_91 (d + 3) 5 c (rKd b n (rSk b n i)) s0 (jb (rKd b n (rSk b n i) = 0)) m1 := fun s0 => by
      rw [q_Ri_read_72, eB4]
      by_cases e : rKd b n (rSk b n i) = 0
      · rw [if_pos e, jb_1 e]
      · rw [if_neg e, jb_n e]
    have efirst : (if c = 0 then Ri_read_72 (d + 3) 5 c (rKd b n (rSk b n i)) 1 m1 else Ri_read_72 (d + 3) 5 c (rKd b n (rSk b n i)) 0 m1) = if c = 40 then some (vI 0, jwI m1 8 0 3 (1 + 8 * rSk b n i + 4)) else Ri_read_91 (d + 3) 5 c (rKd b n (rSk b n i)) (jb (c = 0)) (jb (rKd b n (rSk b n i) = 0)) m1 := by
      by_cases e : c = 0
      · rw [if_pos e, e72, jb_1 e]
      · rw [if_neg e, e72, jb_n e]
    rw [efirst]
    by_cases c40 : c = 40
    · rw [if_pos c40, if_pos (Or.inl c40)]
      exact bl 4 (by decide) _ rfl
    rw [if_neg c40, q_Ri_read_91, eB4]
    by_cases hr : rRm T (rKd b n (rSk b n i))
    · rw [if_neg (show ¬ (c = 40 ∨ ¬ rRm T (rKd b n (rSk b n i))) from fun w => w.elim c40 (fun q => q hr))]
      have hiff : T 0 = 0 ↔ rKd b n (rSk b n i) = 0 := by omega
      have hs : jb (c = 0) = jb (rKd b n (rSk b n i) = 0) := jb_cong (by omega)
      rw [if_pos hs, c_room (d + 2) hd1 (by omega) (by omega) hB (by omega) hiff]
      simp only [jbnd_s, jasI_v]
      rw [jb_n (fun w => w hr)]
      first | rw [if_pos rfl] | rw [if_pos trivial]
      obtain ⟨m2, b1, b2, b3⟩ := c_pass (d + 2) a2
      have hd2 : cRd m2 T := cRd_fr (fun f q w => b3 f 5 q (by unfold aC; omega)) hd1
      obtain ⟨m3, e1, e2, e3, e4⟩ := c_clk d b2 hd2 hB hr
      have htc := t_cl (b := b) (n := n) (i := rPw b n (rSk b n i)) hT hr
      rw [b1]
      simp only [jbnd_s]
      rw [e1]
      simp only [jbnd_s]
      generalize rCl b n (rKd b n (rSk b n i)) (rPw b n (rSk b n i)) T = R at *
      have fr3 : puR aR m m3 := puR_tr (aC_R a3) (puR_tr (aC_R b3) e4)
      rcases e2 with ⟨z, e2⟩ | ⟨z, e2⟩
      · obtain ⟨t1, t2, t3⟩ := htc z
        rw [if_neg (show ¬ (R.1 ≠ 0) from fun w => w z), if_pos e2.2.2.2.1]
        obtain ⟨m4, f1, f2, f3⟩ := c_over (d + 1) e2
        have hs2 := rSk_in (b := b) e2.2.2.2.2.1 e2.2.2.2.2.2.1
        have h5' := e2.2.2.2.2
        rw [f1]
        simp only [jbnd_s, jasI_v]
        have hd4 : cRd m4 R.2.2 := cRd_fr (fun f q w => f3 f 5 q (by unfold aC; omega)) e3
        by_cases ov : rCh b n (rSk b n R.2.1) = -1
        · rw [if_pos ov, jb_1 ov, if_neg (by decide)]
          refine ⟨_, by rw [jb_1 (show ((0, R.2.2) : Int × (Int → Int)).1 = 0 from rfl)], puR_w (puR_tr fr3 (aC_R f3)) (by unfold aR; omega), fun _ => ⟨?_, jrI_ws _ _ _ _ _, t1, t2, t3⟩, fun w => absurd rfl w⟩
          obtain ⟨y1, ⟨y3, y4, y5, y6⟩, y7⟩ := hd4
          refine ⟨fun w => by rw [jrI_wk (by decide), jrI_wk (by decide)]; exact y1 w, ⟨by rw [jrI_wk (by decide)]; exact y3, by rw [jrI_wk (by decide)]; exact y4, by rw [jrI_wk (by decide)]; exact y5, by rw [jrI_wk (by decide)]; exact y6⟩, ?_⟩
          rw [jrI_wf (g := 23) (by decide), jrI_wf (g := 24) (by decide), jrI_wf (g := 25) (by decide), jrI_wf (g := 26) (by decide), jrI_wf (g := 27) (by decide), jrI_wf (g := 28) (by decide), jrI_wf (g := 29) (by decide), jrI_wf (g := 30) (by decide), jrI_wf (g := 22) (by decide), jrI_wf (g := 21) (by decide)]
          exact y7
        · rw [if_neg ov, jb_n ov]
          first | rw [if_pos rfl] | rw [if_pos trivial]
          obtain ⟨tk1, tk2⟩ := c_took (d + 1) 59 f2 (by decide)
          by_cases se : rCh b n (rSk b n R.2.1) = 59
          · obtain ⟨u1, u2⟩ := tk1 se
            rw [if_pos se, u1]
            simp only [jbnd_s, jasI_v]
            rw [if_neg (by decide), jw32_id (x := c + 1) (by omega) (by omega)]
            obtain ⟨m5, v1, v2, v3, v4⟩ := ih (c + 1) (rSk b n R.2.1 + 1) R.2.2 _ (by omega) (by omega) (by omega) u2 (cRd_fr (fun f q w => by rw [jrI_w, if_neg (by omega)]) hd4) t1 (by rw [if_neg (by omega)]; exact t2)
            refine ⟨m5, v1, puR_tr fr3 (puR_tr (puR_w (aC_R f3) (by unfold aR; omega)) v2), fun w => ?_, v4⟩
            obtain ⟨x1, x2, x3, x4, x5⟩ := v3 w
            exact ⟨x1, x2, x3, x4, fun j hj => by rw [x5 j hj, t3 j hj]⟩
          · rw [if_neg se, tk2 se]
            simp only [jbnd_s, jasI_v]
            first | rw [if_pos rfl] | rw [if_pos trivial]
            rw [c_blame (d + 2) 0 f2 (by decide)]
            have hn : ((1 + 8 * rSk b n R.2.1, T) : Int × (Int → Int)).1 ≠ 0 := by
              show 1 + 8 * rSk b n R.2.1 ≠ 0
              omega
            refine ⟨_, by rw [jb_n hn], puR_w (puR_tr fr3 (aC_R f3)) (by unfold aR; omega), fun w => absurd w hn, fun _ => ?_⟩
            rw [jrI_ws]
            show 1 + 8 * rSk b n R.2.1 + 0 = 1 + 8 * rSk b n R.2.1
            omega
      · rw [if_pos z, if_neg (by rw [e2]; exact z)]
        exact ⟨m3, by rw [jb_n z], fr3, fun w => absurd w z, fun _ => e2⟩
    · by_cases hiff : T 0 = 0 ↔ rKd b n (rSk b n i) = 0
      · have hs : jb (c = 0) = jb (rKd b n (rSk b n i) = 0) := jb_cong (by omega)
        rw [if_pos hs, c_room (d + 2) hd1 (by omega) (by omega) hB (by omega) hiff]
        simp only [jbnd_s, jasI_v]
        rw [jb_1 hr, if_neg (by decide), eB4, if_pos (show c = 40 ∨ ¬ rRm T (rKd b n (rSk b n i)) from Or.inr hr)]
        exact bl 4 (by decide) _ rfl
      · have hs : ¬ jb (c = 0) = jb (rKd b n (rSk b n i) = 0) := by
          intro w
          unfold jb at w
          by_cases e1 : c = 0
          · by_cases e2 : rKd b n (rSk b n i) = 0
            · exact hiff (by omega)
            · rw [if_pos e1, if_neg e2] at w; omega
          · by_cases e2 : rKd b n (rSk b n i) = 0
            · rw [if_neg e1, if_pos e2] at w; omega
            · exact hiff (by omega)
        rw [if_neg hs, if_pos (show c = 40 ∨ ¬ rRm T (rKd b n (rSk b n i)) from Or.inr hr)]
        exact bl 4 (by decide) _ rfl
