/-! The class reads a rule's tests -/
theorem c_tookN {b : Int → Int} {n i : Int} {m : jMem} (d : Nat) (x : Int) (h : rC b n i m) (hx : 0 ≤ x) (hc : rCh b n i ≠ x) : Ta_took (d + 2) x m = some (vI 0, m) := (c_took d x h hx).2 hc
theorem c_sign (d : Nat) {b : Int → Int} {n s : Int} {m : jMem} (h : rC b n s m) : ∃ m', Ru_readSign (d + 3) m = some (vI (gSg b n s), m') ∧ puR aC m m' ∧ (gSg b n s = -1 → m' = m) ∧ (gSg b n s ≠ -1 → rC b n (gSe b n s) m') := by
  have w2 : ∀ x : Int, puR aC m (jwI m 8 0 2 x) := fun x => puR_w (puR_rf _ m) ⟨rfl, rfl, Or.inl rfl⟩
  unfold gSe gSg
  rw [q_Ru_readSign]
  by_cases c61 : rCh b n s = 61
  · obtain ⟨t1, t2⟩ := (c_took d 61 h (by decide)).1 c61
    rw [t1, if_pos c61]
    simp only [jbnd_s, jasI_v]
    refine ⟨_, rfl, w2 _, fun w => absurd w (by decide), fun _ => ?_⟩
    rw [if_neg (by decide)]
    exact t2
  rw [if_neg c61, c_tookN d 61 h (by decide) c61]
  simp only [jbnd_s, jasI_v]
  have two : ∀ (s1 : Int) (x y : Int), rC b n (s + 1) (jwI m 8 0 2 (s + 1)) → (x ≠ -1 ∧ x ≠ 1 ∧ x ≠ 2) → (y = 1 ∨ y = 2) → ∃ m', (jbnd (Ta_took (d + 2) 61 (jwI m 8 0 2 (s + 1))) fun v9 mem10 => if jasI v9 = 0 then some (vI x, mem10) else some (vI y, mem10)) = some (vI (if rCh b n (s + 1) = 61 then y else x), m') ∧ puR aC m m' ∧ ((if rCh b n (s + 1) = 61 then y else x) = -1 → m' = m) ∧ ((if rCh b n (s + 1) = 61 then y else x) ≠ -1 → rC b n (if (if rCh b n (s + 1) = 61 then y else x) = 1 ∨ (if rCh b n (s + 1) = 61 then y else x) = 2 then s + 2 else s + 1) m') := by
    intro s1 x y t2 hx hy
    by_cases e : rCh b n (s + 1) = 61
    · obtain ⟨t3, t4⟩ := (c_took d 61 t2 (by decide)).1 e
      rw [t3, if_pos e]
      simp only [jbnd_s, jasI_v]
      refine ⟨_, rfl, puR_w (w2 _) ⟨rfl, rfl, Or.inl rfl⟩, fun w => by omega, fun _ => ?_⟩
      rw [if_pos hy, show s + 2 = s + 1 + 1 by omega]
      exact t4
    · rw [c_tookN d 61 t2 (by decide) e, if_neg e]
      simp only [jbnd_s, jasI_v]
      refine ⟨_, rfl, w2 _, fun w => by omega, fun _ => ?_⟩
      rw [if_neg (by omega)]
      exact t2
  by_cases c60 : rCh b n s = 60
  · obtain ⟨t1, t2⟩ := (c_took d 60 h (by decide)).1 c60
    rw [t1, if_pos c60]
    simp only [jbnd_s, jasI_v]
    exact two 0 60 1 t2 (by decide) (Or.inl rfl)
  rw [if_neg c60, c_tookN d 60 h (by decide) c60]
  simp only [jbnd_s, jasI_v]
  by_cases c62 : rCh b n s = 62
  · obtain ⟨t1, t2⟩ := (c_took d 62 h (by decide)).1 c62
    rw [t1, if_pos c62]
    simp only [jbnd_s, jasI_v]
    exact two 0 62 2 t2 (by decide) (Or.inr rfl)
  rw [if_neg c62, c_tookN d 62 h (by decide) c62]
  simp only [jbnd_s, jasI_v]
  exact ⟨m, rfl, puR_rf _ m, fun _ => rfl, fun w => absurd rfl w⟩
theorem cOut_x {b : Int → Int} {n r : Int} {L A : List (Int × Int)} {R : gR} {m : jMem} {X : jR} (h : cOut b n r (L ++ A) R m X) : cOut b n r L (R.1, R.2.1, R.2.2.1, A ++ R.2.2.2) m X := by
  obtain ⟨y1, y2⟩ := h
  refine ⟨fun q => ?_, y2⟩
  obtain ⟨m5, p1, p2, p3⟩ := y1 q
  refine ⟨m5, p1, ?_, p3⟩
  rw [List.append_assoc] at p2
  exact p2
theorem c_cmp (d : Nat) {b : Int → Int} {n r i u : Int} {L : List (Int × Int)} {m : jMem} (h : cQ b n r i u L m) (hl : (L.length : Int) ≤ i) (hu : 0 ≤ u ∧ u ≤ 60) : cOut b n r L (gCmp b n i u) m (Ru_readComparison (d + 5) r m) := by
  have h5 := h.1.2.2.2.2
  obtain ⟨v1, v2⟩ := c_sum d h hl hu
  have hg := gSum_g (b := b) (n := n) (i := i) (u := u) h5.1 h5.2.1
  unfold gCmp
  rw [q_Ru_readComparison]
  generalize gSum b n i u = V at *
  by_cases z : V.1 = 0
  · obtain ⟨m1, e1, e2, e3⟩ := v1 z
    obtain ⟨⟨g1, g2⟩, ⟨g3, g4⟩, -⟩ := hg z
    have h5' := e2.1.2.2.2.2
    rw [gB_0 z]
    refine cOut_p e3 (cOut_x ?_)
    rw [e1]
    simp only [jbnd_s, jasI_v]
    rw [if_neg (show ¬ (1 : Int) = 0 by decide)]
    obtain ⟨m2, a1, a2, a3⟩ := c_skip (d + 3) e2.1
    have hs := rSk_in (b := b) h5'.1 h5'.2.1
    have q2 := cQ_mv e2 a3 a2
    rw [a1]
    simp only [jbnd_s]
    generalize rSk b n V.2.1 = s at *
    have hL : ((L ++ V.2.2.2).length : Int) ≤ V.2.1 := by rw [List.length_append]; omega
    generalize L ++ V.2.2.2 = L1 at *
    obtain ⟨m3, b1, b2, b3, b4⟩ := c_sign (d + 1) a2
    rw [b1]
    simp only [jbnd_s, jasI_v]
    rw [a2.2.2.1]
    by_cases sg : gSg b n s = -1
    · rw [if_pos sg, if_pos sg, b3 sg, s_Ta_blame (d + 3) s 0 m2 a2.2.2.2.1 (by omega) (by decide)]
      have := cQ_F (F := 1 + 8 * s + 0) q2 (by omega)
      rw [show 1 + 8 * s + 0 = 1 + 8 * s by omega] at this ⊢
      exact cOut_f (by omega) this (puR_w (aC_U r a3) (Or.inl ⟨rfl, rfl, Or.inr rfl⟩))
    · obtain ⟨s1, s2, s3, s4⟩ := gSg_in sg
      rw [if_neg sg, if_neg sg]
      have q3 := cQ_mv q2 b2 (b4 sg)
      obtain ⟨u1, u2⟩ := c_unit (d + 2) s q3 (by omega) (by omega) ⟨by omega, g4⟩
      by_cases hu6 : V.2.2.1 < 60
      · obtain ⟨m4, k1, k2, k3⟩ := u1 hu6
        rw [if_pos hu6, k1]
        simp only [jbnd_s, jasI_v]
        rw [if_neg (show ¬ (1 : Int) = 0 by decide)]
        have fr : puR (aU r) m1 m4 := puR_tr (aC_U r a3) (puR_tr (aC_U r b2) k3)
        obtain ⟨w1, w2⟩ := c_sum d k2 (by omega) ⟨by omega, by omega⟩
        have hg2 := gSum_g (b := b) (n := n) (i := gSe b n s) (u := V.2.2.1 + 1) (by omega) s4
        generalize gSum b n (gSe b n s) (V.2.2.1 + 1) = Y at *
        by_cases z2 : Y.1 = 0
        · obtain ⟨m5, p1, p2, p3⟩ := w1 z2
          obtain ⟨⟨y1, y2⟩, ⟨y3, y4⟩, -⟩ := hg2 z2
          rw [gB_0 z2, p1]
          simp only [jbnd_s, jasI_v]
          rw [if_neg (show ¬ (1 : Int) = 0 by decide)]
          obtain ⟨m6, j1, j2, j3⟩ := c_emit (d + 3) (gSg b n s) 0 p2 (by rw [List.length_append]; omega) (fun _ q => absurd (show gSg b n s = 7 from q) (by omega))
          rw [j1]
          rw [List.append_assoc] at j2
          exact cOut_o j2 (puR_tr fr (puR_tr p3 j3))
        · obtain ⟨m5, p1, p2, p3⟩ := w2 z2
          rw [gB_n z2, p1]
          simp only [jbnd_s, jasI_v]
          first | rw [if_pos rfl] | rw [if_pos trivial]
          exact ⟨fun q => absurd q z2, fun _ => ⟨m5, rfl, p2, puR_tr fr p3⟩⟩
      · obtain ⟨m4, k1, k2, k3⟩ := u2 hu6
        rw [if_neg hu6, k1]
        simp only [jbnd_s, jasI_v]
        first | rw [if_pos rfl] | rw [if_pos trivial]
        exact cOut_f (by omega) k2 (puR_tr (aC_U r a3) (puR_tr (aC_U r b2) k3))
  · obtain ⟨m3, e1, e2, e3⟩ := v2 z
    rw [gB_n z, e1]
    simp only [jbnd_s, jasI_v]
    first | rw [if_pos rfl] | rw [if_pos trivial]
    exact ⟨fun q => absurd q z, fun _ => ⟨m3, rfl, e2, e3⟩⟩
theorem c_tookW (d : Nat) (tx : Int) (cs : List Int) {b : Int → Int} {n i : Int} {m : jMem} (h : rC b n i m) (ht : jtext jtexts tx = cs) (hc : ∀ c ∈ cs, 97 ≤ c ∧ c ≤ 122) (hL : cs.length < 1000) : (rW b n (rSk b n i) = cs.reverse → ∃ m', Ta_tookWord (d + 3) tx m = some (vI 1, m') ∧ rC b n (rPw b n (rSk b n i)) m' ∧ puR aC m m') ∧ (rW b n (rSk b n i) ≠ cs.reverse → ∃ m', Ta_tookWord (d + 3) tx m = some (vI 0, m') ∧ rC b n (rSk b n i) m' ∧ puR aC m m') := by
  obtain ⟨m1, a1, a2, a3⟩ := c_skip (d + 1) h
  have hf : Ta_find (d + 2) tx m1 = some (vI (if rW b n (rSk b n i) = cs.reverse then 0 else -1), m1) := c_find d tx [cs] a2 ht (by simp) (fun x hx => by rw [List.mem_singleton.mp hx]; exact hc) hL
  rw [q_Ta_tookWord, a1]
  simp only [jbnd_s]
  rw [hf]
  simp only [jbnd_s, jasI_v]
  refine ⟨fun e => ?_, fun e => ?_⟩
  · obtain ⟨m2, b1, b2, b3⟩ := c_pass (d + 1) a2
    rw [if_pos e, if_neg (by decide), b1]
    exact ⟨m2, rfl, b2, puR_tr a3 b3⟩
  · rw [if_neg e]
    first | rw [if_pos rfl] | rw [if_pos trivial]
    exact ⟨m1, rfl, a2, a3⟩
theorem c_lp (d : Nat) (tx op : Int) (cs : List Int) (ht : jtext jtexts tx = cs) (hc : ∀ c ∈ cs, 97 ≤ c ∧ c ≤ 122) (hcn : cs.reverse ≠ []) (hL : cs.length < 1000) (hop : op = 4 ∨ op = 5) {b : Int → Int} {n r : Int} {F : Int → Int → gR} {G : jMem → jR} {Lx : Int → Int → jMem → jR} (hF : ∀ i u, 0 ≤ i → i ≤ n → gG n i u True (F i u)) (hG : ∀ i u L m, cQ b n r i u L m → (L.length : Int) ≤ i → 0 ≤ u → u ≤ 60 → cOut b n r L (F i u) m (G m)) (hq : ∀ x3 x4 mem, Lx x3 x4 mem = if 60 < x4 then jbo x3 (some (vI x3, mem)) else if x3 = 0 then jbo x3 (some (vI x3, mem)) else jbnd (Ta_tookWord (d + 3) tx mem) fun v1 mem2 => if (jasI v1) = 0 then jbo x3 (some (vI x3, mem2)) else jbnd (G mem2) fun v3 mem4 => jbnd (Ru_emit (d + 3) r op 0 mem4) fun v5 mem6 => Lx (jasI v3) (jw32 (x4 + 1)) mem6) : ∀ (k : Nat) (x i u : Int) (L : List (Int × Int)) (m : jMem), (k : Int) + x = 61 → 0 ≤ x → cQ b n r i u L m → (L.length : Int) ≤ i → 0 ≤ u → u ≤ 60 → cOut b n r L (gLp b n cs.reverse op F k i u) m (Lx 1 x m) := by
  intro k
  induction k with
  | zero =>
    intro x i u L m hk x0 h hl u0 u1
    unfold gLp
    rw [hq, if_pos (by omega)]
    exact cOut_o (by rw [List.append_nil]; exact h) (puR_rf _ m)
  | succ k ih =>
    intro x i u L m hk x0 h hl u0 u1
    have h5 := h.1.2.2.2.2
    have hs := rSk_in (b := b) h5.1 h5.2.1
    unfold gLp
    obtain ⟨t1, t2⟩ := c_tookW d tx cs h.1 ht hc hL
    rw [hq, if_neg (show ¬ 60 < x by omega), if_neg (show ¬ (1 : Int) = 0 by decide)]
    by_cases e : rW b n (rSk b n i) = cs.reverse
    · obtain ⟨m1, a1, a2, a3⟩ := t1 e
      have hp := rW_ne (b := b) (by omega) hs.2 hcn e
      have hp2 := (rPw_in (b := b) (n := n) (i := rSk b n i) (by omega) hs.2).2
      have q1 := cQ_mv h a3 a2
      rw [if_pos e, a1]
      simp only [jbnd_s, jasI_v]
      rw [if_neg (show ¬ (1 : Int) = 0 by decide)]
      obtain ⟨v1, v2⟩ := hG _ _ _ _ q1 (by omega) u0 u1
      have hg := hF (rPw b n (rSk b n i)) u (by omega) hp2
      generalize rPw b n (rSk b n i) = p at *
      generalize F p u = V at *
      rw [jw32_id (x := x + 1) (by omega) (by omega)]
      by_cases z : V.1 = 0
      · obtain ⟨m3, e1, e2, e3⟩ := v1 z
        obtain ⟨⟨g1, g2⟩, ⟨g3, g4⟩, -⟩ := hg z
        obtain ⟨m4, k1, k2, k3⟩ := c_emit (d + 2) op 0 e2 (by rw [List.length_append]; omega) (fun _ q => absurd (show op = 7 from q) (by omega))
        rw [e1]
        simp only [jbnd_s, jasI_v]
        rw [k1]
        simp only [jbnd_s]
        have zz : (gB V fun i' u' => ((0, i', u', [(op, 0)]) : gR)).1 = 0 := by rw [gB_0 z]
        rw [List.append_assoc] at k2
        have hI := ih (x + 1) V.2.1 V.2.2.1 (L ++ (V.2.2.2 ++ [(op, 0)])) m4 (by omega) (by omega) k2 (by rw [List.length_append, List.length_append, show [(op, (0 : Int))].length = 1 from rfl]; omega) (by omega) g4
        rw [gB_0 zz, gB_i z, gB_u z, gB_x z]
        exact cOut_p (puR_tr (aC_U r a3) (puR_tr e3 k3)) (cOut_x hI)
      · obtain ⟨m3, e1, e2, e3⟩ := v2 z
        obtain ⟨m4, k1, k2, k3⟩ := f_emit (d + 2) op 0 e2
        rw [e1]
        simp only [jbnd_s, jasI_v]
        rw [k1]
        simp only [jbnd_s]
        rw [gB_n (r := V) z, gB_n z]
        have hend : Lx 0 (x + 1) m4 = some (vI 0, m4) := by
          rw [hq]
          by_cases hx : 60 < x + 1
          · rw [if_pos hx]; rfl
          · rw [if_neg hx, if_pos rfl]; rfl
        rw [hend]
        exact ⟨fun q => absurd q z, fun _ => ⟨m4, rfl, k2, puR_tr (aC_U r a3) (puR_tr e3 k3)⟩⟩
    · obtain ⟨m1, a1, a2, a3⟩ := t2 e
      rw [if_neg e, a1]
      exact cOut_o (by rw [List.append_nil]; exact cQ_mv h a3 a2) (aC_U r a3)
theorem c_part (d : Nat) {b : Int → Int} {n r dp : Int} {F : Int → Int → gR} (hF : ∀ i u, 0 ≤ i → i ≤ n → gG n i u True (F i u)) (hG : ∀ i u L m, cQ b n r i u L m → (L.length : Int) ≤ i → 0 ≤ u → u ≤ 60 → cOut b n r L (F i u) m (Ru_readFact (d + 3) r dp m)) {i u : Int} {L : List (Int × Int)} {m : jMem} (h : cQ b n r i u L m) (hl : (L.length : Int) ≤ i) (hu : 0 ≤ u ∧ u ≤ 60) : cOut b n r L (gPt b n F i u) m (Ru_readPart (d + 4) r dp m) := by
  have h5 := h.1.2.2.2.2
  obtain ⟨v1, v2⟩ := hG i u L m h hl hu.1 hu.2
  have hg := hF i u h5.1 h5.2.1
  have hq : ∀ x3 x4 mem, (fun x3 x4 mem => Ru_readPart_10 (d + 3) r dp x3 x4 mem) x3 x4 mem = if 60 < x4 then jbo x3 (some (vI x3, mem)) else if x3 = 0 then jbo x3 (some (vI x3, mem)) else jbnd (Ta_tookWord (d + 3) 5 mem) fun v1 mem2 => if (jasI v1) = 0 then jbo x3 (some (vI x3, mem2)) else jbnd (Ru_readFact (d + 3) r dp mem2) fun v3 mem4 => jbnd (Ru_emit (d + 3) r 4 0 mem4) fun v5 mem6 => (fun x3 x4 mem => Ru_readPart_10 (d + 3) r dp x3 x4 mem) (jasI v3) (jw32 (x4 + 1)) mem6 := fun x3 x4 mem => q_Ru_readPart_10 (d + 3) r dp x3 x4 mem
  unfold gPt
  rw [q_Ru_readPart]
  generalize F i u = V at *
  by_cases z : V.1 = 0
  · obtain ⟨m3, e1, e2, e3⟩ := v1 z
    obtain ⟨⟨g1, g2⟩, ⟨g3, g4⟩, -⟩ := hg z
    rw [e1]
    simp only [jbnd_s, jasI_v]
    rw [gB_0 z]
    exact cOut_p e3 (cOut_x (c_lp d 5 4 [97, 110, 100] rfl (by decide) (by decide) (by decide) (Or.inl rfl) hF hG hq 61 0 V.2.1 V.2.2.1 (L ++ V.2.2.2) m3 (by decide) (by decide) e2 (by rw [List.length_append]; omega) (by omega) g4))
  · obtain ⟨m3, e1, e2, e3⟩ := v2 z
    rw [e1]
    simp only [jbnd_s, jasI_v]
    rw [gB_n z, q_Ru_readPart_10, if_neg (by decide), if_pos rfl]
    exact ⟨fun q => absurd q z, fun _ => ⟨m3, rfl, e2, e3⟩⟩
theorem c_test (d : Nat) {b : Int → Int} {n r dp : Int} {F : Int → Int → gR} (hF : ∀ i u, 0 ≤ i → i ≤ n → gG n i u True (F i u)) (hG : ∀ i u L m, cQ b n r i u L m → (L.length : Int) ≤ i → 0 ≤ u → u ≤ 60 → cOut b n r L (F i u) m (Ru_readFact (d + 3) r dp m)) {i u : Int} {L : List (Int × Int)} {m : jMem} (h : cQ b n r i u L m) (hl : (L.length : Int) ≤ i) (hu : 0 ≤ u ∧ u ≤ 60) : cOut b n r L (gTs b n F i u) m (Ru_readTest (d + 5) r dp m) := by
  have h5 := h.1.2.2.2.2
  have hF2 := gPt_g (b := b) hF
  have hG2 : ∀ i u L m, cQ b n r i u L m → (L.length : Int) ≤ i → 0 ≤ u → u ≤ 60 → cOut b n r L (gPt b n F i u) m (Ru_readPart (d + 4) r dp m) := fun i u L m h hl u0 u1 => c_part d hF hG h hl ⟨u0, u1⟩
  obtain ⟨v1, v2⟩ := hG2 i u L m h hl hu.1 hu.2
  have hg := hF2 i u h5.1 h5.2.1
  have hq : ∀ x3 x4 mem, (fun x3 x4 mem => Ru_readTest_10 (d + 4) r dp x3 x4 mem) x3 x4 mem = if 60 < x4 then jbo x3 (some (vI x3, mem)) else if x3 = 0 then jbo x3 (some (vI x3, mem)) else jbnd (Ta_tookWord (d + 1 + 3) 6 mem) fun v1 mem2 => if (jasI v1) = 0 then jbo x3 (some (vI x3, mem2)) else jbnd (Ru_readPart (d + 4) r dp mem2) fun v3 mem4 => jbnd (Ru_emit (d + 1 + 3) r 5 0 mem4) fun v5 mem6 => (fun x3 x4 mem => Ru_readTest_10 (d + 4) r dp x3 x4 mem) (jasI v3) (jw32 (x4 + 1)) mem6 := fun x3 x4 mem => q_Ru_readTest_10 (d + 4) r dp x3 x4 mem
  unfold gTs
  rw [q_Ru_readTest]
  generalize gPt b n F i u = V at *
  by_cases z : V.1 = 0
  · obtain ⟨m3, e1, e2, e3⟩ := v1 z
    obtain ⟨⟨g1, g2⟩, ⟨g3, g4⟩, -⟩ := hg z
    rw [e1]
    simp only [jbnd_s, jasI_v]
    rw [gB_0 z]
    exact cOut_p e3 (cOut_x (c_lp (d + 1) 6 5 [111, 114] rfl (by decide) (by decide) (by decide) (Or.inr rfl) hF2 hG2 hq 61 0 V.2.1 V.2.2.1 (L ++ V.2.2.2) m3 (by decide) (by decide) e2 (by rw [List.length_append]; omega) (by omega) g4))
  · obtain ⟨m3, e1, e2, e3⟩ := v2 z
    rw [e1]
    simp only [jbnd_s, jasI_v]
    rw [gB_n z, q_Ru_readTest_10, if_neg (by decide), if_pos rfl]
    exact ⟨fun q => absurd q z, fun _ => ⟨m3, rfl, e2, e3⟩⟩
theorem c_fact {b : Int → Int} {n r : Int} : ∀ (q : Nat), q ≤ 10 → ∀ (d : Nat) (i u : Int) (L : List (Int × Int)) (m : jMem), cQ b n r i u L m → (L.length : Int) ≤ i → 0 ≤ u → u ≤ 60 → cOut b n r L (gFc b n q i u) m (Ru_readFact (d + 3 * q + 6) r (10 - (q : Int)) m) := by
  intro q
  induction q with
  | zero =>
    intro _ d i u L m h hl u0 u1
    have h5 := h.1.2.2.2.2
    obtain ⟨m1, a1, a2, a3⟩ := c_skip (d + 4) h.1
    have q1 := cQ_mv h a3 a2
    have hs := rSk_in (b := b) h5.1 h5.2.1
    have hf : Ta_find (d + 5) 4 m1 = some (vI (if rW b n (rSk b n i) = [116, 111, 110] then 0 else -1), m1) := c_find (d + 3) 4 [[110, 111, 116]] a2 rfl (by decide) (by decide) (by decide)
    have ebl : (jbnd (Ta_blame (d + 5) (jrI m1 8 0 2) 2 m1) fun v17 mem18 => jbo (jasI v17) (some (vI (jasI v17), mem18))) = some (vI 0, jwI m1 8 0 3 (1 + 8 * rSk b n i + 2)) := c_blame (d + 4) 2 a2 (by decide)
    have bad : cOut b n r L (1 + 8 * rSk b n i + 2, 0, 0, []) m (some (vI 0, jwI m1 8 0 3 (1 + 8 * rSk b n i + 2))) := cOut_f (by omega) (cQ_F q1 (by omega)) (puR_w (aC_U r a3) (Or.inl ⟨rfl, rfl, Or.inr rfl⟩))
    unfold gFc
    show cOut b n r L _ m (Ru_readFact (d + 6) r 10 m)
    rw [q_Ru_readFact, a1]
    simp only [jbnd_s]
    rw [hf]
    simp only [jbnd_s, jasI_v]
    by_cases e1 : rW b n (rSk b n i) = [116, 111, 110]
    · rw [if_pos (Or.inl e1), if_pos e1, if_neg (show ¬ (0 : Int) = -1 by decide), q_Ru_readFact_19, if_neg (by decide), q_Ru_readFact_39, if_neg (by decide), ebl]
      exact bad
    · rw [if_neg e1]
      have e19 : Ru_readFact_19 (d + 5) r 10 0 m1 = if rCh b n (rSk b n i) = 91 then Ru_readFact_39 (d + 5) r 10 0 m1 else jbnd (Ru_readComparison (d + 5) r m1) fun v3 mem4 => jbo (jasI v3) (some (vI (jasI v3), mem4)) := by
        rw [q_Ru_readFact_19, if_pos rfl, c_peek (d + 4) a2]
        simp only [jbnd_s, jasI_v]
      rw [if_pos (show (-1 : Int) = -1 from rfl), e19]
      by_cases e2 : rCh b n (rSk b n i) = 91
      · rw [if_pos e2, if_pos (Or.inr e2), q_Ru_readFact_39, if_neg (by decide), ebl]
        exact bad
      · rw [if_neg e2, if_neg (fun w => w.elim e1 e2)]
        refine cOut_p (aC_U r a3) ?_
        obtain ⟨y1, y2⟩ := c_cmp d q1 (by omega) ⟨u0, u1⟩
        refine ⟨fun w => ?_, fun w => ?_⟩
        · obtain ⟨m2, p1, p2⟩ := y1 w
          rw [p1]
          exact ⟨m2, rfl, p2⟩
        · obtain ⟨m2, p1, p2⟩ := y2 w
          rw [p1]
          exact ⟨m2, rfl, p2⟩
  | succ q ih =>
    intro hq10 d i u L m h hl u0 u1
    have h5 := h.1.2.2.2.2
    have ed : d + 3 * (q + 1) + 6 = (d + 3 * q + 8) + 1 := by omega
    have ex : (10 : Int) - ((q + 1 : Nat) : Int) = 9 - (q : Int) := by omega
    rw [ed, ex]
    obtain ⟨m1, a1, a2, a3⟩ := c_skip (d + 3 * q + 7) h.1
    have q1 := cQ_mv h a3 a2
    have hs := rSk_in (b := b) h5.1 h5.2.1
    have hf : Ta_find (d + 3 * q + 8) 4 m1 = some (vI (if rW b n (rSk b n i) = [116, 111, 110] then 0 else -1), m1) := c_find (d + 3 * q + 6) 4 [[110, 111, 116]] a2 rfl (by decide) (by decide) (by decide)
    unfold gFc
    rw [q_Ru_readFact, a1]
    simp only [jbnd_s]
    rw [hf]
    simp only [jbnd_s, jasI_v]
    by_cases e1 : rW b n (rSk b n i) = [116, 111, 110]
    · have hp := rW_ne (b := b) (by omega) hs.2 (by decide) e1
      have hp2 := (rPw_in (b := b) (n := n) (i := rSk b n i) (by omega) hs.2).2
      obtain ⟨m2, b1, b2, b3⟩ := c_pass (d + 3 * q + 7) a2
      have q2 := cQ_mv q1 b3 b2
      rw [if_pos e1, if_pos e1, if_neg (show ¬ (0 : Int) = -1 by decide), q_Ru_readFact_19, if_neg (show ¬ (1 : Int) = 0 by decide), q_Ru_readFact_39, if_pos (show 9 - (q : Int) < 10 by omega), if_neg (show ¬ (1 : Int) = 0 by decide), b1]
      simp only [jbnd_s]
      obtain ⟨v1, v2⟩ := ih (by omega) (d + 2) _ _ _ _ q2 (by omega) u0 u1
      have hg := gFc_g (b := b) (n := n) q (rPw b n (rSk b n i)) u (by omega) hp2
      rw [show d + 2 + 3 * q + 6 = d + 3 * q + 8 by omega, show (10 : Int) - (q : Int) = 9 - (q : Int) + 1 by omega] at v1 v2
      rw [jw32_id (x := 9 - (q : Int) + 1) (by omega) (by omega)]
      generalize gFc b n q (rPw b n (rSk b n i)) u = V at *
      have fr2 : puR (aU r) m m2 := puR_tr (aC_U r a3) (aC_U r b3)
      by_cases z : V.1 = 0
      · obtain ⟨m3, e1, e2, e3⟩ := v1 z
        obtain ⟨⟨g1, g2⟩, ⟨g3, g4⟩, -⟩ := hg z
        obtain ⟨m4, k1, k2, k3⟩ := c_emit (d + 3 * q + 7) 3 0 e2 (by rw [List.length_append]; omega) (fun _ q => absurd (show (3 : Int) = 7 from q) (by decide))
        rw [e1]
        simp only [jbnd_s, jasI_v]
        rw [k1, gB_0 z]
        rw [List.append_assoc] at k2
        exact cOut_o k2 (puR_tr fr2 (puR_tr e3 k3))
      · obtain ⟨m3, e1, e2, e3⟩ := v2 z
        obtain ⟨m4, k1, k2, k3⟩ := f_emit (d + 3 * q + 7) 3 0 e2
        rw [e1]
        simp only [jbnd_s, jasI_v]
        rw [k1, gB_n z]
        exact ⟨fun q => absurd q z, fun _ => ⟨m4, rfl, k2, puR_tr fr2 (puR_tr e3 k3)⟩⟩
    · rw [if_neg e1, if_neg e1]
      have e19 : Ru_readFact_19 (d + 3 * q + 8) r (9 - (q : Int)) 0 m1 = if rCh b n (rSk b n i) = 91 then Ru_readFact_39 (d + 3 * q + 8) r (9 - (q : Int)) 0 m1 else jbnd (Ru_readComparison (d + 3 * q + 8) r m1) fun v3 mem4 => jbo (jasI v3) (some (vI (jasI v3), mem4)) := by
        rw [q_Ru_readFact_19, if_pos rfl, c_peek (d + 3 * q + 7) a2]
        simp only [jbnd_s, jasI_v]
      rw [if_pos (show (-1 : Int) = -1 from rfl), e19]
      by_cases e2 : rCh b n (rSk b n i) = 91
      · have hlt := rCh_lt e2 (by decide)
        obtain ⟨t1, t2⟩ := (c_took (d + 3 * q + 6) 91 a2 (by decide)).1 e2
        have q2 : cQ b n r (rSk b n i + 1) u L (jwI m1 8 0 2 (rSk b n i + 1)) := cQ_mv q1 (puR_w (puR_rf _ m1) ⟨rfl, rfl, Or.inl rfl⟩) t2
        have fr2 : puR (aU r) m (jwI m1 8 0 2 (rSk b n i + 1)) := puR_w (aC_U r a3) (Or.inl ⟨rfl, rfl, Or.inl rfl⟩)
        rw [if_pos e2, if_pos e2, q_Ru_readFact_39, if_pos (show 9 - (q : Int) < 10 by omega), if_pos rfl, t1]
        simp only [jbnd_s]
        rw [jw32_id (x := 9 - (q : Int) + 1) (by omega) (by omega)]
        have hG : ∀ i u L m, cQ b n r i u L m → (L.length : Int) ≤ i → 0 ≤ u → u ≤ 60 → cOut b n r L (gFc b n q i u) m (Ru_readFact (d + 3 * q + 3 + 3) r (9 - (q : Int) + 1) m) := fun i u L m h hl u0 u1 => by
          have := ih (by omega) d i u L m h hl u0 u1
          rw [show (10 : Int) - (q : Int) = 9 - (q : Int) + 1 by omega] at this
          exact this
        obtain ⟨v1, v2⟩ := c_test (d + 3 * q + 3) (gFc_g (b := b) (n := n) q) hG q2 (by omega) ⟨u0, u1⟩
        have hg := gTs_g (b := b) (gFc_g (b := b) (n := n) q) (rSk b n i + 1) u (by omega) (by omega)
        generalize gTs b n (gFc b n q) (rSk b n i + 1) u = V at *
        by_cases z : V.1 = 0
        · obtain ⟨m3, w1, w2, w3⟩ := v1 z
          obtain ⟨⟨g1, g2⟩, ⟨g3, g4⟩, -⟩ := hg z
          have h5' := w2.1.2.2.2.2
          have hs2 := rSk_in (b := b) h5'.1 h5'.2.1
          rw [w1]
          simp only [jbnd_s, jasI_v]
          rw [if_neg (show ¬ (1 : Int) = 0 by decide)]
          obtain ⟨m4, x1, x2, x3⟩ := c_skip (d + 3 * q + 7) w2.1
          have q4 := cQ_mv w2 x3 x2
          have fr4 : puR (aU r) m m4 := puR_tr fr2 (puR_tr w3 (aC_U r x3))
          rw [x1, gB_0 z]
          simp only [jbnd_s]
          by_cases e3 : rCh b n (rSk b n V.2.1) = 93
          · obtain ⟨y1, y2⟩ := (c_took (d + 3 * q + 6) 93 x2 (by decide)).1 e3
            rw [y1, if_pos e3]
            simp only [jbnd_s, jasI_v]
            rw [if_neg (show ¬ (1 : Int) = 0 by decide)]
            exact cOut_o (by rw [List.append_nil]; exact cQ_mv q4 (puR_w (puR_rf _ m4) ⟨rfl, rfl, Or.inl rfl⟩) y2) (puR_w fr4 (Or.inl ⟨rfl, rfl, Or.inl rfl⟩))
          · rw [c_tookN (d + 3 * q + 6) 93 x2 (by decide) e3, if_neg e3]
            simp only [jbnd_s, jasI_v]
            first | rw [if_pos rfl] | rw [if_pos trivial]
            rw [x2.2.2.1, s_Ta_blame (d + 3 * q + 7) (rSk b n V.2.1) 0 m4 x2.2.2.2.1 (by omega) (by decide)]
            simp only [jbnd_s, jasI_v]
            first | rw [if_pos rfl] | rw [if_pos trivial]
            have := cQ_F (F := 1 + 8 * rSk b n V.2.1 + 0) q4 (by rw [List.length_append]; omega)
            rw [show 1 + 8 * rSk b n V.2.1 + 0 = 1 + 8 * rSk b n V.2.1 by omega] at this ⊢
            exact cOut_f (by omega) this (puR_w fr4 (Or.inl ⟨rfl, rfl, Or.inr rfl⟩))
        · obtain ⟨m3, w1, w2, w3⟩ := v2 z
          rw [w1, gB_n z]
          simp only [jbnd_s, jasI_v]
          first | rw [if_pos rfl] | rw [if_pos trivial]
          exact ⟨fun q => absurd q z, fun _ => ⟨m3, rfl, w2, puR_tr fr2 w3⟩⟩
      · rw [if_neg e2, if_neg e2]
        refine cOut_p (aC_U r a3) ?_
        obtain ⟨y1, y2⟩ := c_cmp (d + 3 * q + 3) q1 (by omega) ⟨u0, u1⟩
        refine ⟨fun w => ?_, fun w => ?_⟩
        · obtain ⟨m2, p1, p2⟩ := y1 w
          rw [p1]
          exact ⟨m2, rfl, p2⟩
        · obtain ⟨m2, p1, p2⟩ := y2 w
          rw [p1]
          exact ⟨m2, rfl, p2⟩
