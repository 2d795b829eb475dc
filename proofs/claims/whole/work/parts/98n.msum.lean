/-! The reference reads sums and comparisons -/
theorem rb_255 : ∀ a : Nat, a < 256 → jand ((a : Int) - 128) 255 = (if a < 128 then (a : Int) + 128 else (a : Int) - 128) := by decide +kernel
theorem rCh_b {b : Int → Int} {n s x : Int} (hby : ∀ j, 0 ≤ j → j < n → -128 ≤ b j ∧ b j ≤ 127) (h0 : 0 ≤ s) (hx : 0 ≤ x ∧ x < 128) : rCh b n s = x ↔ (s < n ∧ b s = x) := by
  unfold rCh
  by_cases hs : s < n
  · rw [if_pos hs]
    have hb := hby s h0 hs
    obtain ⟨a, ha⟩ := Int.eq_ofNat_of_zero_le (show 0 ≤ b s + 128 by omega)
    have e : b s = (a : Int) - 128 := by omega
    rw [e, rb_255 a (by omega)]
    by_cases q : a < 128
    · rw [if_pos q]
      omega
    · rw [if_neg q]
      omega
  · rw [if_neg hs]
    omega
noncomputable def KT (d : Nat) (w : Int) (v : jV) (m : jMem) : jR := if jasI v = 0 then some (vI 0, m) else if w = 0 then M_sum_9 (d + 5) m else jbnd (M_puts (d + 5) (mC w) 0 m) fun _ m4 => M_sum_9 (d + 5) m4
theorem m_term9N (d : Nat) {b : Int → Int} {n r i u : Int} {L : List (Int × Int)} {m : jMem} (h : mQ b n r i u L m) (hc : ¬ (rCh b n (rSk b n i) = 42 ∨ rCh b n (rSk b n i) = 47 ∨ rCh b n (rSk b n i) = 37)) : ∃ m', M_term_9 (d + 4) m = some (vI 1, m') ∧ mQ b n r (rSk b n i) u L m' ∧ puR (aS r) m m' := by
  have h5 := h.1.2.2.2.2
  have hid := rSk_id (b := b) h5.1 h5.2.1
  obtain ⟨m1, a1, a2, a3⟩ := m_see (d + 3) h.1
  obtain ⟨m2, a4, a5, a6⟩ := m_see (d + 3) a2
  rw [hid] at a4 a5
  obtain ⟨m3, a7, a8, a9⟩ := m_see (d + 3) a5
  rw [hid] at a7 a8
  rw [q_M_term_9, a1]
  simp only [jbnd_s, jasI_v]
  rw [if_neg (show ¬ rCh b n (rSk b n i) = 42 by omega), a4]
  simp only [jbnd_s, jasI_v]
  rw [if_neg (show ¬ rCh b n (rSk b n i) = 47 by omega), a7]
  simp only [jbnd_s, jasI_v]
  rw [if_neg (show ¬ rCh b n (rSk b n i) = 37 by omega)]
  exact ⟨m3, rfl, mQ_mv (mQ_mv (mQ_mv h a3 a2) a6 a5) a9 a8, puR_tr (aM_S r a3) (puR_tr (aM_S r a6) (aM_S r a9))⟩
theorem m_term9Y (d : Nat) (c : Int) {b : Int → Int} {n r i u : Int} {L : List (Int × Int)} {m : jMem} (hby : ∀ j, 0 ≤ j → j < n → -128 ≤ b j ∧ b j ≤ 127) (h : mQ b n r i u L m) (hc : c = 42 ∨ c = 47 ∨ c = 37) (hcs : rCh b n (rSk b n i) = c) : ∃ m', M_term_9 (d + 4) m = M_term_74 (d + 4) (mC c) m' ∧ mQ b n r (rSk b n i) u L m' ∧ puR (aS r) m m' := by
  have h5 := h.1.2.2.2.2
  have hid := rSk_id (b := b) h5.1 h5.2.1
  have hs := rSk_in (b := b) h5.1 h5.2.1
  obtain ⟨m1, a1, a2, a3⟩ := m_see (d + 3) h.1
  obtain ⟨m2, a4, a5, a6⟩ := m_see (d + 3) a2
  rw [hid] at a4 a5
  obtain ⟨m3, a7, a8, a9⟩ := m_see (d + 3) a5
  rw [hid] at a7 a8
  have hb := (rCh_b (s := rSk b n i) hby (by omega) (show 0 ≤ c ∧ c < 128 by omega)).mp hcs
  have e36 : ∀ mm, rM b n (rSk b n i) mm → M_term_36 (d + 4) mm = M_term_74 (d + 4) (mC c) mm := by
    intro mm hm
    rw [q_M_term_36, hm.2.2.1, jix_in (by omega) (by omega), hm.1 _ (by omega) hb.1, hb.2]
    rcases hc with rfl | rfl | rfl
    · rw [if_pos rfl]; rfl
    · rw [if_neg (by decide), jix_in (by omega) (by omega), if_pos rfl]; rfl
    · rw [if_neg (by decide), jix_in (by omega) (by omega), if_neg (by decide)]; rfl
  rw [q_M_term_9, a1]
  simp only [jbnd_s, jasI_v]
  rw [hcs]
  by_cases c42 : c = 42
  · rw [if_pos c42, e36 m1 a2]
    exact ⟨m1, rfl, mQ_mv h a3 a2, aM_S r a3⟩
  rw [if_neg c42, a4]
  simp only [jbnd_s, jasI_v]
  rw [hcs]
  by_cases c47 : c = 47
  · rw [if_pos c47, e36 m2 a5]
    exact ⟨m2, rfl, mQ_mv (mQ_mv h a3 a2) a6 a5, puR_tr (aM_S r a3) (aM_S r a6)⟩
  rw [if_neg c47, a7]
  simp only [jbnd_s, jasI_v]
  rw [hcs, if_pos (by omega), e36 m3 a8]
  exact ⟨m3, rfl, mQ_mv (mQ_mv (mQ_mv h a3 a2) a6 a5) a9 a8, puR_tr (aM_S r a3) (puR_tr (aM_S r a6) (aM_S r a9))⟩
theorem ite15 {p : Prop} [Decidable p] {a c : Int} (h1 : 0 ≤ a ∧ a ≤ 15) (h2 : 0 ≤ c ∧ c ≤ 15) : 0 ≤ (if p then a else c) ∧ (if p then a else c) ≤ 15 := by
  by_cases h : p
  · rw [if_pos h]; exact h1
  · rw [if_neg h]; exact h2
theorem mC_in (w : Int) : 0 ≤ mC w ∧ mC w ≤ 15 := by
  unfold mC
  exact (ite15 (by decide) (ite15 (by decide) (ite15 (by decide) (ite15 (by decide) (ite15 (by decide) (ite15 (by decide) (ite15 (by decide) (ite15 (by decide) (ite15 (by decide) (ite15 (by decide) (ite15 (by decide) (ite15 (by decide) (ite15 (by decide) (ite15 (by decide) (ite15 (by decide) (by decide))))))))))))))))
/-- behind a term: the sign that waits is laid down, and the sum goes on -/
theorem m_kt (d : Nat) {b : Int → Int} {n r i u w : Int} {L : List (Int × Int)} {m : jMem} (h : mQ b n r i u L m) (hl : (L.length : Int) + gwn w ≤ i) : ∃ m', KT d w (vI 1) m = M_sum_9 (d + 5) m' ∧ mQ b n r i u (L ++ gW w) m' ∧ puR (aS r) m m' := by
  have h5 := h.1.2.2.2.2
  unfold KT gW
  unfold gwn at hl
  rw [jasI_v, if_neg (show ¬ (1 : Int) = 0 by decide)]
  by_cases w0 : w = 0
  · rw [if_pos w0, if_pos w0, List.append_nil]
    exact ⟨m, rfl, h, puR_rf _ m⟩
  · rw [if_neg w0] at hl
    rw [if_neg w0, if_neg w0]
    obtain ⟨m1, a1, a2, a3⟩ := m_puts (d + 4) (mC w) 0 (x := (w, 0)) h (by omega) rfl (mC_in w) (by decide)
    rw [a1]
    exact ⟨m1, rfl, a2, a3⟩
theorem m_sl (d : Nat) {b : Int → Int} {n r : Int} (hby : ∀ j, 0 ≤ j → j < n → -128 ≤ b j ∧ b j ≤ 127) : ∀ (k : Nat) (w i u : Int) (L : List (Int × Int)) (m : jMem), 62 ≤ (k : Int) + u → mQ b n r i u L m → (L.length : Int) + gwn w ≤ i → 0 ≤ u → u ≤ 60 → mO b n r L (gSl b n k w i u) m (jbnd (M_term_9 (d + 4) m) (KT d w)) := by
  intro k
  induction k with
  | zero => intro w i u L m hk; omega
  | succ k ih =>
    intro w i u L m hk h hl u0 u1
    have h5 := h.1.2.2.2.2
    have hs := rSk_in (b := b) h5.1 h5.2.1
    have hid := rSk_id (b := b) h5.1 h5.2.1
    have hgw : 0 ≤ gwn w := by
      unfold gwn
      split <;> decide
    unfold gSl
    by_cases c1 : rCh b n (rSk b n i) = 42 ∨ rCh b n (rSk b n i) = 47 ∨ rCh b n (rSk b n i) = 37
    · rw [if_pos c1]
      obtain ⟨m1, a1, a2, a3⟩ := m_term9Y d (rCh b n (rSk b n i)) hby h c1 rfl
      have hlt : rSk b n i < n := by
        rcases c1 with c | c | c
        · exact rCh_lt c (by decide)
        · exact rCh_lt c (by decide)
        · exact rCh_lt c (by decide)
      generalize rCh b n (rSk b n i) = c at *
      generalize rSk b n i = s at *
      have hm2 : rM b n (s + 1) (jwI m1 11 0 8 (s + 1)) := rM_to a2.1 (by omega) (by omega)
      have q2 : mQ b n r (s + 1) u L (jwI m1 11 0 8 (s + 1)) := mQ_mv a2 (puR_w (puR_rf _ m1) ⟨rfl, rfl, Or.inl rfl⟩) hm2
      have fr2 : puR (aS r) m (jwI m1 11 0 8 (s + 1)) := puR_w a3 ⟨rfl, Or.inl ⟨rfl, Or.inl rfl⟩⟩
      obtain ⟨v1, v2⟩ := m_val d q2 (by omega) ⟨u0, u1⟩
      have hg := gVal_g (b := b) (n := n) (i := s + 1) (u := u) (by omega) (by omega)
      rw [a1, q_M_term_74, a2.1.2.2.1, jw32_id (x := s + 1) (by omega) (by omega)]
      generalize gVal b n (s + 1) u = V at *
      by_cases z : V.1 = 0
      · obtain ⟨m3, e1, e2, e3⟩ := v1 z
        obtain ⟨⟨g1, g2⟩, ⟨g3, g4⟩, -⟩ := hg z
        obtain ⟨m4, k1, k2, k3⟩ := m_puts (d + 3) (mC c) 0 (x := (c, 0)) e2 (by rw [List.length_append]; omega) rfl (mC_in c) (by decide)
        rw [e1]
        simp only [jbnd_s, jasI_v]
        rw [if_neg (show ¬ (1 : Int) = 0 by decide), k1]
        simp only [jbnd_s]
        have zz : (gB V fun i' u' => ((0, i', u', [(c, 0)]) : gR)).1 = 0 := by rw [gB_0 z]
        rw [List.append_assoc] at k2
        have hI := ih w V.2.1 V.2.2.1 (L ++ (V.2.2.2 ++ [(c, 0)])) m4 (by omega) k2 (by rw [List.length_append, List.length_append, show [(c, (0 : Int))].length = 1 from rfl]; omega) (by omega) g4
        rw [gB_0 zz, gB_i z, gB_u z, gB_x z]
        exact mO_p (puR_tr fr2 (puR_tr e3 k3)) (mO_x hI)
      · obtain ⟨m3, e1, e2, e3⟩ := v2 z
        rw [e1]
        simp only [jbnd_s, jasI_v]
        first | rw [if_pos (show (0 : Int) = 0 from rfl)] | rw [if_pos trivial]
        rw [gB_n (r := V) z, gB_n z]
        refine ⟨fun q => absurd q z, fun _ => ⟨m3, ?_, e2, puR_tr fr2 e3⟩⟩
        show KT d w (vI 0) m3 = _
        unfold KT
        rw [jasI_v, if_pos rfl]
    rw [if_neg c1]
    obtain ⟨m1, a1, a2, a3⟩ := m_term9N d h c1
    obtain ⟨m2, b1, b2, b3⟩ := m_kt d (w := w) a2 (by omega)
    have e0 : jbnd (M_term_9 (d + 4) m) (KT d w) = M_sum_9 (d + 5) m2 := by
      rw [a1]
      simp only [jbnd_s]
      exact b1
    rw [e0]
    have fr2 : puR (aS r) m m2 := puR_tr a3 b3
    obtain ⟨m3, x1, x2, x3⟩ := m_see (d + 4) b2.1
    rw [hid] at x1 x2
    have q3 := mQ_mv b2 x3 x2
    have hgl := gW_l w
    by_cases c2 : rCh b n (rSk b n i) = 43 ∨ rCh b n (rSk b n i) = 45
    · rw [if_pos c2]
      have hlt : rSk b n i < n := by
        rcases c2 with c | c
        · exact rCh_lt c (by decide)
        · exact rCh_lt c (by decide)
      have e9 : ∃ m4, M_sum_9 (d + 5) m2 = M_sum_46 (d + 5) (mC (rCh b n (rSk b n i))) m4 ∧ mQ b n r (rSk b n i) u (L ++ gW w) m4 ∧ puR (aS r) m m4 := by
        rw [q_M_sum_9, x1]
        simp only [jbnd_s, jasI_v]
        by_cases c43 : rCh b n (rSk b n i) = 43
        · have hb := (rCh_b (s := rSk b n i) hby (by omega) (show (0 : Int) ≤ 43 ∧ (43 : Int) < 128 by decide)).mp c43
          rw [if_pos c43, q_M_sum_27, x2.2.2.1, jix_in (by omega) (by omega), x2.1 _ (by omega) hb.1, hb.2, if_pos rfl, c43]
          exact ⟨m3, rfl, q3, puR_tr fr2 (aM_S r x3)⟩
        · obtain ⟨m4, y1, y2, y3⟩ := m_see (d + 4) x2
          rw [hid] at y1 y2
          have c45 : rCh b n (rSk b n i) = 45 := by omega
          have hb := (rCh_b (s := rSk b n i) hby (by omega) (show (0 : Int) ≤ 45 ∧ (45 : Int) < 128 by decide)).mp c45
          rw [if_neg c43, y1]
          simp only [jbnd_s, jasI_v]
          rw [if_pos c45, q_M_sum_27, y2.2.2.1, jix_in (by omega) (by omega), y2.1 _ (by omega) hb.1, hb.2, if_neg (by decide), c45]
          exact ⟨m4, rfl, mQ_mv q3 y3 y2, puR_tr fr2 (puR_tr (aM_S r x3) (aM_S r y3))⟩
      obtain ⟨m4, y1, y2, y3⟩ := e9
      rw [y1, q_M_sum_46, y2.1.2.2.1, gB_0 rfl]
      generalize rCh b n (rSk b n i) = c at *
      generalize rSk b n i = s at *
      rw [jw32_id (x := s + 1) (by omega) (by omega)]
      have hm2 : rM b n (s + 1) (jwI m4 11 0 8 (s + 1)) := rM_to y2.1 (by omega) (by omega)
      have q4 : mQ b n r (s + 1) u (L ++ gW w) (jwI m4 11 0 8 (s + 1)) := mQ_mv y2 (puR_w (puR_rf _ m4) ⟨rfl, rfl, Or.inl rfl⟩) hm2
      have fr4 : puR (aS r) m (jwI m4 11 0 8 (s + 1)) := puR_w y3 ⟨rfl, Or.inl ⟨rfl, Or.inl rfl⟩⟩
      have eK : (fun v1 mem2 => if (jasI v1) = 0 then some (vI 0, mem2) else jbnd (M_puts (d + 5) (mC c) 0 mem2) fun v3 mem4 => M_sum_9 (d + 5) mem4) = KT d c := by
        funext v1 mem2
        unfold KT
        by_cases q : jasI v1 = 0
        · rw [if_pos q, if_pos q]
        · rw [if_neg q, if_neg q, if_neg (show ¬ c = 0 by omega)]
      rw [eK]
      obtain ⟨v1, v2⟩ := m_val d q4 (by rw [List.length_append]; omega) ⟨u0, u1⟩
      have hg := gVal_g (b := b) (n := n) (i := s + 1) (u := u) (by omega) (by omega)
      show mO b n r L ((gB (gVal b n (s + 1) u) fun i'' u'' => gSl b n k c i'' u'').1, (gB (gVal b n (s + 1) u) fun i'' u'' => gSl b n k c i'' u'').2.1, (gB (gVal b n (s + 1) u) fun i'' u'' => gSl b n k c i'' u'').2.2.1, gW w ++ (gB (gVal b n (s + 1) u) fun i'' u'' => gSl b n k c i'' u'').2.2.2) m _
      refine mO_p fr4 (mO_x ?_)
      rw [q_M_term]
      generalize gVal b n (s + 1) u = V at *
      by_cases z : V.1 = 0
      · obtain ⟨m5, e1, e2, e3⟩ := v1 z
        obtain ⟨⟨g1, g2⟩, ⟨g3, g4⟩, -⟩ := hg z
        have hgc : gwn c = 1 := if_neg (by omega)
        rw [e1, gB_0 z]
        simp only [jbnd_s, jasI_v]
        rw [if_neg (show ¬ (1 : Int) = 0 by decide)]
        exact mO_p e3 (mO_x (ih c V.2.1 V.2.2.1 (L ++ gW w ++ V.2.2.2) m5 (by omega) e2 (by rw [List.length_append, List.length_append, hgc]; omega) (by omega) g4))
      · obtain ⟨m5, e1, e2, e3⟩ := v2 z
        rw [e1, gB_n z]
        simp only [jbnd_s, jasI_v]
        first | rw [if_pos (show (0 : Int) = 0 from rfl)] | rw [if_pos trivial]
        refine ⟨fun q => absurd q z, fun _ => ⟨m5, ?_, e2, e3⟩⟩
        show KT d c (vI 0) m5 = _
        unfold KT
        rw [jasI_v, if_pos rfl]
    · rw [if_neg c2, q_M_sum_9, x1]
      simp only [jbnd_s, jasI_v]
      obtain ⟨m4, y1, y2, y3⟩ := m_see (d + 4) x2
      rw [hid] at y1 y2
      rw [if_neg (show ¬ rCh b n (rSk b n i) = 43 by omega), y1]
      simp only [jbnd_s, jasI_v]
      rw [if_neg (show ¬ rCh b n (rSk b n i) = 45 by omega)]
      exact mO_o (mQ_mv q3 y3 y2) (puR_tr fr2 (puR_tr (aM_S r x3) (aM_S r y3)))
theorem m_sum (d : Nat) {b : Int → Int} {n r i u : Int} {L : List (Int × Int)} {m : jMem} (hby : ∀ j, 0 ≤ j → j < n → -128 ≤ b j ∧ b j ≤ 127) (h : mQ b n r i u L m) (hl : (L.length : Int) ≤ i) (hu : 0 ≤ u ∧ u ≤ 60) : mO b n r L (gSum b n i u) m (M_sum (d + 6) m) := by
  have h5 := h.1.2.2.2.2
  obtain ⟨v1, v2⟩ := m_val d h hl hu
  have hg := gVal_g (b := b) (n := n) (i := i) (u := u) h5.1 h5.2.1
  have eK : (fun v1 mem2 => if (jasI v1) = 0 then some (vI 0, mem2) else M_sum_9 (d + 5) mem2) = KT d 0 := by
    funext v1 mem2
    unfold KT
    by_cases q : jasI v1 = 0
    · rw [if_pos q, if_pos q]
    · rw [if_neg q, if_neg q, if_pos rfl]
  unfold gSum
  rw [q_M_sum, eK, q_M_term]
  generalize gVal b n i u = V at *
  by_cases z : V.1 = 0
  · obtain ⟨m3, e1, e2, e3⟩ := v1 z
    obtain ⟨⟨g1, g2⟩, ⟨g3, g4⟩, -⟩ := hg z
    rw [e1, gB_0 z]
    simp only [jbnd_s, jasI_v]
    rw [if_neg (show ¬ (1 : Int) = 0 by decide)]
    exact mO_p e3 (mO_x (m_sl d hby 61 0 V.2.1 V.2.2.1 (L ++ V.2.2.2) m3 (by omega) e2 (by rw [List.length_append, show gwn 0 = 0 from rfl]; omega) (by omega) g4))
  · obtain ⟨m3, e1, e2, e3⟩ := v2 z
    rw [e1, gB_n z]
    simp only [jbnd_s, jasI_v]
    first | rw [if_pos (show (0 : Int) = 0 from rfl)] | rw [if_pos trivial]
    refine ⟨fun q => absurd q z, fun _ => ⟨m3, ?_, e2, e3⟩⟩
    show KT d 0 (vI 0) m3 = _
    unfold KT
    rw [jasI_v, if_pos rfl]
theorem m_cmp (d : Nat) {b : Int → Int} {n r i u : Int} {L : List (Int × Int)} {m : jMem} (hby : ∀ j, 0 ≤ j → j < n → -128 ≤ b j ∧ b j ≤ 127) (h : mQ b n r i u L m) (hl : (L.length : Int) ≤ i) (hu : 0 ≤ u ∧ u ≤ 60) : mO b n r L (gCmp b n i u) m (M_compare (d + 7) m) := by
  have h5 := h.1.2.2.2.2
  obtain ⟨v1, v2⟩ := m_sum d hby h hl hu
  have hg := gSum_g (b := b) (n := n) (i := i) (u := u) h5.1 h5.2.1
  unfold gCmp
  rw [q_M_compare]
  generalize gSum b n i u = V at *
  by_cases z : V.1 = 0
  · obtain ⟨m1, e1, e2, e3⟩ := v1 z
    obtain ⟨⟨g1, g2⟩, ⟨g3, g4⟩, -⟩ := hg z
    have h5' := e2.1.2.2.2.2
    rw [gB_0 z]
    refine mO_p e3 (mO_x ?_)
    rw [e1]
    simp only [jbnd_s, jasI_v]
    rw [if_neg (show ¬ (1 : Int) = 0 by decide)]
    obtain ⟨m2, a1, a2, a3⟩ := m_see (d + 5) e2.1
    have hs := rSk_in (b := b) h5'.1 h5'.2.1
    have q2 := mQ_mv e2 a3 a2
    rw [a1]
    simp only [jbnd_s, jasI_v]
    rw [a2.2.2.1]
    generalize rSk b n V.2.1 = s at *
    have hL : ((L ++ V.2.2.2).length : Int) ≤ V.2.1 := by rw [List.length_append]; omega
    generalize L ++ V.2.2.2 = L1 at *
    -- behind the sign
    have fin : ∀ (p s0 : Int) (mm : jMem), gSe b n s = p → gSg b n s ≠ -1 → mC (gSg b n s) = 6 + s0 → (0 ≤ s0 ∧ s0 ≤ 4) → mQ b n r p V.2.2.1 L1 mm → puR (aS r) m1 mm → mO b n r L1 (if gSg b n s = -1 then (1 + 8 * s, 0, 0, []) else if V.2.2.1 < 60 then gB (gSum b n (gSe b n s) (V.2.2.1 + 1)) fun i'' u'' => (0, i'', u'', [(gSg b n s, 0)]) else (1 + 8 * s + 3, 0, 0, [])) m1 (jbnd (M_makes (d + 6) s mm) fun v1 mem2 => if (jasI v1) = 0 then some (vI 0, mem2) else M_compare_152 (d + 6) s0 mem2) := by
      intro p s0 mm hp sg hmc hs0 hq hfr
      obtain ⟨s1, s2, s3, s4⟩ := gSg_in sg
      rw [if_neg sg, hp]
      obtain ⟨k1, k2⟩ := m_makes (d + 4) s hq (by omega) ⟨by omega, g4⟩
      by_cases hu6 : V.2.2.1 < 60
      · obtain ⟨m4, j1, j2, j3, j4⟩ := k1 hu6
        rw [if_pos hu6, j1]
        simp only [jbnd_s, jasI_v]
        rw [if_neg (show ¬ (1 : Int) = 0 by decide), q_M_compare_152]
        obtain ⟨w1, w2⟩ := m_sum d hby j2 (by omega) ⟨by omega, by omega⟩
        have hg2 := gSum_g (b := b) (n := n) (i := p) (u := V.2.2.1 + 1) (by omega) (by omega)
        generalize gSum b n p (V.2.2.1 + 1) = Y at *
        by_cases z2 : Y.1 = 0
        · obtain ⟨m5, p1, p2, p3⟩ := w1 z2
          obtain ⟨⟨y1, y2⟩, ⟨y3, y4⟩, -⟩ := hg2 z2
          rw [gB_0 z2, p1]
          simp only [jbnd_s, jasI_v]
          rw [if_neg (show ¬ (1 : Int) = 0 by decide), jw32_id (x := 6 + s0) (by omega) (by omega)]
          obtain ⟨m6, x1, x2, x3⟩ := m_puts (d + 5) (6 + s0) 0 (x := (gSg b n s, 0)) p2 (by rw [List.length_append]; omega) (by rw [← hmc]; rfl) (by omega) (by decide)
          rw [x1]
          rw [List.append_assoc] at x2
          exact mO_o x2 (puR_tr hfr (puR_tr j3 (puR_tr p3 x3)))
        · obtain ⟨m5, p1, p2, p3⟩ := w2 z2
          rw [gB_n z2, p1]
          simp only [jbnd_s, jasI_v]
          first | rw [if_pos (show (0 : Int) = 0 from rfl)] | rw [if_pos trivial]
          exact ⟨fun q => absurd q z2, fun _ => ⟨m5, rfl, p2, puR_tr hfr (puR_tr j3 p3)⟩⟩
      · obtain ⟨m4, j1, j2, j3⟩ := k2 hu6
        rw [if_neg hu6, j1]
        simp only [jbnd_s, jasI_v]
        first | rw [if_pos (show (0 : Int) = 0 from rfl)] | rw [if_pos trivial]
        exact mO_f (by omega) j2 (puR_tr hfr j3)
    have step : s < n → rM b n (s + 1) (jwI m2 11 0 8 (s + 1)) ∧ mQ b n r (s + 1) V.2.2.1 L1 (jwI m2 11 0 8 (s + 1)) ∧ puR (aS r) m1 (jwI m2 11 0 8 (s + 1)) := fun hlt => by
      have hm := rM_to a2 (show 0 ≤ s + 1 by omega) (show s + 1 ≤ n by omega)
      exact ⟨hm, mQ_mv q2 (puR_w (puR_rf _ m2) ⟨rfl, rfl, Or.inl rfl⟩) hm, puR_w (aM_S r a3) ⟨rfl, Or.inl ⟨rfl, Or.inl rfl⟩⟩⟩
    -- < or > and what stands behind it
    have two : ∀ (x : Int), (x = 60 ∨ x = 62) → rCh b n s = x → mO b n r L1 (if gSg b n s = -1 then (1 + 8 * s, 0, 0, []) else if V.2.2.1 < 60 then gB (gSum b n (gSe b n s) (V.2.2.1 + 1)) fun i'' u'' => (0, i'', u'', [(gSg b n s, 0)]) else (1 + 8 * s + 3, 0, 0, [])) m1 (M_compare_44 (d + 6) x s m2) := by
      intro x hx hcs
      have hlt := rCh_lt hcs (by omega)
      obtain ⟨st1, st2, st3⟩ := step hlt
      rw [q_M_compare_44, if_neg (show ¬ x = 61 by omega), a2.2.2.1, jw32_id (x := s + 1) (by omega) (by omega), a2.2.1]
      by_cases al : rCh b n (s + 1) = 61
      · have hb := (rCh_b (s := s + 1) hby (by omega) (show (0 : Int) ≤ 61 ∧ (61 : Int) < 128 by decide)).mp al
        have hm3 := rM_to st1 (show 0 ≤ s + 1 + 1 by omega) (show s + 1 + 1 ≤ n by omega)
        rw [if_pos hb.1, jix_in (by omega) (by omega), a2.1 _ (by omega) hb.1, hb.2, if_pos rfl, q_M_compare_90, if_neg (show ¬ (1 : Int) = 0 by decide), st1.2.2.1, jw32_id (x := s + 1 + 1) (by omega) (by omega), q_M_compare_105]
        have q3 : mQ b n r (s + 1 + 1) V.2.2.1 L1 (jwI (jwI m2 11 0 8 (s + 1)) 11 0 8 (s + 1 + 1)) := mQ_mv st2 (puR_w (puR_rf _ _) ⟨rfl, rfl, Or.inl rfl⟩) hm3
        have fr3 : puR (aS r) m1 (jwI (jwI m2 11 0 8 (s + 1)) 11 0 8 (s + 1 + 1)) := puR_w st3 ⟨rfl, Or.inl ⟨rfl, Or.inl rfl⟩⟩
        rcases hx with rfl | rfl
        · have eg : gSg b n s = 1 := by
            unfold gSg
            rw [if_neg (by omega), if_pos hcs, if_pos al]
          refine fin (s + 1 + 1) 1 _ (by unfold gSe; rw [eg, if_pos (by decide)]; omega) (by rw [eg]; decide) (by rw [eg]; rfl) (by decide) q3 fr3
        · have eg : gSg b n s = 2 := by
            unfold gSg
            rw [if_neg (by omega), if_neg (by omega), if_pos hcs, if_pos al]
          refine fin (s + 1 + 1) 3 _ (by unfold gSe; rw [eg, if_pos (by decide)]; omega) (by rw [eg]; decide) (by rw [eg]; rfl) (by decide) q3 fr3
      · have e44 : (if s + 1 < n then jix 400 (s + 1) (if jrI m2 46 0 (s + 1) = 61 then M_compare_90 (d + 6) x s 1 (jwI m2 11 0 8 (s + 1)) else M_compare_90 (d + 6) x s 0 (jwI m2 11 0 8 (s + 1))) else M_compare_90 (d + 6) x s 0 (jwI m2 11 0 8 (s + 1))) = M_compare_90 (d + 6) x s 0 (jwI m2 11 0 8 (s + 1)) := by
          by_cases h1 : s + 1 < n
          · have hne : ¬ b (s + 1) = 61 := fun w => al ((rCh_b (s := s + 1) hby (by omega) (show (0 : Int) ≤ 61 ∧ (61 : Int) < 128 by decide)).mpr ⟨h1, w⟩)
            rw [if_pos h1, jix_in (by omega) (by omega), a2.1 _ (by omega) h1, if_neg hne]
          · rw [if_neg h1]
        rw [e44, q_M_compare_90, if_pos rfl, q_M_compare_105]
        rcases hx with rfl | rfl
        · have eg : gSg b n s = 60 := by
            unfold gSg
            rw [if_neg (by omega), if_pos hcs, if_neg al]
          refine fin (s + 1) 0 _ (by unfold gSe; rw [eg, if_neg (by decide)]) (by rw [eg]; decide) (by rw [eg]; rfl) (by decide) st2 st3
        · have eg : gSg b n s = 62 := by
            unfold gSg
            rw [if_neg (by omega), if_neg (by omega), if_pos hcs, if_neg al]
          refine fin (s + 1) 4 _ (by unfold gSe; rw [eg, if_neg (by decide)]) (by rw [eg]; decide) (by rw [eg]; rfl) (by decide) st2 st3
    by_cases c60 : rCh b n s = 60
    · rw [if_pos c60, c60]
      exact two 60 (Or.inl rfl) c60
    rw [if_neg c60]
    by_cases c61 : rCh b n s = 61
    · have hlt := rCh_lt c61 (by decide)
      obtain ⟨st1, st2, st3⟩ := step hlt
      have eg : gSg b n s = 61 := by
        unfold gSg
        rw [if_pos c61]
      rw [if_pos c61, c61, q_M_compare_44, if_pos rfl, a2.2.2.1, jw32_id (x := s + 1) (by omega) (by omega), q_M_compare_90, if_pos rfl, q_M_compare_105]
      exact fin (s + 1) 2 _ (by unfold gSe; rw [eg, if_neg (by decide)]) (by rw [eg]; decide) (by rw [eg]; rfl) (by decide) st2 st3
    rw [if_neg c61]
    by_cases c62 : rCh b n s = 62
    · rw [if_pos c62, c62]
      exact two 62 (Or.inr rfl) c62
    have eg : gSg b n s = -1 := by
      unfold gSg
      rw [if_neg c61, if_neg c60, if_neg c62]
    rw [if_neg c62, if_pos eg, s_M_fails (d + 5) s 0 m2 a2.2.2.2.1 (by omega) (by decide)]
    simp only [jbnd_s, jasI_v]
    exact mO_f (by omega) (by rw [jrI_ws]; omega) (puR_w (aM_S r a3) ⟨rfl, Or.inl ⟨rfl, Or.inr (Or.inl rfl)⟩⟩)
  · obtain ⟨m3, e1, e2, e3⟩ := v2 z
    rw [gB_n z, e1]
    simp only [jbnd_s, jasI_v]
    first | rw [if_pos (show (0 : Int) = 0 from rfl)] | rw [if_pos trivial]
    exact ⟨fun q => absurd q z, fun _ => ⟨m3, rfl, e2, e3⟩⟩
