/-! The reference reads a rule, clause by clause -/
theorem gRl_g {b : Int → Int} {n : Int} : ∀ (k : Nat) (c i u : Int), (k : Int) + c = 13 → 1 ≤ k → 0 ≤ i → i ≤ n → 0 ≤ u → u ≤ 60 → (gRl b n k c i u).1 = 0 → (∀ cl ∈ (gRl b n k c i u).2, gdC cl) ∧ ((gRl b n k c i u).2.length : Int) + c ≤ 12 := by
  intro k
  induction k with
  | zero => intro c i u _ h; omega
  | succ k ih =>
    intro c i u hk _ i0 i1 u0 u1 hz
    have hs := rSk_in (b := b) i0 i1
    unfold gRl at hz ⊢
    by_cases e1 : rW b n (rSk b n i) ≠ [111, 103]
    · rw [if_pos e1] at hz
      exact absurd (show 1 + 8 * rSk b n i = 0 from hz) (by omega)
    rw [if_neg e1] at hz ⊢
    by_cases c12 : c = 12
    · rw [if_pos c12] at hz
      exact absurd (show 1 + 8 * rSk b n i + 4 = 0 from hz) (by omega)
    rw [if_neg c12, gOne_eq] at hz ⊢
    have hp2 := rPw_in (b := b) (n := n) (i := rSk b n i) (by omega) hs.2
    have hg := gO_g (b := b) (n := n) (p := rPw b n (rSk b n i)) (u := u) (by omega) hp2.2 ⟨u0, u1⟩
    generalize gO b n (rPw b n (rSk b n i)) u = O at *
    by_cases z : O.1 ≠ 0
    · rw [if_pos z] at hz
      exact absurd hz z
    rw [if_neg z] at hz ⊢
    obtain ⟨⟨g1, g2⟩, ⟨g3, g4⟩, g5⟩ := hg (Decidable.of_not_not z)
    have hs2 := rSk_in (b := b) (n := n) (i := O.2.1) (by omega) g1
    unfold gEn at hz ⊢
    by_cases ov : rCh b n (rSk b n O.2.1) = -1
    · rw [if_pos ov]
      refine ⟨fun cl hcl => ?_, ?_⟩
      · rw [List.mem_singleton.mp hcl]
        exact g5
      · show ((1 : Nat) : Int) + c ≤ 12
        omega
    rw [if_neg ov] at hz ⊢
    by_cases se : rCh b n (rSk b n O.2.1) = 59
    · have hlt := rCh_lt se (by decide)
      rw [if_pos se] at hz ⊢
      obtain ⟨y1, y2⟩ := ih (c + 1) (rSk b n O.2.1 + 1) O.2.2.1 (by omega) (by omega) (by omega) (by omega) g3 g4 hz
      refine ⟨fun cl hcl => ?_, ?_⟩
      · rcases List.mem_cons.mp hcl with q | q
        · rw [q]; exact g5
        · exact y1 cl q
      · show ((((gRl b n k (c + 1) (rSk b n O.2.1 + 1) O.2.2.1).2.length + 1 : Nat)) : Int) + c ≤ 12
        omega
    · rw [if_neg se] at hz
      exact absurd (show 1 + 8 * rSk b n O.2.1 = 0 from hz) (by omega)
theorem onK_cons (f : Int → Int) (cl : gC) (K : List gC) (c p : Int) : onK f (cl :: K) c p ↔ (onK f [cl] c p ∧ onK f K (c + 1) (p + ((tokC cl).length : Int))) := by
  cases cl with
  | mk A B =>
    cases B with
    | none => exact ⟨fun h => ⟨⟨h.1, trivial⟩, h.2⟩, fun h => ⟨h.1.1, h.2⟩⟩
    | some B =>
      have e : p + ((tokC (A, some B)).length : Int) = p + (A.length : Int) + (B.length : Int) := by
        show p + ((A ++ B).length : Int) = _
        rw [List.length_append]
        omega
      rw [e]
      exact ⟨fun h => ⟨⟨h.1, trivial⟩, h.2⟩, fun h => ⟨h.1.1, h.2⟩⟩
theorem onK_fr {f f' : Int → Int} (cl : gC) (c p : Int) (h : ∀ j, 4 * c ≤ j → j < 4 * c + 4 → f' j = f j) (hk : onK f [cl] c p) : onK f' [cl] c p := by
  cases cl with
  | mk A B =>
    cases B with
    | none =>
      obtain ⟨⟨a1, a2, a3⟩, -⟩ := hk
      exact ⟨⟨by rw [h _ (by omega) (by omega)]; exact a1, by rw [h _ (by omega) (by omega)]; exact a2, by rw [h _ (by omega) (by omega)]; exact a3⟩, trivial⟩
    | some B =>
      obtain ⟨⟨a1, a2, a3, a4⟩, -⟩ := hk
      exact ⟨⟨by rw [h _ (by omega) (by omega)]; exact a1, by rw [h _ (by omega) (by omega)]; exact a2, by rw [h _ (by omega) (by omega)]; exact a3, by rw [h _ (by omega) (by omega)]; exact a4⟩, trivial⟩
def aZr (r c : Int) (f : Nat) (i k : Int) : Prop := aZ0 r c f i k ∨ (f = 11 ∧ i = 0 ∧ (k = 1 ∨ k = 14))
theorem a0_Z (r c : Int) {m m' : jMem} (h : puR (aZ0 r c) m m') : puR (aZr r c) m m' := puR_mono h (fun f i k w => Or.inl w)
theorem aM_Z (r c : Int) {m m' : jMem} (h : puR aM m m') : puR (aZr r c) m m' := a0_Z r c (aM_0 r c h)
theorem m_rl (d : Nat) {b : Int → Int} {n r : Int} (hby : ∀ j, 0 ≤ j → j < n → -128 ≤ b j ∧ b j ≤ 127) : ∀ (k : Nat) (c i u : Int) (L : List (Int × Int)) (m : jMem), (k : Int) + c = 13 → 0 ≤ c → 1 ≤ k → mQ b n r i u L m → (L.length : Int) ≤ i → 0 ≤ u → u ≤ 60 → jrI m 50 0 r = c → jrI m 11 0 14 = c → ∃ m', (jbnd (M_clauseHere (d + 11) m) fun v1 mem2 => M_readsAll_35 (d + 11) (jasI v1) mem2) = some (vI (jb ((gRl b n k c i u).1 = 0)), m') ∧ jrI m' 11 0 1 = 0 ∧ puR (aZr r c) m m' ∧ ((gRl b n k c i u).1 = 0 → onM (fun j => jrI m' 47 0 (400 * r + j)) (L ++ gSig (gRl b n k c i u).2) 0 ∧ ((L ++ gSig (gRl b n k c i u).2).length : Int) ≤ 400 ∧ onK (fun j => jrI m' 49 0 (48 * r + j)) (gRl b n k c i u).2 c (L.length : Int) ∧ jrI m' 50 0 r = c + ((gRl b n k c i u).2.length : Int)) ∧ ((gRl b n k c i u).1 ≠ 0 → jrI m' 11 0 9 = (gRl b n k c i u).1) := by
  intro k
  induction k with
  | zero => intro c i u L m _ _ h; omega
  | succ k ih =>
    intro c i u L m hk c0 _ h hl u0 u1 h50 h14
    have h5 := h.1.2.2.2.2
    have hr := h.2.2.2.2.2
    obtain ⟨m1, a1, a2, a3⟩ := m_see (d + 9) h.1
    have q1 := mQ_mv h a3 a2
    have hs := rSk_in (b := b) h5.1 h5.2.1
    have hid := rSk_id (b := b) h5.1 h5.2.1
    obtain ⟨m2, g1, g2, g3⟩ := m_isW (d + 8) [111, 103] (by decide) (by decide) (by decide) (y := 26479) rfl a2 hid
    have q2 := mQ_mv q1 g3 g2
    have f2 : puR (aZr r c) m m2 := puR_tr (aM_Z r c a3) (aM_Z r c g3)
    have hln : jrI m2 11 0 14 = c := by rw [g3 11 0 14 (by unfold aM; omega), a3 11 0 14 (by unfold aM; omega)]; exact h14
    have h502 : jrI m2 50 0 r = c := by rw [g3 50 0 r (by unfold aM; omega), a3 50 0 r (by unfold aM; omega)]; exact h50
    have bad : ∀ (F : Int) (l : List gC) (m3 : jMem), F ≠ 0 → jrI m3 11 0 9 = F → puR (aZr r c) m m3 → ∃ m', (jbnd (some (vI 0, m3)) fun v1 mem2 => M_readsAll_35 (d + 11) (jasI v1) mem2) = some (vI (jb (((F, l) : Int × List gC).1 = 0)), m') ∧ jrI m' 11 0 1 = 0 ∧ puR (aZr r c) m m' ∧ (((F, l) : Int × List gC).1 = 0 → onM (fun j => jrI m' 47 0 (400 * r + j)) (L ++ gSig ((F, l) : Int × List gC).2) 0 ∧ ((L ++ gSig ((F, l) : Int × List gC).2).length : Int) ≤ 400 ∧ onK (fun j => jrI m' 49 0 (48 * r + j)) ((F, l) : Int × List gC).2 c (L.length : Int) ∧ jrI m' 50 0 r = c + (((F, l) : Int × List gC).2.length : Int)) ∧ (((F, l) : Int × List gC).1 ≠ 0 → jrI m' 11 0 9 = ((F, l) : Int × List gC).1) := by
      intro F l m3 hF hw hfr
      refine ⟨jwI m3 11 0 1 0, ?_, jrI_ws _ _ _ _ _, puR_w hfr (Or.inr ⟨rfl, rfl, Or.inl rfl⟩), fun w => absurd w hF, fun _ => by rw [jrI_wk (by decide)]; exact hw⟩
      show M_readsAll_35 (d + 11) (jasI (vI 0)) m3 = _
      rw [jasI_v, q_M_readsAll_35, if_pos rfl, q_M_readsAll_66, if_pos rfl, q_M_readsAll_88, if_neg (by rw [hw]; exact hF), jb_n hF]
    have e0 : M_clauseHere (d + 11) m = M_clauseHere_24 (d + 10) (rSk b n i) 0 m1 := by
      rw [q_M_clauseHere, a1]
      simp only [jbnd_s]
      rw [q1.2.1, if_neg (by omega), a2.2.2.1]
    unfold gRl
    rw [e0, q_M_clauseHere_24, if_pos (show (0 : Int) = 0 from rfl), g1]
    simp only [jbnd_s, jasI_v]
    have h52 := g2.2.2.2.2
    by_cases e1 : rW b n (rSk b n i) = [111, 103]
    · rw [if_neg (show ¬ (rW b n (rSk b n i) ≠ [111, 103]) from fun w => w e1), jb_1 e1, if_neg (show ¬ (1 : Int) = 0 by decide)]
      first | rw [if_pos (show (0 : Int) = 0 from rfl)] | rw [if_pos trivial]
      rw [q_M_clauseHere_71, hln]
      by_cases c12 : c = 12
      · rw [if_pos c12, if_pos c12, s_M_fails (d + 9) (rSk b n i) 4 m2 g2.2.2.2.1 (by omega) (by decide)]
        exact bad (1 + 8 * rSk b n i + 4) [] (jwI m2 11 0 9 (1 + 8 * rSk b n i + 4)) (by omega) (by rw [jrI_ws]) (puR_w f2 (Or.inl ⟨rfl, Or.inl ⟨rfl, by omega⟩⟩))
      rw [if_neg c12, if_neg c12]
      first | rw [if_pos (show (0 : Int) = 0 from rfl)] | rw [if_pos trivial]
      rw [jw32_id (x := c + 1) (by omega) (by omega), gOne_eq]
      have q3 := mQ_w 11 14 (c + 1) (Or.inr (Or.inr ⟨rfl, rfl⟩)) q2
      have f3 : puR (aZr r c) m (jwI m2 11 0 14 (c + 1)) := puR_w f2 (Or.inr ⟨rfl, rfl, Or.inr rfl⟩)
      obtain ⟨y1, y2⟩ := m_go d hby q3 (by omega) ⟨u0, u1⟩ (by rw [jrI_wf (by decide)]; exact h502) ⟨c0, by omega⟩
      have hpw := rPw_in (b := b) (n := n) (i := rSk b n i) (by omega) hs.2
      have hg := gO_g (b := b) (n := n) (p := rPw b n (rSk b n i)) (u := u) (by omega) hpw.2 ⟨u0, u1⟩
      generalize gO b n (rPw b n (rSk b n i)) u = O at *
      by_cases z : O.1 = 0
      · obtain ⟨m4, x1, x2, x3, x4, x5⟩ := y1 z
        clear y1 y2 bad
        obtain ⟨⟨k1, k2⟩, ⟨k3, k4⟩, k5⟩ := hg z
        have f4 : puR (aZr r c) m m4 := puR_tr f3 (a0_Z r c x5)
        have hs2 := rSk_in (b := b) (n := n) (i := O.2.1) (by omega) k1
        have hid2 := rSk_id (b := b) (n := n) (i := O.2.1) (by omega) k1
        have hlen : ((L ++ tokC O.2.2.2).length : Int) = (L.length : Int) + ((tokC O.2.2.2).length : Int) := by
          rw [List.length_append]; omega
        rw [if_neg (show ¬ (O.1 ≠ 0) from fun w => w z), x1]
        have eX : (jbnd (jbnd (some (vI 1, m4)) fun v5 mem6 => jbo (jasI v5) (some (vI (jasI v5), mem6))) fun v1 mem2 => M_readsAll_35 (d + 11) (jasI v1) mem2) = M_readsAll_35 (d + 11) 1 m4 := rfl
        rw [eX, q_M_readsAll_35, if_neg (show ¬ (1 : Int) = 0 by decide)]
        obtain ⟨m5, v1, v2, v3⟩ := m_see (d + 10) x2.1
        rw [hid2] at v1 v2
        have q5 := mQ_mv x2 v3 v2
        have f5 : puR (aZr r c) m m5 := puR_tr f4 (aM_Z r c v3)
        have k50 : jrI m5 50 0 r = c + 1 := by rw [v3 50 0 r (by unfold aM; omega)]; exact x4
        have kK : onK (fun j => jrI m5 49 0 (48 * r + j)) [O.2.2.2] c (L.length : Int) := onK_fr _ _ _ (fun j _ _ => v3 49 0 _ (by unfold aM; omega)) x3
        have k14 : jrI m5 11 0 14 = c + 1 := by rw [v3 11 0 14 (by unfold aM; omega), x5 11 0 14 (by unfold aZ0; omega), jrI_ws]
        unfold gEn
        rw [v1]
        simp only [jbnd_s, jasI_v]
        by_cases se : rCh b n (rSk b n O.2.1) = 59
        · have hlt := rCh_lt se (by decide)
          have hm6 := rM_to v2 (show 0 ≤ rSk b n O.2.1 + 1 by omega) (show rSk b n O.2.1 + 1 ≤ n by omega)
          have q6 := mQ_mv q5 (puR_w (puR_rf _ m5) ⟨rfl, rfl, Or.inl rfl⟩) hm6
          rw [if_pos se, if_neg (show ¬ rCh b n (rSk b n O.2.1) = -1 by omega), if_pos se, v2.2.2.1, jw32_id (x := rSk b n O.2.1 + 1) (by omega) (by omega)]
          obtain ⟨m7, p1, p2, p3, p4, p5⟩ := ih (c + 1) (rSk b n O.2.1 + 1) O.2.2.1 (L ++ tokC O.2.2.2) (jwI m5 11 0 8 (rSk b n O.2.1 + 1)) (by omega) (by omega) (by omega) q6 (by omega) k3 k4 (by rw [jrI_wf (by decide)]; exact k50) (by rw [jrI_wk (by decide)]; exact k14)
          generalize gRl b n k (c + 1) (rSk b n O.2.1 + 1) O.2.2.1 = W at *
          refine ⟨m7, p1, p2, puR_tr (puR_w f5 (Or.inl ⟨rfl, Or.inl ⟨rfl, by omega⟩⟩)) (puR_mono p3 (fun f i k w => by unfold aZr aZ0 at w; unfold aZr aZ0; omega)), fun w => ?_, p5⟩
          obtain ⟨w1, w2, w3, w4⟩ := p4 w
          have eg : L ++ gSig (O.2.2.2 :: W.2) = L ++ tokC O.2.2.2 ++ gSig W.2 := by
            rw [List.append_assoc]
            rfl
          refine ⟨?_, ?_, ?_, ?_⟩
          · show onM _ (L ++ gSig (O.2.2.2 :: W.2)) 0
            rw [eg]
            exact w1
          · show ((L ++ gSig (O.2.2.2 :: W.2)).length : Int) ≤ 400
            rw [eg]
            exact w2
          · refine (onK_cons _ _ _ _ _).mpr ⟨onK_fr _ _ _ (fun j j0 j1 => ?_) kK, ?_⟩
            · show jrI m7 49 0 (48 * r + j) = jrI m5 49 0 (48 * r + j)
              rw [p3 49 0 _ (by unfold aZr aZ0; omega), jrI_wf (by decide)]
            · rw [hlen] at w3
              exact w3
          · rw [w4]
            show c + 1 + (W.2.length : Int) = c + (((W.2.length + 1 : Nat)) : Int)
            omega
        · rw [if_neg se, q_M_readsAll_66, if_neg (show ¬ (1 : Int) = 0 by decide)]
          obtain ⟨m6, w1, w2, w3⟩ := m_see (d + 10) v2
          rw [hid2] at w1 w2
          have q6 := mQ_mv q5 w3 w2
          have f6 : puR (aZr r c) m m6 := puR_tr f5 (aM_Z r c w3)
          rw [w1]
          simp only [jbnd_s, jasI_v]
          by_cases ov : rCh b n (rSk b n O.2.1) = -1
          · rw [if_pos ov, if_pos ov, q_M_readsAll_88, if_pos w2.2.2.2.1]
            have eg : L ++ gSig [O.2.2.2] = L ++ tokC O.2.2.2 := by
              show L ++ (tokC O.2.2.2 ++ []) = _
              rw [List.append_nil]
            refine ⟨jwI m6 11 0 1 0, by rw [jb_1 (show ((0, [O.2.2.2]) : Int × List gC).1 = 0 from rfl)], jrI_ws _ _ _ _ _, puR_w f6 (Or.inr ⟨rfl, rfl, Or.inl rfl⟩), fun _ => ⟨?_, ?_, ?_, ?_⟩, fun w => absurd rfl w⟩
            · show onM _ (L ++ gSig [O.2.2.2]) 0
              rw [eg, jrI_wf (by decide)]
              exact q6.2.2.2.1
            · show ((L ++ gSig [O.2.2.2]).length : Int) ≤ 400
              rw [eg, hlen]
              omega
            · refine onK_fr _ _ _ (fun j j0 j1 => ?_) kK
              show jrI (jwI m6 11 0 1 0) 49 0 (48 * r + j) = jrI m5 49 0 (48 * r + j)
              rw [jrI_wf (by decide), w3 49 0 _ (by unfold aM; omega)]
            · rw [jrI_wf (by decide), w3 50 0 r (by unfold aM; omega), k50]
              rfl
          · rw [if_neg ov, if_neg ov, if_neg se, w2.2.2.1, s_M_fails (d + 10) (rSk b n O.2.1) 0 m6 w2.2.2.2.1 (by omega) (by decide)]
            simp only [jbnd_s]
            have hn : ((1 + 8 * rSk b n O.2.1, ([] : List gC)) : Int × List gC).1 ≠ 0 := by
              show 1 + 8 * rSk b n O.2.1 ≠ 0
              omega
            rw [q_M_readsAll_88, jrI_ws, if_neg (show ¬ 1 + 8 * rSk b n O.2.1 + 0 = 0 by omega)]
            refine ⟨_, by rw [jb_n hn], jrI_ws _ _ _ _ _, puR_w (puR_w f6 (Or.inl ⟨rfl, Or.inl ⟨rfl, by omega⟩⟩)) (Or.inr ⟨rfl, rfl, Or.inl rfl⟩), fun w => absurd w hn, fun _ => ?_⟩
            rw [jrI_wk (by decide), jrI_ws]
            show 1 + 8 * rSk b n O.2.1 + 0 = 1 + 8 * rSk b n O.2.1
            omega
      · obtain ⟨m4, x1, x2, x3⟩ := y2 z
        rw [if_pos z, x1]
        exact bad O.1 [] m4 z x2 (puR_tr f3 (a0_Z r c x3))
    · rw [if_pos e1, jb_n e1]
      first | rw [if_pos (show (0 : Int) = 0 from rfl)] | rw [if_pos trivial]
      rw [s_M_fails (d + 9) (rSk b n i) 0 m2 g2.2.2.2.1 (by omega) (by decide)]
      exact bad (1 + 8 * rSk b n i) [] (jwI m2 11 0 9 (1 + 8 * rSk b n i + 0)) (by omega) (by rw [jrI_ws]; omega) (puR_w f2 (Or.inl ⟨rfl, Or.inl ⟨rfl, by omega⟩⟩))
