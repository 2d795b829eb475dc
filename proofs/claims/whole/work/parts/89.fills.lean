/-! The reference's sieve -/
def aFl (f : Nat) (i k : Int) : Prop := f = 58 ∨ (f = 55 ∧ i = 0 ∧ 10 ≤ k ∧ k < 25) ∨ f = 56 ∨ f = 61 ∨ f = 62 ∨ (f = 11 ∧ (k = 18 ∨ (i = 0 ∧ (k = 21 ∨ k = 23))))
theorem tEr_m {mem m : jMem} (h : iRule mem) (hr : puR aFl mem m) {r : Int} (h0 : -1 ≤ r) (h1 : r < jrI mem 11 0 2) (h2 : jrI m 11 0 21 = r) : mEv m (tEr mem r) := by
  unfold mEv tEr
  rw [h2]
  by_cases e : r = -1
  · rw [if_pos (by omega)]
    exact Or.inl ⟨e, rfl⟩
  · rw [if_neg (by omega)]
    have h6 := h.2.2.1
    refine Or.inr ⟨by omega, by omega, cRu_fr (fun f k hf => hr f r k (by unfold aFl; omega)) (fun f k hf => hr f 0 k (by unfold aFl; omega)) (h.2.2.2 r (by omega) h1), ?_⟩
    have e1 : jrI m 31 r = jrI mem 31 r := funext fun k => hr 31 r k (by unfold aFl; omega)
    have e2 : jrI m 32 r = jrI mem 32 r := funext fun k => hr 32 r k (by unfold aFl; omega)
    have e3 : jrI m 5 r 2 = jrI mem 5 r 2 := hr 5 r 2 (by unfold aFl; omega)
    have e4 : cRl m r = cRl mem r := by
      funext env
      unfold cRl
      rw [e1, e2, e3]
    rw [e4]
theorem s_M_fillsFits (d : Nat) (T : Int → Int) (n R : Int) (mem : jMem) (hR : tRv T) (hN : tNv T) (h1 : T 0 = 1) (hn : 0 ≤ n ∧ n ≤ 60) (hRl : iRule mem) (hRn : jrI mem 11 0 2 = R) (hT : jrI mem 55 0 = T) (hl : jrI mem 11 0 23 = -1) : ∃ m', M_fillsFits (d + 9) n mem = some (vU, m') ∧ puR aX mem m' ∧ ∀ j, 0 ≤ j → j < R + 1 → jrI m' 61 0 j = jb (tFt (tEr mem (j - 1)) (tBg T) = -1) ∧ ∀ k, 0 ≤ k → k < T 5 → jrI m' 62 0 (6 * j + k) = tFr (tIt (tEr mem (j - 1)) n.toNat (tBg T)) k := by
  have t5 := hR.2.2.2.1
  obtain ⟨bR, bW, -⟩ := tBg_ok hR
  have bS := tBg_S T
  have bN := tNv_S bS hN
  have hR6 : 0 ≤ R ∧ R ≤ 6 := by rw [← hRn]; exact ⟨hRl.2.1, hRl.2.2.1⟩
  obtain ⟨m2, b1, b2, b4, -⟩ := s_M_keeps (d + 7) mem
  rw [q_M_fillsFits, b1]
  simp only [jbnd_s]
  generalize hwas : jrI mem 11 0 21 = was
  obtain ⟨m9, a1, a2, a3, a4, a5⟩ := puUpE (P := fun i (m : jMem) => puR aFl mem m ∧ (∀ k, 0 ≤ k → k < 15 → jrI m 58 0 k = T (10 + k)) ∧ jrI m 11 0 23 = -1 ∧ ∀ j, 0 ≤ j → j < i → jrI m 61 0 j = jb (tFt (tEr mem (j - 1)) (tBg T) = -1) ∧ ∀ k, 0 ≤ k → k < T 5 → jrI m 62 0 (6 * j + k) = tFr (tIt (tEr mem (j - 1)) n.toNat (tBg T)) k) (L := fun i m => M_fillsFits_11 (d + 8) n was i m) (n := R + 1) (by omega) (fun i m i0 i1 hP => by
    obtain ⟨p1, p2, p3, p4⟩ := hP
    rw [q_M_fillsFits_11, p1 11 0 2 (by unfold aFl; omega), hRn, if_neg (by omega), jw32_id (x := i - 1) (by omega) (by omega)]
    obtain ⟨m3, d1, d2, d3⟩ := s_M_begins (d + 7) (jwI m 11 0 21 (i - 1))
    have hbg : tBg (jrI (jwI m 11 0 21 (i - 1)) 55 0) = tBg T := by
      rw [jrI_wf (by decide)]
      funext k
      unfold tBg
      by_cases h10 : k = 10
      · rw [if_pos h10, if_pos h10]
      rw [if_neg h10, if_neg h10]
      by_cases h11 : 11 ≤ k ∧ k < 17
      · rw [if_pos h11, if_pos h11, p1 55 0 _ (by unfold aFl; omega), hT]
      rw [if_neg h11, if_neg h11]
      by_cases h17 : 17 ≤ k ∧ k < 25
      · rw [if_pos h17, if_pos h17, p1 55 0 _ (by unfold aFl; omega), hT]
      · rw [if_neg h17, if_neg h17, p1 55 0 _ (by unfold aFl; omega), hT]
    rw [hbg] at d2
    have fr3 : puR aFl mem m3 := puR_tr (puR_w p1 (by unfold aFl; omega)) (puR_mono d3 (fun f i k hf => by unfold aFl; omega))
    have ev3 : mEv m3 (tEr mem (i - 1)) := tEr_m hRl fr3 (by omega) (by omega) (by rw [d3 11 0 21 (by omega), jrI_ws])
    obtain ⟨m4, f1, f2, f3, f4⟩ := s_M_areAllSo d (tEr mem (i - 1)) (tBg T) i n m3 bR bW bN (by rw [bS 0 (by omega)]; exact h1) (tBg_10 T) (by omega) (by omega) ev3 d2 (by rw [d3 11 0 23 (by omega), jrI_wk (by decide)]; exact p3)
    rw [d1]
    simp only [jbnd_s]
    rw [f1]
    simp only [jbnd_s, jasI_v]
    rw [jix_in i0 (by omega), jbo_b, jw32_id (x := i + 1) (by omega) (by omega)]
    refine ⟨_, rfl, puR_w (puR_tr fr3 (puR_mono f2 (fun f i k hf => by unfold aQr aP at hf; unfold aFl; omega))) (by unfold aFl; omega), fun k k0 k1 => ?_, by rw [jrI_wf (by decide)]; exact f4, fun j j0 j1 => ?_⟩
    · rw [jrI_wf (by decide), f2 58 0 k (by unfold aQr aP; omega), d3 58 0 k (by omega), jrI_wf (by decide)]
      exact p2 k k0 k1
    · rw [jrI_wf (g := 62) (by decide)]
      by_cases e : j = i
      · subst e
        rw [jrI_ws]
        exact ⟨rfl, fun k k0 k1 => f3 hn.1 k k0 (by rw [bS 5 (by omega)]; exact k1)⟩
      · obtain ⟨o1, o2⟩ := p4 j j0 (by omega)
        rw [jrI_wk e, f2 61 0 j (by unfold aQr aP; omega), d3 61 0 j (by omega), jrI_wf (by decide)]
        refine ⟨o1, fun k k0 k1 => ?_⟩
        rw [f2 62 0 _ (by unfold aQr aP; omega), d3 62 0 _ (by omega), jrI_wf (by decide)]
        exact o2 k k0 k1) m2 ⟨puR_mono b4 (fun f i k hf => Or.inl hf), fun k k0 k1 => by rw [← hT]; exact b2 k k0 k1, by rw [b4 11 0 23 (show ¬ (11 : Nat) = 58 by decide)]; exact hl, fun j j0 j1 => by omega⟩
  have a1' : M_fillsFits_11 (d + 8) n was 0 m2 = M_fillsFits_11 (d + 8) n was (R + 1) m9 := a1
  obtain ⟨m4, d1, d2, d3, -⟩ := s_M_laysBack (d + 7) (jwI m9 11 0 21 was)
  rw [a1', q_M_fillsFits_11, a2 11 0 2 (by unfold aFl; omega), hRn, if_pos (by omega), d1]
  refine ⟨m4, rfl, fun f i k hf => ?_, fun j j0 j1 => ?_⟩
  · by_cases h55 : f = 55 ∧ i = 0 ∧ 10 ≤ k ∧ k < 25
    · rw [h55.1, h55.2.1, d2 k, if_pos h55.2.2, jrI_wf (by decide), a3 (k - 10) (by omega) (by omega), hT, show 10 + (k - 10) = k by omega]
    · rw [d3 f i k (by omega), jrI_w]
      by_cases h21 : f = 11 ∧ i = 0 ∧ k = 21
      · rw [if_pos h21, h21.1, h21.2.1, h21.2.2, hwas]
      · rw [if_neg h21]
        by_cases h23 : f = 11 ∧ i = 0 ∧ k = 23
        · rw [h23.1, h23.2.1, h23.2.2, a4, hl]
        · refine a2 f i k ?_
          unfold aX at hf
          unfold aFl
          omega
  · obtain ⟨o1, o2⟩ := a5 j j0 j1
    rw [d3 61 0 j (by omega), jrI_wf (by decide)]
    refine ⟨o1, fun k k0 k1 => ?_⟩
    rw [d3 62 0 _ (by omega), jrI_wf (by decide)]
    exact o2 k k0 k1
