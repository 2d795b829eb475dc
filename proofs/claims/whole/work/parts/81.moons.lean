/-! moons -/
def tDr (x : Int) : Int := (x * 1103515245 + 12345) % 2147483648
theorem tDr_in (x : Int) : 0 ≤ tDr x ∧ tDr x < 2147483648 := by
  unfold tDr
  omega
def tDn (ev : tEvT) (p : Int) (z : Int × (Int → Int)) : Int × (Int → Int) := if tDr z.1 / 65536 % 100 < p then (tDr (tDr z.1), (tNight z.2 ev (tDr (tDr z.1) / 65536 % 10)).1) else (tDr z.1, (tNight z.2 ev (tLi z.2 (z.2 10))).1)
def tDs (ev : tEvT) (p : Int) (z : Int × (Int → Int)) (i : Int) : Int × (Int → Int) := puF (fun _ z => tDn ev p z) i.toNat 0 z
theorem tDs_s (ev : tEvT) (p : Int) (z : Int × (Int → Int)) {i : Int} (h : 0 ≤ i) : tDs ev p z (i + 1) = tDn ev p (tDs ev p z i) := by
  unfold tDs
  rw [puF_s _ h]
theorem tDs_ok {T : Int → Int} (ev : tEvT) (p : Int) (hR : tRv T) (hW : tWv T) (h1 : T 0 = 1) (h10 : T 10 ≤ 999) {x : Int} (hx : 0 ≤ x ∧ x < 2147483648) : ∀ k : Nat, k ≤ 60 → 0 ≤ (tDs ev p (x, T) (k : Int)).1 ∧ (tDs ev p (x, T) (k : Int)).1 < 2147483648 ∧ tEq T (tDs ev p (x, T) (k : Int)).2 ∧ tWv (tDs ev p (x, T) (k : Int)).2 ∧ (tDs ev p (x, T) (k : Int)).2 10 = T 10 + (k : Int) := by
  intro k
  induction k with
  | zero =>
    intro _
    refine ⟨hx.1, hx.2, fun _ _ => rfl, hW, ?_⟩
    show T 10 = T 10 + ((0 : Nat) : Int)
    omega
  | succ k ih =>
    intro hk
    obtain ⟨a1, a2, a3, a4, a5⟩ := ih (by omega)
    rw [show ((k + 1 : Nat) : Int) = (k : Int) + 1 by omega, tDs_s ev p _ (by omega)]
    generalize tDs ev p (x, T) (k : Int) = z at a1 a2 a3 a4 a5 ⊢
    have hd1 := tDr_in z.1
    have hd2 := tDr_in (tDr z.1)
    have hn := fun lt => tNight_ok ev lt (tRv_eq a3 hR) a4 (by rw [a3 0 (by omega)]; exact h1) (by rw [a5]; omega)
    unfold tDn
    by_cases hc : tDr z.1 / 65536 % 100 < p
    · rw [if_pos hc]
      obtain ⟨b1, b2, b3, -⟩ := hn (tDr (tDr z.1) / 65536 % 10)
      exact ⟨hd2.1, hd2.2, fun j hj => (b1 j hj).trans (a3 j hj), b2, by dsimp only; rw [b3, a5]; omega⟩
    · rw [if_neg hc]
      obtain ⟨b1, b2, b3, -⟩ := hn (tLi z.2 (z.2 10))
      exact ⟨hd1.1, hd1.2, fun j hj => (b1 j hj).trans (a3 j hj), b2, by dsimp only; rw [b3, a5]; omega⟩
/-- m times: x, in traps, at sea -/
def tDm (ev : tEvT) (p n : Int) (T : Int → Int) (w : Int × Int × Int) : Int × Int × Int := ((tDs ev p (w.1, T) n).1, w.2.1 + tFul (tDs ev p (w.1, T) n).2, w.2.2 + tCnt (fun m => (tDs ev p (w.1, T) n).2 (11 + m) = -1) (T 5))
def tDa (ev : tEvT) (p n : Int) (T : Int → Int) (x i : Int) : Int × Int × Int := puF (fun _ w => tDm ev p n T w) i.toNat 0 (x, 0, 0)
theorem tDa_s (ev : tEvT) (p n : Int) (T : Int → Int) (x : Int) {i : Int} (h : 0 ≤ i) : tDa ev p n T x (i + 1) = tDm ev p n T (tDa ev p n T x i) := by
  unfold tDa
  rw [puF_s _ h]
theorem tDa_ok {T : Int → Int} (ev : tEvT) (p : Int) (n : Nat) (hn : n ≤ 60) (hR : tRv T) (hW : tWv T) (h1 : T 0 = 1) (h10 : T 10 ≤ 999) {x : Int} (hx : 0 ≤ x ∧ x < 2147483648) : ∀ k : Nat, 0 ≤ (tDa ev p (n : Int) T x (k : Int)).1 ∧ (tDa ev p (n : Int) T x (k : Int)).1 < 2147483648 ∧ 0 ≤ (tDa ev p (n : Int) T x (k : Int)).2.1 ∧ (tDa ev p (n : Int) T x (k : Int)).2.1 ≤ 6 * (k : Int) ∧ 0 ≤ (tDa ev p (n : Int) T x (k : Int)).2.2 ∧ (tDa ev p (n : Int) T x (k : Int)).2.2 ≤ 6 * (k : Int) := by
  intro k
  induction k with
  | zero =>
    refine ⟨hx.1, hx.2, ?_, ?_, ?_, ?_⟩
    · show (0 : Int) ≤ 0; decide
    · show (0 : Int) ≤ 6 * 0; decide
    · show (0 : Int) ≤ 0; decide
    · show (0 : Int) ≤ 6 * 0; decide
  | succ k ih =>
    obtain ⟨a1, a2, a3, a4, a5, a6⟩ := ih
    rw [show ((k + 1 : Nat) : Int) = (k : Int) + 1 by omega, tDa_s ev p _ T x (by omega)]
    generalize tDa ev p (n : Int) T x (k : Int) = w at a1 a2 a3 a4 a5 a6 ⊢
    obtain ⟨b1, b2, b3, b4, b5⟩ := tDs_ok ev p hR hW h1 h10 ⟨a1, a2⟩ n hn
    have t6 := hR.2.2.2.2.1
    have t5 := hR.2.2.2.1
    have f1 : 0 ≤ tFul (tDs ev p (w.1, T) (n : Int)).2 ∧ tFul (tDs ev p (w.1, T) (n : Int)).2 ≤ 4 := by
      have h := tCnt_in (fun t => tIn (tDs ev p (w.1, T) (n : Int)).2 t ≠ -1) (n := (tDs ev p (w.1, T) (n : Int)).2 6) (by rw [b3 6 (by omega)]; exact t6.1)
      have e6 := b3 6 (by omega)
      unfold tFul
      omega
    have f2 := tCnt_in (fun m => (tDs ev p (w.1, T) (n : Int)).2 (11 + m) = -1) t5.1
    unfold tDm
    dsimp only
    exact ⟨b1, b2, by omega, by omega, by omega, by omega⟩
theorem draw64 {x : Int} (hx : 0 ≤ x ∧ x < 2147483648) : (jw64 (jw64 (x * 1103515245) + 12345)).tmod 2147483648 = tDr x := by
  rw [jw64_id (x := x * 1103515245) (by omega) (by omega), jw64_id (x := x * 1103515245 + 12345) (by omega) (by omega), Int.tmod_eq_emod_of_nonneg (by omega)]
  rfl
theorem s_As_draw (d : Nat) (x : Int) (mem : jMem) (hx : 0 ≤ x ∧ x < 2147483648) (hm : jrJ mem 1 0 5 = x) : As_draw (d + 1) mem = some (vI (tDr x / 65536), jwJ mem 1 0 5 (tDr x)) := by
  have h := tDr_in x
  rw [q_As_draw, hm, draw64 hx, Int.tdiv_eq_ediv_of_nonneg h.1, jw64_id (x := tDr x / 65536) (by omega) (by omega), jw32_id (x := tDr x / 65536) (by omega) (by omega)]
theorem s_M_draw (d : Nat) (q x : Int) (mem : jMem) (hq : 0 < q ∧ q ≤ 100) (hx : 0 ≤ x ∧ x < 2147483648) (hm : jrJ mem 11 0 32 = x) : M_draw (d + 1) q mem = some (vI (tDr x / 65536 % q), jwJ mem 11 0 32 (tDr x)) := by
  have h := tDr_in x
  have h2 : 0 ≤ tDr x / 65536 % q ∧ tDr x / 65536 % q < q := ⟨Int.emod_nonneg _ (by omega), Int.emod_lt_of_pos _ hq.1⟩
  rw [q_M_draw, jnz_in (by omega), hm, draw64 hx, Int.tdiv_eq_ediv_of_nonneg h.1, jw64_id (x := tDr x / 65536) (by omega) (by omega), Int.tmod_eq_emod_of_nonneg (by omega), jw32_id (by omega) (by omega)]
theorem p_moons (a n p y : Int) : pCase (E_moons 60 a n p y) (M_moons 60 a n p y) := fun mem hi hm => by
  obtain ⟨hR, hW, hN, h999, cr, cw, cn, hl⟩ := pNow hi
  have t5 := hR.2.2.2.1
  have t6 := hR.2.2.2.2.1
  have h10 := hW.1
  have r5 := cr.2.2.2.2.2.1
  have r6 := cr.2.2.2.2.2.2.1
  have hX : jrI mem 6 0 4 = jrI mem 11 0 22 ∧ 0 ≤ jrI mem 11 0 22 ∧ jrI mem 11 0 22 < 2147483648 := by
    obtain ⟨-, -, -, ⟨-, ⟨b1, b2⟩, -⟩, -⟩ := id hi
    exact ⟨b1, b2, (hm.1 11 0 22).2⟩
  generalize hxx : jrI mem 11 0 22 = X at hX
  generalize hT : jrI mem 55 0 = T at *
  have ms : ∀ m, jrI m 55 0 = T → M_moons 60 a n p y m = if jb (T 0 = 1) = 0 then some (vI (-1), m) else if jb (1 ≤ a ∧ a ≤ 10) = 0 then some (vI (-1), m) else if jb (1 ≤ n ∧ n ≤ 60) = 0 then some (vI (-1), m) else if jb (0 ≤ p ∧ p ≤ 100) = 0 then some (vI (-1), m) else if jb (0 ≤ y ∧ y ≤ 1) = 0 then some (vI (-1), m) else jbnd (M_keeps 59 (jwJ m 11 0 32 (jrI m 11 0 22))) fun _ mem12 => M_moons_78 59 a n p y 0 0 0 mem12 := fun m h9 => by
    rw [q_M_moons 59, s_M_isRiver, h9]
    simp only [jbnd_s, jasI_v, s_M_in]
  rw [q_E_moons 59, cr.1]
  rcases told01 hR with h0 | h1
  · rw [if_pos h0]
    refine ⟨-1, mem, rfl, fun _ => ⟨mem, ?_, hi⟩⟩
    rw [ms mem hT, jb_n (by omega), if_pos rfl]
  rw [if_neg (by omega)]
  simp only [jbnd_s, jasI_v, s_E_within]
  by_cases ha : 1 ≤ a ∧ a ≤ 10
  case neg =>
    rw [jb_n ha, if_pos rfl]
    refine ⟨-1, mem, rfl, fun _ => ⟨mem, ?_, hi⟩⟩
    rw [ms mem hT, jb_1 h1, if_neg (by decide), jb_n ha, if_pos rfl]
  rw [jb_1 ha, if_neg (by decide)]
  by_cases hn : 1 ≤ n ∧ n ≤ 60
  case neg =>
    rw [jb_n hn, if_pos rfl]
    refine ⟨-1, mem, rfl, fun _ => ⟨mem, ?_, hi⟩⟩
    rw [ms mem hT, jb_1 h1, if_neg (by decide), jb_1 ha, if_neg (by decide), jb_n hn, if_pos rfl]
  rw [jb_1 hn, if_neg (by decide)]
  by_cases hp : 0 ≤ p ∧ p ≤ 100
  case neg =>
    rw [jb_n hp, if_pos rfl]
    refine ⟨-1, mem, rfl, fun _ => ⟨mem, ?_, hi⟩⟩
    rw [ms mem hT, jb_1 h1, if_neg (by decide), jb_1 ha, if_neg (by decide), jb_1 hn, if_neg (by decide), jb_n hp, if_pos rfl]
  rw [jb_1 hp, if_neg (by decide)]
  by_cases hy : 0 ≤ y ∧ y ≤ 1
  case neg =>
    rw [jb_n hy, if_pos rfl]
    refine ⟨-1, mem, rfl, fun _ => ⟨mem, ?_, hi⟩⟩
    rw [ms mem hT, jb_1 h1, if_neg (by decide), jb_1 ha, if_neg (by decide), jb_1 hn, if_neg (by decide), jb_1 hp, if_neg (by decide), jb_n hy, if_pos rfl]
  rw [jb_1 hy, if_neg (by decide)]
  obtain ⟨o, ev, e1, e2, e3⟩ := pEv hi 57
  obtain ⟨k, rfl⟩ := Int.eq_ofNat_of_zero_le (show 0 ≤ n by omega)
  rw [e1]
  simp only [jbnd_s, jasR_v]
  rw [q_As_drawnNights, hX.1]
  have hDa := fun c : Nat => tDa_ok ev p k (by omega) hR hW h1 h999 hX.2 c
  -- the class
  obtain ⟨⟨s, m1⟩, c1, c2, c3, c4⟩ := puUpE (P := fun i (z : Int × jMem) => puR aX mem z.2 ∧ jrJ z.2 1 0 5 = (tDa ev p (k : Int) T X i).1 ∧ z.1 = if y = 0 then (tDa ev p (k : Int) T X i).2.1 else (tDa ev p (k : Int) T X i).2.2) (L := fun i z => As_drawnNights_15 58 0 o a (k : Int) p y z.1 i z.2) (n := a) (by omega) (fun i z i0 i1 hP => by
    obtain ⟨s, m⟩ := z
    obtain ⟨p1, p2, p3⟩ := hP
    dsimp only at p1 p2 p3
    show ∃ z' : Int × jMem, As_drawnNights_15 58 0 o a (k : Int) p y s i m = As_drawnNights_15 58 0 o a (k : Int) p y z'.1 (i + 1) z'.2 ∧ _
    obtain ⟨c, rfl⟩ := Int.eq_ofNat_of_zero_le i0
    obtain ⟨v1, v2, v3, v4, v5, v6⟩ := hDa c
    rw [tDa_s ev p _ T X i0]
    generalize tDa ev p (k : Int) T X (c : Int) = w at p2 p3 v1 v2 v3 v4 v5 v6 ⊢
    have hDs := fun j : Nat => tDs_ok ev p hR hW h1 h999 (x := w.1) ⟨v1, v2⟩ j
    obtain ⟨m2, d1, d2, d3, d4, d5⟩ := s_lay25b 57 T mem m hR cw p1
    rw [q_As_drawnNights_15, if_pos i1, d1]
    simp only [jbnd_s]
    obtain ⟨m3, g1, g2, g3, g4⟩ := puUpE (P := fun j (m3 : jMem) => puR aX mem m3 ∧ jrJ m3 1 0 5 = (tDs ev p (w.1, T) j).1 ∧ cWv m3 25 (tDs ev p (w.1, T) j).2) (L := fun j m3 => As_drawnNights_35 58 0 o a (k : Int) p y s (c : Int) j m3) (n := (k : Int)) (by omega) (fun j m3 j0 j1 hP => by
      obtain ⟨q1, q2, q3⟩ := hP
      obtain ⟨b, rfl⟩ := Int.eq_ofNat_of_zero_le j0
      obtain ⟨u1, u2, u3, u4, u5⟩ := hDs b (by omega)
      rw [tDs_s ev p _ j0]
      generalize tDs ev p (w.1, T) (b : Int) = z at q2 q3 u1 u2 u3 u4 u5 ⊢
      have hRz := tRv_eq u3 hR
      have h1z : z.2 0 = 1 := by rw [u3 0 (by omega)]; exact h1
      have crz : cRw mem 0 z.2 := cRw_cong hR (fun k k0 k1 k2 k3 => u3 k (by omega)) (cRw_of cr)
      have crm : ∀ mm : jMem, puR aX mem mm → cRw mm 0 z.2 := fun mm hmm => cRw_fr (fun f k hf => hmm f 0 k (by unfold aX; omega)) crz
      rw [q_As_drawnNights_35, if_pos j1, q3.1, s_Ri_lightOw 57 0 (z.2 10) z.2 m3 (crm m3 q1) hRz (by rw [u5]; omega)]
      simp only [jbnd_s, jasI_v]
      have hd1 := tDr_in z.1
      rw [s_As_draw 57 z.1 m3 ⟨u1, u2⟩ q2]
      simp only [jbnd_s, jasI_v]
      rw [Int.tmod_eq_emod_of_nonneg (by omega)]
      unfold tDn
      by_cases hc : tDr z.1 / 65536 % 100 < p
      · have hd2 := tDr_in (tDr z.1)
        rw [if_pos hc, if_pos hc, s_As_draw 57 (tDr z.1) _ hd1 (jrJ_ws _ _ _ _ _)]
        simp only [jbnd_s, jasI_v]
        rw [Int.tmod_eq_emod_of_nonneg (by omega), q_As_drawnNights_79]
        obtain ⟨m4, f1, f2, f3, f4, -⟩ := s_Sm_step 52 1 0 25 (tDr (tDr z.1) / 65536 % 10) o ev z.2 (jwJ (jwJ m3 1 0 5 (tDr z.1)) 1 0 5 (tDr (tDr z.1))) hRz u4 h1z (crm _ (puR_J (puR_J q1))) (cWv_fr (fun f k hf => rfl) q3) (cEvt_X (puR_J (puR_J q1)) e2)
        rw [f1, jw32_id (x := (b : Int) + 1) (by omega) (by omega)]
        simp only [jbnd_s]
        exact ⟨m4, rfl, puR_tr (puR_J (puR_J q1)) (X_N (by decide) f3), by rw [f4 1 (by decide), jrJ_ws], f2⟩
      · rw [if_neg hc, if_neg hc, q_As_drawnNights_79]
        obtain ⟨m4, f1, f2, f3, f4, -⟩ := s_Sm_step 52 1 0 25 (tLi z.2 (z.2 10)) o ev z.2 (jwJ m3 1 0 5 (tDr z.1)) hRz u4 h1z (crm _ (puR_J q1)) (cWv_fr (fun f k hf => rfl) q3) (cEvt_X (puR_J q1) e2)
        rw [f1, jw32_id (x := (b : Int) + 1) (by omega) (by omega)]
        simp only [jbnd_s]
        exact ⟨m4, rfl, puR_tr (puR_J q1) (X_N (by decide) f3), by rw [f4 1 (by decide), jrJ_ws], f2⟩) m2 ⟨d3, by rw [d5]; exact p2, d2⟩
    have g1' : As_drawnNights_35 58 0 o a (k : Int) p y s (c : Int) 0 m2 = As_drawnNights_35 58 0 o a (k : Int) p y s (c : Int) (k : Int) m3 := g1
    obtain ⟨u1, u2, u3, u4, u5⟩ := hDs k (by omega)
    unfold tDm
    dsimp only
    generalize tDs ev p (w.1, T) (k : Int) = z at g3 g4 u1 u2 u3 u4 u5 ⊢
    have hRz := tRv_eq u3 hR
    rw [g1', q_As_drawnNights_35, if_neg (by omega), g2 4 0 6 (by unfold aX; omega), r6, g2 4 0 5 (by unfold aX; omega), r5, jw32_id (x := (c : Int) + 1) (by omega) (by omega)]
    by_cases hy0 : y = 0
    · have hf := s_Wa_fullTraps 57 25 z.2 m3 hRz g4
      rw [u3 6 (by omega)] at hf
      have hfb : 0 ≤ tFul z.2 ∧ tFul z.2 ≤ 4 := by
        have h := tCnt_in (fun t => tIn z.2 t ≠ -1) (n := z.2 6) (by rw [u3 6 (by omega)]; exact t6.1)
        have e6 := u3 6 (by omega)
        unfold tFul
        omega
      rw [if_pos hy0] at p3
      rw [if_pos hy0, hf]
      simp only [jbnd_s, jasI_v]
      rw [jw32_id (x := s + tFul z.2) (by omega) (by omega)]
      exact ⟨(s + tFul z.2, m3), rfl, g2, g3, by rw [if_pos hy0]; dsimp only; rw [p3]⟩
    · rw [if_neg hy0] at p3
      have hset : tSet (fun m => jrI m3 38 25 m = -1) (T 5) = tSet (fun m => z.2 (11 + m) = -1) (T 5) := tSet_cong t5.1 (fun m m0 m1 => by rw [(g4.2.1 m m0 (by rw [u3 5 (by omega)]; exact m1)).1])
      obtain ⟨b, hb⟩ := Int.eq_ofNat_of_zero_le t5.1
      have hpop := tSet_pop (fun m => z.2 (11 + m) = -1) b (by omega)
      have hbit := tSet_bit (fun m => z.2 (11 + m) = -1) b (by omega)
      rw [← hb] at hpop hbit
      have hcb := tCnt_in (fun m => z.2 (11 + m) = -1) t5.1
      rw [if_neg hy0, s_Wa_bitsAt 57 25 (-1) (T 5) m3 t5, hset]
      simp only [jbnd_s, jasI_v]
      rw [s_J_bitCount 57 _ m3 hpop.1 (by omega), hpop.2.2]
      simp only [jbnd_s, jasI_v]
      rw [jw32_id (x := s + tCnt (fun m => z.2 (11 + m) = -1) (T 5)) (by omega) (by omega)]
      exact ⟨(s + tCnt (fun m => z.2 (11 + m) = -1) (T 5), m3), rfl, g2, g3, by rw [if_neg hy0]; dsimp only; rw [p3]⟩) (0, jwJ mem 1 0 5 X) ⟨puR_J (puR_rf _ mem), jrJ_ws _ _ _ _ _, by
      split <;> rfl⟩
  dsimp only at c2 c3 c4
  have c1' : As_drawnNights_15 58 0 o a (k : Int) p y 0 0 (jwJ mem 1 0 5 X) = As_drawnNights_15 58 0 o a (k : Int) p y s a m1 := c1
  rw [c1', q_As_drawnNights_15, if_neg (by omega)]
  simp only [jbnd_s, jasI_v]
  refine ⟨s, m1, rfl, fun _ => ?_⟩
  -- the reference
  have hs : jrI m1 55 0 = T := by rw [X_said c2]; exact hT
  have hl1 : jrI m1 11 0 23 = -1 := by rw [X_23 c2]; exact hl
  have hx1 : jrI m1 11 0 22 = X := by rw [c2 11 0 22 (by unfold aX; omega)]; exact hxx
  rw [ms m1 hs, jb_1 h1, if_neg (by decide), jb_1 ha, if_neg (by decide), jb_1 hn, if_neg (by decide), jb_1 hp, if_neg (by decide), jb_1 hy, if_neg (by decide), hx1]
  obtain ⟨m2, b1, b2, b3, b4, b5⟩ := s_keep 58 (jwJ m1 11 0 32 X)
  rw [b1]
  simp only [jbnd_s]
  have hsJ : jrI (jwJ m1 11 0 32 X) 55 0 = T := hs
  have hlJ : jrI (jwJ m1 11 0 32 X) 11 0 23 = -1 := hl1
  have evJ : mEv (jwJ m1 11 0 32 X) ev := mEv_X (puR_J (puR_rf _ m1)) (mEv_X c2 e3)
  obtain ⟨⟨s1, s2, m9⟩, g1, g2, g3, g4, g5, g6, g7, g8⟩ := puUpE (P := fun i (z : Int × Int × jMem) => mKept (jwJ m1 11 0 32 X) z.2.2 ∧ jrI z.2.2 55 0 = T ∧ jrI z.2.2 11 0 23 = -1 ∧ puR aX m1 z.2.2 ∧ jrJ z.2.2 11 0 32 = (tDa ev p (k : Int) T X i).1 ∧ z.1 = (tDa ev p (k : Int) T X i).2.1 ∧ z.2.1 = (tDa ev p (k : Int) T X i).2.2) (L := fun i z => M_moons_78 59 a (k : Int) p y z.1 z.2.1 i z.2.2) (n := a) (by omega) (fun i z i0 i1 hP => by
    obtain ⟨s1, s2, m⟩ := z
    obtain ⟨p1, p2, p3, p4, p5, p6, p7⟩ := hP
    dsimp only at p1 p2 p3 p4 p5 p6 p7
    show ∃ z' : Int × Int × jMem, M_moons_78 59 a (k : Int) p y s1 s2 i m = M_moons_78 59 a (k : Int) p y z'.1 z'.2.1 (i + 1) z'.2.2 ∧ _
    obtain ⟨c, rfl⟩ := Int.eq_ofNat_of_zero_le i0
    obtain ⟨v1, v2, v3, v4, v5, v6⟩ := hDa c
    rw [tDa_s ev p _ T X i0]
    generalize tDa ev p (k : Int) T X (c : Int) = w at p5 p6 p7 v1 v2 v3 v4 v5 v6 ⊢
    have hDs := fun j : Nat => tDs_ok ev p hR hW h1 h999 (x := w.1) ⟨v1, v2⟩ j
    rw [q_M_moons_78, if_pos i1]
    obtain ⟨m3, q1, q2, q3, q4, q5⟩ := puUpE (P := fun j (m3 : jMem) => mKept (jwJ m1 11 0 32 X) m3 ∧ jrI m3 55 0 = (tDs ev p (w.1, T) j).2 ∧ jrI m3 11 0 23 = -1 ∧ jrJ m3 11 0 32 = (tDs ev p (w.1, T) j).1) (L := fun j m3 => M_moons_87 59 a (k : Int) p y s1 s2 (c : Int) j m3) (n := (k : Int)) (by omega) (fun j m3 j0 j1 hP => by
      obtain ⟨q1, q2, q3, q4⟩ := hP
      obtain ⟨b, rfl⟩ := Int.eq_ofNat_of_zero_le j0
      obtain ⟨u1, u2, u3, u4, u5⟩ := hDs b (by omega)
      rw [tDs_s ev p _ j0]
      generalize tDs ev p (w.1, T) (b : Int) = z at q2 q4 u1 u2 u3 u4 u5 ⊢
      have hRz := tRv_eq u3 hR
      have h1z : z.2 0 = 1 := by rw [u3 0 (by omega)]; exact h1
      have hd1 := tDr_in z.1
      rw [q_M_moons_87, if_pos j1, s_M_draw 58 100 z.1 m3 (by decide) ⟨u1, u2⟩ q4]
      simp only [jbnd_s, jasI_v]
      unfold tDn
      have evm : ∀ mm, mKept (jwJ m1 11 0 32 X) mm → mEv mm ev := fun mm hk => mEv_R (fun f i k hf => by unfold aY at hf; omega) hk.2 evJ
      by_cases hc : tDr z.1 / 65536 % 100 < p
      · have hd2 := tDr_in (tDr z.1)
        rw [if_pos hc, if_pos hc, s_M_draw 58 10 (tDr z.1) _ (by decide) hd1 (jrJ_ws _ _ _ _ _)]
        simp only [jbnd_s, jasI_v]
        generalize hlt : tDr (tDr z.1) / 65536 % 10 = lt
        have hlt2 : 0 ≤ lt ∧ lt ≤ 9 := by omega
        have hk3 : mKept (jwJ m1 11 0 32 X) (jwI (jwJ (jwJ m3 11 0 32 (tDr z.1)) 11 0 32 (tDr (tDr z.1))) 11 0 23 lt) := mKept_Y q1 (puR_w (puR_J (puR_J (puR_rf _ m3))) (by unfold aY; omega))
        have hs3 : jrI (jwI (jwJ (jwJ m3 11 0 32 (tDr z.1)) 11 0 32 (tDr (tDr z.1))) 11 0 23 lt) 55 0 = z.2 := by
          rw [jrI_wf (by decide)]
          exact q2
        obtain ⟨m4, f1, f2, f3, f4⟩ := s_M_passes 52 lt ev _ (by rw [hs3]; exact hRz) (by rw [hs3]; exact u4) (by rw [hs3]; exact h1z) (evm _ hk3) ⟨by rw [jrI_ws, if_neg (by omega)], by rw [jrI_ws]; omega⟩
        rw [hs3] at f1 f2
        rw [f1, jw32_id (x := (b : Int) + 1) (by omega) (by omega)]
        simp only [jbnd_s]
        exact ⟨m4, rfl, mKept_Y hk3 (Y_3 f3), f2, f4, by rw [f3.2.1 11 (by decide) (by decide)]; exact jrJ_ws _ _ _ _ _⟩
      · rw [if_neg hc, if_neg hc]
        have hk3 : mKept (jwJ m1 11 0 32 X) (jwJ m3 11 0 32 (tDr z.1)) := mKept_Y q1 (puR_J (puR_rf _ m3))
        have hs3 : jrI (jwJ m3 11 0 32 (tDr z.1)) 55 0 = z.2 := q2
        have hl3 : jrI (jwJ m3 11 0 32 (tDr z.1)) 11 0 23 = -1 := q3
        obtain ⟨m4, f1, f2, f3, f4⟩ := s_M_passes 52 (tLi z.2 (z.2 10)) ev _ (by rw [hs3]; exact hRz) (by rw [hs3]; exact u4) (by rw [hs3]; exact h1z) (evm _ hk3) ⟨by rw [hl3, if_pos (by decide), hs3], by rw [hl3]; decide⟩
        rw [hs3] at f1 f2
        rw [f1, jw32_id (x := (b : Int) + 1) (by omega) (by omega)]
        simp only [jbnd_s]
        exact ⟨m4, rfl, mKept_Y hk3 (Y_3 f3), f2, f4, by rw [f3.2.1 11 (by decide) (by decide)]; exact jrJ_ws _ _ _ _ _⟩) m ⟨p1, p2, p3, p5⟩
    have q1' : M_moons_87 59 a (k : Int) p y s1 s2 (c : Int) 0 m = M_moons_87 59 a (k : Int) p y s1 s2 (c : Int) (k : Int) m3 := q1
    obtain ⟨u1, u2, u3, u4, u5⟩ := hDs k (by omega)
    unfold tDm
    dsimp only
    generalize tDs ev p (w.1, T) (k : Int) = z at q3 q5 u1 u2 u3 u4 u5 ⊢
    have hRz := tRv_eq u3 hR
    have hfb : 0 ≤ tFul z.2 ∧ tFul z.2 ≤ 4 := by
      have h := tCnt_in (fun t => tIn z.2 t ≠ -1) (n := z.2 6) (by rw [u3 6 (by omega)]; exact t6.1)
      have e6 := u3 6 (by omega)
      unfold tFul
      omega
    have hset : tSet (fun m => -1 ≤ z.2 (11 + m) ∧ z.2 (11 + m) ≤ -1) (T 5) = tSet (fun m => z.2 (11 + m) = -1) (T 5) := tSet_cong t5.1 (fun m m0 m1 => by omega)
    obtain ⟨b, hb⟩ := Int.eq_ofNat_of_zero_le t5.1
    have hpop := tSet_pop (fun m => z.2 (11 + m) = -1) b (by omega)
    have hbit := tSet_bit (fun m => z.2 (11 + m) = -1) b (by omega)
    rw [← hb] at hpop hbit
    have hcb := tCnt_in (fun m => z.2 (11 + m) = -1) t5.1
    rw [q1', q_M_moons_87, if_neg (by omega), s_M_trapped 56 z.2 m3 hRz u4 q3]
    simp only [jbnd_s, jasI_v]
    rw [s_M_onesThat 57 _ _ m3 (by rw [q3, u3 5 (by omega)]; exact t5), q3, u3 5 (by omega), hset]
    simp only [jbnd_s, jasI_v]
    rw [s_M_bits 58 _ m3 hpop.1 (by omega), hpop.2.2]
    simp only [jbnd_s, jasI_v]
    obtain ⟨m4, d1, d2, d3, d4, d5, d6, d7⟩ := s_back 58 (jwJ m1 11 0 32 X) m3 q2 (by rw [q4, hlJ])
    rw [d1, jw32_id (x := s1 + tFul z.2) (by omega) (by omega), jw32_id (x := s2 + tCnt (fun m => z.2 (11 + m) = -1) (T 5)) (by omega) (by omega), jw32_id (x := (c : Int) + 1) (by omega) (by omega)]
    simp only [jbnd_s]
    exact ⟨(s1 + tFul z.2, s2 + tCnt (fun m => z.2 (11 + m) = -1) (T 5), m4), rfl, d4, by rw [← hsJ]; exact d2, by rw [← hlJ]; exact d5, puR_tr (puR_J (puR_rf _ m1)) d3, by dsimp only; rw [d7]; exact q5, by dsimp only; rw [p6], by dsimp only; rw [p7]⟩) (0, 0, m2) ⟨b2, by rw [b3]; exact hs, by rw [X_23 b4]; exact hl1, puR_tr (puR_J (puR_rf _ m1)) b4, by dsimp only; rw [b5]; exact jrJ_ws _ _ _ _ _, rfl, rfl⟩
  dsimp only at g2 g3 g4 g5 g6 g7 g8
  have g1' : M_moons_78 59 a (k : Int) p y 0 0 0 m2 = M_moons_78 59 a (k : Int) p y s1 s2 a m9 := g1
  rw [g1', q_M_moons_78, if_neg (by omega)]
  refine ⟨m9, ?_, pInv_fr g5 (pInv_fr c2 hi)⟩
  rw [c4, g7, g8]
  by_cases hy0 : y = 0
  · rw [if_pos hy0, if_pos hy0]
  · rw [if_neg hy0, if_neg hy0]
