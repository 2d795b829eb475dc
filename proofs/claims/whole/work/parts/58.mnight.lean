/-! A night in the reference: choices, moves, traps -/
/-- the rule in force, as the reference has it -/
def mEv (mem : jMem) (ev : tEvT) : Prop := (jrI mem 11 0 21 = -1 ∧ ev = none) ∨ (0 ≤ jrI mem 11 0 21 ∧ jrI mem 11 0 21 < 6 ∧ cRu mem (jrI mem 11 0 21) ∧ ev = some (cRl mem (jrI mem 11 0 21)))
theorem mEv_sm {a b : jMem} (h : uSm4 a b) {ev : tEvT} (hc : mEv a ev) : mEv b ev := by
  have e : jrI b 11 0 21 = jrI a 11 0 21 := h.1 11 0 21 (by unfold aQ4; omega)
  unfold mEv
  rw [e]
  rcases hc with hc | ⟨h1, h2, h3, h4⟩
  · exact Or.inl hc
  · exact Or.inr ⟨h1, h2, cRu_sm h h3, by rw [cRl_sm h]; exact h4⟩
def mLt (mem : jMem) (lt : Int) : Prop := (lt = if jrI mem 11 0 23 < 0 then tLi (jrI mem 55 0) (jrI mem 55 0 10) else jrI mem 11 0 23) ∧ jrI mem 11 0 23 ≤ 9
theorem mLt_sm {a b : jMem} (h : uSm4 a b) {lt : Int} (hc : mLt a lt) : mLt b lt := by
  unfold mLt
  rw [h.1 11 0 23 (by unfold aQ4; omega), uSm4_said h]
  exact hc
theorem s_M_choice45 (d : Nat) (m own lt fo b y q : Int) (mem : jMem) (hR : tRv (jrI mem 55 0)) (hW : tWv (jrI mem 55 0)) (h1 : jrI mem 55 0 0 = 1) (hm : 0 ≤ m ∧ m < jrI mem 55 0 5) (hf : jrI mem 11 0 21 = fo) (hf6 : 0 ≤ fo ∧ fo < 6) (hc : cRu mem fo) (hl : mLt mem lt) (ho : 0 ≤ own ∧ own < 100) (hq : -1 ≤ q ∧ q ≤ own + 1) : ∃ mem', M_choice_45 (d + 4) m own b y q mem = M_choice_45 (d + 4) m own (tGs (fun p => cRl mem fo (tEnv (jrI mem 55 0) lt m p)) (jrI mem 55 0 1) q (b, y)).1 (tGs (fun p => cRl mem fo (tEnv (jrI mem 55 0) lt m p)) (jrI mem 55 0 1) q (b, y)).2 (q + 1) mem' ∧ uSm2 mem mem' := by
  rw [q_M_choice_45, jw32_id (x := own + 1) (by omega) (by omega), if_neg (by omega), s_M_isPool]
  simp only [jbnd_s, jasI_v]
  rw [jw32_id (x := q + 1) (by omega) (by omega)]
  unfold tGs
  by_cases hp : 0 ≤ q ∧ q < jrI mem 55 0 1
  · rw [jb_1 hp, if_neg (by decide)]
    obtain ⟨mem', e1, e2⟩ := s_M_sumOf d m q lt fo mem hR hW h1 hm hp hf hf6 hc hl.1 hl.2
    rw [e1]
    simp only [jbnd_s, jasJ_v, jlcmp_gt]
    by_cases hy : y < cRl mem fo (tEnv (jrI mem 55 0) lt m q)
    · rw [if_pos hy, if_pos ⟨hp.1, hp.2, hy⟩]
      exact ⟨mem', rfl, e2⟩
    · rw [if_neg hy, if_neg (fun w => hy w.2.2)]
      exact ⟨mem', rfl, e2⟩
  · rw [jb_n hp, if_pos rfl, if_neg (fun w => hp ⟨w.1, w.2.1⟩)]
    exact ⟨mem, rfl, uSm2_rf mem⟩
theorem s_M_choice (d : Nat) (m lt : Int) (ev : tEvT) (mem : jMem) (hR : tRv (jrI mem 55 0)) (hW : tWv (jrI mem 55 0)) (h1 : jrI mem 55 0 0 = 1) (hm : 0 ≤ m ∧ m < jrI mem 55 0 5) (hp : 0 ≤ jrI mem 55 0 (11 + m) ∧ jrI mem 55 0 (11 + m) < jrI mem 55 0 1) (hev : mEv mem ev) (hl : mLt mem lt) : ∃ mem', M_choice (d + 5) m mem = some (vI (tGo (jrI mem 55 0) ev lt m), mem') ∧ uSm2 mem mem' := by
  have h12 : jrI mem 55 0 1 ≤ 12 := by have := hR.1; omega
  have h5 := hR.2.2.2.1
  rw [q_M_choice, jw32_id (x := 11 + m) (by omega) (by omega), jix_in (by omega) (by omega)]
  rcases hev with ⟨v1, v2⟩ | ⟨v1, v2, v3, v4⟩
  · rw [v2, if_pos (by omega), s_M_isPool, jw32_id (x := jrI mem 55 0 (11 + m) + 1) (by omega) (by omega)]
    simp only [jbnd_s, jasI_v, tGo]
    by_cases hq : jrI mem 55 0 (11 + m) + 1 < jrI mem 55 0 1
    · rw [jb_1 ⟨by omega, hq⟩, if_neg (by decide), if_pos hq]
      exact ⟨mem, rfl, uSm2_rf mem⟩
    · rw [jb_n (fun w => hq w.2), if_pos rfl, if_neg hq]
      exact ⟨mem, rfl, uSm2_rf mem⟩
  · rw [if_neg (by omega), jw32_id (x := jrI mem 55 0 (11 + m) - 1) (by omega) (by omega), v4]
    unfold tGo tBest
    dsimp only
    generalize hfo : jrI mem 11 0 21 = fo at v1 v2 v3 ⊢
    generalize hown : jrI mem 55 0 (11 + m) = own at hp ⊢
    obtain ⟨mem1, a1, a2⟩ := s_M_choice45 d m own lt fo own 0 (own - 1) mem hR hW h1 hm hfo ⟨v1, v2⟩ v3 hl (by omega) (by omega)
    have t1 := uSm4_said (uSm4_2 a2)
    obtain ⟨mem2, b1, b2⟩ := s_M_choice45 d m own lt fo (tGs (fun p => cRl mem fo (tEnv (jrI mem 55 0) lt m p)) (jrI mem 55 0 1) (own - 1) (own, 0)).1 (tGs (fun p => cRl mem fo (tEnv (jrI mem 55 0) lt m p)) (jrI mem 55 0 1) (own - 1) (own, 0)).2 (own - 1 + 1) mem1 (by rw [t1]; exact hR) (by rw [t1]; exact hW) (by rw [t1]; exact h1) (by rw [t1]; exact hm) (by rw [a2.1 11 0 21 (by unfold aQ; omega)]; exact hfo) ⟨v1, v2⟩ (cRu_sm (uSm4_2 a2) v3) (mLt_sm (uSm4_2 a2) hl) (by omega) (by omega)
    rw [t1, cRl_sm (uSm4_2 a2)] at b1
    have c2 := uSm2_tr a2 b2
    have t2 := uSm4_said (uSm4_2 c2)
    have eo : own - 1 + 1 = own := by omega
    rw [eo] at b1
    obtain ⟨mem3, d1, d2⟩ := s_M_choice45 d m own lt fo (tGs (fun p => cRl mem fo (tEnv (jrI mem 55 0) lt m p)) (jrI mem 55 0 1) own (tGs (fun p => cRl mem fo (tEnv (jrI mem 55 0) lt m p)) (jrI mem 55 0 1) (own - 1) (own, 0))).1 (tGs (fun p => cRl mem fo (tEnv (jrI mem 55 0) lt m p)) (jrI mem 55 0 1) own (tGs (fun p => cRl mem fo (tEnv (jrI mem 55 0) lt m p)) (jrI mem 55 0 1) (own - 1) (own, 0))).2 (own + 1) mem2 (by rw [t2]; exact hR) (by rw [t2]; exact hW) (by rw [t2]; exact h1) (by rw [t2]; exact hm) (by rw [c2.1 11 0 21 (by unfold aQ; omega)]; exact hfo) ⟨v1, v2⟩ (cRu_sm (uSm4_2 c2) v3) (mLt_sm (uSm4_2 c2) hl) (by omega) (by omega)
    rw [t2, cRl_sm (uSm4_2 c2)] at d1
    rw [a1, eo, b1, d1, q_M_choice_45, jw32_id (x := own + 1) (by omega) (by omega), if_pos (by omega)]
    exact ⟨mem3, rfl, uSm2_tr c2 d2⟩
theorem s_M_isFree (d : Nat) (m : Int) (mem : jMem) (hm : 0 ≤ m ∧ m < jrI mem 55 0 5) (h5 : jrI mem 55 0 5 ≤ 6) : M_isFree (d + 2) m mem = some (vI (jb (0 ≤ jrI mem 55 0 (11 + m) ∧ jrI mem 55 0 (11 + m) ≤ 19)), mem) := by
  rw [q_M_isFree, s_M_isMemory]
  simp only [jbnd_s, jasI_v]
  rw [jb_1 hm, if_neg (by decide), jw32_id (x := 11 + m) (by omega) (by omega), jix_in (by omega) (by omega), s_M_in]
  simp only [jbnd_s, jasI_v]
  by_cases h : 0 ≤ jrI mem 55 0 (11 + m) ∧ jrI mem 55 0 (11 + m) ≤ 19
  · rw [jb_1 h, if_neg (by decide)]
  · rw [jb_n h, if_pos rfl]
/-- a night may change these in the reference -/
def aP (f : Nat) (i k : Int) : Prop := (f = 55 ∧ i = 0 ∧ 10 ≤ k ∧ k < 17) ∨ f = 56 ∨ (f = 11 ∧ (k = 18 ∨ (k = 23 ∧ i = 0)))
def uSm3 (m m' : jMem) : Prop := puR aP m m' ∧ (∀ f, f ≠ 53 → f ≠ 54 → jrJ m' f = jrJ m f) ∧ m'.2.2 = m.2.2
theorem uSm3_rf (m : jMem) : uSm3 m m := ⟨puR_rf aP m, fun _ _ _ => rfl, rfl⟩
theorem uSm3_tr {a b c : jMem} (h1 : uSm3 a b) (h2 : uSm3 b c) : uSm3 a c := ⟨puR_tr h1.1 h2.1, fun f hf hg => (h2.2.1 f hf hg).trans (h1.2.1 f hf hg), h2.2.2.trans h1.2.2⟩
theorem uSm3_4 {a b : jMem} (h : uSm4 a b) : uSm3 a b := ⟨puR_mono h.1 (fun f i k w => by unfold aQ4 at w; unfold aP; omega), h.2.1, h.2.2⟩
theorem uSm3_I {a b : jMem} {f : Nat} {i k v : Int} (h : uSm3 a b) (hA : aP f i k) : uSm3 a (jwI b f i k v) := ⟨puR_w h.1 hA, h.2.1, h.2.2⟩
theorem s_M_swim (d : Nat) (lt : Int) (ev : tEvT) (mem : jMem) (hR : tRv (jrI mem 55 0)) (hW : tWv (jrI mem 55 0)) (h1 : jrI mem 55 0 0 = 1) (hev : mEv mem ev) (hl : mLt mem lt) : ∃ mem', M_swim (d + 6) mem = some (vU, mem') ∧ jrI mem' 55 0 = tSwim (jrI mem 55 0) ev lt ∧ uSm3 mem mem' ∧ jrI mem' 11 0 23 = jrI mem 11 0 23 := by
  obtain ⟨t0, t3, t4, t5, t6, -⟩ := id hR
  obtain ⟨w1, w2, w3, w4⟩ := id hW
  have h12 : jrI mem 55 0 1 ≤ 12 := by omega
  generalize hT : jrI mem 55 0 = T at *
  rw [q_M_swim, hT, jw32_id (x := T 1 - 1) (by omega) (by omega)]
  obtain ⟨mem1, a1, a2, a3⟩ := puUpE (P := fun i m1 => uSm4 mem m1 ∧ ∀ j, 0 ≤ j → j < i → 0 ≤ T (11 + j) → T (11 + j) < 12 → jrI m1 56 0 j = tGo T ev lt j) (L := fun i m1 => M_swim_11 (d + 5) (T 1 - 1) i m1) (n := T 5) t5.1 (fun i m1 i0 i1 hP => by
    obtain ⟨p1, p2⟩ := hP
    have s1 := uSm4_said p1
    rw [hT] at s1
    rw [q_M_swim_11, s1, if_pos i1, s_M_isFree (d + 3) i m1 (by rw [s1]; omega) (by rw [s1]; omega), s1]
    simp only [jbnd_s, jasI_v]
    rw [jw32_id (x := i + 1) (by omega) (by omega)]
    by_cases hfr : 0 ≤ T (11 + i) ∧ T (11 + i) ≤ 19
    · have hp : 0 ≤ T (11 + i) ∧ T (11 + i) < T 1 := by
        rcases w2 i i0 i1 with w | w | w | w <;> omega
      rw [jb_1 hfr, if_neg (by decide)]
      obtain ⟨m2, e1, e2⟩ := s_M_choice d i lt ev m1 (by rw [s1]; exact hR) (by rw [s1]; exact hW) (by rw [s1]; exact h1) (by rw [s1]; omega) (by rw [s1]; exact hp) (mEv_sm p1 hev) (mLt_sm p1 hl)
      rw [e1]
      simp only [jbnd_s, jasI_v]
      rw [jix_in i0 (by omega), s1]
      refine ⟨_, rfl, uSm4_I (uSm4_tr p1 (uSm4_2 e2)), fun j j0 j1 j2 j3 => ?_⟩
      by_cases ej : j = i
      · rw [ej, jrI_ws]
      · rw [jrI_wk ej, e2.1 56 0 j (by unfold aQ; omega)]
        exact p2 j j0 (by omega) j2 j3
    · rw [jb_n hfr, if_pos rfl]
      refine ⟨m1, rfl, p1, fun j j0 j1 j2 j3 => p2 j j0 ?_ j2 j3⟩
      by_cases ej : j = i
      · rw [ej] at j2 j3
        exact absurd ⟨j2, by omega⟩ hfr
      · omega) mem ⟨uSm4_rf mem, fun j j0 j1 => by omega⟩
  have s1 := uSm4_said a2
  rw [hT] at s1
  obtain ⟨mem2, b1, b2, b3, b4⟩ := puUpE (P := fun i m2 => uSm3 mem1 m2 ∧ (∀ k, jrI m2 55 0 k = if 11 ≤ k ∧ k < 11 + i then tNew T ev lt (k - 11) else T k) ∧ (∀ f i k, f ≠ 55 → jrI m2 f i k = jrI mem1 f i k)) (L := fun i m2 => M_swim_48 (d + 5) (T 1 - 1) i m2) (n := T 5) t5.1 (fun i m2 i0 i1 hP => by
    obtain ⟨p1, p2, p3⟩ := hP
    have r1 : ∀ k, k < 11 ∨ 11 + i ≤ k → jrI m2 55 0 k = T k := fun k hk => by rw [p2 k, if_neg (by omega)]
    have goes : ∀ v, v = tNew T ev lt i → ∃ a', M_swim_48 (d + 5) (T 1 - 1) (i + 1) (jwI m2 55 0 (11 + i) v) = M_swim_48 (d + 5) (T 1 - 1) (i + 1) a' ∧ uSm3 mem1 a' ∧ (∀ k, jrI a' 55 0 k = if 11 ≤ k ∧ k < 11 + (i + 1) then tNew T ev lt (k - 11) else T k) ∧ (∀ f i k, f ≠ 55 → jrI a' f i k = jrI mem1 f i k) := fun v hv => by
      refine ⟨_, rfl, uSm3_I p1 (by unfold aP; omega), fun k => ?_, fun f i9 k hf => by rw [jrI_w, if_neg (fun w => hf w.1)]; exact p3 f i9 k hf⟩
      by_cases ek : k = 11 + i
      · rw [ek, jrI_ws, if_pos (by omega), hv]
        congr 1
        omega
      · rw [jrI_wk ek, p2 k]
        by_cases hk : 11 ≤ k ∧ k < 11 + i
        · rw [if_pos hk, if_pos (by omega)]
        · rw [if_neg hk, if_neg (by omega)]
    rw [q_M_swim_48, r1 5 (by omega), if_pos i1, s_M_isFree (d + 3) i m2 (by rw [r1 5 (by omega)]; omega) (by rw [r1 5 (by omega)]; omega), r1 (11 + i) (by omega)]
    simp only [jbnd_s, jasI_v]
    rw [jw32_id (x := i + 1) (by omega) (by omega), jw32_id (x := 11 + i) (by omega) (by omega), jw32_id (x := 33 + i) (by omega) (by omega), r1 (11 + i) (by omega), r1 (33 + i) (by omega), r1 2 (by omega), p3 56 0 i (by decide)]
    by_cases hfr : 0 ≤ T (11 + i) ∧ T (11 + i) ≤ 19
    · have hp : 0 ≤ T (11 + i) ∧ T (11 + i) < T 1 := by
        rcases w2 i i0 i1 with w | w | w | w <;> omega
      rw [jb_1 hfr, if_neg (by decide), jix_in (x := 11 + i) (by omega) (by omega), jix_in (x := i) i0 (by omega), jix_in (x := 33 + i) (by omega) (by omega), a3 i i0 i1 hp.1 (by omega)]
      have hout : M_swim_115 (d + 5) (T 1 - 1) i 1 m2 = M_swim_48 (d + 5) (T 1 - 1) (i + 1) (jwI m2 55 0 (11 + i) (-1)) := by
        rw [q_M_swim_115, if_neg (by decide), jw32_id (x := i + 1) (by omega) (by omega), jw32_id (x := 11 + i) (by omega) (by omega), jix_in (by omega) (by omega)]
      have hst : M_swim_115 (d + 5) (T 1 - 1) i 0 m2 = M_swim_48 (d + 5) (T 1 - 1) (i + 1) (jwI m2 55 0 (11 + i) (tGo T ev lt i)) := by
        rw [q_M_swim_115, if_pos rfl, jw32_id (x := i + 1) (by omega) (by omega), jw32_id (x := 11 + i) (by omega) (by omega), jix_in i0 (by omega), jix_in (by omega) (by omega), p3 56 0 i (by decide), a3 i i0 i1 hp.1 (by omega)]
      rw [hout, hst]
      have g1 := goes (-1)
      have g2 := goes (tGo T ev lt i)
      unfold tNew at g1 g2
      rw [if_pos (show 0 ≤ T (11 + i) ∧ T (11 + i) < 12 by omega)] at g1 g2
      by_cases c1 : T (11 + i) = T 1 - 1
      · by_cases c2 : tGo T ev lt i = T 1 - 1
        · by_cases c3 : T (33 + i) < T 2
          · rw [if_pos c1, if_pos c2, if_pos c3]
            exact g2 (by rw [if_neg (by omega)])
          · rw [if_pos c1, if_pos c2, if_neg c3]
            exact g1 (by rw [if_pos ⟨c1, c2, by omega⟩])
        · rw [if_pos c1, if_neg c2]
          exact g2 (by rw [if_neg (fun w => c2 w.2.1)])
      · rw [if_neg c1]
        exact g2 (by rw [if_neg (fun w => c1 w.1)])
    · rw [jb_n hfr, if_pos rfl]
      refine ⟨m2, rfl, p1, fun k => ?_, p3⟩
      rw [p2 k]
      by_cases hk : 11 ≤ k ∧ k < 11 + i
      · rw [if_pos hk, if_pos (by omega)]
      · rw [if_neg hk]
        by_cases ek : k = 11 + i
        · rw [if_pos (by omega), ek]
          unfold tNew
          rw [show 11 + i - 11 = i by omega, if_neg (by omega)]
        · rw [if_neg (by omega)]) mem1 ⟨uSm3_rf mem1, fun k => by rw [if_neg (by omega), s1], fun _ _ _ _ => rfl⟩
  have hsaid : jrI mem2 55 0 = tSwim T ev lt := funext fun k => by
    rw [b3 k]
    rfl
  rw [a1, q_M_swim_11, s1, if_neg (by omega), b1, q_M_swim_48, hsaid, tSwim_eq ev lt t5.2 5 (by omega), if_neg (by omega)]
  exact ⟨mem2, rfl, hsaid, uSm3_tr (uSm3_4 a2) b2, by rw [b4 11 0 23 (by decide), a2.1 11 0 23 (by unfold aQ4; omega)]⟩
theorem s_M_fitsIn (d : Nat) (m t : Int) (mem : jMem) (hm : 0 ≤ m ∧ m < 6) (ht : 0 ≤ t ∧ t < 4) : M_fitsIn (d + 2) m t mem = some (vI (jb (jrI mem 55 0 (11 + m) = jrI mem 55 0 (17 + 2 * t) ∧ jrI mem 55 0 (39 + m) = jrI mem 55 0 (18 + 2 * t) ∧ jrI mem 55 0 (33 + m) ≤ jrI mem 55 0 (25 + t))), mem) := by
  rw [q_M_fitsIn, s_M_poolOf d t mem ht, jw32_id (x := 11 + m) (by omega) (by omega), jw32_id (x := 39 + m) (by omega) (by omega), jw32_id (x := 33 + m) (by omega) (by omega), jw32_id (x := 25 + t) (by omega) (by omega), jix_in (x := 11 + m) (by omega) (by omega)]
  simp only [jbnd_s, jasI_v]
  by_cases c1 : jrI mem 55 0 (11 + m) = jrI mem 55 0 (17 + 2 * t)
  · rw [if_pos c1, jix_in (x := 39 + m) (by omega) (by omega), s_M_baitOf d t mem ht]
    simp only [jbnd_s, jasI_v]
    by_cases c2 : jrI mem 55 0 (39 + m) = jrI mem 55 0 (18 + 2 * t)
    · rw [if_pos c2, jix_in (x := 33 + m) (by omega) (by omega), jix_in (x := 25 + t) (by omega) (by omega)]
      by_cases c3 : jrI mem 55 0 (25 + t) < jrI mem 55 0 (33 + m)
      · rw [if_pos c3, jb_n (fun w => by omega)]
      · rw [if_neg c3, jb_1 ⟨c1, c2, by omega⟩]
    · rw [if_neg c2, jb_n (fun w => c2 w.2.1)]
  · rw [if_neg c1, jb_n (fun w => c1 w.1)]
theorem s_M_catches (d : Nat) (t : Int) (mem : jMem) (h5 : 0 ≤ jrI mem 55 0 5 ∧ jrI mem 55 0 5 ≤ 6) (ht : 0 ≤ t ∧ t < 4) : M_catches (d + 3) t mem = if tFit (jrI mem 55 0) t = -1 then some (vI 0, mem) else some (vI (jshl 1 (tFit (jrI mem 55 0) t)), jwI mem 55 0 (11 + tFit (jrI mem 55 0) t) (20 + t)) := by
  rw [q_M_catches]
  unfold tFit
  have key : ∀ (k : Nat) (i : Int), 0 ≤ i → i + (k : Int) = jrI mem 55 0 5 → M_catches_2 (d + 2) t i mem = if puG (fun m => jrI mem 55 0 (11 + m) = jrI mem 55 0 (17 + 2 * t) ∧ jrI mem 55 0 (39 + m) = jrI mem 55 0 (18 + 2 * t) ∧ jrI mem 55 0 (33 + m) ≤ jrI mem 55 0 (25 + t)) k i = -1 then some (vI 0, mem) else some (vI (jshl 1 (puG (fun m => jrI mem 55 0 (11 + m) = jrI mem 55 0 (17 + 2 * t) ∧ jrI mem 55 0 (39 + m) = jrI mem 55 0 (18 + 2 * t) ∧ jrI mem 55 0 (33 + m) ≤ jrI mem 55 0 (25 + t)) k i)), jwI mem 55 0 (11 + puG (fun m => jrI mem 55 0 (11 + m) = jrI mem 55 0 (17 + 2 * t) ∧ jrI mem 55 0 (39 + m) = jrI mem 55 0 (18 + 2 * t) ∧ jrI mem 55 0 (33 + m) ≤ jrI mem 55 0 (25 + t)) k i) (20 + t)) := by
    intro k
    induction k with
    | zero =>
      intro i h0 hn
      rw [q_M_catches_2, if_neg (by omega)]
      rfl
    | succ k ih =>
      intro i h0 hn
      rw [q_M_catches_2, if_pos (by omega), s_M_fitsIn d i t mem (by omega) ht, puG_s]
      simp only [jbnd_s, jasI_v]
      rw [jw32_id (x := i + 1) (by omega) (by omega)]
      by_cases hp : jrI mem 55 0 (11 + i) = jrI mem 55 0 (17 + 2 * t) ∧ jrI mem 55 0 (39 + i) = jrI mem 55 0 (18 + 2 * t) ∧ jrI mem 55 0 (33 + i) ≤ jrI mem 55 0 (25 + t)
      · simp only [jb_1 hp, if_pos hp]
        rw [if_neg (by decide), if_neg (by omega), jw32_id (x := 11 + i) (by omega) (by omega), jix_in (by omega) (by omega), jw32_id (x := 20 + t) (by omega) (by omega)]
      · simp only [jb_n hp, if_neg hp]
        rw [if_pos trivial]
        exact ih (i + 1) (by omega) (by omega)
  exact key _ 0 (Int.le_refl 0) (by omega)
/-- traps so far -/
def tFillN (T : Int → Int) (i : Int) : (Int → Int) × Int := puF tTrap i.toNat 0 (T, 0)
theorem tFillN_s (T : Int → Int) {i : Int} (h : 0 ≤ i) : tFillN T (i + 1) = tTrap i (tFillN T i) := puF_s _ h _
theorem tTrap_ok2 {T0 : Int → Int} {t : Int} {a : (Int → Int) × Int} (hR : tRv T0) (ht : 0 ≤ t ∧ t < T0 6) (hE : tEq T0 a.1) (hW : tWv a.1) (hs : jokI a.2) : tEq T0 (tTrap t a).1 ∧ tWv (tTrap t a).1 ∧ jokI (tTrap t a).2 := by
  unfold tTrap
  by_cases hc : tIn a.1 t = -1 ∧ tFit a.1 t ≠ -1
  · rw [if_pos hc]
    obtain ⟨_, _, k1, k2, _⟩ := tTrap_ok (s := 0) (tRv_eq hE hR) hW (by rw [hE 6 (by omega)]; exact ht) hc.1 hc.2
    exact ⟨tEq_tr hE k1, k2, jokI_or _ _⟩
  · rw [if_neg hc]
    exact ⟨hE, hW, hs⟩
theorem tFillN_ok {T : Int → Int} (hR : tRv T) (hW : tWv T) : ∀ k : Nat, (k : Int) ≤ T 6 → tEq T (tFillN T (k : Int)).1 ∧ tWv (tFillN T (k : Int)).1 ∧ jokI (tFillN T (k : Int)).2
  | 0, _ => ⟨tEq_rf T, hW, by show (-2147483648 : Int) ≤ 0; decide, by show (0 : Int) < 2147483648; decide⟩
  | k + 1, h => by
    obtain ⟨h1, h2, h3⟩ := tFillN_ok hR hW k (by omega)
    have e : (((k + 1 : Nat)) : Int) = (k : Int) + 1 := by omega
    rw [e, tFillN_s T (by omega)]
    exact tTrap_ok2 hR (by omega) h1 h2 h3
theorem s_M_passes (d : Nat) (lt : Int) (ev : tEvT) (mem : jMem) (hR : tRv (jrI mem 55 0)) (hW : tWv (jrI mem 55 0)) (h1 : jrI mem 55 0 0 = 1) (hev : mEv mem ev) (hl : mLt mem lt) : ∃ mem', M_passes (d + 7) mem = some (vI (tNight (jrI mem 55 0) ev lt).2, mem') ∧ jrI mem' 55 0 = (tNight (jrI mem 55 0) ev lt).1 ∧ uSm3 mem mem' ∧ jrI mem' 11 0 23 = -1 := by
  obtain ⟨mem1, a1, a2, a3, a4⟩ := s_M_swim d lt ev mem hR hW h1 hev hl
  have hSw := tSwim_ok ev lt hR h1 hW
  have hSe := tSwim_eq ev lt hR.2.2.2.1.2
  have hSr := tRv_eq hSe hR
  have h10 := hW.1
  have s10 := tSwim_10 (T := jrI mem 55 0) ev lt
  generalize hT1 : tSwim (jrI mem 55 0) ev lt = T1 at *
  have t5 := hSr.2.2.2.1
  have t6 := hSr.2.2.2.2.1
  obtain ⟨⟨s2, mem2⟩, b1, b2, b3, b4, b5⟩ := puUpE (α := Int × jMem) (P := fun i a => jrI a.2 55 0 = (tFillN T1 i).1 ∧ a.1 = (tFillN T1 i).2 ∧ uSm3 mem1 a.2 ∧ jrI a.2 11 0 23 = jrI mem1 11 0 23) (L := fun i a => M_passes_8 (d + 6) a.1 i a.2) (n := T1 6) t6.1 (fun i a i0 i1 hP => by
    obtain ⟨s, m2⟩ := a
    obtain ⟨p1, p2, p3, p4⟩ := hP
    dsimp only at p1 p2 p3 p4 ⊢
    obtain ⟨k1, k2, k3⟩ := tFillN_ok hSr hSw i.toNat (by omega)
    rw [show ((i.toNat : Nat) : Int) = i by omega] at k1 k2 k3
    have e5 : (tFillN T1 i).1 5 = T1 5 := k1 5 (by omega)
    have e6 : (tFillN T1 i).1 6 = T1 6 := k1 6 (by omega)
    rw [q_M_passes_8, p1, e6, if_pos i1, s_M_memoryIn (d + 5) i m2 (by rw [p1, e5]; exact t5) (by omega), p1]
    simp only [jbnd_s, jasI_v, tIn_neg]
    rw [jw32_id (x := i + 1) (by omega) (by omega), tFillN_s T1 i0]
    unfold tTrap
    by_cases c1 : tIn (tFillN T1 i).1 i = -1
    · rw [if_pos c1, s_M_catches (d + 3) i m2 (by rw [p1, e5]; exact t5) (by omega), p1]
      by_cases c2 : tFit (tFillN T1 i).1 i = -1
      · rw [if_pos c2, if_neg (fun w => w.2 c2)]
        simp only [jbnd_s, jasI_v]
        rw [p2, jor_0 k3]
        exact ⟨((tFillN T1 i).2, m2), rfl, p1, rfl, p3, p4⟩
      · obtain ⟨f0, f1, -⟩ := tTrap_ok (s := 0) (tRv_eq k1 hSr) k2 (by rw [e6]; exact ⟨i0, i1⟩) c1 c2
        rw [if_neg c2, if_pos ⟨c1, c2⟩]
        simp only [jbnd_s, jasI_v]
        rw [p2]
        refine ⟨(jor (tFillN T1 i).2 (jshl 1 (tFit (tFillN T1 i).1 i)), jwI m2 55 0 (11 + tFit (tFillN T1 i).1 i) (20 + i)), rfl, ?_, rfl, uSm3_I p3 (by unfold aP; omega), ?_⟩
        all_goals dsimp only
        · funext k
          unfold tUp
          by_cases ek : k = 11 + tFit (tFillN T1 i).1 i
          · rw [if_pos ek, ek, jrI_ws]
          · rw [if_neg ek, jrI_wk ek, p1]
        · rw [jrI_wf (by decide)]
          exact p4
    · rw [if_neg c1, if_neg (fun w => c1 w.1)]
      exact ⟨(s, m2), rfl, p1, p2, p3, p4⟩) (0, mem1) ⟨a2, rfl, uSm3_rf mem1, rfl⟩
  dsimp only at b1 b2 b3 b4 b5
  obtain ⟨k1, k2, k3⟩ := tFillN_ok hSr hSw (T1 6).toNat (by omega)
  rw [show (((T1 6).toNat : Nat) : Int) = T1 6 by omega] at k1 k2 k3
  have e6 : (tFillN T1 (T1 6)).1 6 = T1 6 := k1 6 (by omega)
  have e10 : (tFillN T1 (T1 6)).1 10 = T1 10 := by
    have key : ∀ k : Nat, (k : Int) ≤ T1 6 → (tFillN T1 (k : Int)).1 10 = T1 10 := by
      intro k
      induction k with
      | zero => intro _; rfl
      | succ k ih =>
        intro hk
        obtain ⟨q1, q2, q3⟩ := tFillN_ok hSr hSw k (by omega)
        rw [show (((k + 1 : Nat)) : Int) = (k : Int) + 1 by omega, tFillN_s T1 (by omega)]
        unfold tTrap
        by_cases hc : tIn (tFillN T1 (k : Int)).1 (k : Int) = -1 ∧ tFit (tFillN T1 (k : Int)).1 (k : Int) ≠ -1
        · obtain ⟨f0, f1, -⟩ := tTrap_ok (s := 0) (tRv_eq q1 hSr) q2 (by rw [q1 6 (by omega)]; omega) hc.1 hc.2
          rw [if_pos hc]
          show tUp _ _ _ 10 = _
          rw [tUp_n (by omega)]
          exact ih (by omega)
        · rw [if_neg hc]
          exact ih (by omega)
    have := key (T1 6).toNat (by omega)
    rw [show (((T1 6).toNat : Nat) : Int) = T1 6 by omega] at this
    exact this
  rw [q_M_passes, a1]
  simp only [jbnd_s]
  rw [b1, q_M_passes_8, b2, e6, if_neg (by omega), e10, s10, jw32_id (x := jrI mem 55 0 10 + 1) (by omega) (by omega)]
  unfold tNight
  rw [hT1]
  refine ⟨_, by rw [b3]; rfl, ?_, uSm3_I (uSm3_I (uSm3_tr a3 b4) (by unfold aP; omega)) (by unfold aP; omega), ?_⟩
  · funext k
    show _ = tUp (tFillN T1 (T1 6)).1 10 (jrI mem 55 0 10 + 1) k
    unfold tUp
    by_cases ek : k = 10
    · rw [if_pos ek, ek, jrI_ws]
    · rw [if_neg ek, jrI_wk ek, jrI_wf (by decide), b2]
  · rw [jrI_wf (by decide), jrI_ws]
