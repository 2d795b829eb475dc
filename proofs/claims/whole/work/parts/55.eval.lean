/-! Rules reckoned out: the class's stack, the reference's stack -/
theorem jv10 {p : Prop} [Decidable p] (mem : jMem) : (if p then some (vJ 1, mem) else some (vJ 0, mem) : jR) = some (vJ (jb p), mem) := by
  unfold jb
  split <;> rfl
theorem jv01 {p q : Prop} [Decidable p] [Decidable q] (mem : jMem) (h : q ↔ ¬ p) : (if p then some (vJ 0, mem) else some (vJ 1, mem) : jR) = some (vJ (jb q), mem) := by
  unfold jb
  by_cases hp : p
  · rw [if_pos hp, if_neg (fun w => h.mp w hp)]
  · rw [if_neg hp, if_pos (h.mpr hp)]
theorem jvdv {b : Int} (mem : jMem) (v : Int) : (if b = 0 then some (vJ 0, mem) else jnz b (some (vJ v, mem)) : jR) = some (vJ (if b = 0 then 0 else v), mem) := by
  by_cases h : b = 0
  · rw [if_pos h, if_pos h]
  · rw [if_neg h, if_neg h, jnz_in h]
theorem s_Sm_join (d : Nat) (s a b : Int) (mem : jMem) : Sm_join (d + 1) s a b mem = some (vJ (cJoin s a b), mem) := by
  rw [q_Sm_join]
  unfold cJoin
  simp only [jlcmp_lt, jlcmp_gt, jlcmp_eq]
  by_cases h1 : s = 1
  · rw [if_pos h1, if_pos h1]
    exact jv01 mem (by omega)
  rw [if_neg h1, if_neg h1]
  by_cases h2 : s = 2
  · rw [if_pos h2, if_pos h2]
    exact jv01 mem (by omega)
  rw [if_neg h2, if_neg h2]
  by_cases h4 : s = 4
  · rw [if_pos h4, if_pos h4]
  rw [if_neg h4, if_neg h4]
  by_cases h5 : s = 5
  · rw [if_pos h5, if_pos h5]
  rw [if_neg h5, if_neg h5]
  by_cases h37 : s = 37
  · rw [if_pos h37, if_pos h37]
    exact jvdv mem _
  rw [if_neg h37, if_neg h37]
  by_cases h42 : s = 42
  · rw [if_pos h42, if_pos h42]
  rw [if_neg h42, if_neg h42]
  by_cases h43 : s = 43
  · rw [if_pos h43, if_pos h43]
  rw [if_neg h43, if_neg h43]
  by_cases h45 : s = 45
  · rw [if_pos h45, if_pos h45]
  rw [if_neg h45, if_neg h45]
  by_cases h47 : s = 47
  · rw [if_pos h47, if_pos h47]
    exact jvdv mem _
  rw [if_neg h47, if_neg h47]
  by_cases h60 : s = 60
  · rw [if_pos h60, if_pos h60]
    exact jv10 mem
  rw [if_neg h60, if_neg h60]
  by_cases h61 : s = 61
  · rw [if_pos h61, if_pos h61]
    exact jv10 mem
  rw [if_neg h61, if_neg h61]
  by_cases h62 : s = 62
  · rw [if_pos h62, if_pos h62]
    exact jv10 mem
  rw [if_neg h62, if_neg h62]
theorem s_M_one (d : Nat) (s a b : Int) (mem : jMem) : M_one (d + 1) s a b mem = some (vJ (mOne s a b), mem) := by
  rw [q_M_one]
  unfold mOne
  simp only [jlcmp_lt, jlcmp_gt, jlcmp_eq]
  by_cases h2 : s = 2
  · rw [if_pos h2, if_pos h2]
  rw [if_neg h2, if_neg h2]
  by_cases h3 : s = 3
  · rw [if_pos h3, if_pos h3]
  rw [if_neg h3, if_neg h3]
  by_cases h4 : s = 4
  · rw [if_pos h4, if_pos h4]
  rw [if_neg h4, if_neg h4]
  by_cases h5 : s = 5
  · rw [if_pos h5, if_pos h5]
    exact jvdv mem _
  rw [if_neg h5, if_neg h5]
  by_cases h6 : s = 6
  · rw [if_pos h6, if_pos h6]
    exact jv10 mem
  rw [if_neg h6, if_neg h6]
  by_cases h7 : s = 7
  · rw [if_pos h7, if_pos h7]
    exact jv01 mem (by omega)
  rw [if_neg h7, if_neg h7]
  by_cases h8 : s = 8
  · rw [if_pos h8, if_pos h8]
    exact jv10 mem
  rw [if_neg h8, if_neg h8]
  by_cases h9 : s = 9
  · rw [if_pos h9, if_pos h9]
    exact jv01 mem (by omega)
  rw [if_neg h9, if_neg h9]
  by_cases h10 : s = 10
  · rw [if_pos h10, if_pos h10]
    exact jv10 mem
  rw [if_neg h10, if_neg h10]
  by_cases h11 : s = 11
  · rw [if_pos h11, if_pos h11]
  rw [if_neg h11, if_neg h11]
  by_cases h12 : s = 12
  · rw [if_pos h12, if_pos h12]
  rw [if_neg h12, if_neg h12]
  by_cases h13 : s = 13
  · rw [if_pos h13, if_pos h13]
  rw [if_neg h13, if_neg h13]
  by_cases h14 : s = 14
  · rw [if_pos h14, if_pos h14]
    exact jvdv mem _
  rw [if_neg h14, if_neg h14]
/-- a stack in a row of longs, the top first -/
def uSt (mem : jMem) (f : Nat) (i : Int) : List Int → Prop
  | [] => True
  | a :: t => jrJ mem f i (t.length : Int) = a ∧ uSt mem f i t
theorem uSt_fr {mem mem' : jMem} {f : Nat} {i : Int} : ∀ {st : List Int}, (∀ k, 0 ≤ k → k < (st.length : Int) → jrJ mem' f i k = jrJ mem f i k) → uSt mem f i st → uSt mem' f i st
  | [], _, _ => trivial
  | a :: t, h, ⟨h1, h2⟩ => ⟨by rw [h _ (by omega) (by simp only [List.length_cons]; omega)]; exact h1, uSt_fr (fun k a b => h k a (by simp only [List.length_cons]; omega)) h2⟩
theorem uSt_push {mem : jMem} {f : Nat} {i v n : Int} {st : List Int} (hn : n = (st.length : Int)) (h : uSt mem f i st) : uSt (jwJ mem f i n v) f i (v :: st) := by
  subst hn
  exact ⟨jrJ_ws _ _ _ _ _, uSt_fr (fun k a b => jrJ_wk (by omega)) h⟩
/-- memory but for a family of longs, and a field of ints -/
def uSame (g : Nat) (A : Nat → Int → Int → Prop) (m m' : jMem) : Prop := puR A m m' ∧ (∀ f, f ≠ g → jrJ m' f = jrJ m f) ∧ m'.2.2 = m.2.2
theorem uSame_rf (g : Nat) (A : Nat → Int → Int → Prop) (m : jMem) : uSame g A m m := ⟨puR_rf A m, fun _ _ => rfl, rfl⟩
theorem uSame_tr {g : Nat} {A : Nat → Int → Int → Prop} {a b c : jMem} (h1 : uSame g A a b) (h2 : uSame g A b c) : uSame g A a c := ⟨puR_tr h1.1 h2.1, fun f hf => (h2.2.1 f hf).trans (h1.2.1 f hf), h2.2.2.trans h1.2.2⟩
theorem uSame_J {g : Nat} {A : Nat → Int → Int → Prop} {a b : jMem} {i k v : Int} (h : uSame g A a b) : uSame g A a (jwJ b g i k v) := ⟨puR_J h.1, fun f hf => by rw [jrJ_wf hf]; exact h.2.1 f hf, h.2.2⟩
theorem uSame_I {g : Nat} {A : Nat → Int → Int → Prop} {a b : jMem} {f : Nat} {i k v : Int} (h : uSame g A a b) (hA : A f i k) : uSame g A a (jwI b f i k v) := ⟨puR_w h.1 hA, fun f hf => h.2.1 f hf, h.2.2⟩
/-! The reference -/
def aTop (f : Nat) (_ k : Int) : Prop := f = 11 ∧ k = 18
theorem s_M_push (d : Nat) (v : Int) (mem : jMem) (st : List Int) (h : jrI mem 11 0 18 = (st.length : Int)) (hs : uSt mem 53 0 st) (hl : st.length < 64) : ∃ mem', M_push (d + 1) v mem = some (vU, mem') ∧ jrI mem' 11 0 18 = (((v :: st).length : Nat) : Int) ∧ uSt mem' 53 0 (v :: st) ∧ uSame 53 aTop mem mem' := by
  rw [q_M_push, h, jix_in (by omega) (by omega), jw32_id (x := (st.length : Int) + 1) (by omega) (by omega)]
  refine ⟨_, rfl, ?_, ?_, uSame_I (uSame_J (uSame_rf 53 aTop mem)) ⟨rfl, rfl⟩⟩
  · rw [jrI_ws]
    rfl
  · exact uSt_fr (mem := jwJ mem 53 0 (st.length : Int) v) (fun _ _ _ => rfl) (uSt_push rfl hs)
theorem s_M_pop (d : Nat) (v : Int) (mem : jMem) (st : List Int) (h : jrI mem 11 0 18 = (((v :: st).length : Nat) : Int)) (hs : uSt mem 53 0 (v :: st)) (hl : (v :: st).length ≤ 64) : ∃ mem', M_pop (d + 1) mem = some (vJ v, mem') ∧ jrI mem' 11 0 18 = (st.length : Int) ∧ uSt mem' 53 0 st ∧ uSame 53 aTop mem mem' := by
  have hl2 : st.length + 1 ≤ 64 := hl
  have e : jrI mem 11 0 18 - 1 = (st.length : Int) := by
    rw [h]
    simp only [List.length_cons]
    omega
  rw [q_M_pop, e, jw32_id (by omega) (by omega), jix_in (by omega) (by omega), hs.1]
  refine ⟨_, rfl, jrI_ws _ _ _ _ _, uSt_fr (mem := mem) (fun _ _ _ => rfl) hs.2, uSame_I (uSame_rf 53 aTop mem) ⟨rfl, rfl⟩⟩
theorem s_M_reckons8 (d : Nat) (r e : Int) (sg env : Int → Int) (hr : 0 ≤ r ∧ r < 6) (he : e ≤ 400) (v : Int) : ∀ (k : Nat) (i : Int) (st : List Int) (mem : jMem), 0 ≤ i → i + (k : Int) = e → st.length ≤ 64 → jrI mem 11 0 18 = (st.length : Int) → uSt mem 53 0 st → (∀ i, jrI mem 47 0 (400 * r + i) = sg i) → (∀ j, 0 ≤ j → j < 12 → jrJ mem 54 0 j = env j) → mRk sg env k i st = some v → ∃ mem', M_reckons_8 (d + 1) r e i mem = some (vJ v, mem') ∧ uSame 53 aTop mem mem'
  | 0, i, st, mem, h0, hi, hl, ht, hs, hg, hv, hm => by
    match st, hm with
    | a :: t, hm =>
      cases hm
      obtain ⟨mem', e1, -, -, e4⟩ := s_M_pop d v mem t ht hs hl
      rw [q_M_reckons_8, if_neg (by omega), e1]
      exact ⟨mem', rfl, e4⟩
  | k + 1, i, st, mem, h0, hi, hl, ht, hs, hg, hv, hm => by
    have go : ∀ (st' : List Int) (mem' : jMem), st'.length ≤ 64 → jrI mem' 11 0 18 = (st'.length : Int) → uSt mem' 53 0 st' → uSame 53 aTop mem mem' → mRk sg env k (i + 1) st' = some v → ∃ mem2, M_reckons_8 (d + 1) r e (i + 1) mem' = some (vJ v, mem2) ∧ uSame 53 aTop mem mem2 := fun st' mem' a b c' d' e' => by
      obtain ⟨mem2, w1, w2⟩ := s_M_reckons8 d r e sg env hr he v k (i + 1) st' mem' (by omega) (by omega) a b c' (fun i => by rw [d'.1 47 0 _ (by unfold aTop; omega)]; exact hg i) (fun j j0 j1 => by rw [d'.2.1 54 (by decide)]; exact hv j j0 j1) e'
      exact ⟨mem2, w1, uSame_tr d' w2⟩
    rw [q_M_reckons_8, if_pos (by omega), jw32_id (x := 400 * r) (by omega) (by omega), jw32_id (x := 400 * r + i) (by omega) (by omega), jw32_id (x := i + 1) (by omega) (by omega), jix_in (by omega) (by omega), jix_in (by omega) (by omega), hg i]
    unfold mRk at hm
    by_cases c0 : jand (sg i) 15 = 0
    · rw [if_pos c0] at hm
      rw [if_pos c0]
      by_cases hlt : st.length < 64
      · rw [if_pos hlt] at hm
        obtain ⟨mem', e1, e2, e3, e4⟩ := s_M_push d (jshr (sg i) 4) mem st ht hs hlt
        rw [e1]
        exact go _ mem' (by simp only [List.length_cons]; omega) e2 e3 e4 hm
      · rw [if_neg hlt] at hm
        cases hm
    rw [if_neg c0] at hm
    rw [if_neg c0]
    by_cases c1 : jand (sg i) 15 = 1
    · rw [if_pos c1] at hm
      rw [if_pos c1]
      by_cases hlt : st.length < 64 ∧ 0 ≤ jshr (sg i) 4 ∧ jshr (sg i) 4 < 12
      · rw [if_pos hlt] at hm
        rw [jix_in hlt.2.1 hlt.2.2, hv _ hlt.2.1 hlt.2.2]
        obtain ⟨mem', e1, e2, e3, e4⟩ := s_M_push d (env (jshr (sg i) 4)) mem st ht hs hlt.1
        rw [e1]
        exact go _ mem' (by simp only [List.length_cons]; omega) e2 e3 e4 hm
      · rw [if_neg hlt] at hm
        cases hm
    rw [if_neg c1] at hm
    rw [if_neg c1]
    by_cases c2 : jand (sg i) 15 = 11
    · rw [if_pos c2] at hm
      rw [if_pos c2]
      match st, hl, ht, hs, hm with
      | a :: t, hl, ht, hs, hm =>
        dsimp only at hm
        rw [if_pos hl] at hm
        obtain ⟨mem1, e1, e2, e3, e4⟩ := s_M_pop d a mem t ht hs hl
        have hl2 : t.length + 1 ≤ 64 := hl
        obtain ⟨mem2, f1, f2, f3, f4⟩ := s_M_push d (jw64 (1 - a)) mem1 t e2 e3 (by omega)
        rw [e1]
        simp only [jbnd_s, jasJ_v]
        rw [f1]
        exact go (jw64 (1 - a) :: t) mem2 hl f2 f3 (uSame_tr e4 f4) hm
    rw [if_neg c2] at hm
    rw [if_neg c2]
    match st, hl, ht, hs, hm with
    | b :: a :: t, hl, ht, hs, hm =>
      have hl2 : t.length + 1 + 1 ≤ 64 := hl
      obtain ⟨mem1, e1, e2, e3, e4⟩ := s_M_pop d b mem (a :: t) ht hs hl
      obtain ⟨mem2, f1, f2, f3, f4⟩ := s_M_pop d a mem1 t e2 e3 (by simp only [List.length_cons]; omega)
      obtain ⟨mem3, g1, g2, g3, g4⟩ := s_M_push d (mOne (jand (sg i) 15) a b) mem2 t f2 f3 (by omega)
      rw [e1]
      simp only [jbnd_s, jasJ_v]
      rw [f1]
      simp only [jbnd_s, jasJ_v]
      rw [s_M_one]
      simp only [jbnd_s, jasJ_v]
      rw [g1]
      exact go _ mem3 (by simp only [List.length_cons]; omega) g2 g3 (uSame_tr (uSame_tr e4 f4) g4) hm
theorem s_M_reckons (d : Nat) (r b e : Int) (env : Int → Int) (mem : jMem) (hv : ∀ j, 0 ≤ j → j < 12 → jrJ mem 54 0 j = env j) (hr : 0 ≤ r ∧ r < 6) (hb : 0 ≤ b) (hbe : b ≤ e) (he : e ≤ 400) (v : Int) (hm : mRk (fun i => jrI mem 47 0 (400 * r + i)) env (e - b).toNat b [] = some v) : ∃ mem', M_reckons (d + 2) r b e mem = some (vJ v, mem') ∧ uSame 53 aTop mem mem' := by
  rw [q_M_reckons]
  obtain ⟨mem', h1, h2⟩ := s_M_reckons8 d r e (fun i => jrI mem 47 0 (400 * r + i)) env hr he v (e - b).toNat b [] (jwI mem 11 0 18 0) hb (by omega) (by decide) (jrI_ws _ _ _ _ _) trivial (fun i => by rw [jrI_wf (by decide)]) hv hm
  exact ⟨mem', h1, uSame_tr (uSame_I (uSame_rf 53 aTop mem) ⟨rfl, rfl⟩) h2⟩
theorem s_M_summedBy58 (d : Nat) (r x : Int) (env : Int → Int) (mem : jMem) (hv : ∀ j, 0 ≤ j → j < 12 → jrJ mem 54 0 j = env j) (hr : 0 ≤ r ∧ r < 6) (hx : 0 ≤ x ∧ x + 1 < 288) (h1 : 0 ≤ jrI mem 49 0 x) (h2 : jrI mem 49 0 x ≤ jrI mem 49 0 (x + 1)) (h3 : jrI mem 49 0 (x + 1) ≤ 400) (v : Int) (hm : mRk (fun i => jrI mem 47 0 (400 * r + i)) env (jrI mem 49 0 (x + 1) - jrI mem 49 0 x).toNat (jrI mem 49 0 x) [] = some v) : ∃ mem', M_summedBy_58 (d + 2) r x mem = some (vJ v, mem') ∧ uSame 53 aTop mem mem' := by
  rw [q_M_summedBy_58, jw32_id (x := x + 1) (by omega) (by omega), jix_in hx.1 (by omega), jix_in (by omega) (by omega)]
  obtain ⟨mem', e1, e2⟩ := s_M_reckons d r _ _ env mem hv hr h1 h2 h3 v hm
  rw [e1]
  exact ⟨mem', by simp only [jbnd_s, jasJ_v], e2⟩
theorem s_M_summedBy2 (d : Nat) (r : Int) (v : Int) (env : Int → Int) (hr : 0 ≤ r ∧ r < 6) : ∀ (k : Nat) (c : Int) (mem : jMem), (∀ j, 0 ≤ j → j < 12 → jrJ mem 54 0 j = env j) → 0 ≤ c → c + (k : Int) = jrI mem 50 0 r → jrI mem 50 0 r ≤ 12 → (∀ c, 0 ≤ c → c < jrI mem 50 0 r → 0 ≤ jrI mem 49 0 (48 * r + 4 * c) ∧ jrI mem 49 0 (48 * r + 4 * c) ≤ jrI mem 49 0 (48 * r + (4 * c + 1)) ∧ jrI mem 49 0 (48 * r + (4 * c + 1)) ≤ 400 ∧ (jrI mem 49 0 (48 * r + (4 * c + 2)) < 0 ∨ (jrI mem 49 0 (48 * r + (4 * c + 2)) ≤ jrI mem 49 0 (48 * r + (4 * c + 3)) ∧ jrI mem 49 0 (48 * r + (4 * c + 3)) ≤ 400))) → mSm (fun i => jrI mem 47 0 (400 * r + i)) (fun i => jrI mem 49 0 (48 * r + i)) env k c = some v → ∃ mem', M_summedBy_2 (d + 2) r c mem = some (vJ v, mem') ∧ uSame 53 aTop mem mem'
  | 0, c, mem, hv, h0, hc, h12, hcl, hm => by
    cases hm
    rw [q_M_summedBy_2, jix_in hr.1 (by omega), if_neg (by omega)]
    exact ⟨mem, rfl, uSame_rf 53 aTop mem⟩
  | k + 1, c, mem, hv, h0, hc, h12, hcl, hm => by
    obtain ⟨g1, g2, g3, g4⟩ := hcl c h0 (by omega)
    unfold mSm at hm
    rw [q_M_summedBy_2, jix_in hr.1 (by omega), if_pos (by omega), jw32_id (x := 48 * r) (by omega) (by omega), jw32_id (x := 4 * c) (by omega) (by omega), jw32_id (x := 48 * r + 4 * c) (by omega) (by omega), jw32_id (x := 48 * r + 4 * c + 2) (by omega) (by omega), jw32_id (x := 48 * r + 4 * c + 3) (by omega) (by omega), jw32_id (x := c + 1) (by omega) (by omega), jix_in (by omega) (by omega), jix_in (x := 48 * r + 4 * c + 2) (by omega) (by omega), jix_in (x := 48 * r + 4 * c + 3) (by omega) (by omega)]
    have a1 : 48 * r + 4 * c + 1 = 48 * r + (4 * c + 1) := by omega
    have a2 : 48 * r + 4 * c + 2 = 48 * r + (4 * c + 2) := by omega
    have a3 : 48 * r + 4 * c + 3 = 48 * r + (4 * c + 3) := by omega
    rw [a2, a3]
    by_cases hneg : jrI mem 49 0 (48 * r + (4 * c + 2)) < 0
    · rw [if_pos hneg] at hm
      rw [if_pos hneg]
      exact s_M_summedBy58 d r (48 * r + 4 * c) env mem hv hr (by omega) g1 (by rw [a1]; exact g2) (by rw [a1]; exact g3) v (by rw [a1]; exact hm)
    · rw [if_neg hneg] at hm
      rw [if_neg hneg]
      have g5 : jrI mem 49 0 (48 * r + (4 * c + 2)) ≤ jrI mem 49 0 (48 * r + (4 * c + 3)) ∧ jrI mem 49 0 (48 * r + (4 * c + 3)) ≤ 400 := by
        rcases g4 with g4 | g4
        · exact absurd g4 hneg
        · exact g4
      cases hv1 : mRk (fun i => jrI mem 47 0 (400 * r + i)) env (jrI mem 49 0 (48 * r + (4 * c + 3)) - jrI mem 49 0 (48 * r + (4 * c + 2))).toNat (jrI mem 49 0 (48 * r + (4 * c + 2))) [] with
      | none => rw [hv1] at hm; cases hm
      | some v1 =>
        rw [hv1] at hm
        dsimp only at hm
        obtain ⟨mem1, e1, e2⟩ := s_M_reckons d r _ _ env mem hv hr (by omega) g5.1 g5.2 v1 hv1
        have q47 : jrI mem1 47 0 = jrI mem 47 0 := funext fun k => e2.1 47 0 k (by unfold aTop; omega)
        have q49 : jrI mem1 49 0 = jrI mem 49 0 := funext fun k => e2.1 49 0 k (by unfold aTop; omega)
        have q50 : jrI mem1 50 0 = jrI mem 50 0 := funext fun k => e2.1 50 0 k (by unfold aTop; omega)
        have q54 : jrJ mem1 54 = jrJ mem 54 := e2.2.1 54 (by decide)
        rw [e1]
        simp only [jbnd_s, jasJ_v, jlcmp_eq]
        by_cases hone : v1 = 1
        · rw [if_pos hone] at hm
          rw [if_pos hone]
          obtain ⟨mem2, f1, f2⟩ := s_M_summedBy58 d r (48 * r + 4 * c) env mem1 (by rw [q54]; exact hv) hr (by omega) (by rw [q49]; exact g1) (by rw [q49, a1]; exact g2) (by rw [q49, a1]; exact g3) v (by rw [q47, q49, a1]; exact hm)
          exact ⟨mem2, f1, uSame_tr e2 f2⟩
        · rw [if_neg hone] at hm
          rw [if_neg hone]
          obtain ⟨mem2, f1, f2⟩ := s_M_summedBy2 d r v env hr k (c + 1) mem1 (by rw [q54]; exact hv) (by omega) (by rw [q50]; omega) (by rw [q50]; exact h12) (by rw [q49, q50]; exact hcl) (by rw [q47, q49]; exact hm)
          exact ⟨mem2, f1, uSame_tr e2 f2⟩
/-- the reference's answer of rule r, its words as they lie -/
theorem s_M_summedBy (d : Nat) (r : Int) (env : Int → Int) (mem : jMem) (hr : 0 ≤ r ∧ r < 6) (hc : cRu mem r) (hw : ∀ j, jokI (env j)) (hv : ∀ j, 0 ≤ j → j < 12 → jrJ mem 54 0 j = env j) : ∃ mem', M_summedBy (d + 3) r mem = some (vJ (cRl mem r env), mem') ∧ uSame 53 aTop mem mem' := by
  obtain ⟨c1, c2, c3, c4, c5, c6, c7⟩ := hc
  have h := c6 env hw
  unfold mRl at h
  rw [q_M_summedBy]
  exact s_M_summedBy2 d r _ env hr _ 0 mem hv (Int.le_refl 0) (by omega) c3.2 c4 h
/-! The class -/
def aNo (_ : Nat) (_ _ : Int) : Prop := False
theorem s_Sm_worth4 (d : Nat) (s r : Int) (c g env : Int → Int) (n : Int) (hn : n ≤ 400) (I : Nat → Int → Int → Int) (S : Nat → Int → Nat → Option Int) (hS : S 7 s 6 = some r) (hI : I 5 r 2 = n) (hc : ∀ i, I 31 r i = c i) (hg : ∀ i, I 32 r i = g i) (hw : ∀ mem : jMem, mem.1 = I → mem.2.2 = S → ∀ i, 0 ≤ i → i < n → c i = 7 → Sm_wordValue (d + 2) s (g i) mem = some (vI (env (g i)), mem)) : ∀ (k : Nat) (i : Int) (st : List Int) (mem : jMem), 0 ≤ i → i + (k : Int) = n → st.length ≤ 64 → uSt mem 33 s st → mem.1 = I → mem.2.2 = S → ∃ mem', Sm_worthOfPool_4 (d + 2) s (st.length : Int) i mem = some (vJ (cEv c g env k i st), mem') ∧ uSame 33 aNo mem mem'
  | 0, i, st, mem, h0, hi, hl, hs, h1, h2 => by
    have e1 : jrS mem 7 s 6 = some r := by rw [← hS, ← h2]; rfl
    have e2 : jrI mem 5 r 2 = n := by rw [← hI, ← h1]; rfl
    rw [q_Sm_worthOfPool_4, e1, jsm_s, e2, if_neg (by omega)]
    exact ⟨mem, rfl, uSame_rf 33 aNo mem⟩
  | k + 1, i, st, mem, h0, hi, hl, hs, h1, h2 => by
    have e1 : jrS mem 7 s 6 = some r := by rw [← hS, ← h2]; rfl
    have e2 : jrI mem 5 r 2 = n := by rw [← hI, ← h1]; rfl
    have e3 : jrI mem 31 r i = c i := by rw [← hc, ← h1]; rfl
    have e4 : jrI mem 32 r i = g i := by rw [← hg, ← h1]; rfl
    have go : ∀ (st' : List Int) (mem' : jMem) (n' : Int), n' = (st'.length : Int) → st'.length ≤ 64 → uSt mem' 33 s st' → mem'.1 = I → mem'.2.2 = S → uSame 33 aNo mem mem' → ∃ mem2, Sm_worthOfPool_4 (d + 2) s n' (i + 1) mem' = some (vJ (cEv c g env k (i + 1) st'), mem2) ∧ uSame 33 aNo mem mem2 := fun st' mem' n' en a b c1 d1 f1 => by
      subst en
      obtain ⟨mem2, w1, w2⟩ := s_Sm_worth4 d s r c g env n hn I S hS hI hc hg hw k (i + 1) st' mem' (by omega) (by omega) a b c1 d1
      exact ⟨mem2, w1, uSame_tr f1 w2⟩
    rw [q_Sm_worthOfPool_4, e1]
    simp only [jsm_s]
    rw [e2, if_pos (by omega), jix_in h0 (by omega), e3, jw32_id (x := i + 1) (by omega) (by omega)]
    unfold cEv
    by_cases k6 : c i = 6 ∨ c i = 7
    · rw [if_pos k6]
      have hgo : Sm_worthOfPool_37 (d + 2) s (st.length : Int) i (c i) mem = (if c i = 6 then Sm_worthOfPool_37 (d + 2) s (st.length : Int) i (c i) mem else if c i = 7 then Sm_worthOfPool_37 (d + 2) s (st.length : Int) i (c i) mem else none) := by
        rcases k6 with k6 | k6
        · rw [if_pos k6]
        · rw [if_neg (by omega), if_pos k6]
      suffices hsuf : ∃ mem', Sm_worthOfPool_37 (d + 2) s (st.length : Int) i (c i) mem = some (vJ (cEv c g env k (i + 1) (if st.length < 64 then (if c i = 6 then g i else env (g i)) :: st else st)), mem') ∧ uSame 33 aNo mem mem' by
        rcases k6 with k6 | k6
        · rw [if_pos k6]
          exact hsuf
        · rw [if_neg (by omega), if_pos k6]
          exact hsuf
      rw [q_Sm_worthOfPool_37, e1]
      simp only [jsm_s]
      by_cases hlt : st.length < 64
      · rw [if_pos hlt, if_pos (by omega), jw32_id (x := (st.length : Int) + 1) (by omega) (by omega), jw32_id (x := i + 1) (by omega) (by omega)]
        have hpush : ∀ v, ∃ mem2, Sm_worthOfPool_4 (d + 2) s ((st.length : Int) + 1) (i + 1) (jwJ mem 33 s (st.length : Int) v) = some (vJ (cEv c g env k (i + 1) (v :: st)), mem2) ∧ uSame 33 aNo mem mem2 := fun v => go (v :: st) _ _ (by simp only [List.length_cons]; omega) (by simp only [List.length_cons]; omega) (uSt_push rfl hs) h1 h2 (uSame_J (uSame_rf 33 aNo mem))
        by_cases h6 : c i = 6
        · rw [if_pos h6, if_pos h6, jix_in h0 (by omega), jix_in (by omega) (by omega), e4]
          exact hpush (g i)
        · have h7 : c i = 7 := by omega
          rw [if_neg h6, if_neg h6, jix_in h0 (by omega), e4, hw mem h1 h2 i h0 (by omega) h7]
          simp only [jbnd_s, jasI_v]
          rw [jix_in (by omega) (by omega)]
          exact hpush (env (g i))
      · rw [if_neg hlt, if_neg (by omega), jw32_id (x := i + 1) (by omega) (by omega)]
        exact go st mem _ rfl hl hs h1 h2 (uSame_rf 33 aNo mem)
    rw [if_neg k6, if_neg (by omega), if_neg (by omega)]
    by_cases k8 : c i = 8
    · rw [if_pos k8, if_pos k8]
      match st, hl, hs with
      | [], hl, hs =>
        rw [if_pos (by decide)]
        exact ⟨mem, rfl, uSame_rf 33 aNo mem⟩
      | a :: t, hl, hs =>
        have hl2 : t.length + 1 ≤ 64 := hl
        have et : (((a :: t).length : Nat) : Int) - 1 = (t.length : Int) := by simp only [List.length_cons]; omega
        rw [if_neg (by simp only [List.length_cons]; omega), et, jw32_id (by omega) (by omega), jix_in (by omega) (by omega), hs.1]
        exact ⟨mem, rfl, uSame_rf 33 aNo mem⟩
    rw [if_neg k8, if_neg k8]
    by_cases k3 : c i = 3
    · rw [if_pos k3, if_pos k3]
      match st, hl, hs with
      | [], hl, hs =>
        rw [if_pos (by decide)]
        exact go [] mem _ rfl hl hs h1 h2 (uSame_rf 33 aNo mem)
      | a :: t, hl, hs =>
        have hl2 : t.length + 1 ≤ 64 := hl
        have et : (((a :: t).length : Nat) : Int) - 1 = (t.length : Int) := by simp only [List.length_cons]; omega
        rw [if_neg (by simp only [List.length_cons]; omega), et, jw32_id (by omega) (by omega), jix_in (by omega) (by omega), jix_in (by omega) (by omega), hs.1]
        exact go (jw64 (1 - a) :: t) _ _ rfl hl (uSt_push rfl hs.2) h1 h2 (uSame_J (uSame_rf 33 aNo mem))
    rw [if_neg k3, if_neg k3]
    match st, hl, hs with
    | [], hl, hs =>
      rw [if_pos (by decide)]
      exact go [] mem _ rfl hl hs h1 h2 (uSame_rf 33 aNo mem)
    | [a], hl, hs =>
      rw [if_pos (by simp only [List.length_cons, List.length_nil]; omega)]
      exact go [a] mem _ rfl hl hs h1 h2 (uSame_rf 33 aNo mem)
    | b :: a :: t, hl, hs =>
      have hl2 : t.length + 1 + 1 ≤ 64 := hl
      have et1 : (((b :: a :: t).length : Nat) : Int) - 1 = (((a :: t).length : Nat) : Int) := by simp only [List.length_cons]; omega
      have et2 : (((b :: a :: t).length : Nat) : Int) - 2 = (t.length : Int) := by simp only [List.length_cons]; omega
      have et3 : (((b :: a :: t).length : Nat) : Int) + (-2) = (t.length : Int) := by simp only [List.length_cons]; omega
      have et4 : (((b :: a :: t).length : Nat) : Int) + (-1) = (((a :: t).length : Nat) : Int) := by simp only [List.length_cons]; omega
      have el : (((a :: t).length : Nat) : Int) = (t.length : Int) + 1 := by simp only [List.length_cons]; omega
      rw [if_neg (by simp only [List.length_cons]; omega), et1, et2, et3, et4, jw32_id (x := (((a :: t).length : Nat) : Int)) (by omega) (by omega), jw32_id (x := (t.length : Int)) (by omega) (by omega), jix_in (x := (((a :: t).length : Nat) : Int)) (by omega) (by omega), jix_in (x := (t.length : Int)) (by omega) (by omega)]
      simp only [jix_in (n := 64) (x := (((a :: t).length : Nat) : Int)) (by omega) (by omega), jix_in (n := 64) (x := (t.length : Int)) (by omega) (by omega)]
      rw [hs.1, hs.2.1]
      by_cases k9 : c i = 9
      · rw [if_pos k9, if_pos k9]
        simp only [jlcmp_eq]
        by_cases hb : b = 0
        · rw [if_pos hb, if_pos hb]
          exact go t mem _ rfl (by omega) hs.2.2 h1 h2 (uSame_rf 33 aNo mem)
        · rw [if_neg hb, if_neg hb]
          exact ⟨mem, rfl, uSame_rf 33 aNo mem⟩
      · rw [if_neg k9, if_neg k9, s_Sm_join]
        simp only [jbnd_s, jasJ_v]
        exact go (cJoin (c i) a b :: t) _ _ rfl (by simp only [List.length_cons]; omega) (uSt_push rfl hs.2.2) h1 h2 (uSame_J (uSame_rf 33 aNo mem))
/-- what the class answers of rule r, its words as they are worth -/
theorem s_Sm_worth (d : Nat) (s r : Int) (env : Int → Int) (mem : jMem) (hc : cRu mem r) (hS : jrS mem 7 s 6 = some r) (hw : ∀ m : jMem, m.1 = mem.1 → m.2.2 = mem.2.2 → ∀ j, 0 ≤ j → j < 12 → Sm_wordValue (d + 2) s j m = some (vI (env j), m)) : ∃ mem', Sm_worthOfPool (d + 3) s mem = some (vJ (cRl mem r env), mem') ∧ uSame 33 aNo mem mem' := by
  obtain ⟨c1, c2, c3, c4, c5, c6, c7⟩ := hc
  rw [q_Sm_worthOfPool]
  exact s_Sm_worth4 d s r (jrI mem 31 r) (jrI mem 32 r) env (jrI mem 5 r 2) c1.2 mem.1 mem.2.2 hS rfl (fun _ => rfl) (fun _ => rfl) (fun m a b i i0 i1 i7 => by
    obtain ⟨w1, w2⟩ := c5 i i0 i1 i7
    exact hw m a b _ w1 w2) _ 0 [] mem (Int.le_refl 0) (by omega) (by decide) trivial rfl rfl
