/-! What both read: traps, sets, lights -/
theorem jokI_and (x y : Int) : jokI (jand x y) := ⟨by unfold jand; exact Int32.le_toInt _, by unfold jand; exact Int32.toInt_lt _⟩
theorem jokI_or (x y : Int) : jokI (jor x y) := ⟨by unfold jor; exact Int32.le_toInt _, by unfold jor; exact Int32.toInt_lt _⟩
theorem jor_0 {x : Int} (h : jokI x) : jor x 0 = x := by
  unfold jor
  rw [show Int32.ofInt 0 = 0 from rfl, Int32.or_zero]
  exact jtI h
theorem puG_s (p : Int → Prop) [DecidablePred p] (k : Nat) (i : Int) : puG p (k + 1) i = if p i then i else puG p k (i + 1) := rfl
theorem s_M_memoryIn (d : Nat) (t : Int) (mem : jMem) (h5 : 0 ≤ jrI mem 55 0 5 ∧ jrI mem 55 0 5 ≤ 6) (ht : 0 ≤ t ∧ t ≤ 1000) : M_memoryIn (d + 1) t mem = some (vI (tIn (jrI mem 55 0) t), mem) := by
  rw [q_M_memoryIn]
  unfold tIn
  have key : ∀ (k : Nat) (i : Int), 0 ≤ i → i + (k : Int) = jrI mem 55 0 5 → M_memoryIn_2 d t i mem = some (vI (puG (fun m => jrI mem 55 0 (11 + m) = 20 + t) k i), mem) := by
    intro k
    induction k with
    | zero =>
      intro i h0 hn
      rw [q_M_memoryIn_2, if_neg (by omega)]
      rfl
    | succ k ih =>
      intro i h0 hn
      rw [q_M_memoryIn_2, if_pos (by omega), jw32_id (x := 11 + i) (by omega) (by omega), jix_in (by omega) (by omega), jw32_id (x := 20 + t) (by omega) (by omega), jw32_id (x := i + 1) (by omega) (by omega), ih (i + 1) (by omega) (by omega)]
      rw [puG_s]
      split <;> rfl
  exact key _ 0 (Int.le_refl 0) (by omega)
/-- a set of memories, as bits -/
def tSet (p : Int → Prop) [DecidablePred p] (n : Int) : Int := puF (fun m a => if p m then jor a (jshl 1 m) else a) n.toNat 0 0
theorem tSet_cong {p q : Int → Prop} [DecidablePred p] [DecidablePred q] {n : Int} (hn : 0 ≤ n) (h : ∀ m, 0 ≤ m → m < n → (p m ↔ q m)) : tSet p n = tSet q n := by
  unfold tSet
  refine puF_cong (n := n) (fun i a h0 h1 => ?_) _ 0 0 (Int.le_refl 0) (by omega)
  have hi := h i h0 h1
  by_cases hp : p i
  · rw [if_pos hp, if_pos (hi.mp hp)]
  · rw [if_neg hp, if_neg (fun w => hp (hi.mpr w))]
theorem s_M_onesThat (d : Nat) (a b : Int) (mem : jMem) (h5 : 0 ≤ jrI mem 55 0 5 ∧ jrI mem 55 0 5 ≤ 6) : M_onesThat (d + 2) a b mem = some (vI (tSet (fun m => a ≤ jrI mem 55 0 (11 + m) ∧ jrI mem 55 0 (11 + m) ≤ b) (jrI mem 55 0 5)), mem) := by
  rw [q_M_onesThat]
  unfold tSet
  obtain ⟨h1, h2⟩ := puF_run0 (P := fun _ s => jokI s) (L := fun i s => M_onesThat_5 (d + 1) a b s i mem) (f := fun m s => if a ≤ jrI mem 55 0 (11 + m) ∧ jrI mem 55 0 (11 + m) ≤ b then jor s (jshl 1 m) else s) (n := jrI mem 55 0 5) h5.1 (fun i s g0 g1 gs => by
    rw [q_M_onesThat_5, if_pos g1, jw32_id (x := 11 + i) (by omega) (by omega), jix_in (by omega) (by omega), s_M_in, jw32_id (x := i + 1) (by omega) (by omega)]
    simp only [jbnd_s, jasI_v]
    by_cases hp : a ≤ jrI mem 55 0 (11 + i) ∧ jrI mem 55 0 (11 + i) ≤ b
    · simp only [jb_1 hp, if_pos hp]
      rw [if_neg (by decide)]
      exact ⟨rfl, jokI_or _ _⟩
    · rw [jb_n hp, if_pos rfl, if_neg hp, jor_0 gs]
      exact ⟨rfl, gs⟩) 0 ⟨by decide, by decide⟩
  rw [h1, q_M_onesThat_5, if_neg (by omega)]
theorem s_Wa_bitsAt (d : Nat) (w v n : Int) (mem : jMem) (h5 : 0 ≤ n ∧ n ≤ 6) : Wa_bitsAt (d + 1) w v n mem = some (vI (tSet (fun m => jrI mem 38 w m = v) n), mem) := by
  rw [q_Wa_bitsAt]
  unfold tSet
  obtain ⟨h1, -⟩ := puF_run0 (P := fun _ _ => True) (L := fun i s => Wa_bitsAt_5 d w v n s i mem) (f := fun m s => if jrI mem 38 w m = v then jor s (jshl 1 m) else s) (n := n) h5.1 (fun i s g0 g1 _ => by
    rw [q_Wa_bitsAt_5, if_pos g1, if_pos (by omega), jix_in g0 (by omega), jw32_id (x := i + 1) (by omega) (by omega)]
    split <;> exact ⟨rfl, trivial⟩) 0 trivial
  rw [h1, q_Wa_bitsAt_5, if_neg (by omega)]
theorem s_Sc_bitsAt (d : Nat) (q v : Int) (mem : jMem) (h5 : 0 ≤ jrI mem 4 q 5 ∧ jrI mem 4 q 5 ≤ 6) : Sc_bitsAt (d + 2) q v mem = some (vI (tSet (fun m => jrI mem 38 q m = v) (jrI mem 4 q 5)), mem) := by
  rw [q_Sc_bitsAt, s_Wa_bitsAt d q v _ mem h5]
  rfl
theorem s_Sc_freeBits (d : Nat) (q : Int) (mem : jMem) (h5 : 0 ≤ jrI mem 4 q 5 ∧ jrI mem 4 q 5 ≤ 6) : Sc_freeBits (d + 3) q mem = some (vI (tSet (fun m => 0 ≤ jrI mem 38 q m ∧ jrI mem 38 q m < 12) (jrI mem 4 q 5)), mem) := by
  rw [q_Sc_freeBits]
  unfold tSet
  obtain ⟨h1, -⟩ := puF_run0 (P := fun _ _ => True) (L := fun i s => Sc_freeBits_4 (d + 2) q s i mem) (f := fun m s => if 0 ≤ jrI mem 38 q m ∧ jrI mem 38 q m < 12 then jor s (jshl 1 m) else s) (n := jrI mem 4 q 5) h5.1 (fun i s g0 g1 _ => by
    rw [q_Sc_freeBits_4, if_pos g1, jix_in g0 (by omega), s_E_isFreePlace, jw32_id (x := i + 1) (by omega) (by omega)]
    simp only [jbnd_s, jasI_v]
    by_cases hp : 0 ≤ jrI mem 38 q i ∧ jrI mem 38 q i < 12
    · simp only [jb_1 hp, if_pos hp]
      rw [if_neg (by decide)]
      exact ⟨rfl, trivial⟩
    · rw [jb_n hp, if_pos rfl, if_neg hp]
      exact ⟨rfl, trivial⟩) 0 trivial
  rw [h1, q_Sc_freeBits_4, if_neg (by omega)]
/-- how many nights come round -/
def tRo (T : Int → Int) : Int := if T 0 = 1 then (if T 3 = 0 then 1 else T 3) else 0
theorem s_M_rounds (d : Nat) (mem : jMem) : M_rounds (d + 2) mem = some (vI (tRo (jrI mem 55 0)), mem) := by
  rw [q_M_rounds, s_M_isRiver]
  simp only [jbnd_s, jasI_v, tRo]
  by_cases h : jrI mem 55 0 0 = 1
  · rw [jb_1 h, if_neg (by decide), if_pos h]
    split <;> rfl
  · rw [jb_n h, if_pos rfl, if_neg h]
theorem s_Ri_round (d : Nat) (r : Int) (T : Int → Int) (mem : jMem) (h : cRv mem r T) (hT : tRv T) : Ri_round (d + 2) r mem = some (vI (tRo T), mem) := by
  obtain ⟨t0, t3, -⟩ := hT
  rw [q_Ri_round, s_J_max, h.1, h.2.2.2.1]
  simp only [jbnd_s, jasI_v, tRo]
  rcases t0 with t0 | t0
  · rw [if_pos t0.1, if_neg (by omega)]
  · rw [if_neg (by omega), if_pos t0.1]
    by_cases h3 : T 3 = 0
    · rw [if_neg (by omega), if_pos h3]
    · rw [if_neg h3]
      by_cases h4 : 1 < T 3
      · rw [if_pos h4]
      · rw [if_neg h4, show T 3 = 1 by omega]
/-- the light of a night -/
def tLi (T : Int → Int) (n : Int) : Int := if T 3 = 0 then 0 else T (55 + n.tmod (T 3))
theorem tmod_in {n k : Int} (h0 : 0 ≤ n) (h1 : 0 < k) : 0 ≤ n.tmod k ∧ n.tmod k < k := ⟨Int.tmod_nonneg k h0, Int.tmod_lt_of_pos n h1⟩
theorem s_M_lightOn (d : Nat) (n : Int) (mem : jMem) (hT : tRv (jrI mem 55 0)) (h1 : jrI mem 55 0 0 = 1) (hn : 0 ≤ n) : M_lightOn (d + 3) n mem = some (vI (tLi (jrI mem 55 0) n), mem) := by
  obtain ⟨t0, t3, t4, t5, t6, t55, -⟩ := hT
  rw [q_M_lightOn, s_M_rounds]
  simp only [jbnd_s, jasI_v, tRo, tLi]
  rw [if_pos h1]
  by_cases h3 : jrI mem 55 0 3 = 0
  · rw [if_pos h3, if_pos h3, jnz_in (by decide), show n.tmod 1 = 0 from Int.tmod_one n, jw32_id (by decide) (by decide), jix_in (by decide) (by decide)]
    rw [show (55 : Int) + 0 = 55 from rfl, t55 h3]
  · obtain ⟨a, b⟩ := tmod_in hn (show 0 < jrI mem 55 0 3 by omega)
    rw [if_neg h3, if_neg h3, jnz_in h3, jw32_id (by omega) (by omega), jix_in (by omega) (by omega)]
theorem s_Ri_lightOf (d : Nat) (r n : Int) (T : Int → Int) (mem : jMem) (h : cRv mem r T) (hT : tRv T) (hn : 0 ≤ n) : Ri_lightOf (d + 1) r n mem = some (vI (tLi T n), mem) := by
  obtain ⟨t0, t3, -⟩ := hT
  obtain ⟨-, -, -, r3, -, -, -, -, -, -, rl⟩ := h
  rw [q_Ri_lightOf, r3]
  unfold tLi
  by_cases h3 : T 3 = 0
  · rw [if_neg (by omega), if_pos h3]
  · obtain ⟨a, b⟩ := tmod_in hn (show 0 < T 3 by omega)
    rw [if_pos (by omega), if_neg (by omega), jnz_in h3, jix_in (by omega) (by omega), if_neg h3, rl _ a b]
theorem s_M_poolOf (d : Nat) (t : Int) (mem : jMem) (ht : 0 ≤ t ∧ t < 4) : M_poolOf (d + 1) t mem = some (vI (jrI mem 55 0 (17 + 2 * t)), mem) := by
  rw [q_M_poolOf, jw32_id (x := 2 * t) (by omega) (by omega), jw32_id (by omega) (by omega), jix_in (by omega) (by omega)]
theorem s_M_baitOf (d : Nat) (t : Int) (mem : jMem) (ht : 0 ≤ t ∧ t < 4) : M_baitOf (d + 1) t mem = some (vI (jrI mem 55 0 (18 + 2 * t)), mem) := by
  rw [q_M_baitOf, jw32_id (x := 2 * t) (by omega) (by omega), jw32_id (x := 17 + 2 * t) (by omega) (by omega), jw32_id (by omega) (by omega), jix_in (by omega) (by omega), show 17 + 2 * t + 1 = 18 + 2 * t by omega]
theorem p_trap (x y : Int) : pCase (E_trap 60 x y) (M_trap 60 x y) := pCase_ro fun mem hi hm => by
  obtain ⟨-, -, ⟨⟨⟨t0, t3, t4, t5, t6, t55, tm, tt, tp, tl⟩, tw, tn⟩, -, ⟨r0, r1, r2, r3, r4, r5, r6, rm, rt, rp, rl⟩, ⟨w0, wm, wt⟩, -⟩, -⟩ := id hi
  rw [q_E_trap 59, q_M_trap 59, s_E_isTrap 57 x mem (by omega) (by omega), s_M_isTrap, r6]
  simp only [jbnd_s, jasI_v]
  by_cases hx : 0 ≤ x ∧ x < jrI mem 55 0 6
  · obtain ⟨m1, m2, m3, m4⟩ := rt x hx.1 hx.2
    obtain ⟨n1, n2, n3, n4⟩ := wt x hx.1 hx.2
    rw [s_M_poolOf 58 x mem (by omega), s_M_baitOf 58 x mem (by omega), s_M_memoryIn 58 x mem t5 (by omega), jw32_id (x := 25 + x) (by omega) (by omega), jw32_id (x := 29 + x) (by omega) (by omega)]
    simp only [jbnd_s, jasI_v, jb_1 hx, jix_in (n := 4) (x := x) hx.1 (by omega), jix_in (n := 112) (x := 25 + x) (by omega) (by omega), jix_in (n := 112) (x := 29 + x) (by omega) (by omega), n1, n3, n4, m2, m4]
    by_cases y0 : y = 0
    · simp [y0]
    by_cases y1 : y = 1
    · simp [y1]
    by_cases y2 : y = 2
    · simp [y2]
    by_cases y3 : y = 3
    · simp [y3]
    by_cases y4 : y = 4
    · simp [y4]
    · simp [y0, y1, y2, y3, y4]
  · simp [jb_n hx]
theorem p_person (x : Int) : pCase (E_person 60 x) (M_person 60 x) := pCase_ro fun mem hi hm => by
  obtain ⟨-, -, ⟨⟨⟨t0, t3, t4, t5, t6, t55, tm, tt, tp, tl⟩, tw, tn⟩, -, ⟨r0, r1, r2, r3, r4, r5, r6, rm, rt, rp, rl⟩, ⟨w0, wm, wt⟩, -⟩, -⟩ := id hi
  rw [q_E_person 59, q_M_person 59, s_E_isPerson 57 x mem (by omega) (by omega), s_M_isPerson, r4]
  simp only [jbnd_s, jasI_v]
  rw [s_M_onesThat 57 _ _ mem t5, s_Sc_bitsAt 57 0 _ mem (by omega), r5]
  simp only [jbnd_s, jasI_v]
  by_cases hx : 0 ≤ x ∧ x < jrI mem 55 0 4
  · rw [tSet_cong (p := fun m => jrI mem 38 0 m = jw32 (30 + x)) (q := fun m => jw32 (30 + x) ≤ jrI mem 55 0 (11 + m) ∧ jrI mem 55 0 (11 + m) ≤ jw32 (30 + x)) t5.1 (fun m a b => by rw [(wm m a b).1]; omega)]
    simp [jb_1 hx]
  · simp [jb_n hx]
theorem p_moon (x : Int) : pCase (E_moon 60 x) (M_moon 60 x) := pCase_ro fun mem hi hm => by
  obtain ⟨-, -, ⟨⟨tr, tw, tn⟩, -, cr, -⟩, -⟩ := id hi
  obtain ⟨t0, t3, t4, t5, t6, t55, tm, tt, tp, tl⟩ := id tr
  have hro : 0 ≤ tRo (jrI mem 55 0) ∧ tRo (jrI mem 55 0) ≤ 12 := by
    unfold tRo
    split
    · split <;> omega
    · omega
  rw [q_E_moon 59, q_M_moon 59, s_Ri_round 57 0 _ mem cr tr, s_M_rounds 57]
  simp only [jbnd_s, jasI_v, s_E_within]
  rw [jw32_id (x := tRo (jrI mem 55 0) - 1) (by omega) (by omega)]
  by_cases hx : 0 ≤ x ∧ x < tRo (jrI mem 55 0)
  · rw [s_Ri_lightOf 58 0 x _ mem cr tr hx.1, jw32_id (x := 55 + x) (by omega) (by omega), jix_in (x := 55 + x) (by omega) (by omega)]
    simp only [jbnd_s, jasI_v, jb_1 (p := 0 ≤ x ∧ x ≤ tRo (jrI mem 55 0) - 1) (by omega)]
    rw [if_neg (by decide), if_neg (by omega), if_pos hx.2]
    refine ⟨_, rfl, ?_⟩
    unfold tLi
    unfold tRo at hx
    by_cases h3 : jrI mem 55 0 3 = 0
    · rw [if_pos h3]
      have : x = 0 := by
        have h2 := hx.2
        split at h2
        · omega
        · omega
      rw [this, show (55 : Int) + 0 = 55 from rfl, t55 h3]
    · rw [if_neg h3]
      have h2 : x < jrI mem 55 0 3 := by
        have h2 := hx.2
        split at h2
        · exact h2
        · omega
      rw [Int.tmod_eq_of_lt hx.1 h2]
  · simp only [jb_n (p := 0 ≤ x ∧ x ≤ tRo (jrI mem 55 0) - 1) (by omega)]
    rw [if_pos trivial]
    refine ⟨_, rfl, ?_⟩
    by_cases h0 : x < 0
    · rw [if_pos h0]
    · rw [if_neg h0, if_neg (by omega)]
