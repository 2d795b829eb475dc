/-! Traps that are full; what a night catches -/
theorem puG_ex (p : Int → Prop) [DecidablePred p] (k : Nat) : puG p k 0 ≠ -1 ↔ ∃ m, 0 ≤ m ∧ m < (k : Int) ∧ p m := by
  rcases puG_spec p k 0 (Int.le_refl 0) with ⟨h1, h2⟩ | ⟨h1, h2, h3, h4⟩
  · exact ⟨fun w => absurd h1 w, fun ⟨m, a, b, c⟩ => absurd c (h2 m a (by omega))⟩
  · exact ⟨fun _ => ⟨_, h1, by omega, h3⟩, fun _ => by omega⟩
theorem tCnt_none {p : Int → Prop} [DecidablePred p] (h : ∀ t, ¬ p t) : ∀ k : Nat, tCnt p (k : Int) = 0 := by
  intro k
  induction k with
  | zero => rfl
  | succ k ih => rw [show ((k + 1 : Nat) : Int) = (k : Int) + 1 by omega, tCnt_s p (by omega), if_neg (h _), ih]
theorem tCnt_ins {p q : Int → Prop} [DecidablePred p] [DecidablePred q] {n t0 : Int} (h : ∀ t, 0 ≤ t → t < n → (q t ↔ p t ∨ t = t0)) (h0 : ¬ p t0) (h1 : 0 ≤ t0) (h2 : t0 < n) : tCnt q n = tCnt p n + 1 := by
  have key : ∀ k : Nat, (k : Int) ≤ n → tCnt q (k : Int) = tCnt p (k : Int) + if t0 < (k : Int) then 1 else 0 := by
    intro k
    induction k with
    | zero => intro _; rw [if_neg (by omega)]; rfl
    | succ k ih =>
      intro hk
      have e := ih (by omega)
      have hq := h (k : Int) (by omega) (by omega)
      rw [show ((k + 1 : Nat) : Int) = (k : Int) + 1 by omega, tCnt_s q (by omega), tCnt_s p (by omega), e]
      by_cases hp : p (k : Int)
      · rw [if_pos (hq.mpr (Or.inl hp)), if_pos hp]
        by_cases ht : (k : Int) = t0
        · rw [ht] at hp; exact absurd hp h0
        · by_cases h9 : t0 < (k : Int)
          · rw [if_pos h9, if_pos (by omega)]
          · rw [if_neg h9, if_neg (by omega)]; omega
      · rw [if_neg hp]
        by_cases ht : (k : Int) = t0
        · rw [if_pos (hq.mpr (Or.inr ht)), if_neg (by omega), if_pos (by omega)]; omega
        · rw [if_neg (fun w => (hq.mp w).elim hp ht)]
          by_cases h9 : t0 < (k : Int)
          · rw [if_pos h9, if_pos (by omega)]
          · rw [if_neg h9, if_neg (by omega)]
  obtain ⟨k, rfl⟩ := Int.eq_ofNat_of_zero_le (show 0 ≤ n by omega)
  rw [key k (Int.le_refl _), if_pos h2]
/-- how many traps are full -/
def tFul (T : Int → Int) : Int := tCnt (fun t => tIn T t ≠ -1) (T 6)
theorem tFul_m {T : Int → Int} (hR : tRv T) (hW : tWv T) : tCnt (fun m => 20 ≤ T (11 + m) ∧ T (11 + m) ≤ 23) (T 5) = tFul T := by
  have t5 := hR.2.2.2.1
  have t6 := hR.2.2.2.2.1
  have t1 : T 1 ≤ 12 := by have := hR.1; omega
  obtain ⟨w1, w2, w3, w4⟩ := hW
  have key : ∀ k : Nat, (k : Int) ≤ T 5 → tCnt (fun m => 20 ≤ T (11 + m) ∧ T (11 + m) ≤ 23) (k : Int) = tCnt (fun t => puG (fun m => T (11 + m) = 20 + t) k 0 ≠ -1) (T 6) := by
    intro k
    induction k with
    | zero =>
      intro _
      obtain ⟨j, hj⟩ := Int.eq_ofNat_of_zero_le t6.1
      rw [hj, tCnt_none (p := fun t => puG (fun m => T (11 + m) = 20 + t) 0 0 ≠ -1) (fun t w => w rfl)]
      rfl
    | succ k ih =>
      intro hk
      rw [show ((k + 1 : Nat) : Int) = (k : Int) + 1 by omega, tCnt_s _ (by omega), ih (by omega)]
      have hm := w2 (k : Int) (by omega) (by omega)
      have hex : ∀ t, puG (fun m => T (11 + m) = 20 + t) (k + 1) 0 ≠ -1 ↔ puG (fun m => T (11 + m) = 20 + t) k 0 ≠ -1 ∨ T (11 + (k : Int)) = 20 + t := fun t => by
        rw [puG_ex, puG_ex]
        constructor
        · rintro ⟨m, a, b, c⟩
          by_cases e : m = (k : Int)
          · rw [e] at c; exact Or.inr c
          · exact Or.inl ⟨m, a, by omega, c⟩
        · rintro (⟨m, a, b, c⟩ | c)
          · exact ⟨m, a, by omega, c⟩
          · exact ⟨(k : Int), by omega, by omega, c⟩
      by_cases hp : 20 ≤ T (11 + (k : Int)) ∧ T (11 + (k : Int)) ≤ 23
      · rw [if_pos hp]
        refine (tCnt_ins (t0 := T (11 + (k : Int)) - 20) (fun t a b => (hex t).trans ⟨fun w => w.elim Or.inl (fun w => Or.inr (by omega)), fun w => w.elim Or.inl (fun w => Or.inr (by omega))⟩) ?_ (by omega) (by omega)).symm
        rw [puG_ex]
        rintro ⟨m, a, b, c⟩
        have := w4 m (k : Int) a (by omega) (by omega) (by omega) (by omega) (by omega) (by omega)
        omega
      · rw [if_neg hp]
        exact tCnt_cong t6.1 (fun t a b => ((hex t).trans ⟨fun w => w.elim id (fun w => by omega), Or.inl⟩).symm)
  unfold tFul tIn
  obtain ⟨n, hn⟩ := Int.eq_ofNat_of_zero_le t5.1
  have h := key n (by omega)
  rw [← hn, show n = (T 5).toNat by omega] at h
  exact h
theorem s_M_trapped (d : Nat) (T : Int → Int) (mem : jMem) (hR : tRv T) (hW : tWv T) (hT : jrI mem 55 0 = T) : M_trapped (d + 3) mem = some (vI (tFul T), mem) := by
  have t5 := hR.2.2.2.1
  rw [q_M_trapped, s_M_onesThat d 20 23 mem (by rw [hT]; exact t5), hT]
  simp only [jbnd_s, jasI_v]
  obtain ⟨n, hn⟩ := Int.eq_ofNat_of_zero_le t5.1
  obtain ⟨a1, a2, a3⟩ := tSet_pop (fun m => 20 ≤ T (11 + m) ∧ T (11 + m) ≤ 23) n (by omega)
  have hb := tSet_bit (fun m => 20 ≤ T (11 + m) ∧ T (11 + m) ≤ 23) n (by omega)
  rw [← hn] at a1 a2 a3 hb
  rw [s_M_bits (d + 1) _ mem a1 (by omega), a3, tFul_m hR hW]
  rfl
theorem s_Wa_fullTraps (d : Nat) (w : Int) (T : Int → Int) (mem : jMem) (hR : tRv T) (cw : cWv mem w T) : Wa_fullTraps (d + 1) w (T 6) mem = some (vI (tFul T), mem) := by
  have t6 := hR.2.2.2.2.1
  rw [q_Wa_fullTraps]
  have h : Wa_fullTraps_4 d w (T 6) 0 0 mem = Wa_fullTraps_4 d w (T 6) (tFul T) (T 6) mem := puUp (L := fun i => Wa_fullTraps_4 d w (T 6) (tCnt (fun t => tIn T t ≠ -1) i) i mem) t6.1 (fun i i0 i1 => by
    have hc := tCnt_in (fun t => tIn T t ≠ -1) i0
    rw [q_Wa_fullTraps_4, if_pos i1, if_pos (by omega), jix_in i0 (by omega), (cw.2.2 i i0 i1).2.2.2, jw32_id (x := i + 1) (by omega) (by omega), jw32_id (x := tCnt (fun t => tIn T t ≠ -1) i + 1) (by omega) (by omega), tCnt_s _ i0]
    by_cases h : tIn T i = -1
    · rw [if_pos h, if_neg (fun w => w h)]
    · rw [if_neg h, if_pos h])
  rw [h, q_Wa_fullTraps_4, if_neg (by omega)]
theorem tFul_up (T : Int → Int) (x : Int) : tFul (tUp T 10 x) = tFul T := by
  unfold tFul
  rw [tUp_n (j := 6) (by decide)]
  exact tCnt_up (fun t a b => by rw [tIn_up])
/-! what is caught, as bits -/
theorem tFill_bit {T : Int → Int} (hR : tRv T) (hW : tWv T) (h1 : T 0 = 1) : ∀ k : Nat, (k : Int) ≤ T 6 → tRv (puF tTrap k 0 (T, 0)).1 ∧ tWv (puF tTrap k 0 (T, 0)).1 ∧ tEq T (puF tTrap k 0 (T, 0)).1 ∧ 0 ≤ (puF tTrap k 0 (T, 0)).2 ∧ (puF tTrap k 0 (T, 0)).2 < 256 ∧ ∀ m, 0 ≤ m → m < T 5 → (tBit (puF tTrap k 0 (T, 0)).2 m = 1 ↔ (puF tTrap k 0 (T, 0)).1 (11 + m) ≠ T (11 + m)) ∧ ((puF tTrap k 0 (T, 0)).1 (11 + m) ≠ T (11 + m) → 20 ≤ (puF tTrap k 0 (T, 0)).1 (11 + m) ∧ (puF tTrap k 0 (T, 0)).1 (11 + m) < 24 ∧ 0 ≤ T (11 + m) ∧ T (11 + m) < 12) := by
  have t1 : T 1 ≤ 12 := by have := hR.1; omega
  have t5 := hR.2.2.2.1
  have t6 := hR.2.2.2.2.1
  intro k
  induction k with
  | zero =>
    intro _
    refine ⟨hR, hW, fun _ _ => rfl, by show (0 : Int) ≤ 0; decide, by show (0 : Int) < 256; decide, fun m a b => ⟨⟨fun w => ?_, fun w => absurd rfl w⟩, fun w => absurd rfl w⟩⟩
    obtain ⟨z, rfl⟩ := Int.eq_ofNat_of_zero_le a
    have h0 := tBit_0 z (by omega)
    have w' : tBit 0 (z : Int) = 1 := w
    omega
  | succ k ih =>
    intro hk
    obtain ⟨a1, a2, a3, a4, a5, a6⟩ := ih (by omega)
    rw [puF_snoc, show (0 : Int) + (k : Int) = (k : Int) by omega]
    generalize puF tTrap k 0 (T, 0) = z at a1 a2 a3 a4 a5 a6 ⊢
    obtain ⟨S, s⟩ := z
    dsimp only at a1 a2 a3 a4 a5 a6 ⊢
    unfold tTrap
    dsimp only
    by_cases hc : tIn S (k : Int) = -1 ∧ tFit S (k : Int) ≠ -1
    case neg =>
      rw [if_neg hc]
      exact ⟨a1, a2, a3, a4, a5, a6⟩
    rw [if_pos hc]
    dsimp only
    have e5 := a3 5 (by omega)
    have e6 := a3 6 (by omega)
    have e1 := a3 1 (by omega)
    obtain ⟨f0, f1, f2, f3, -⟩ := tTrap_ok (s := 0) a1 a2 (t := (k : Int)) ⟨by omega, by omega⟩ hc.1 hc.2
    have fx : S (11 + tFit S (k : Int)) = S (17 + 2 * (k : Int)) := by
      rcases tFit_sp S (k : Int) with ⟨a, _⟩ | a
      · exact absurd a hc.2
      · exact a.2.2
    have hp := a2.2.2.1 (k : Int) (by omega) (by omega)
    generalize tFit S (k : Int) = x at f0 f1 f2 f3 fx ⊢
    obtain ⟨u1, u2, -, u3⟩ := bit_or (a := s) (p := x) a4 a5 f0 (by omega)
    have hx : S (11 + x) = T (11 + x) := by
      by_cases e : S (11 + x) = T (11 + x)
      · exact e
      · have := (a6 x f0 (by omega)).2 e
        omega
    refine ⟨tRv_eq f2 a1, f3, fun j hj => (f2 j hj).trans (a3 j hj), u1, u2, fun m m0 m1 => ?_⟩
    rw [u3 m m0 (by omega)]
    by_cases e : m = x
    · subst e
      rw [if_pos rfl, tUp_s]
      exact ⟨⟨fun _ => by omega, fun _ => rfl⟩, fun _ => by omega⟩
    · rw [if_neg e, tUp_n (by omega)]
      exact a6 m m0 m1
/-- of one memory in a night: caught in it, or not -/
theorem tNight_bit {T : Int → Int} (ev : tEvT) (lt : Int) (hR : tRv T) (hW : tWv T) (h1 : T 0 = 1) {m : Int} (m0 : 0 ≤ m) (m1 : m < T 5) : (tBit (tNight T ev lt).2 m = 1 ↔ (0 ≤ T (11 + m) ∧ T (11 + m) < 12) ∧ 20 ≤ (tNight T ev lt).1 (11 + m)) ∧ (T (11 + m) = -1 → (tNight T ev lt).1 (11 + m) = -1) ∧ (20 ≤ T (11 + m) → (tNight T ev lt).1 (11 + m) = T (11 + m)) ∧ (0 ≤ T (11 + m) ∧ T (11 + m) < 12 → (tNight T ev lt).1 (11 + m) < 24) ∧ 0 ≤ (tNight T ev lt).2 ∧ (tNight T ev lt).2 < 256 := by
  have t1 : T 1 ≤ 12 := by have := hR.1; omega
  have t5 := hR.2.2.2.1
  have t6 := hR.2.2.2.2.1
  have hwm := hW.2.1 m m0 m1
  have hs := tSwim_ok ev lt hR h1 hW
  have he := tSwim_eq (T := T) ev lt t5.2
  have hRs := tRv_eq he hR
  have hsm := tSwim_m ev lt m0 m1
  obtain ⟨k, hk⟩ := Int.eq_ofNat_of_zero_le (show 0 ≤ tSwim T ev lt 6 by rw [he 6 (by omega)]; exact t6.1)
  have hf := tFill_bit hRs hs (by rw [he 0 (by omega)]; exact h1) k (by omega)
  have ef : tFill (tSwim T ev lt) = puF tTrap k 0 (tSwim T ev lt, 0) := by
    unfold tFill
    rw [hk, Int.toNat_natCast]
  rw [← ef] at hf
  obtain ⟨-, -, -, b1, b2, b3⟩ := hf
  obtain ⟨c1, c2⟩ := b3 m m0 (by rw [he 5 (by omega)]; exact m1)
  have hn2 : (tNight T ev lt).2 = (tFill (tSwim T ev lt)).2 := rfl
  have hn1 : (tNight T ev lt).1 (11 + m) = (tFill (tSwim T ev lt)).1 (11 + m) := tUp_n (by omega)
  rw [hn1, hn2]
  generalize tFill (tSwim T ev lt) = z at b1 b2 c1 c2 ⊢
  rw [hsm] at c1 c2
  have hnew : (0 ≤ T (11 + m) ∧ T (11 + m) < 12 → -1 ≤ tNew T ev lt m ∧ tNew T ev lt m < 12) ∧ (¬ (0 ≤ T (11 + m) ∧ T (11 + m) < 12) → tNew T ev lt m = T (11 + m)) := by
    unfold tNew
    refine ⟨fun hfr => ?_, fun hfr => if_neg hfr⟩
    rw [if_pos hfr]
    have hg := tGo_in (ev := ev) (lt := lt) (show 0 ≤ T (11 + m) ∧ T (11 + m) < T 1 by omega)
    split <;> omega
  refine ⟨c1.trans ⟨fun w => ?_, fun w => ?_⟩, fun w => ?_, fun w => ?_, fun w => ?_, b1, b2⟩
  · have := c2 w
    refine ⟨?_, this.1⟩
    by_cases h : 0 ≤ T (11 + m) ∧ T (11 + m) < 12
    · exact h
    · have := hnew.2 h; omega
  · have := hnew.1 w.1
    omega
  · have h3 := hnew.2 (by omega)
    by_cases e : z.1 (11 + m) = tNew T ev lt m
    · rw [e, h3, w]
    · have := c2 e; omega
  · have h3 := hnew.2 (by omega)
    by_cases e : z.1 (11 + m) = tNew T ev lt m
    · rw [e, h3]
    · have := c2 e; omega
  · have h3 := hnew.1 w
    by_cases e : z.1 (11 + m) = tNew T ev lt m
    · rw [e]; omega
    · have := c2 e; omega
