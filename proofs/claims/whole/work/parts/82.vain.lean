/-! Baits that nobody free smells are all alike -/
def tVn (S : Int → Int) (c : Int) : Prop := ∀ m, 0 ≤ m → m < S 5 → 0 ≤ S (11 + m) → S (11 + m) < 12 → S (39 + m) ≠ c
theorem tLi_v {S : Int → Int} {k c n : Int} (h3 : 0 ≤ S 3) (hk : 10 ≤ k ∧ k < 25) (hn : 0 ≤ n) : tLi (tUp S k c) n = tLi S n := by
  unfold tLi
  rw [tUp_n (j := 3) (by omega)]
  by_cases h : S 3 = 0
  · rw [if_pos h, if_pos h]
  · have := tmod_in hn (show 0 < S 3 by omega)
    rw [if_neg h, if_neg h, tUp_n (by omega)]
theorem tIn_v {S : Int → Int} {x c t : Int} (h5 : S 5 ≤ 6) (hx : 0 ≤ x ∧ x < 4) : tIn (tUp S (18 + 2 * x) c) t = tIn S t := tIn_cong (tUp_n (by omega)) (fun m a b => by rw [tUp_n (by omega)])
theorem tEnv_v {S : Int → Int} {x b c lt m p : Int} (hR : tRv S) (hW : tWv S) (hx : 0 ≤ x ∧ x < S 6) (hb : S (18 + 2 * x) = b) (hm : 0 ≤ m ∧ m < S 5) (hf : 0 ≤ S (11 + m) ∧ S (11 + m) < 12) (vb : tVn S b) (vc : tVn S c) : tEnv (tUp S (18 + 2 * x) c) lt m p = tEnv S lt m p := by
  have t5 := hR.2.2.2.1
  have t6 := hR.2.2.2.2.1
  have t3 := hR.2.1
  have h10 := hW.1
  have e1 : tBait (tUp S (18 + 2 * x) c) m p = tBait S m p := by
    unfold tBait
    rw [tUp_n (j := 6) (by omega)]
    refine tCnt_up (fun t a b9 => ?_)
    rw [tUp_n (j := 17 + 2 * t) (by omega), tIn_v t5.2 ⟨hx.1, by omega⟩, tUp_n (j := 39 + m) (by omega)]
    by_cases e : t = x
    · subst e
      rw [tUp_s, hb]
      have n1 := vb m hm.1 hm.2 hf.1 hf.2
      have n2 := vc m hm.1 hm.2 hf.1 hf.2
      exact ⟨fun w => absurd w.2.2.symm n2, fun w => absurd w.2.2.symm n1⟩
    · rw [tUp_n (j := 18 + 2 * t) (by omega)]
  have e2 : tTrp (tUp S (18 + 2 * x) c) p = tTrp S p := by
    unfold tTrp
    rw [tUp_n (j := 6) (by omega)]
    exact tCnt_up (fun t a b9 => by rw [tUp_n (by omega)])
  have e3 : tWith (tUp S (18 + 2 * x) c) m p = tWith S m p := by
    unfold tWith
    rw [tUp_n (j := 5) (by omega)]
    exact tCnt_up (fun t a b9 => by rw [tUp_n (by omega)])
  funext j
  unfold tEnv
  rw [e1, e2, e3, tUp_n (j := 11 + m) (by omega), tUp_n (j := 33 + m) (by omega), tUp_n (j := 39 + m) (by omega), tUp_n (j := 45 + m) (by omega), tUp_n (j := 10) (by omega), tLi_v t3.1 (by omega) (by omega)]
theorem tSwim_v {S : Int → Int} {x b c lt : Int} (ev : tEvT) (hR : tRv S) (hW : tWv S) (hx : 0 ≤ x ∧ x < S 6) (hb : S (18 + 2 * x) = b) (vb : tVn S b) (vc : tVn S c) : tSwim (tUp S (18 + 2 * x) c) ev lt = tUp (tSwim S ev lt) (18 + 2 * x) c := by
  have t5 := hR.2.2.2.1
  have t6 := hR.2.2.2.2.1
  funext k
  by_cases hk0 : k = 18 + 2 * x
  · rw [hk0, tUp_s]
    unfold tSwim
    rw [tUp_n (j := 5) (by omega), if_neg (by omega), tUp_s]
  · rw [tUp_n (T := tSwim S ev lt) hk0]
    unfold tSwim
    rw [tUp_n (j := 5) (by omega)]
    by_cases hk : 11 ≤ k ∧ k < 11 + S 5
    · rw [if_pos hk, if_pos hk]
      unfold tNew
      rw [tUp_n (j := 11 + (k - 11)) (by omega), tUp_n (j := 33 + (k - 11)) (by omega), tUp_n (j := 1) (by omega), tUp_n (j := 2) (by omega)]
      by_cases hf : 0 ≤ S (11 + (k - 11)) ∧ S (11 + (k - 11)) < 12
      · have hg : tGo (tUp S (18 + 2 * x) c) ev lt (k - 11) = tGo S ev lt (k - 11) := by
          unfold tGo
          match ev with
          | none =>
            dsimp only
            rw [tUp_n (j := 11 + (k - 11)) (by omega), tUp_n (j := 1) (by omega)]
          | some f =>
            dsimp only
            rw [tUp_n (j := 11 + (k - 11)) (by omega), tUp_n (j := 1) (by omega)]
            congr 1
            funext p
            rw [tEnv_v hR hW hx hb (by omega) hf vb vc]
        rw [hg]
      · rw [if_neg hf, if_neg hf]
    · rw [if_neg hk, if_neg hk, tUp_n hk0]
theorem tUp_ne {T : Int → Int} {a b u v : Int} (h : a ≠ b) : tUp (tUp T a u) b v = tUp (tUp T b v) a u := by
  funext j
  unfold tUp
  by_cases ha : j = a
  · rw [if_pos ha, if_pos ha, if_neg (by omega)]
  · rw [if_neg ha, if_neg ha]
theorem tUp_tw (T : Int → Int) (a u v : Int) : tUp (tUp T a u) a v = tUp T a v := by
  funext j
  unfold tUp
  by_cases ha : j = a
  · rw [if_pos ha, if_pos ha]
  · rw [if_neg ha, if_neg ha, if_neg ha]
theorem tFill_v {U : Int → Int} {x b c : Int} (hR : tRv U) (hW : tWv U) (h1 : U 0 = 1) (hx : 0 ≤ x ∧ x < U 6) (hb : U (18 + 2 * x) = b) (vb : tVn U b) (vc : tVn U c) : ∀ k : Nat, (k : Int) ≤ U 6 → puF tTrap k 0 (tUp U (18 + 2 * x) c, 0) = (tUp (puF tTrap k 0 (U, 0)).1 (18 + 2 * x) c, (puF tTrap k 0 (U, 0)).2) := by
  have t5 := hR.2.2.2.1
  have t6 := hR.2.2.2.2.1
  have t1 : U 1 ≤ 12 := by have := hR.1; omega
  intro k
  induction k with
  | zero => intro _; rfl
  | succ k ih =>
    intro hk
    have hi := ih (by omega)
    obtain ⟨a1, a2, a3, -, -, a6⟩ := tFill_bit hR hW h1 k (by omega)
    rw [puF_snoc, puF_snoc, show (0 : Int) + (k : Int) = (k : Int) by omega, hi]
    generalize puF tTrap k 0 (U, 0) = z at a1 a2 a3 a6 ⊢
    obtain ⟨V, s⟩ := z
    dsimp only at a1 a2 a3 a6 ⊢
    have e5 := a3 5 (by omega)
    have e6 := a3 6 (by omega)
    have e1 := a3 1 (by omega)
    have hVb : V (18 + 2 * x) = b := by rw [a3 _ (by omega)]; exact hb
    have vain : ∀ d, tVn U d → ∀ m, 0 ≤ m → m < U 5 → 0 ≤ V (11 + m) → V (11 + m) < 12 → V (39 + m) ≠ d := fun d hd m m0 m1 f0 f1 => by
      rw [a3 (39 + m) (by omega)]
      have hs : V (11 + m) = U (11 + m) := by
        by_cases e : V (11 + m) = U (11 + m)
        · exact e
        · have := (a6 m m0 m1).2 e
          omega
      exact hd m m0 m1 (by omega) (by omega)
    unfold tTrap
    dsimp only
    rw [tIn_v (by omega) ⟨hx.1, by omega⟩]
    have hfit : tFit (tUp V (18 + 2 * x) c) (k : Int) = tFit V (k : Int) := by
      have hp := a2.2.2.1 (k : Int) (by omega) (by omega)
      by_cases e : (k : Int) = x
      · have f1 : tFit V (k : Int) = -1 := by
          unfold tFit
          refine puG_none _ 0 (Int.le_refl 0) (fun j j0 j1 w => ?_)
          rw [e] at w hp
          exact vain b vb j j0 (by omega) (by omega) (by omega) (by rw [w.2.1]; exact hVb)
        have f2 : tFit (tUp V (18 + 2 * x) c) (k : Int) = -1 := by
          unfold tFit
          refine puG_none _ 0 (Int.le_refl 0) (fun j j0 j1 w => ?_)
          rw [tUp_n (j := 5) (by omega)] at j1
          rw [e] at w hp
          rw [tUp_s, tUp_n (j := 11 + j) (by omega), tUp_n (j := 17 + 2 * x) (by omega), tUp_n (j := 39 + j) (by omega)] at w
          exact vain c vc j j0 (by omega) (by omega) (by omega) w.2.1
        rw [f1, f2]
      · unfold tFit
        rw [tUp_n (j := 5) (by omega)]
        refine puG_cong (n := V 5) (fun j j0 j1 => ?_) _ 0 (Int.le_refl 0) (by omega)
        rw [tUp_n (j := 11 + j) (by omega), tUp_n (j := 17 + 2 * (k : Int)) (by omega), tUp_n (j := 39 + j) (by omega), tUp_n (j := 18 + 2 * (k : Int)) (by omega), tUp_n (j := 33 + j) (by omega), tUp_n (j := 25 + (k : Int)) (by omega)]
    rw [hfit]
    by_cases hc : tIn V (k : Int) = -1 ∧ tFit V (k : Int) ≠ -1
    · rw [if_pos hc, if_pos hc]
      dsimp only
      have hfr : 0 ≤ tFit V (k : Int) ∧ tFit V (k : Int) < V 5 := by
        rcases tFit_sp V (k : Int) with ⟨a, _⟩ | a
        · exact absurd a hc.2
        · exact ⟨a.1, a.2.1⟩
      rw [tUp_ne (by omega)]
    · rw [if_neg hc, if_neg hc]
theorem tNight_v {S : Int → Int} {x b c lt : Int} (ev : tEvT) (hR : tRv S) (hW : tWv S) (h1 : S 0 = 1) (hx : 0 ≤ x ∧ x < S 6) (hb : S (18 + 2 * x) = b) (vb : tVn S b) (vc : tVn S c) : (tNight (tUp S (18 + 2 * x) c) ev lt).1 = tUp (tNight S ev lt).1 (18 + 2 * x) c := by
  have t5 := hR.2.2.2.1
  have t6 := hR.2.2.2.2.1
  have t1 : S 1 ≤ 12 := by have := hR.1; omega
  have he := tSwim_eq (T := S) ev lt t5.2
  have hRs := tRv_eq he hR
  have hWs := tSwim_ok ev lt hR h1 hW
  have vn : ∀ d, tVn S d → tVn (tSwim S ev lt) d := fun d hd m m0 m1 f0 f1 => by
    rw [he 5 (by omega)] at m1
    rw [he (39 + m) (by omega)]
    rw [tSwim_m ev lt m0 m1] at f0 f1
    by_cases hf : 0 ≤ S (11 + m) ∧ S (11 + m) < 12
    · exact hd m m0 m1 hf.1 hf.2
    · unfold tNew at f0 f1
      rw [if_neg hf] at f0 f1
      exact absurd ⟨f0, f1⟩ hf
  obtain ⟨k, hk⟩ := Int.eq_ofNat_of_zero_le (show 0 ≤ tSwim S ev lt 6 by rw [he 6 (by omega)]; exact t6.1)
  have hf := tFill_v hRs hWs (by rw [he 0 (by omega)]; exact h1) (x := x) (b := b) (c := c) (by rw [he 6 (by omega)]; exact hx) (by rw [he _ (by omega)]; exact hb) (vn b vb) (vn c vc) k (by omega)
  have hl : (tNight (tUp S (18 + 2 * x) c) ev lt).1 = tUp (tFill (tSwim (tUp S (18 + 2 * x) c) ev lt)).1 10 (tUp S (18 + 2 * x) c 10 + 1) := rfl
  have hr : (tNight S ev lt).1 = tUp (tFill (tSwim S ev lt)).1 10 (S 10 + 1) := rfl
  rw [hl, hr, tSwim_v ev hR hW hx hb vb vc, tUp_n (j := 10) (by omega), tUp_ne (a := 10) (b := 18 + 2 * x) (by omega)]
  congr 1
  unfold tFill
  rw [tUp_n (j := 6) (by omega), hk, Int.toNat_natCast, hf]
theorem tIt_v {S : Int → Int} {x b c : Int} (ev : tEvT) (hR : tRv S) (hW : tWv S) (h1 : S 0 = 1) (h10 : S 10 ≤ 999) (hx : 0 ≤ x ∧ x < S 6) (hb : S (18 + 2 * x) = b) (vb : tVn S b) (vc : tVn S c) : ∀ n : Nat, n ≤ 40 → tIt ev n (tUp S (18 + 2 * x) c) = tUp (tIt ev n S) (18 + 2 * x) c ∧ tVn (tIt ev n S) b ∧ tVn (tIt ev n S) c := by
  have t5 := hR.2.2.2.1
  have t6 := hR.2.2.2.2.1
  have t1 : S 1 ≤ 12 := by have := hR.1; omega
  intro n
  induction n with
  | zero => intro _; exact ⟨rfl, vb, vc⟩
  | succ n ih =>
    intro hn
    obtain ⟨i1, i2, i3⟩ := ih (by omega)
    obtain ⟨q1, q2, q3⟩ := tIt_ok ev hR hW h1 n (by omega)
    have hRn := tRv_eq q1 hR
    have e5 := q1 5 (by omega)
    have e6 := q1 6 (by omega)
    have h1n : tIt ev n S 0 = 1 := by rw [q1 0 (by omega)]; exact h1
    have e9 : ∀ Z, tIt ev (n + 1) Z = (tNight (tIt ev n Z) ev (tLi (tIt ev n Z) (tIt ev n Z 10))).1 := fun Z => rfl
    have hvn : ∀ d, tVn (tIt ev n S) d → tVn (tIt ev (n + 1) S) d := fun d hd m m0 m1 f0 f1 => by
      obtain ⟨r1, r2, r3⟩ := tIt_ok ev hR hW h1 (n + 1) (by omega)
      rw [r1 5 (by omega)] at m1
      rw [r1 (39 + m) (by omega), ← q1 (39 + m) (by omega)]
      rw [e9 S] at f0 f1
      obtain ⟨-, b2, b3, -⟩ := tNight_bit ev (tLi (tIt ev n S) (tIt ev n S 10)) hRn q2 h1n m0 (by omega)
      have hw := q2.2.1 m m0 (by omega)
      rw [q1 1 (by omega), q1 6 (by omega), q1 4 (by omega)] at hw
      refine hd m m0 (by omega) ?_ ?_
      · by_cases h : tIt ev n S (11 + m) = -1
        · have := b2 h; omega
        · omega
      · by_cases h : 20 ≤ tIt ev n S (11 + m)
        · have := b3 h; omega
        · omega
    refine ⟨?_, hvn b i2, hvn c i3⟩
    rw [e9, e9, i1, tUp_n (j := 10) (by omega), tLi_v hRn.2.1.1 (by omega) (by rw [q3]; have := hW.1; omega)]
    exact tNight_v ev hRn q2 h1n (by omega) (by rw [q1 _ (by omega)]; exact hb) i2 i3
theorem tFul_v {S : Int → Int} {x c : Int} (h5 : S 5 ≤ 6) (hx : 0 ≤ x ∧ x < 4) : tFul (tUp S (18 + 2 * x) c) = tFul S := by
  unfold tFul
  rw [tUp_n (j := 6) (by omega)]
  exact tCnt_up (fun t a b => by rw [tIn_v h5 hx])
