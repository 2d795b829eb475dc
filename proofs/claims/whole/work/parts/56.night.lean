/-! A night, as numbers -/
def tCnt (p : Int → Prop) [DecidablePred p] (n : Int) : Int := puF (fun i a => if p i then a + 1 else a) n.toNat 0 0
theorem tCnt_b (p : Int → Prop) [DecidablePred p] : ∀ (k : Nat) (i a : Int), a ≤ puF (fun i a => if p i then a + 1 else a) k i a ∧ puF (fun i a => if p i then a + 1 else a) k i a ≤ a + (k : Int)
  | 0, _, a => ⟨Int.le_refl _, by show a ≤ a + ((0 : Nat) : Int); omega⟩
  | k + 1, i, a => by
    have h := tCnt_b p k (i + 1) (if p i then a + 1 else a)
    show a ≤ puF (fun i a => if p i then a + 1 else a) k (i + 1) (if p i then a + 1 else a) ∧ _ ≤ _
    split at h
    · rename_i hp
      rw [if_pos hp]
      have e : puF (fun i a => if p i then a + 1 else a) (k + 1) i a = puF (fun i a => if p i then a + 1 else a) k (i + 1) (a + 1) := by
        show puF _ k (i + 1) (if p i then a + 1 else a) = _
        rw [if_pos hp]
      rw [e]
      omega
    · rename_i hp
      rw [if_neg hp]
      have e : puF (fun i a => if p i then a + 1 else a) (k + 1) i a = puF (fun i a => if p i then a + 1 else a) k (i + 1) a := by
        show puF _ k (i + 1) (if p i then a + 1 else a) = _
        rw [if_neg hp]
      rw [e]
      omega
theorem tCnt_in (p : Int → Prop) [DecidablePred p] {n : Int} (h : 0 ≤ n) : 0 ≤ tCnt p n ∧ tCnt p n ≤ n := by
  have := tCnt_b p n.toNat 0 0
  unfold tCnt
  omega
theorem tCnt_cong {p q : Int → Prop} [DecidablePred p] [DecidablePred q] {n : Int} (hn : 0 ≤ n) (h : ∀ m, 0 ≤ m → m < n → (p m ↔ q m)) : tCnt p n = tCnt q n := by
  unfold tCnt
  refine puF_cong (n := n) (fun i a h0 h1 => ?_) _ 0 0 (Int.le_refl 0) (by omega)
  have hi := h i h0 h1
  by_cases hp : p i
  · rw [if_pos hp, if_pos (hi.mp hp)]
  · rw [if_neg hp, if_neg (fun w => hp (hi.mpr w))]
def tBait (T : Int → Int) (m p : Int) : Int := tCnt (fun t => T (17 + 2 * t) = p ∧ tIn T t = -1 ∧ T (18 + 2 * t) = T (39 + m)) (T 6)
def tTrp (T : Int → Int) (p : Int) : Int := tCnt (fun t => T (17 + 2 * t) = p) (T 6)
def tWith (T : Int → Int) (m p : Int) : Int := tCnt (fun o => o ≠ m ∧ T (11 + o) = p) (T 5)
/-- the words of a memory and a pool -/
def tEnv (T : Int → Int) (lt m p : Int) : Int → Int := fun j => if j = 0 then m else if j = 1 then p else if j = 2 then T (11 + m) else if j = 3 then T (33 + m) else if j = 4 then T (39 + m) else if j = 5 then tBait T m p else if j = 6 then tTrp T p else if j = 7 then tWith T m p else if j = 8 then lt else if j = 9 then tLi T (T 10 + 1) else if j = 10 then T (45 + m) else T 10
def tGs (v : Int → Int) (n p : Int) (a : Int × Int) : Int × Int := if 0 ≤ p ∧ p < n ∧ a.2 < v p then (p, v p) else a
def tBest (v : Int → Int) (n own : Int) : Int := (tGs v n (own + 1) (tGs v n own (tGs v n (own - 1) (own, 0)))).1
theorem tGs_in {v : Int → Int} {n p : Int} {a : Int × Int} (h : 0 ≤ a.1 ∧ a.1 < n) : 0 ≤ (tGs v n p a).1 ∧ (tGs v n p a).1 < n := by
  unfold tGs
  split
  · rename_i hp
    exact ⟨hp.1, hp.2.1⟩
  · exact h
theorem tBest_in {v : Int → Int} {n own : Int} (h : 0 ≤ own ∧ own < n) : 0 ≤ tBest v n own ∧ tBest v n own < n := tGs_in (tGs_in (tGs_in h))
abbrev tEvT : Type := Option ((Int → Int) → Int)
def tGo (T : Int → Int) (ev : tEvT) (lt m : Int) : Int := match ev with
  | none => if T (11 + m) + 1 < T 1 then T (11 + m) + 1 else T (11 + m)
  | some f => tBest (fun p => f (tEnv T lt m p)) (T 1) (T (11 + m))
theorem tGo_in {T : Int → Int} {ev : tEvT} {lt m : Int} (h : 0 ≤ T (11 + m) ∧ T (11 + m) < T 1) : 0 ≤ tGo T ev lt m ∧ tGo T ev lt m < T 1 := by
  unfold tGo
  split
  · split <;> omega
  · exact tBest_in h
def tNew (T : Int → Int) (ev : tEvT) (lt m : Int) : Int := if 0 ≤ T (11 + m) ∧ T (11 + m) < 12 then (if T (11 + m) = T 1 - 1 ∧ tGo T ev lt m = T 1 - 1 ∧ T 2 ≤ T (33 + m) then -1 else tGo T ev lt m) else T (11 + m)
def tSwim (T : Int → Int) (ev : tEvT) (lt : Int) : Int → Int := fun k => if 11 ≤ k ∧ k < 11 + T 5 then tNew T ev lt (k - 11) else T k
/-- the least memory that a trap catches; -1 -/
def tFit (T : Int → Int) (t : Int) : Int := puG (fun m => T (11 + m) = T (17 + 2 * t) ∧ T (39 + m) = T (18 + 2 * t) ∧ T (33 + m) ≤ T (25 + t)) (T 5).toNat 0
def tUp (T : Int → Int) (k v : Int) : Int → Int := fun j => if j = k then v else T j
def tTrap (t : Int) (a : (Int → Int) × Int) : (Int → Int) × Int := if tIn a.1 t = -1 ∧ tFit a.1 t ≠ -1 then (tUp a.1 (11 + tFit a.1 t) (20 + t), jor a.2 (jshl 1 (tFit a.1 t))) else a
def tFill (T : Int → Int) : (Int → Int) × Int := puF tTrap (T 6).toNat 0 (T, 0)
def tNight (T : Int → Int) (ev : tEvT) (lt : Int) : (Int → Int) × Int := (tUp (tFill (tSwim T ev lt)).1 10 (T 10 + 1), (tFill (tSwim T ev lt)).2)
theorem tIn_m {T : Int → Int} {t x : Int} (h0 : 0 ≤ x) (h1 : x < T 5) (h2 : T (11 + x) = 20 + t) (h3 : ∀ j, 0 ≤ j → j < x → T (11 + j) ≠ 20 + t) : tIn T t = x := by
  unfold tIn
  rcases puG_spec (fun m => T (11 + m) = 20 + t) (T 5).toNat 0 (Int.le_refl 0) with ⟨_, b⟩ | ⟨a, b, c, d⟩
  · exact absurd h2 (b x h0 (by omega))
  · by_cases e : puG (fun m => T (11 + m) = 20 + t) (T 5).toNat 0 < x
    · exact absurd c (h3 _ a e)
    · by_cases e2 : x < puG (fun m => T (11 + m) = 20 + t) (T 5).toNat 0
      · exact absurd h2 (d x h0 e2)
      · omega
theorem tIn_n {T : Int → Int} {t : Int} (h : ∀ j, 0 ≤ j → j < T 5 → T (11 + j) ≠ 20 + t) : tIn T t = -1 := by
  unfold tIn
  rcases puG_spec (fun m => T (11 + m) = 20 + t) (T 5).toNat 0 (Int.le_refl 0) with ⟨a, _⟩ | ⟨a, b, c, d⟩
  · exact a
  · exact absurd c (h _ a (by omega))
theorem tIn_sp (T : Int → Int) (t : Int) : (tIn T t = -1 ∧ ∀ j, 0 ≤ j → j < T 5 → T (11 + j) ≠ 20 + t) ∨ (0 ≤ tIn T t ∧ tIn T t < T 5 ∧ T (11 + tIn T t) = 20 + t) := by
  unfold tIn
  rcases puG_spec (fun m => T (11 + m) = 20 + t) (T 5).toNat 0 (Int.le_refl 0) with ⟨a, b⟩ | ⟨a, b, c, d⟩
  · exact Or.inl ⟨a, fun j h0 h1 => b j h0 (by omega)⟩
  · exact Or.inr ⟨a, by omega, c⟩
theorem tIn_cong {T T' : Int → Int} {t : Int} (h5 : T' 5 = T 5) (h : ∀ m, 0 ≤ m → m < T 5 → (T' (11 + m) = 20 + t ↔ T (11 + m) = 20 + t)) : tIn T' t = tIn T t := by
  unfold tIn
  rw [h5]
  by_cases hn : 0 ≤ T 5
  · exact puG_cong (n := T 5) (fun i a b => h i a b) _ 0 (Int.le_refl 0) (by omega)
  · rw [show (T 5).toNat = 0 by omega]
    rfl
theorem tFit_sp (T : Int → Int) (t : Int) : (tFit T t = -1 ∧ ∀ m, 0 ≤ m → m < T 5 → ¬ (T (11 + m) = T (17 + 2 * t) ∧ T (39 + m) = T (18 + 2 * t) ∧ T (33 + m) ≤ T (25 + t))) ∨ (0 ≤ tFit T t ∧ tFit T t < T 5 ∧ T (11 + tFit T t) = T (17 + 2 * t)) := by
  unfold tFit
  rcases puG_spec (fun m => T (11 + m) = T (17 + 2 * t) ∧ T (39 + m) = T (18 + 2 * t) ∧ T (33 + m) ≤ T (25 + t)) (T 5).toNat 0 (Int.le_refl 0) with ⟨a, b⟩ | ⟨a, b, c, d⟩
  · exact Or.inl ⟨a, fun j h0 h1 => b j h0 (by omega)⟩
  · exact Or.inr ⟨a, by omega, c.1⟩
/-- but for the places and the night all is as it was -/
def tEq (T T' : Int → Int) : Prop := ∀ k, (k < 10 ∨ 17 ≤ k) → T' k = T k
theorem tEq_rf (T : Int → Int) : tEq T T := fun _ _ => rfl
theorem tEq_tr {a b c : Int → Int} (h1 : tEq a b) (h2 : tEq b c) : tEq a c := fun k h => (h2 k h).trans (h1 k h)
theorem tRv_eq {T T' : Int → Int} (h : tEq T T') (hT : tRv T) : tRv T' := by
  obtain ⟨t0, t3, t4, t5, t6, t55, tm, tt, tp, tl⟩ := hT
  have e0 := h 0 (by omega)
  have e1 := h 1 (by omega)
  have e2 := h 2 (by omega)
  have e3 := h 3 (by omega)
  have e4 := h 4 (by omega)
  have e5 := h 5 (by omega)
  have e6 := h 6 (by omega)
  have e55 := h 55 (by omega)
  unfold tRv
  rw [e0, e1, e2, e3, e4, e5, e6, e55]
  refine ⟨t0, t3, t4, t5, t6, t55, fun m a b => ?_, fun m a b => ?_, fun m a b => ?_, fun m a b => ?_⟩
  · rw [h (33 + m) (by omega), h (39 + m) (by omega), h (45 + m) (by omega), h (67 + m) (by omega)]
    exact tm m a b
  · rw [h (25 + m) (by omega), h (29 + m) (by omega), h (73 + 2 * m) (by omega), h (74 + 2 * m) (by omega)]
    exact tt m a b
  · rw [h (51 + m) (by omega)]
    exact tp m a b
  · rw [h (55 + m) (by omega)]
    exact tl m a b
theorem tNv_eq {T T' : Int → Int} (h : tEq T T') (hT : tNv T) : tNv T' := by
  obtain ⟨a1, a2⟩ := hT
  unfold tNv
  rw [h 111 (by omega), h 5 (by omega), h 1 (by omega)]
  refine ⟨a1, fun i a b => ?_⟩
  rw [h (81 + 3 * i) (by omega), h (82 + 3 * i) (by omega), h (83 + 3 * i) (by omega)]
  exact a2 i a b
theorem tSwim_eq {T : Int → Int} (ev : tEvT) (lt : Int) (h5 : T 5 ≤ 6) : tEq T (tSwim T ev lt) := fun k hk => by
  unfold tSwim
  rw [if_neg (by omega)]
theorem tSwim_10 {T : Int → Int} (ev : tEvT) (lt : Int) : tSwim T ev lt 10 = T 10 := by
  unfold tSwim
  rw [if_neg (by omega)]
theorem tSwim_m {T : Int → Int} (ev : tEvT) (lt : Int) {m : Int} (h0 : 0 ≤ m) (h1 : m < T 5) : tSwim T ev lt (11 + m) = tNew T ev lt m := by
  unfold tSwim
  rw [if_pos (by omega)]
  congr 1
  omega
theorem tSwim_ok {T : Int → Int} (ev : tEvT) (lt : Int) (hR : tRv T) (h1 : T 0 = 1) (hW : tWv T) : tWv (tSwim T ev lt) := by
  obtain ⟨w1, w2, w3, w4⟩ := hW
  obtain ⟨t0, t3, t4, t5, t6, -⟩ := hR
  have he := tSwim_eq (T := T) ev lt t5.2
  have e1 := he 1 (by omega)
  have e4 := he 4 (by omega)
  have e5 := he 5 (by omega)
  have e6 := he 6 (by omega)
  have key : ∀ m, 0 ≤ m → m < T 5 → ((0 ≤ T (11 + m) ∧ T (11 + m) < T 1 ∧ ((0 ≤ tNew T ev lt m ∧ tNew T ev lt m < T 1) ∨ tNew T ev lt m = -1)) ∨ tNew T ev lt m = T (11 + m)) := fun m a b => by
    unfold tNew
    by_cases hf : 0 ≤ T (11 + m) ∧ T (11 + m) < 12
    · rw [if_pos hf]
      have hp : 0 ≤ T (11 + m) ∧ T (11 + m) < T 1 := by
        rcases w2 m a b with w | w | w | w <;> omega
      have hg := tGo_in (ev := ev) (lt := lt) hp
      left
      refine ⟨hp.1, hp.2, ?_⟩
      split
      · exact Or.inr rfl
      · exact Or.inl hg
    · rw [if_neg hf]
      exact Or.inr rfl
  unfold tWv
  rw [e1, e4, e5, e6, tSwim_10]
  refine ⟨w1, fun m a b => ?_, fun t a b => ?_, fun m m' a b a' b' c1 c2 c3 => ?_⟩
  · rw [tSwim_m ev lt a b]
    rcases key m a b with ⟨_, _, k | k⟩ | k
    · exact Or.inl k
    · exact Or.inr (Or.inr (Or.inr k))
    · rw [k]
      exact w2 m a b
  · rw [he (17 + 2 * t) (by omega), he (18 + 2 * t) (by omega)]
    exact w3 t a b
  · rw [tSwim_m ev lt a b] at c1 c2 c3
    rw [tSwim_m ev lt a' b'] at c3
    have k1 : tNew T ev lt m = T (11 + m) := by
      rcases key m a b with ⟨_, _, k | k⟩ | k
      · omega
      · omega
      · exact k
    have k2 : tNew T ev lt m' = T (11 + m') := by
      rcases key m' a' b' with ⟨_, _, k | k⟩ | k
      · omega
      · omega
      · exact k
    rw [k1, k2] at c3
    rw [k1] at c1 c2
    exact w4 m m' a b a' b' c1 c2 c3
theorem tSwim_in {T : Int → Int} (ev : tEvT) (lt : Int) (hR : tRv T) (hW : tWv T) {t : Int} (ht : 0 ≤ t) : tIn (tSwim T ev lt) t = tIn T t := by
  obtain ⟨w1, w2, w3, w4⟩ := hW
  obtain ⟨t0, t3, t4, t5, t6, -⟩ := hR
  refine tIn_cong (tSwim_eq ev lt t5.2 5 (by omega)) (fun m a b => ?_)
  rw [tSwim_m ev lt a b]
  unfold tNew
  by_cases hf : 0 ≤ T (11 + m) ∧ T (11 + m) < 12
  · rw [if_pos hf]
    have hp : 0 ≤ T (11 + m) ∧ T (11 + m) < T 1 := by
      rcases w2 m a b with w | w | w | w <;> omega
    have hg := tGo_in (ev := ev) (lt := lt) hp
    have h12 : T 1 ≤ 12 := by omega
    split <;> omega
  · rw [if_neg hf]
theorem tUp_s (T : Int → Int) (k v : Int) : tUp T k v k = v := if_pos rfl
theorem tUp_n {T : Int → Int} {k v j : Int} (h : j ≠ k) : tUp T k v j = T j := if_neg h
/-- what a trap does to the picture -/
theorem tTrap_ok {T : Int → Int} {t s : Int} (hR : tRv T) (hW : tWv T) (ht : 0 ≤ t ∧ t < T 6) (hin : tIn T t = -1) (hfit : tFit T t ≠ -1) : 0 ≤ tFit T t ∧ tFit T t < T 5 ∧ tEq T (tUp T (11 + tFit T t) (20 + t)) ∧ tWv (tUp T (11 + tFit T t) (20 + t)) ∧ tIn (tUp T (11 + tFit T t) (20 + t)) t = tFit T t ∧ ∀ t', 0 ≤ t' → t' < T 6 → t' ≠ t → tIn (tUp T (11 + tFit T t) (20 + t)) t' = tIn T t' := by
  obtain ⟨w1, w2, w3, w4⟩ := hW
  obtain ⟨t0, t3, t4, t5, t6, -⟩ := hR
  obtain ⟨f0, f1, f2⟩ : 0 ≤ tFit T t ∧ tFit T t < T 5 ∧ T (11 + tFit T t) = T (17 + 2 * t) := by
    rcases tFit_sp T t with ⟨a, _⟩ | a
    · exact absurd a hfit
    · exact a
  generalize tFit T t = x at f0 f1 f2 ⊢
  have hno : ∀ j, 0 ≤ j → j < T 5 → T (11 + j) ≠ 20 + t := by
    rcases tIn_sp T t with ⟨_, a⟩ | ⟨a, _⟩
    · exact a
    · omega
  have hp := w3 t ht.1 ht.2
  have h12 : T 1 ≤ 12 := by omega
  have he : tEq T (tUp T (11 + x) (20 + t)) := fun k hk => tUp_n (by omega)
  have e1 := he 1 (by omega)
  have e4 := he 4 (by omega)
  have e5 := he 5 (by omega)
  have e6 := he 6 (by omega)
  refine ⟨f0, f1, he, ?_, ?_, fun t' a b c => ?_⟩
  · unfold tWv
    rw [e1, e4, e5, e6, tUp_n (j := 10) (by omega)]
    refine ⟨w1, fun m a b => ?_, fun t9 a b => ?_, fun m m' a b a' b' c1 c2 c3 => ?_⟩
    · by_cases e : m = x
      · rw [e, tUp_s]
        omega
      · rw [tUp_n (by omega)]
        exact w2 m a b
    · rw [tUp_n (by omega), tUp_n (by omega)]
      exact w3 t9 a b
    · by_cases e : m = x
      · by_cases e' : m' = x
        · omega
        · rw [e, tUp_s, tUp_n (by omega)] at c3
          exact absurd c3.symm (hno m' a' b')
      · by_cases e' : m' = x
        · rw [e', tUp_s, tUp_n (by omega)] at c3
          exact absurd c3 (hno m a b)
        · rw [tUp_n (by omega)] at c1 c2 c3
          rw [tUp_n (by omega)] at c3
          exact w4 m m' a b a' b' c1 c2 c3
  · refine tIn_m f0 (by rw [e5]; exact f1) (tUp_s _ _ _) (fun j a b => ?_)
    rw [tUp_n (by omega)]
    exact hno j a (by omega)
  · refine tIn_cong e5 (fun m a' b' => ?_)
    by_cases e : m = x
    · rw [e, tUp_s, f2]
      omega
    · rw [tUp_n (by omega)]
