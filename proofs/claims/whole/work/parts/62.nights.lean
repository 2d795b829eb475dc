/-! Nights one behind another -/
theorem tEq_up (T : Int → Int) (x : Int) : tEq T (tUp T 10 x) := fun k hk => tUp_n (by omega)
theorem tWv_up {T : Int → Int} {x : Int} (h : tWv T) (hx : 0 ≤ x ∧ x ≤ 100000) : tWv (tUp T 10 x) := by
  obtain ⟨w1, w2, w3, w4⟩ := h
  unfold tWv
  rw [tUp_s, tUp_n (j := 1) (by decide), tUp_n (j := 4) (by decide), tUp_n (j := 5) (by decide), tUp_n (j := 6) (by decide)]
  refine ⟨hx, fun m a b => ?_, fun t a b => ?_, fun m m' a b a' b' c1 c2 c3 => ?_⟩
  · rw [tUp_n (by omega)]
    exact w2 m a b
  · rw [tUp_n (by omega), tUp_n (by omega)]
    exact w3 t a b
  · rw [tUp_n (by omega)] at c1 c2 c3
    rw [tUp_n (by omega)] at c3
    exact w4 m m' a b a' b' c1 c2 c3
theorem tFill_ok {T : Int → Int} (hR : tRv T) (hW : tWv T) : tEq T (tFill T).1 ∧ tWv (tFill T).1 ∧ jokI (tFill T).2 := by
  have h6 := hR.2.2.2.2.1
  have := tFillN_ok hR hW (T 6).toNat (by omega)
  rw [show (((T 6).toNat : Nat) : Int) = T 6 by omega] at this
  exact this
theorem tNight_ok {T : Int → Int} (ev : tEvT) (lt : Int) (hR : tRv T) (hW : tWv T) (h1 : T 0 = 1) (h10 : T 10 < 100000) : tEq T (tNight T ev lt).1 ∧ tWv (tNight T ev lt).1 ∧ (tNight T ev lt).1 10 = T 10 + 1 ∧ jokI (tNight T ev lt).2 := by
  have a1 := tSwim_eq (T := T) ev lt hR.2.2.2.1.2
  obtain ⟨b1, b2, b3⟩ := tFill_ok (tRv_eq a1 hR) (tSwim_ok ev lt hR h1 hW)
  have w1 := hW.1
  exact ⟨tEq_tr (tEq_tr a1 b1) (tEq_up _ _), tWv_up b2 (by omega), tUp_s (tFill (tSwim T ev lt)).1 10 (T 10 + 1), b3⟩
def tStep (ev : tEvT) (T : Int → Int) : Int → Int := (tNight T ev (tLi T (T 10))).1
def tIt (ev : tEvT) : Nat → (Int → Int) → Int → Int
  | 0, T => T
  | k + 1, T => tStep ev (tIt ev k T)
theorem tIt_ok {T : Int → Int} (ev : tEvT) (hR : tRv T) (hW : tWv T) (h1 : T 0 = 1) : ∀ k : Nat, T 10 + (k : Int) ≤ 100000 → tEq T (tIt ev k T) ∧ tWv (tIt ev k T) ∧ tIt ev k T 10 = T 10 + (k : Int)
  | 0, _ => ⟨tEq_rf T, hW, by show T 10 = T 10 + ((0 : Nat) : Int); omega⟩
  | k + 1, h => by
    obtain ⟨a1, a2, a3⟩ := tIt_ok ev hR hW h1 k (by omega)
    obtain ⟨b1, b2, b3, -⟩ := tNight_ok ev (tLi (tIt ev k T) (tIt ev k T 10)) (tRv_eq a1 hR) a2 (by rw [a1 0 (by omega)]; exact h1) (by omega)
    refine ⟨tEq_tr a1 b1, b2, ?_⟩
    show (tNight (tIt ev k T) ev _).1 10 = _
    rw [b3, a3]
    omega
/-! Rules that don't look at the night -/
def evU (ev : tEvT) : Prop := ∀ f, ev = some f → ∀ env env' : Int → Int, (∀ j, j ≠ 8 → j ≠ 9 → j ≠ 11 → env j = env' j) → f env = f env'
theorem tIn_up (T : Int → Int) (x t : Int) : tIn (tUp T 10 x) t = tIn T t := by
  unfold tIn
  rw [tUp_n (j := 5) (by decide)]
  by_cases hn : 0 ≤ T 5
  · exact puG_cong (n := T 5) (fun i a b => by rw [tUp_n (by omega)]) _ 0 (Int.le_refl 0) (by omega)
  · rw [show (T 5).toNat = 0 by omega]
    rfl
theorem tFit_up (T : Int → Int) (x : Int) {t : Int} (ht : 0 ≤ t) : tFit (tUp T 10 x) t = tFit T t := by
  unfold tFit
  rw [tUp_n (j := 5) (by decide)]
  by_cases hn : 0 ≤ T 5
  · exact puG_cong (n := T 5) (fun i a b => by rw [tUp_n (by omega), tUp_n (by omega), tUp_n (by omega), tUp_n (by omega), tUp_n (by omega), tUp_n (by omega)]) _ 0 (Int.le_refl 0) (by omega)
  · rw [show (T 5).toNat = 0 by omega]
    rfl
theorem tUp_cm (T : Int → Int) {a b x y : Int} (h : a ≠ b) : tUp (tUp T a x) b y = tUp (tUp T b y) a x := by
  funext k
  unfold tUp
  by_cases h1 : k = b
  · rw [if_pos h1, if_neg (by omega), if_pos h1]
  · rw [if_neg h1]
    by_cases h2 : k = a
    · rw [if_pos h2, if_pos h2]
    · rw [if_neg h2, if_neg h2, if_neg h1]
theorem tTrap_up (T : Int → Int) (x s : Int) {t : Int} (ht : 0 ≤ t) : tTrap t (tUp T 10 x, s) = (tUp (tTrap t (T, s)).1 10 x, (tTrap t (T, s)).2) := by
  unfold tTrap
  dsimp only
  rw [tIn_up, tFit_up T x ht]
  by_cases hc : tIn T t = -1 ∧ tFit T t ≠ -1
  · rw [if_pos hc, if_pos hc]
    have h0 : 0 ≤ tFit T t := by
      rcases tFit_sp T t with ⟨a, _⟩ | ⟨a, _⟩
      · exact absurd a hc.2
      · exact a
    show (tUp (tUp T 10 x) (11 + tFit T t) (20 + t), _) = (tUp (tUp T (11 + tFit T t) (20 + t)) 10 x, _)
    rw [tUp_cm T (by omega)]
  · rw [if_neg hc, if_neg hc]
theorem tFill_up (T : Int → Int) (x : Int) : tFill (tUp T 10 x) = (tUp (tFill T).1 10 x, (tFill T).2) := by
  have key : ∀ k : Nat, tFillN (tUp T 10 x) (k : Int) = (tUp (tFillN T (k : Int)).1 10 x, (tFillN T (k : Int)).2) := by
    intro k
    induction k with
    | zero => rfl
    | succ k ih =>
      rw [show (((k + 1 : Nat)) : Int) = (k : Int) + 1 by omega, tFillN_s _ (by omega), tFillN_s _ (by omega), ih, tTrap_up _ _ _ (by omega)]
  have h9 : ∀ S : Int → Int, tFill S = tFillN S (((S 6).toNat : Nat) : Int) := fun S => by
    unfold tFill tFillN
    rw [Int.toNat_natCast]
  rw [h9, h9 T, tUp_n (j := 6) (by decide)]
  exact key _
theorem tCnt_up {p q : Int → Prop} [DecidablePred p] [DecidablePred q] {n : Int} (h : ∀ m, 0 ≤ m → m < n → (p m ↔ q m)) : tCnt p n = tCnt q n := by
  by_cases hn : 0 ≤ n
  · exact tCnt_cong hn h
  · unfold tCnt
    rw [show n.toNat = 0 by omega]
    rfl
theorem tEnv_up (T : Int → Int) (x lt lt' : Int) {m p : Int} (hm : 0 ≤ m) (j : Int) (h8 : j ≠ 8) (h9 : j ≠ 9) (h11 : j ≠ 11) (hj : 0 ≤ j ∧ j < 12) : tEnv (tUp T 10 x) lt' m p j = tEnv T lt m p j := by
  have e1 : tBait (tUp T 10 x) m p = tBait T m p := by
    unfold tBait
    rw [tUp_n (j := 6) (by decide)]
    exact tCnt_up (fun t a b => by rw [tUp_n (by omega), tUp_n (by omega), tUp_n (by omega), tIn_up])
  have e2 : tTrp (tUp T 10 x) p = tTrp T p := by
    unfold tTrp
    rw [tUp_n (j := 6) (by decide)]
    exact tCnt_up (fun t a b => by rw [tUp_n (by omega)])
  have e3 : tWith (tUp T 10 x) m p = tWith T m p := by
    unfold tWith
    rw [tUp_n (j := 5) (by decide)]
    exact tCnt_up (fun t a b => by rw [tUp_n (by omega)])
  unfold tEnv
  rw [e1, e2, e3, tUp_n (j := 11 + m) (by omega), tUp_n (j := 33 + m) (by omega), tUp_n (j := 39 + m) (by omega), tUp_n (j := 45 + m) (by omega)]
  have hk : j = 0 ∨ j = 1 ∨ j = 2 ∨ j = 3 ∨ j = 4 ∨ j = 5 ∨ j = 6 ∨ j = 7 ∨ j = 10 := by omega
  rcases hk with rfl | rfl | rfl | rfl | rfl | rfl | rfl | rfl | rfl <;> rfl
/-- a rule looks at words 0 to 11 alone -/
def evW (ev : tEvT) : Prop := ∀ f, ev = some f → ∀ env env' : Int → Int, (∀ j, 0 ≤ j → j < 12 → env j = env' j) → f env = f env'
theorem tGo_up {T : Int → Int} {ev : tEvT} (hU : evU ev) (hWd : evW ev) (x lt lt' : Int) {m : Int} (hm : 0 ≤ m) : tGo (tUp T 10 x) ev lt' m = tGo T ev lt m := by
  unfold tGo
  match ev, hU, hWd with
  | none, _, _ =>
    dsimp only
    rw [tUp_n (j := 11 + m) (by omega), tUp_n (j := 1) (by decide)]
  | some f, hU, hWd =>
    dsimp only
    rw [tUp_n (j := 11 + m) (by omega), tUp_n (j := 1) (by decide)]
    have e : (fun p => f (tEnv (tUp T 10 x) lt' m p)) = fun p => f (tEnv T lt m p) := by
      funext p
      have a1 : f (tEnv (tUp T 10 x) lt' m p) = f (fun j => if 0 ≤ j ∧ j < 12 then tEnv (tUp T 10 x) lt' m p j else 0) := hWd f rfl _ _ (fun j a b => by rw [if_pos ⟨a, b⟩])
      have a2 : f (tEnv T lt m p) = f (fun j => if 0 ≤ j ∧ j < 12 then tEnv T lt m p j else 0) := hWd f rfl _ _ (fun j a b => by rw [if_pos ⟨a, b⟩])
      rw [a1, a2]
      refine hU f rfl _ _ (fun j h8 h9 h11 => ?_)
      by_cases hj : 0 ≤ j ∧ j < 12
      · rw [if_pos hj, if_pos hj]
        exact tEnv_up T x lt lt' hm j h8 h9 h11 hj
      · rw [if_neg hj, if_neg hj]
    rw [e]
theorem tNight_up {T : Int → Int} {ev : tEvT} (hU : evU ev) (hWd : evW ev) (x lt lt' : Int) : tNight (tUp T 10 x) ev lt' = (tUp (tNight T ev lt).1 10 (x + 1), (tNight T ev lt).2) := by
  have e : tSwim (tUp T 10 x) ev lt' = tUp (tSwim T ev lt) 10 x := by
    funext k
    by_cases hk10 : k = 10
    · rw [hk10, tUp_s]
      unfold tSwim
      rw [if_neg (by omega), tUp_s]
    · rw [tUp_n (T := tSwim T ev lt) hk10]
      unfold tSwim
      rw [tUp_n (j := 5) (by decide)]
      by_cases hk : 11 ≤ k ∧ k < 11 + T 5
      · rw [if_pos hk, if_pos hk]
        unfold tNew
        rw [tGo_up hU hWd x lt lt' (by omega), tUp_n (j := 11 + (k - 11)) (by omega), tUp_n (j := 33 + (k - 11)) (by omega), tUp_n (j := 1) (by decide), tUp_n (j := 2) (by decide)]
      · rw [if_neg hk, if_neg hk, tUp_n hk10]
  unfold tNight
  rw [e, tFill_up]
  dsimp only
  rw [tUp_s]
  congr 1
  funext k
  unfold tUp
  by_cases hk : k = 10
  · rw [if_pos hk, if_pos hk]
  · rw [if_neg hk, if_neg hk, if_neg hk, if_neg hk]
/-- still water -/
theorem tIt_still {T : Int → Int} {ev : tEvT} (hU : evU ev) (hWd : evW ev) (lt : Int) (hs : (tNight T ev lt).1 = tUp T 10 (T 10 + 1)) : ∀ k : Nat, tIt ev k (tNight T ev lt).1 = tUp T 10 (T 10 + 1 + (k : Int))
  | 0 => by
    show (tNight T ev lt).1 = _
    rw [hs, show T 10 + 1 + ((0 : Nat) : Int) = T 10 + 1 by omega]
  | k + 1 => by
    show tStep ev (tIt ev k (tNight T ev lt).1) = _
    rw [tIt_still hU hWd lt hs k]
    unfold tStep
    rw [tNight_up hU hWd _ lt]
    dsimp only
    rw [hs]
    funext j
    unfold tUp
    by_cases hj : j = 10
    · rw [if_pos hj, if_pos hj]
      omega
    · rw [if_neg hj, if_neg hj, if_neg hj]
theorem cEv_cong {c g env env' : Int → Int} : ∀ (k : Nat) (i : Int) (st : List Int), (∀ j, i ≤ j → j < i + (k : Int) → c j = 7 → env (g j) = env' (g j)) → cEv c g env k i st = cEv c g env' k i st
  | 0, _, _, _ => rfl
  | k + 1, i, st, h => by
    have ih := fun st => cEv_cong (c := c) (g := g) (env := env) (env' := env') k (i + 1) st (fun j a b => h j (by omega) (by omega))
    unfold cEv
    by_cases k6 : c i = 6 ∨ c i = 7
    · rw [if_pos k6, if_pos k6, ih]
      by_cases h6 : c i = 6
      · simp only [if_pos h6]
      · rw [h i (Int.le_refl i) (by omega) (by omega)]
    · rw [if_neg k6, if_neg k6]
      simp only [ih]
theorem cRu_W {mem : jMem} {q : Int} (h : cRu mem q) : evW (some (cRl mem q)) := fun f hf env env' he => by
  cases hf
  obtain ⟨c1, -, -, -, c5, -⟩ := h
  unfold cRl
  refine cEv_cong _ 0 [] (fun j a b c => ?_)
  obtain ⟨x, y⟩ := c5 j a (by omega) c
  exact he _ x y
theorem cRu_U {mem : jMem} {q : Int} (h : cRu mem q) (ht : jrI mem 5 q 3 = 0) : evU (some (cRl mem q)) := fun f hf env env' he => by
  cases hf
  exact h.2.2.2.2.2.2 ht env env' he
