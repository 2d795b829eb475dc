/-! A night in the class: traps, the whole night -/
def aF (w : Int) (f : Nat) (i _ : Int) : Prop := (f = 38 ∨ f = 43) ∧ i = w
/-- places and traps of water w -/
def cPl (mem : jMem) (w : Int) (T : Int → Int) : Prop := (∀ j, 0 ≤ j → j < T 5 → jrI mem 38 w j = T (11 + j)) ∧ ∀ t, 0 ≤ t → t < T 6 → jrI mem 43 w t = tIn T t
/-- what stays in traps' work -/
def cSt (mem : jMem) (s r w : Int) (T : Int → Int) : Prop := jrS mem 7 s 4 = some r ∧ jrS mem 7 s 5 = some w ∧ jrI mem 4 r 5 = T 5 ∧ jrI mem 4 r 6 = T 6 ∧ (∀ m, 0 ≤ m → m < T 5 → jrI mem 24 r m = T (33 + m) ∧ jrI mem 25 r m = T (39 + m)) ∧ ∀ t, 0 ≤ t → t < T 6 → jrI mem 40 w t = T (17 + 2 * t) ∧ jrI mem 41 w t = T (25 + t) ∧ jrI mem 42 w t = T (18 + 2 * t)
theorem cSt_A {a b : jMem} {w : Int} (h : uA (aF w) a b) {s r : Int} {T T' : Int → Int} (hE : tEq T T') (hc : cSt a s r w T) : cSt b s r w T' := by
  obtain ⟨c1, c2, c3, c4, c5, c6⟩ := hc
  have eS : ∀ k, jrS b 7 s k = jrS a 7 s k := fun k => by show b.2.2 7 s k = a.2.2 7 s k; rw [h.2.2]
  unfold cSt
  rw [eS, eS, h.1 4 r 5 (by unfold aF; omega), h.1 4 r 6 (by unfold aF; omega), hE 5 (by omega), hE 6 (by omega)]
  refine ⟨c1, c2, c3, c4, fun m a b => ?_, fun t a b => ?_⟩
  · rw [h.1 24 r m (by unfold aF; omega), h.1 25 r m (by unfold aF; omega), hE (33 + m) (by omega), hE (39 + m) (by omega)]
    exact c5 m a b
  · rw [h.1 40 w t (by unfold aF; omega), h.1 41 w t (by unfold aF; omega), h.1 42 w t (by unfold aF; omega), hE (17 + 2 * t) (by omega), hE (18 + 2 * t) (by omega), hE (25 + t) (by omega)]
    exact c6 t a b
theorem s_Sm_fill17 (d : Nat) (s r w t x : Int) (T : Int → Int) (mem : jMem) (hR : tRv T) (hW : tWv T) (hS : cSt mem s r w T) (hP : cPl mem w T) (ht : 0 ≤ t ∧ t < T 6) : ∃ mem', Sm_fillTraps_17 d s x t 0 mem = Sm_fillTraps_4 d s (tTrap t (T, x)).2 (t + 1) mem' ∧ uA (aF w) mem mem' ∧ cPl mem' w (tTrap t (T, x)).1 := by
  obtain ⟨t0, t3, t4, t5, t6, -⟩ := id hR
  obtain ⟨c1, c2, c3, c4, c5, c6⟩ := id hS
  obtain ⟨d1, d2, d3⟩ := c6 t ht.1 ht.2
  have hin := hP.2 t ht.1 ht.2
  unfold tTrap
  by_cases h1 : tIn T t = -1
  · have key : ∀ (k : Nat) (i : Int), 0 ≤ i → i + (k : Int) = T 5 → ∃ mem', Sm_fillTraps_17 d s x t i mem = Sm_fillTraps_4 d s (if puG (fun m => T (11 + m) = T (17 + 2 * t) ∧ T (39 + m) = T (18 + 2 * t) ∧ T (33 + m) ≤ T (25 + t)) k i ≠ -1 then jor x (jshl 1 (puG (fun m => T (11 + m) = T (17 + 2 * t) ∧ T (39 + m) = T (18 + 2 * t) ∧ T (33 + m) ≤ T (25 + t)) k i)) else x) (t + 1) mem' ∧ mem' = (if puG (fun m => T (11 + m) = T (17 + 2 * t) ∧ T (39 + m) = T (18 + 2 * t) ∧ T (33 + m) ≤ T (25 + t)) k i ≠ -1 then jwI (jwI mem 38 w (puG (fun m => T (11 + m) = T (17 + 2 * t) ∧ T (39 + m) = T (18 + 2 * t) ∧ T (33 + m) ≤ T (25 + t)) k i) (20 + t)) 43 w t (puG (fun m => T (11 + m) = T (17 + 2 * t) ∧ T (39 + m) = T (18 + 2 * t) ∧ T (33 + m) ≤ T (25 + t)) k i) else mem) := by
      intro k
      induction k with
      | zero =>
        intro i h0 hn
        rw [q_Sm_fillTraps_17, c1, c2]
        simp only [jsm_s]
        rw [c3, if_neg (by omega), jw32_id (x := t + 1) (by omega) (by omega)]
        exact ⟨mem, rfl, rfl⟩
      | succ k ih =>
        intro i h0 hn
        obtain ⟨f1, f2⟩ := c5 i h0 (by omega)
        rw [q_Sm_fillTraps_17, c1, c2]
        simp only [jsm_s]
        simp only [jix_in (n := 4) (x := t) ht.1 (by omega), jix_in (n := 6) (x := i) h0 (by omega)]
        rw [c3, if_pos (by omega), hin, if_pos h1, hP.1 i h0 (by omega), d1, f2, d3, d2, f1, jw32_id (x := i + 1) (by omega) (by omega), jw32_id (x := 20 + t) (by omega) (by omega), puG_s]
        by_cases hp : T (11 + i) = T (17 + 2 * t) ∧ T (39 + i) = T (18 + 2 * t) ∧ T (33 + i) ≤ T (25 + t)
        · simp only [if_pos hp]
          rw [if_pos hp.1, if_pos hp.2.1, if_neg (by omega), if_pos (by omega), if_pos (by omega)]
          refine ⟨_, ?_, rfl⟩
          rw [q_Sm_fillTraps_17]
          have eS4 : jrS (jwI (jwI mem 38 w i (20 + t)) 43 w t i) 7 s 4 = some r := c1
          have eS5 : jrS (jwI (jwI mem 38 w i (20 + t)) 43 w t i) 7 s 5 = some w := c2
          rw [eS4, eS5]
          simp only [jsm_s]
          rw [jw32_id (x := t + 1) (by omega) (by omega), jix_in ht.1 (by omega), jrI_ws, if_neg (c := i = -1) (by omega)]
          split <;> rfl
        · simp only [if_neg hp]
          obtain ⟨m2, e1, e2⟩ := ih (i + 1) (by omega) (by omega)
          refine ⟨m2, ?_, e2⟩
          rw [← e1]
          by_cases a1 : T (11 + i) = T (17 + 2 * t)
          · by_cases a2 : T (39 + i) = T (18 + 2 * t)
            · by_cases a3 : T (25 + t) < T (33 + i)
              · rw [if_pos a1, if_pos a2, if_pos a3]
              · exact absurd ⟨a1, a2, by omega⟩ hp
            · rw [if_pos a1, if_neg a2]
          · rw [if_neg a1]
    obtain ⟨mem', e1, e2⟩ := key (T 5).toNat 0 (Int.le_refl 0) (by omega)
    have ef : puG (fun m => T (11 + m) = T (17 + 2 * t) ∧ T (39 + m) = T (18 + 2 * t) ∧ T (33 + m) ≤ T (25 + t)) (T 5).toNat 0 = tFit T t := rfl
    rw [ef] at e1 e2
    rw [e1]
    by_cases h2 : tFit T t = -1
    · rw [if_neg (fun w => w h2), if_neg (fun w => w.2 h2)]
      rw [if_neg (fun w => w h2)] at e2
      exact ⟨mem', rfl, by rw [e2]; exact uA_rf _ mem, by rw [e2]; exact hP⟩
    · rw [if_pos h2, if_pos ⟨h1, h2⟩]
      rw [if_pos h2] at e2
      obtain ⟨f0, f1, g1, g2, g3, g4⟩ := tTrap_ok (s := 0) hR hW ht h1 h2
      refine ⟨mem', rfl, ?_, ?_⟩
      · rw [e2]
        exact uA_I (uA_I (uA_rf _ mem) ⟨Or.inl rfl, rfl⟩) ⟨Or.inr rfl, rfl⟩
      · rw [e2]
        show cPl _ w (tUp T (11 + tFit T t) (20 + t))
        constructor
        · intro j j0 j1
          rw [g1 5 (by omega)] at j1
          rw [jrI_wf (by decide)]
          by_cases e : j = tFit T t
          · rw [e, jrI_ws, tUp_s]
          · rw [jrI_wk e, tUp_n (by omega)]
            exact hP.1 j j0 j1
        · intro t' q0 q1
          rw [g1 6 (by omega)] at q1
          by_cases e : t' = t
          · rw [e, jrI_ws, g3]
          · rw [jrI_wk e, jrI_wf (by decide), g4 t' q0 q1 e]
            exact hP.2 t' q0 q1
  · rw [if_neg (fun w => h1 w.1)]
    refine ⟨mem, ?_, uA_rf _ mem, hP⟩
    rw [q_Sm_fillTraps_17, c1, c2]
    simp only [jsm_s]
    rw [c3, jix_in ht.1 (by omega), hin, if_neg h1, jw32_id (x := t + 1) (by omega) (by omega)]
    split <;> rfl
theorem s_Sm_fillTraps (d : Nat) (s r w : Int) (T : Int → Int) (mem : jMem) (hR : tRv T) (hW : tWv T) (hS : cSt mem s r w T) (hP : cPl mem w T) : ∃ mem', Sm_fillTraps (d + 1) s mem = some (vI (tFill T).2, mem') ∧ uA (aF w) mem mem' ∧ cPl mem' w (tFill T).1 := by
  have t6 := hR.2.2.2.2.1
  rw [q_Sm_fillTraps]
  obtain ⟨⟨x1, m1⟩, a1, a2, a3, a4⟩ := puUpE (α := Int × jMem) (P := fun i a => a.1 = (tFillN T i).2 ∧ uA (aF w) mem a.2 ∧ cPl a.2 w (tFillN T i).1) (L := fun i a => Sm_fillTraps_4 d s a.1 i a.2) (n := T 6) t6.1 (fun i a i0 i1 hP1 => by
    obtain ⟨x, m1⟩ := a
    obtain ⟨p1, p2, p3⟩ := hP1
    dsimp only at p1 p2 p3 ⊢
    obtain ⟨k1, k2, k3⟩ := tFillN_ok hR hW i.toNat (by omega)
    rw [show ((i.toNat : Nat) : Int) = i by omega] at k1 k2 k3
    have hS1 := cSt_A p2 k1 hS
    obtain ⟨m2, e1, e2, e3⟩ := s_Sm_fill17 d s r w i x (tFillN T i).1 m1 (tRv_eq k1 hR) k2 hS1 p3 ⟨i0, by rw [k1 6 (by omega)]; exact i1⟩
    refine ⟨((tTrap i ((tFillN T i).1, x)).2, m2), ?_, ?_, uA_tr p2 e2, ?_⟩
    · dsimp only
      rw [q_Sm_fillTraps_4, hS1.1]
      simp only [jsm_s]
      rw [hS1.2.2.2.1, k1 6 (by omega), if_pos i1, e1]
    · rw [tFillN_s T i0, p1]
    · rw [tFillN_s T i0]
      have e9 : ((tFillN T i).1, x) = tFillN T i := by rw [p1]
      rw [e9] at e3
      exact e3) (0, mem) ⟨rfl, uA_rf _ mem, hP⟩
  dsimp only at a1 a2 a3 a4
  obtain ⟨k1, k2, k3⟩ := tFillN_ok hR hW (T 6).toNat (by omega)
  rw [show (((T 6).toNat : Nat) : Int) = T 6 by omega] at k1 k2 k3
  have hS1 := cSt_A a3 k1 hS
  rw [a1, q_Sm_fillTraps_4, hS1.1]
  simp only [jsm_s]
  rw [hS1.2.2.2.1, k1 6 (by omega), if_neg (by omega), a2]
  exact ⟨m1, rfl, a3, a4⟩
theorem jor_shl_ne (a m : Int) (hm : 0 ≤ m ∧ m < 6) : jor a (jshl 1 m) ≠ 0 := by
  intro h
  unfold jor at h
  have h1 : Int32.ofInt a ||| Int32.ofInt (jshl 1 m) = 0 := Int32.toInt_inj.mp h
  have h2 : (Int32.ofInt a).toBitVec ||| (Int32.ofInt (jshl 1 m)).toBitVec = 0#32 := by
    have := congrArg Int32.toBitVec h1
    rw [Int32.toBitVec_or] at this
    exact this
  have h3 := (BitVec.or_eq_zero_iff.mp h2).2
  have hk : m = 0 ∨ m = 1 ∨ m = 2 ∨ m = 3 ∨ m = 4 ∨ m = 5 := by omega
  rcases hk with rfl | rfl | rfl | rfl | rfl | rfl <;> exact absurd h3 (by decide +kernel)
theorem tFill_0 {T : Int → Int} (hR : tRv T) (hW : tWv T) (h : (tFill T).2 = 0) : (tFill T).1 = T := by
  have t6 := hR.2.2.2.2.1
  have key : ∀ k : Nat, (k : Int) ≤ T 6 → (tFillN T (k : Int)).2 = 0 → (tFillN T (k : Int)).1 = T := by
    intro k
    induction k with
    | zero => intro _ _; rfl
    | succ k ih =>
      intro hk h0
      obtain ⟨q1, q2, q3⟩ := tFillN_ok hR hW k (by omega)
      rw [show (((k + 1 : Nat)) : Int) = (k : Int) + 1 by omega, tFillN_s T (by omega)] at h0 ⊢
      unfold tTrap at h0 ⊢
      by_cases hc : tIn (tFillN T (k : Int)).1 (k : Int) = -1 ∧ tFit (tFillN T (k : Int)).1 (k : Int) ≠ -1
      · rw [if_pos hc] at h0
        obtain ⟨f0, f1, -⟩ := tTrap_ok (s := 0) (tRv_eq q1 hR) q2 (by rw [q1 6 (by omega)]; omega) hc.1 hc.2
        rw [q1 5 (by omega)] at f1
        exact absurd h0 (jor_shl_ne _ _ ⟨f0, by have := hR.2.2.2.1; omega⟩)
      · rw [if_neg hc] at h0 ⊢
        exact ih (by omega) h0
  have h9 : tFill T = tFillN T (((T 6).toNat : Nat) : Int) := by
    rw [show (((T 6).toNat : Nat) : Int) = T 6 by omega]
    rfl
  rw [h9] at h ⊢
  exact key _ (by omega) h
/-- a night may change these in the class -/
def aN (w : Int) (f : Nat) (i k : Int) : Prop := f = 7 ∨ (34 ≤ f ∧ f ≤ 36) ∨ (f = 9 ∧ i = w ∧ k = 0) ∨ ((f = 38 ∨ f = 43) ∧ i = w)
theorem s_Sm_step (d : Nat) (s r w lt : Int) (o : Option Int) (ev : tEvT) (T : Int → Int) (mem : jMem) (hR : tRv T) (hW : tWv T) (h1 : T 0 = 1) (cr : cRw mem r T) (cw : cWv mem w T) (hev : cEvt mem o ev) : ∃ mem', Sm_step (d + 6) s r w o lt mem = some (vI (tNight T ev lt).2, mem') ∧ cWv mem' w (tNight T ev lt).1 ∧ puR (aN w) mem mem' ∧ (∀ f, f ≠ 33 → jrJ mem' f = jrJ mem f) ∧ jrS mem' 7 s 6 = o ∧ (jrI mem' 7 s 11 = 0 ∨ jrI mem' 7 s 11 = 1) ∧ (jrI mem' 7 s 11 = 0 → (tNight T ev lt).1 = tUp T 10 (T 10 + 1) ∧ (tNight T ev lt).2 = 0) := by
  have h10 := hW.1
  have t5 := hR.2.2.2.1
  have t6 := hR.2.2.2.2.1
  have q5 : jrS (jwS (jwS (jwS mem 7 s 4 (some r)) 7 s 5 (some w)) 7 s 6 o) 7 s 5 = some w := by rw [jrS_w, if_neg (by omega), jrS_w, if_pos ⟨rfl, rfl, rfl⟩]
  have q4 : jrS (jwS (jwS (jwS mem 7 s 4 (some r)) 7 s 5 (some w)) 7 s 6 o) 7 s 4 = some r := by rw [jrS_w, if_neg (by omega), jrS_w, if_neg (by omega), jrS_w, if_pos ⟨rfl, rfl, rfl⟩]
  have q6 : jrS (jwS (jwS (jwS mem 7 s 4 (some r)) 7 s 5 (some w)) 7 s 6 o) 7 s 6 = o := by rw [jrS_w, if_pos ⟨rfl, rfl, rfl⟩]
  rw [q_Sm_step, q5, q4]
  simp only [jsm_s]
  rw [cw.1, jw32_id (x := T 10 + 1) (by omega) (by omega)]
  generalize hA : jwS (jwS (jwS mem 7 s 4 (some r)) 7 s 5 (some w)) 7 s 6 o = mA at q4 q5 q6 ⊢
  have eA : jrI mA = jrI mem := by rw [← hA]; rfl
  have eAJ : jrJ mA = jrJ mem := by rw [← hA]; rfl
  have hri : jSem (d + 5) 33 [vR 4 (some r), vI (T 10 + 1)] (jwI mA 7 s 7 lt) = Ri_lightOf (d + 5) r (T 10 + 1) (jwI mA 7 s 7 lt) := rfl
  rw [hri, s_Ri_lightOw (d + 4) r (T 10 + 1) T (jwI mA 7 s 7 lt) (cRw_fr (fun f k hf => by rw [jrI_wf (by omega), eA]) cr) hR (by omega)]
  simp only [jbnd_s, jasI_v]
  generalize hB : jwI (jwI (jwI mA 7 s 7 lt) 7 s 8 (tLi T (T 10 + 1))) 7 s 11 0 = mB
  have eB : ∀ f i k, f ≠ 7 → jrI mB f i k = jrI mem f i k := fun f i k hf => by rw [← hB, jrI_wf hf, jrI_wf hf, jrI_wf hf, eA]
  have sB : ∀ k, jrS mB 7 s k = jrS mA 7 s k := fun k => by rw [← hB]; rfl
  have jB : jrJ mB = jrJ mem := by rw [← hB, ← eAJ]; rfl
  have hCB : cC mB s r w o T lt := ⟨by rw [sB]; exact q4, by rw [sB]; exact q5, by rw [sB]; exact q6, cRw_fr (fun f k hf => eB f r k (by omega)) cr, cWv_fr (fun f k hf => eB f w k (by omega)) cw, by rw [← hB, jrI_wk (by decide), jrI_wk (by decide), jrI_ws], by rw [← hB, jrI_wk (by decide), jrI_ws]⟩
  have hevB : cEvt mB o ev := by
    rcases hev with hc | ⟨q, v1, v2, v3⟩
    · exact Or.inl hc
    · refine Or.inr ⟨q, v1, cRu_fr (fun f k hf => eB f q k (by omega)) (fun f k hf => eB f 0 k (by omega)) v2, ?_⟩
      have e1 : jrI mB 31 q = jrI mem 31 q := funext fun k => eB 31 q k (by decide)
      have e2 : jrI mB 32 q = jrI mem 32 q := funext fun k => eB 32 q k (by decide)
      have e4 : cRl mB q = cRl mem q := by
        funext env
        unfold cRl
        rw [e1, e2, eB 5 q 2 (by decide)]
      rw [e4]
      exact v3
  have m11 : jrI mB 7 s 11 = 0 := by rw [← hB, jrI_ws]
  have s6 : jrS (jwI mA 7 s 7 lt) 7 s 6 = o := q6
  rw [s6]
  -- the pools, if there is a rule
  obtain ⟨mC, c1, c2, c3⟩ : ∃ mC, jnl o (Sm_step_60 (d + 5) s 0 mB) (jbnd (Sm_countPools (d + 5) s mB) fun v4 mem5 => Sm_step_60 (d + 5) s 0 mem5) = Sm_step_60 (d + 5) s 0 mC ∧ (o ≠ none → cP mC s T) ∧ uA aCp mB mC := by
    match o, hCB with
    | none, _ => exact ⟨mB, rfl, fun h => absurd rfl h, uA_rf _ mB⟩
    | some q, hCB =>
      obtain ⟨mC, w1, w2, w3⟩ := s_Sm_countPools (d + 2) s r w lt (some q) T mB hR hW hCB
      refine ⟨mC, ?_, fun _ => w2, w3⟩
      show jbnd (Sm_countPools (d + 5) s mB) (fun _ mem5 => Sm_step_60 (d + 5) s 0 mem5) = Sm_step_60 (d + 5) s 0 mC
      rw [w1]
      rfl
  rw [c1]
  have hCC : cC mC s r w o T lt := cC_fr c3.2.2 (fun f i k hf => c3.1 f i k (by unfold aCp; omega)) hCB
  obtain ⟨mD, e1, e2, e3⟩ := s_Sm_step60 d s r w lt o ev T mC hR hW hCC c2 (cEvt_A (fun f i k hf => by unfold aCp at hf; omega) c3 hevB)
  have hCD : cC mD s r w o T lt := cC_fr e2.2.2 (fun f i k hf => e2.1 f i k (by unfold aH; omega)) hCC
  have d11 : jrI mD 7 s 11 = 0 := by rw [e2.1 7 s 11 (by unfold aH; omega), c3.1 7 s 11 (by unfold aCp; omega)]; exact m11
  obtain ⟨mE, f1, f2, f3, f4, f5⟩ := s_Sm_step123 d s r w lt o ev T mD hR hW hCD e3 d11
  have hSe := tSwim_eq (T := T) ev lt t5.2
  have hSw := tSwim_ok ev lt hR h1 hW
  have hSr := tRv_eq hSe hR
  have sE : ∀ k, jrS mE 7 s k = jrS mD 7 s k := fun k => by show mE.2.2 7 s k = mD.2.2 7 s k; rw [f2.2.2]
  obtain ⟨S4, S5, S6, crD, cwD, -⟩ := id hCD
  have hSt : cSt mE s r w (tSwim T ev lt) := by
    refine ⟨by rw [sE]; exact S4, by rw [sE]; exact S5, by rw [f2.1 4 r 5 (by unfold aV; omega), hSe 5 (by omega)]; exact crD.2.2.2.2.2.1, by rw [f2.1 4 r 6 (by unfold aV; omega), hSe 6 (by omega)]; exact crD.2.2.2.2.2.2.1, fun m a b => ?_, fun t a b => ?_⟩
    · rw [hSe 5 (by omega)] at b
      rw [f2.1 24 r m (by unfold aV; omega), f2.1 25 r m (by unfold aV; omega), hSe (33 + m) (by omega), hSe (39 + m) (by omega)]
      obtain ⟨g1, g2, g3, g4⟩ := crD.2.2.2.2.2.2.2.1 m a b
      exact ⟨g2, g3⟩
    · rw [hSe 6 (by omega)] at b
      rw [f2.1 40 w t (by unfold aV; omega), f2.1 41 w t (by unfold aV; omega), f2.1 42 w t (by unfold aV; omega), hSe (17 + 2 * t) (by omega), hSe (18 + 2 * t) (by omega), hSe (25 + t) (by omega)]
      obtain ⟨g1, g2, g3, g4⟩ := cwD.2.2 t a b
      exact ⟨g1, g2, g3⟩
  have hPl : cPl mE w (tSwim T ev lt) := by
    refine ⟨fun j a b => ?_, fun t a b => ?_⟩
    · rw [hSe 5 (by omega)] at b
      rw [f3 j a b, tSwim_m ev lt a b]
    · rw [hSe 6 (by omega)] at b
      rw [f2.1 43 w t (by unfold aV; omega), tSwim_in ev lt hR hW a]
      exact (cwD.2.2 t a b).2.2.2
  obtain ⟨mF, g1, g2, g3⟩ := s_Sm_fillTraps (d + 4) s r w (tSwim T ev lt) mE hSr hSw hSt hPl
  have sF : ∀ k, jrS mF 7 s k = jrS mE 7 s k := fun k => by show mF.2.2 7 s k = mE.2.2 7 s k; rw [g2.2.2]
  have hF11 : jrI mF 7 s 11 = jrI mE 7 s 11 := g2.1 7 s 11 (by unfold aF; omega)
  have hF9 : jrI mF 9 w 0 = T 10 := by rw [g2.1 9 w 0 (by unfold aF; omega), f2.1 9 w 0 (by unfold aV; omega)]; exact cwD.1
  have eF : ∀ f i k, ¬ aN w f i k → jrI mF f i k = jrI mem f i k := fun f i k hf => by
    unfold aN at hf
    rw [g2.1 f i k (by unfold aF; omega), f2.1 f i k (by unfold aV; omega), e2.1 f i k (by unfold aH; omega), c3.1 f i k (by unfold aCp; omega), eB f i k (by omega)]
  have jF : ∀ f, f ≠ 33 → jrJ mF f = jrJ mem f := fun f hf => by rw [g2.2.1 f hf, f2.2.1 f hf, e2.2.1 f hf, c3.2.1 f hf, jB]
  obtain ⟨k1, k2, k3⟩ := tFillN_ok hSr hSw ((tSwim T ev lt) 6).toNat (by have := hSr.2.2.2.2.1; omega)
  have e66 : ((((tSwim T ev lt) 6).toNat : Nat) : Int) = (tSwim T ev lt) 6 := by have := hSr.2.2.2.2.1; omega
  rw [e66] at k1 k2 k3
  have k1 : tEq (tSwim T ev lt) (tFill (tSwim T ev lt)).1 := k1
  have kE := tEq_tr hSe k1
  -- the end
  have fin : ∀ v, v = 0 ∨ v = 1 → (v = 0 → (tNight T ev lt).1 = tUp T 10 (T 10 + 1) ∧ (tNight T ev lt).2 = 0) → ∃ mem', Sm_step_230 (d + 5) s (tNight T ev lt).2 s v mF = some (vI (tNight T ev lt).2, mem') ∧ cWv mem' w (tNight T ev lt).1 ∧ puR (aN w) mem mem' ∧ (∀ f, f ≠ 33 → jrJ mem' f = jrJ mem f) ∧ jrS mem' 7 s 6 = o ∧ (jrI mem' 7 s 11 = 0 ∨ jrI mem' 7 s 11 = 1) ∧ (jrI mem' 7 s 11 = 0 → (tNight T ev lt).1 = tUp T 10 (T 10 + 1) ∧ (tNight T ev lt).2 = 0) := fun v hv hv0 => by
    rw [q_Sm_step_230, jbo_in hv, sF, sE, S5]
    simp only [jsm_s]
    rw [hF9, jw32_id (x := T 10 + 1) (by omega) (by omega)]
    refine ⟨_, rfl, ?_, ?_, fun f hf => jF f hf, ?_, ?_, ?_⟩
    · have n5 : (tNight T ev lt).1 5 = T 5 := by
        show tUp (tFill (tSwim T ev lt)).1 10 (T 10 + 1) 5 = _
        rw [tUp_n (by decide), kE 5 (by omega)]
      have n6 : (tNight T ev lt).1 6 = T 6 := by
        show tUp (tFill (tSwim T ev lt)).1 10 (T 10 + 1) 6 = _
        rw [tUp_n (by decide), kE 6 (by omega)]
      refine ⟨?_, fun m a b => ?_, fun t a b => ?_⟩
      · rw [jrI_ws]
        show T 10 + 1 = tUp (tFill (tSwim T ev lt)).1 10 (T 10 + 1) 10
        rw [tUp_s]
      · rw [n5] at b
        rw [jrI_wf (by decide), jrI_wf (by decide), jrI_wf (by decide), jrI_wf (by decide)]
        show jrI mF 38 w m = tUp (tFill (tSwim T ev lt)).1 10 (T 10 + 1) (11 + m) ∧ jrI mF 39 w m = tUp (tFill (tSwim T ev lt)).1 10 (T 10 + 1) (45 + m)
        rw [tUp_n (by omega), tUp_n (by omega), kE (45 + m) (by omega), eF 39 w m (by unfold aN; omega)]
        exact ⟨g3.1 m a (by rw [kE 5 (by omega)]; exact b), (cw.2.1 m a b).2⟩
      · rw [n6] at b
        rw [jrI_wf (by decide), jrI_wf (by decide), jrI_wf (by decide), jrI_wf (by decide), jrI_wf (by decide), jrI_wf (by decide), jrI_wf (by decide), jrI_wf (by decide)]
        show jrI mF 40 w t = tUp (tFill (tSwim T ev lt)).1 10 (T 10 + 1) (17 + 2 * t) ∧ jrI mF 41 w t = tUp (tFill (tSwim T ev lt)).1 10 (T 10 + 1) (25 + t) ∧ jrI mF 42 w t = tUp (tFill (tSwim T ev lt)).1 10 (T 10 + 1) (18 + 2 * t) ∧ jrI mF 43 w t = tIn (tUp (tFill (tSwim T ev lt)).1 10 (T 10 + 1)) t
        rw [tUp_n (by omega), tUp_n (by omega), tUp_n (by omega), kE (17 + 2 * t) (by omega), kE (25 + t) (by omega), kE (18 + 2 * t) (by omega), eF 40 w t (by unfold aN; omega), eF 41 w t (by unfold aN; omega), eF 42 w t (by unfold aN; omega)]
        obtain ⟨x1, x2, x3, x4⟩ := cw.2.2 t a b
        refine ⟨x1, x2, x3, ?_⟩
        rw [g3.2 t a (by rw [kE 6 (by omega)]; exact b)]
        refine (tIn_cong (tUp_n (by decide)) (fun m a9 b9 => ?_)).symm
        rw [tUp_n (by omega)]
    · refine puR_w (puR_w (fun f i k hf => eF f i k hf) (Or.inl rfl)) (Or.inr (Or.inr (Or.inl ⟨rfl, rfl, rfl⟩)))
    · show jrS mF 7 s 6 = o
      rw [sF, sE]
      exact S6
    · rw [jrI_wf (by decide), jrI_ws]
      exact hv
    · rw [jrI_wf (by decide), jrI_ws]
      exact hv0
  rw [e1, f1, q_Sm_step_123, sE, S4]
  simp only [jsm_s]
  rw [f2.1 4 r 5 (by unfold aV; omega), crD.2.2.2.2.2.1, if_neg (by omega), g1]
  simp only [jbnd_s, jasI_v]
  rw [hF11]
  have e22 : (tFill (tSwim T ev lt)).2 = (tNight T ev lt).2 := rfl
  rw [e22]
  by_cases hm : jrI mE 7 s 11 = 0
  · rw [if_pos hm]
    by_cases hz : (tNight T ev lt).2 = 0
    · rw [if_pos hz]
      refine fin 0 (Or.inl rfl) (fun _ => ⟨?_, hz⟩)
      have hsw : tSwim T ev lt = T := by
        funext k
        unfold tSwim
        by_cases hk : 11 ≤ k ∧ k < 11 + T 5
        · rw [if_pos hk, f5 hm (k - 11) (by omega) (by omega), show 11 + (k - 11) = k by omega]
        · rw [if_neg hk]
      show tUp (tFill (tSwim T ev lt)).1 10 (T 10 + 1) = _
      rw [tFill_0 hSr hSw hz, hsw]
    · rw [if_neg hz]
      exact fin 1 (Or.inr rfl) (fun h => by omega)
  · rw [if_neg hm]
    exact fin 1 (Or.inr rfl) (fun h => by omega)
