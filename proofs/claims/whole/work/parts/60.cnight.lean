/-! A night in the class: pools counted, moves, traps -/
def uA (A : Nat → Int → Int → Prop) (m m' : jMem) : Prop := puR A m m' ∧ (∀ f, f ≠ 33 → jrJ m' f = jrJ m f) ∧ m'.2.2 = m.2.2
theorem uA_rf (A : Nat → Int → Int → Prop) (m : jMem) : uA A m m := ⟨puR_rf A m, fun _ _ => rfl, rfl⟩
theorem uA_tr {A : Nat → Int → Int → Prop} {a b c : jMem} (h1 : uA A a b) (h2 : uA A b c) : uA A a c := ⟨puR_tr h1.1 h2.1, fun f hf => (h2.2.1 f hf).trans (h1.2.1 f hf), h2.2.2.trans h1.2.2⟩
theorem uA_I {A : Nat → Int → Int → Prop} {a b : jMem} {f : Nat} {i k v : Int} (h : uA A a b) (hA : A f i k) : uA A a (jwI b f i k v) := ⟨puR_w h.1 hA, h.2.1, h.2.2⟩
theorem uA_mono {A B : Nat → Int → Int → Prop} {a b : jMem} (h : uA A a b) (hm : ∀ f i k, A f i k → B f i k) : uA B a b := ⟨puR_mono h.1 hm, h.2.1, h.2.2⟩
theorem uA_G {a b : jMem} (h : uG a b) : uA aG a b := h
def aCp (f : Nat) (_ _ : Int) : Prop := f = 35 ∨ f = 36
theorem s_Sm_countPools (d : Nat) (s r w lt : Int) (o : Option Int) (T : Int → Int) (mem : jMem) (hR : tRv T) (hW : tWv T) (hC : cC mem s r w o T lt) : ∃ mem', Sm_countPools (d + 3) s mem = some (vU, mem') ∧ cP mem' s T ∧ uA aCp mem mem' := by
  obtain ⟨t0, t3, t4, t5, t6, -⟩ := id hR
  obtain ⟨w1, w2, w3, w4⟩ := id hW
  have h12 : T 1 ≤ 12 := by omega
  have hCb : ∀ {b : jMem}, uA aCp mem b → cC b s r w o T lt := fun hb => cC_fr hb.2.2 (fun f i k hf => hb.1 f i k (by unfold aCp; omega)) hC
  rw [q_Sm_countPools]
  obtain ⟨m1, a1, a2, a3⟩ := puUpE (P := fun i m1 => uA aCp mem m1 ∧ ∀ p, 0 ≤ p → p < i → jrI m1 35 s p = 0 ∧ jrI m1 36 s p = 0) (L := fun i m1 => Sm_countPools_2 (d + 2) s i m1) (n := 12) (by decide) (fun i m1 i0 i1 hP => by
    obtain ⟨p1, p2⟩ := hP
    rw [q_Sm_countPools_2, if_pos i1, jix_in i0 i1, jix_in i0 i1, jw32_id (x := i + 1) (by omega) (by omega)]
    refine ⟨_, rfl, uA_I (uA_I p1 (Or.inl rfl)) (Or.inr rfl), fun p q0 q1 => ?_⟩
    by_cases e : p = i
    · rw [e, jrI_ws, jrI_wf (by decide), jrI_ws]
      exact ⟨rfl, rfl⟩
    · rw [jrI_wk e, jrI_wk e, jrI_wk e, jrI_wk e]
      exact p2 p q0 (by omega)) mem ⟨uA_rf aCp mem, fun p q0 q1 => by omega⟩
  obtain ⟨m2, b1, b2, b3⟩ := puUpE (P := fun i m2 => uA aCp mem m2 ∧ ∀ p, 0 ≤ p → p < 12 → jrI m2 35 s p = tCnt (fun o => T (11 + o) = p) i ∧ jrI m2 36 s p = 0) (L := fun i m2 => Sm_countPools_30 (d + 2) s i m2) (n := T 5) t5.1 (fun i m2 i0 i1 hP => by
    obtain ⟨p1, p2⟩ := hP
    obtain ⟨S4, S5, S6, cr, cw, -⟩ := hCb p1
    rw [q_Sm_countPools_30, S4, S5]
    simp only [jsm_s]
    rw [cr.2.2.2.2.2.1, if_pos i1, jix_in i0 (by omega), (cw.2.1 i i0 i1).1, s_E_isFreePlace]
    simp only [jbnd_s, jasI_v, S5, jsm_s]
    rw [(cw.2.1 i i0 i1).1, jw32_id (x := i + 1) (by omega) (by omega)]
    by_cases hfr : 0 ≤ T (11 + i) ∧ T (11 + i) < 12
    · rw [jb_1 hfr, if_neg (by decide), jix_in i0 (by omega), jix_in hfr.1 hfr.2, jix_in hfr.1 hfr.2, (p2 (T (11 + i)) hfr.1 hfr.2).1]
      have b9 := tCnt_in (fun o => T (11 + o) = T (11 + i)) i0
      rw [jw32_id (by omega) (by omega)]
      refine ⟨_, rfl, uA_I p1 (Or.inl rfl), fun p q0 q1 => ?_⟩
      rw [jrI_wf (g := 36) (by decide), tCnt_s _ i0]
      by_cases e : p = T (11 + i)
      · rw [e, jrI_ws, if_pos rfl]
        exact ⟨rfl, (p2 _ hfr.1 hfr.2).2⟩
      · rw [jrI_wk e, if_neg (fun w => e w.symm)]
        exact p2 p q0 q1
    · rw [jb_n hfr, if_pos rfl]
      refine ⟨m2, rfl, p1, fun p q0 q1 => ?_⟩
      rw [tCnt_s _ i0, if_neg (fun w => hfr ⟨by omega, by omega⟩)]
      exact p2 p q0 q1) m1 ⟨a2, fun p q0 q1 => by rw [tCnt_0]; exact a3 p q0 q1⟩
  obtain ⟨m3, c1, c2, c3⟩ := puUpE (P := fun i m3 => uA aCp mem m3 ∧ ∀ p, 0 ≤ p → p < 12 → jrI m3 35 s p = tCnt (fun o => T (11 + o) = p) (T 5) ∧ jrI m3 36 s p = tCnt (fun t => T (17 + 2 * t) = p) i) (L := fun i m3 => Sm_countPools_82 (d + 2) s i m3) (n := T 6) t6.1 (fun i m3 i0 i1 hP => by
    obtain ⟨p1, p2⟩ := hP
    obtain ⟨S4, S5, S6, cr, cw, -⟩ := hCb p1
    have hs := w3 i i0 i1
    rw [q_Sm_countPools_82, S4, S5]
    simp only [jsm_s]
    rw [cr.2.2.2.2.2.2.1, if_pos i1, jix_in i0 (by omega), (cw.2.2 i i0 i1).1, jix_in hs.1 (by omega), jix_in hs.1 (by omega), (p2 (T (17 + 2 * i)) hs.1 (by omega)).2, jw32_id (x := i + 1) (by omega) (by omega)]
    have b9 := tCnt_in (fun t => T (17 + 2 * t) = T (17 + 2 * i)) i0
    rw [jw32_id (by omega) (by omega)]
    refine ⟨_, rfl, uA_I p1 (Or.inr rfl), fun p q0 q1 => ?_⟩
    rw [jrI_wf (g := 35) (by decide), tCnt_s _ i0]
    by_cases e : p = T (17 + 2 * i)
    · rw [e, jrI_ws, if_pos rfl]
      exact ⟨(p2 _ hs.1 (by omega)).1, rfl⟩
    · rw [jrI_wk e, if_neg (fun w => e w.symm)]
      exact p2 p q0 q1) m2 ⟨b2, fun p q0 q1 => by rw [tCnt_0]; exact b3 p q0 q1⟩
  have x2 := hCb b2
  have x3 := hCb c2
  rw [a1, q_Sm_countPools_2, if_neg (by decide), b1, q_Sm_countPools_30, x2.1]
  simp only [jsm_s]
  rw [x2.2.2.2.1.2.2.2.2.2.1, if_neg (by omega), c1, q_Sm_countPools_82, x3.1]
  simp only [jsm_s]
  rw [x3.2.2.2.1.2.2.2.2.2.2.1, if_neg (by omega)]
  exact ⟨m3, rfl, c3, c2⟩
/-- goals -/
def aH (f : Nat) (_ k : Int) : Prop := (f = 7 ∧ (k = 9 ∨ k = 10)) ∨ f = 34
def tGl (T : Int → Int) (ev : tEvT) (lt m : Int) : Int := if 0 ≤ T (11 + m) ∧ T (11 + m) < 12 then tGo T ev lt m else T (11 + m)
theorem cEvt_A {A : Nat → Int → Int → Prop} (hA : ∀ f i k, A f i k → f ≠ 5 ∧ f ≠ 31 ∧ f ≠ 32 ∧ f ≠ 47 ∧ f ≠ 49 ∧ f ≠ 50) {a b : jMem} (h : uA A a b) {o : Option Int} {ev : tEvT} (hc : cEvt a o ev) : cEvt b o ev := by
  have hn : ∀ f i k, f = 5 ∨ f = 31 ∨ f = 32 ∨ f = 47 ∨ f = 49 ∨ f = 50 → jrI b f i k = jrI a f i k := fun f i k hf => h.1 f i k (fun w => by have := hA f i k w; omega)
  rcases hc with hc | ⟨q, h1, h2, h3⟩
  · exact Or.inl hc
  · refine Or.inr ⟨q, h1, cRu_fr (fun f k hf => hn f q k (by omega)) (fun f k hf => hn f 0 k (by omega)) h2, ?_⟩
    have e1 : jrI b 31 q = jrI a 31 q := funext fun k => hn 31 q k (by omega)
    have e2 : jrI b 32 q = jrI a 32 q := funext fun k => hn 32 q k (by omega)
    have e3 : jrI b 5 q 2 = jrI a 5 q 2 := hn 5 q 2 (by omega)
    have e4 : cRl b q = cRl a q := by
      funext env
      unfold cRl
      rw [e1, e2, e3]
    rw [e4]
    exact h3
theorem s_Sm_step60 (d : Nat) (s r w lt : Int) (o : Option Int) (ev : tEvT) (T : Int → Int) (mem : jMem) (hR : tRv T) (hW : tWv T) (hC : cC mem s r w o T lt) (hP : o ≠ none → cP mem s T) (hev : cEvt mem o ev) : ∃ mem', Sm_step_60 (d + 5) s 0 mem = Sm_step_123 (d + 5) s 0 mem' ∧ uA aH mem mem' ∧ ∀ j, 0 ≤ j → j < T 5 → jrI mem' 34 s j = tGl T ev lt j := by
  obtain ⟨t0, t3, t4, t5, t6, -⟩ := id hR
  obtain ⟨w1, w2, w3, w4⟩ := id hW
  have h12 : T 1 ≤ 12 := by omega
  have hCb : ∀ {b : jMem}, uA aH mem b → cC b s r w o T lt := fun hb => cC_fr hb.2.2 (fun f i k hf => hb.1 f i k (by unfold aH; omega)) hC
  obtain ⟨m1, a1, a2, a3⟩ := puUpE (P := fun i m1 => uA aH mem m1 ∧ ∀ j, 0 ≤ j → j < i → jrI m1 34 s j = tGl T ev lt j) (L := fun i m1 => Sm_step_60 (d + 5) s i m1) (n := T 5) t5.1 (fun i m1 i0 i1 hP1 => by
    obtain ⟨p1, p2⟩ := hP1
    obtain ⟨S4, S5, S6, cr, cw, -⟩ := hCb p1
    rw [q_Sm_step_60, S4, S5]
    simp only [jsm_s]
    rw [cr.2.2.2.2.2.1, if_pos i1, jix_in i0 (by omega), (cw.2.1 i i0 i1).1, s_E_isFreePlace]
    simp only [jbnd_s, jasI_v, S5, jsm_s]
    rw [(cw.2.1 i i0 i1).1, jw32_id (x := i + 1) (by omega) (by omega)]
    have fin : ∀ (m2 : jMem) (v : Int), uA aH mem m2 → (∀ j, jrI m2 34 s j = jrI m1 34 s j) → v = tGl T ev lt i → ∃ a', Sm_step_60 (d + 5) s (i + 1) (jwI m2 34 s i v) = Sm_step_60 (d + 5) s (i + 1) a' ∧ uA aH mem a' ∧ ∀ j, 0 ≤ j → j < i + 1 → jrI a' 34 s j = tGl T ev lt j := fun m2 v h1 h2 h3 => by
      refine ⟨_, rfl, uA_I h1 (Or.inr rfl), fun j j0 j1 => ?_⟩
      by_cases e : j = i
      · rw [e, jrI_ws, h3]
      · rw [jrI_wk e, h2]
        exact p2 j j0 (by omega)
    by_cases hfr : 0 ≤ T (11 + i) ∧ T (11 + i) < 12
    · rw [jb_1 hfr, if_neg (by decide)]
      have hp : 0 ≤ T (11 + i) ∧ T (11 + i) < T 1 := by
        rcases w2 i i0 i1 with w | w | w | w <;> omega
      obtain ⟨m2, e1, e2⟩ := s_Sm_goalOf d s r w i lt o ev T m1 hR hW (hCb p1) (fun ho p q0 q1 => by
        rw [p1.1 35 s p (by unfold aH; omega), p1.1 36 s p (by unfold aH; omega)]
        exact hP ho p q0 q1) (cEvt_A (fun f i k hf => by unfold aH at hf; omega) p1 hev) ⟨i0, i1⟩ hp
      rw [e1]
      simp only [jbnd_s, jasI_v]
      rw [jix_in i0 (by omega)]
      exact fin m2 _ (uA_tr p1 (uA_mono (uA_G e2) (fun f i k w => Or.inl w))) (fun j => e2.1 34 s j (by unfold aG; omega)) (by unfold tGl; rw [if_pos hfr])
    · rw [jb_n hfr, if_pos rfl, jix_in i0 (by omega), jix_in i0 (by omega)]
      exact fin m1 _ p1 (fun _ => rfl) (by unfold tGl; rw [if_neg hfr])) mem ⟨uA_rf aH mem, fun j j0 j1 => by omega⟩
  have x1 := hCb a2
  rw [a1, q_Sm_step_60, x1.1]
  simp only [jsm_s]
  rw [x1.2.2.2.1.2.2.2.2.2.1, if_neg (by omega)]
  exact ⟨m1, rfl, a2, a3⟩
/-- moves -/
def aV (s w : Int) (f : Nat) (i k : Int) : Prop := (f = 7 ∧ i = s ∧ k = 11) ∨ (f = 38 ∧ i = w)
theorem s_Sm_step123 (d : Nat) (s r w lt : Int) (o : Option Int) (ev : tEvT) (T : Int → Int) (mem : jMem) (hR : tRv T) (hW : tWv T) (hC : cC mem s r w o T lt) (hG : ∀ j, 0 ≤ j → j < T 5 → jrI mem 34 s j = tGl T ev lt j) (h11 : jrI mem 7 s 11 = 0) : ∃ mem', Sm_step_123 (d + 5) s 0 mem = Sm_step_123 (d + 5) s (T 5) mem' ∧ uA (aV s w) mem mem' ∧ (∀ j, 0 ≤ j → j < T 5 → jrI mem' 38 w j = tNew T ev lt j) ∧ (jrI mem' 7 s 11 = 0 ∨ jrI mem' 7 s 11 = 1) ∧ (jrI mem' 7 s 11 = 0 → ∀ j, 0 ≤ j → j < T 5 → tNew T ev lt j = T (11 + j)) := by
  obtain ⟨t0, t3, t4, t5, t6, -⟩ := id hR
  obtain ⟨w1, w2, w3, w4⟩ := id hW
  have h12 : T 1 ≤ 12 := by omega
  obtain ⟨S4, S5, S6, cr, cw, -⟩ := id hC
  obtain ⟨m1, a1, a2, a3, a4, a5⟩ := puUpE (P := fun i m1 => uA (aV s w) mem m1 ∧ (∀ j, 0 ≤ j → j < T 5 → jrI m1 38 w j = if j < i then tNew T ev lt j else T (11 + j)) ∧ (jrI m1 7 s 11 = 0 ∨ jrI m1 7 s 11 = 1) ∧ (jrI m1 7 s 11 = 0 → ∀ j, 0 ≤ j → j < i → tNew T ev lt j = T (11 + j))) (L := fun i m1 => Sm_step_123 (d + 5) s i m1) (n := T 5) t5.1 (fun i m1 i0 i1 hP1 => by
    obtain ⟨p1, p2, p3, p4⟩ := hP1
    have eS : ∀ k, jrS m1 7 s k = jrS mem 7 s k := fun k => by show m1.2.2 7 s k = mem.2.2 7 s k; rw [p1.2.2]
    have e4 : ∀ k, jrI m1 4 r k = jrI mem 4 r k := fun k => p1.1 4 r k (by unfold aV; omega)
    have e34 : jrI m1 34 s i = tGl T ev lt i := by rw [p1.1 34 s i (by unfold aV; omega)]; exact hG i i0 i1
    have e24 : jrI m1 24 r i = T (33 + i) := by rw [p1.1 24 r i (by unfold aV; omega)]; exact (cr.2.2.2.2.2.2.2.1 i i0 i1).2.1
    have e38 : jrI m1 38 w i = T (11 + i) := by rw [p2 i i0 i1, if_neg (by omega)]
    have sea : Sm_goesToSea (d + 5) s i m1 = some (vI (jb (T (11 + i) = T 1 - 1 ∧ tGl T ev lt i = T 1 - 1 ∧ T 2 ≤ T (33 + i))), m1) := by
      rw [q_Sm_goesToSea, eS, eS, S4, S5]
      simp only [jsm_s]
      rw [jix_in i0 (by omega), jix_in i0 (by omega), jix_in i0 (by omega), e38, e34, e24, e4, e4, cr.2.1, cr.2.2.1, jw32_id (x := T 1 - 1) (by omega) (by omega)]
      by_cases c1 : T (11 + i) = T 1 - 1
      · by_cases c2 : tGl T ev lt i = T 1 - 1
        · by_cases c3 : T (33 + i) < T 2
          · rw [if_pos c1, if_pos c2, if_pos c3, jb_n (fun w => by omega)]
          · rw [if_pos c1, if_pos c2, if_neg c3, jb_1 ⟨c1, c2, by omega⟩]
        · rw [if_pos c1, if_neg c2, jb_n (fun w => c2 w.2.1)]
      · rw [if_neg c1, jb_n (fun w => c1 w.1)]
    have hto : (if T (11 + i) = T 1 - 1 ∧ tGl T ev lt i = T 1 - 1 ∧ T 2 ≤ T (33 + i) then -1 else tGl T ev lt i) = tNew T ev lt i := by
      unfold tNew tGl
      by_cases hfr : 0 ≤ T (11 + i) ∧ T (11 + i) < 12
      · rw [if_pos hfr, if_pos hfr]
      · rw [if_neg hfr, if_neg hfr, if_neg (fun w => by
          have := w2 i i0 i1
          have := w.1
          omega)]
    have go : ∀ to, to = tNew T ev lt i → ∃ a', Sm_step_155 (d + 5) s i to m1 = Sm_step_123 (d + 5) s (i + 1) a' ∧ uA (aV s w) mem a' ∧ (∀ j, 0 ≤ j → j < T 5 → jrI a' 38 w j = if j < i + 1 then tNew T ev lt j else T (11 + j)) ∧ (jrI a' 7 s 11 = 0 ∨ jrI a' 7 s 11 = 1) ∧ (jrI a' 7 s 11 = 0 → ∀ j, 0 ≤ j → j < i + 1 → tNew T ev lt j = T (11 + j)) := fun to hto => by
      have go2 : ∀ v, v = 0 ∨ v = 1 → (v = 0 → jrI m1 7 s 11 = 0 ∧ to = T (11 + i)) → ∃ a', Sm_step_185 (d + 5) s i to s v m1 = Sm_step_123 (d + 5) s (i + 1) a' ∧ uA (aV s w) mem a' ∧ (∀ j, 0 ≤ j → j < T 5 → jrI a' 38 w j = if j < i + 1 then tNew T ev lt j else T (11 + j)) ∧ (jrI a' 7 s 11 = 0 ∨ jrI a' 7 s 11 = 1) ∧ (jrI a' 7 s 11 = 0 → ∀ j, 0 ≤ j → j < i + 1 → tNew T ev lt j = T (11 + j)) := fun v hv hv0 => by
        rw [q_Sm_step_185, jbo_in hv, eS, S5]
        simp only [jsm_s]
        rw [jix_in i0 (by omega), jw32_id (x := i + 1) (by omega) (by omega)]
        refine ⟨_, rfl, uA_I (uA_I p1 (Or.inl ⟨rfl, rfl, rfl⟩)) (Or.inr ⟨rfl, rfl⟩), fun j j0 j1 => ?_, ?_, fun h j j0 j1 => ?_⟩
        · by_cases e : j = i
          · rw [e, jrI_ws, if_pos (by omega), hto]
          · rw [jrI_wk e, jrI_wf (by decide), p2 j j0 j1]
            by_cases hj : j < i
            · rw [if_pos hj, if_pos (by omega)]
            · rw [if_neg hj, if_neg (by omega)]
        · rw [jrI_wf (by decide), jrI_ws]
          exact hv
        · rw [jrI_wf (by decide), jrI_ws] at h
          obtain ⟨q1, q2⟩ := hv0 h
          by_cases e : j = i
          · rw [e, ← hto, q2]
          · exact p4 q1 j j0 (by omega)
      rw [q_Sm_step_155, eS, S5]
      simp only [jsm_s]
      rw [jix_in i0 (by omega), e38]
      by_cases hm : jrI m1 7 s 11 = 0
      · rw [if_pos hm]
        by_cases ht : to = T (11 + i)
        · rw [if_pos ht]
          exact go2 0 (Or.inl rfl) (fun _ => ⟨hm, ht⟩)
        · rw [if_neg ht]
          exact go2 1 (Or.inr rfl) (fun h => by omega)
      · rw [if_neg hm]
        exact go2 1 (Or.inr rfl) (fun h => by omega)
    rw [q_Sm_step_123, eS, S4]
    simp only [jsm_s]
    rw [e4, cr.2.2.2.2.2.1, if_pos i1, sea]
    simp only [jbnd_s, jasI_v]
    rw [jix_in i0 (by omega), e34]
    by_cases hc : T (11 + i) = T 1 - 1 ∧ tGl T ev lt i = T 1 - 1 ∧ T 2 ≤ T (33 + i)
    · rw [jb_1 hc, if_neg (by decide)]
      rw [if_pos hc] at hto
      exact go (-1) hto
    · rw [jb_n hc, if_pos rfl]
      rw [if_neg hc] at hto
      exact go _ hto) mem ⟨uA_rf _ mem, fun j j0 j1 => by rw [if_neg (by omega)]; exact (cw.2.1 j j0 j1).1, Or.inl h11, fun _ j j0 j1 => by omega⟩
  exact ⟨m1, a1, a2, fun j j0 j1 => by rw [a3 j j0 j1, if_pos j1], a4, a5⟩
