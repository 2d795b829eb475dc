/-! A night in the reference -/
theorem puUp {β : Type} {L : Int → β} {n : Int} (hn : 0 ≤ n) (hs : ∀ i, 0 ≤ i → i < n → L i = L (i + 1)) : L 0 = L n := by
  have key : ∀ k : Nat, (k : Int) ≤ n → L 0 = L (k : Int) := by
    intro k
    induction k with
    | zero => intro _; rfl
    | succ k ih =>
      intro h
      rw [ih (by omega), hs (k : Int) (by omega) (by omega)]
      rfl
  have := key n.toNat (by omega)
  rw [Int.toNat_of_nonneg hn] at this
  exact this
theorem puUpE {α β : Type} (P : Int → α → Prop) {L : Int → α → β} {n : Int} (hn : 0 ≤ n) (hs : ∀ i a, 0 ≤ i → i < n → P i a → ∃ a', L i a = L (i + 1) a' ∧ P (i + 1) a') (a : α) (h0 : P 0 a) : ∃ a', L 0 a = L n a' ∧ P n a' := by
  have key : ∀ k : Nat, (k : Int) ≤ n → ∃ a', L 0 a = L (k : Int) a' ∧ P (k : Int) a' := by
    intro k
    induction k with
    | zero => intro _; exact ⟨a, rfl, h0⟩
    | succ k ih =>
      intro h
      obtain ⟨a1, e1, p1⟩ := ih (by omega)
      obtain ⟨a2, e2, p2⟩ := hs (k : Int) a1 (by omega) (by omega) p1
      exact ⟨a2, e1.trans e2, p2⟩
  have := key n.toNat (by omega)
  rw [Int.toNat_of_nonneg hn] at this
  exact this
theorem puF_snoc {α : Type} (f : Int → α → α) : ∀ (k : Nat) (i : Int) (a : α), puF f (k + 1) i a = f (i + (k : Int)) (puF f k i a)
  | 0, i, a => by
    show f i a = f (i + ((0 : Nat) : Int)) a
    rw [show i + ((0 : Nat) : Int) = i by omega]
  | k + 1, i, a => by
    show puF f (k + 1) (i + 1) (f i a) = f (i + ((k + 1 : Nat) : Int)) (puF f k (i + 1) (f i a))
    rw [puF_snoc f k (i + 1) (f i a), show i + 1 + (k : Int) = i + ((k + 1 : Nat) : Int) by omega]
theorem puF_s {α : Type} (f : Int → α → α) {i : Int} (h : 0 ≤ i) (a : α) : puF f (i + 1).toNat 0 a = f i (puF f i.toNat 0 a) := by
  rw [show (i + 1).toNat = i.toNat + 1 by omega, puF_snoc, show (0 : Int) + (i.toNat : Int) = i by omega]
theorem tCnt_s (p : Int → Prop) [DecidablePred p] {i : Int} (h : 0 ≤ i) : tCnt p (i + 1) = if p i then tCnt p i + 1 else tCnt p i := by
  unfold tCnt
  rw [puF_s _ h]
theorem tSet_s (p : Int → Prop) [DecidablePred p] {i : Int} (h : 0 ≤ i) : tSet p (i + 1) = if p i then jor (tSet p i) (jshl 1 i) else tSet p i := by
  unfold tSet
  rw [puF_s _ h]
theorem tCnt_0 (p : Int → Prop) [DecidablePred p] : tCnt p 0 = 0 := rfl
theorem tIn_neg (T : Int → Int) (t : Int) : (tIn T t < 0) = (tIn T t = -1) := by
  rcases tIn_sp T t with ⟨a, _⟩ | ⟨a, _⟩
  · rw [a]; decide
  · apply propext; constructor <;> intro h <;> omega
/-- what a night may change in the reference, but for what is said -/
def aQ (f : Nat) (_ k : Int) : Prop := f = 11 ∧ k = 18
def aQ4 (f : Nat) (_ k : Int) : Prop := f = 56 ∨ (f = 11 ∧ k = 18)
/-- longs that a night may change in the reference -/
def uSm2 (m m' : jMem) : Prop := puR aQ m m' ∧ (∀ f, f ≠ 53 → f ≠ 54 → jrJ m' f = jrJ m f) ∧ m'.2.2 = m.2.2
theorem uSm2_rf (m : jMem) : uSm2 m m := ⟨puR_rf aQ m, fun _ _ _ => rfl, rfl⟩
theorem uSm2_tr {a b c : jMem} (h1 : uSm2 a b) (h2 : uSm2 b c) : uSm2 a c := ⟨puR_tr h1.1 h2.1, fun f hf hg => (h2.2.1 f hf hg).trans (h1.2.1 f hf hg), h2.2.2.trans h1.2.2⟩
theorem uSm2_J {a b : jMem} {i k v : Int} (h : uSm2 a b) : uSm2 a (jwJ b 54 i k v) := ⟨puR_J h.1, fun f hf hg => by rw [jrJ_wf hg]; exact h.2.1 f hf hg, h.2.2⟩
theorem uSm2_53 {a b : jMem} (h : uSame 53 aTop a b) : uSm2 a b := ⟨puR_mono h.1 (fun f i k w => w), fun f hf _ => h.2.1 f hf, h.2.2⟩
/-- the same, and where they go -/
def uSm4 (m m' : jMem) : Prop := puR aQ4 m m' ∧ (∀ f, f ≠ 53 → f ≠ 54 → jrJ m' f = jrJ m f) ∧ m'.2.2 = m.2.2
theorem uSm4_rf (m : jMem) : uSm4 m m := ⟨puR_rf aQ4 m, fun _ _ _ => rfl, rfl⟩
theorem uSm4_tr {a b c : jMem} (h1 : uSm4 a b) (h2 : uSm4 b c) : uSm4 a c := ⟨puR_tr h1.1 h2.1, fun f hf hg => (h2.2.1 f hf hg).trans (h1.2.1 f hf hg), h2.2.2.trans h1.2.2⟩
theorem uSm4_2 {a b : jMem} (h : uSm2 a b) : uSm4 a b := ⟨puR_mono h.1 (fun f i k w => Or.inr w), h.2.1, h.2.2⟩
theorem uSm4_I {a b : jMem} {k v : Int} (h : uSm4 a b) : uSm4 a (jwI b 56 0 k v) := ⟨puR_w h.1 (Or.inl rfl), h.2.1, h.2.2⟩
theorem uSm4_said {a b : jMem} (h : uSm4 a b) : jrI b 55 0 = jrI a 55 0 := funext fun k => h.1 55 0 k (by unfold aQ4; omega)
theorem cRu_sm {a b : jMem} (h : uSm4 a b) {r : Int} (hc : cRu a r) : cRu b r := cRu_fr (fun f k hf => h.1 f r k (by unfold aQ4; omega)) (fun f k hf => h.1 f 0 k (by unfold aQ4; omega)) hc
theorem cRl_sm {a b : jMem} (h : uSm4 a b) (r : Int) : cRl b r = cRl a r := by
  have e1 : jrI b 31 r = jrI a 31 r := funext fun k => h.1 31 r k (by unfold aQ4; omega)
  have e2 : jrI b 32 r = jrI a 32 r := funext fun k => h.1 32 r k (by unfold aQ4; omega)
  have e3 : jrI b 5 r 2 = jrI a 5 r 2 := h.1 5 r 2 (by unfold aQ4; omega)
  funext env
  unfold cRl
  rw [e1, e2, e3]
theorem tLi_in {T : Int → Int} (hT : tRv T) {n : Int} (hn : 0 ≤ n) : 0 ≤ tLi T n ∧ tLi T n ≤ 9 := by
  obtain ⟨t0, t3, t4, t5, t6, t55, tm, tt, tp, tl⟩ := hT
  unfold tLi
  by_cases h : T 3 = 0
  · rw [if_pos h]; omega
  · rw [if_neg h]
    obtain ⟨a, b⟩ := tmod_in hn (show 0 < T 3 by omega)
    exact tl _ a b
theorem tEnv_ok {T : Int → Int} (hR : tRv T) (hW : tWv T) {lt m p : Int} (hl : 0 ≤ lt ∧ lt ≤ 9) (hm : 0 ≤ m ∧ m < T 5) (hp : 0 ≤ p ∧ p < 100) (j : Int) : jokI (tEnv T lt m p j) := by
  have h9 := tLi_in hR (n := T 10 + 1) (by have := hW.1; omega)
  obtain ⟨w1, w2, w3, w4⟩ := hW
  obtain ⟨t0, t3, t4, t5, t6, t55, tm, tt, tp, tl⟩ := hR
  have hb : 0 ≤ tBait T m p ∧ tBait T m p ≤ T 6 := tCnt_in _ t6.1
  have ht : 0 ≤ tTrp T p ∧ tTrp T p ≤ T 6 := tCnt_in _ t6.1
  have hw : 0 ≤ tWith T m p ∧ tWith T m p ≤ T 5 := tCnt_in _ t5.1
  have hm2 := tm m hm.1 hm.2
  have hm3 := w2 m hm.1 hm.2
  unfold tEnv jokI
  repeat' split
  all_goals omega
theorem s_M_sumOf (d : Nat) (m p lt fo : Int) (mem : jMem) (hR : tRv (jrI mem 55 0)) (hW : tWv (jrI mem 55 0)) (h1 : jrI mem 55 0 0 = 1) (hm : 0 ≤ m ∧ m < jrI mem 55 0 5) (hp : 0 ≤ p ∧ p < jrI mem 55 0 1) (hf : jrI mem 11 0 21 = fo) (hf6 : 0 ≤ fo ∧ fo < 6) (hc : cRu mem fo) (hl : lt = if jrI mem 11 0 23 < 0 then tLi (jrI mem 55 0) (jrI mem 55 0 10) else jrI mem 11 0 23) (hl9 : jrI mem 11 0 23 ≤ 9) : ∃ mem', M_sumOf (d + 4) m p mem = some (vJ (cRl mem fo (tEnv (jrI mem 55 0) lt m p)), mem') ∧ uSm2 mem mem' := by
  have hlt : 0 ≤ lt ∧ lt ≤ 9 := by
    have := tLi_in hR (n := jrI mem 55 0 10) hW.1.1
    rw [hl]
    split <;> omega
  have hok := tEnv_ok hR hW hlt hm (p := p) (by have := hR.1; omega)
  have hw1 := hW.1
  obtain ⟨t0, t3, t4, t5, t6, -⟩ := id hR
  generalize hT : jrI mem 55 0 = T at *
  have e5 : jrI mem 55 0 5 = T 5 := by rw [hT]
  have e6 : jrI mem 55 0 6 = T 6 := by rw [hT]
  rw [q_M_sumOf]
  have l1 : M_sumOf_8 (d + 3) m p 0 0 0 mem = M_sumOf_8 (d + 3) m p (tBait T m p) (tTrp T p) (T 6) mem := by
    refine puUp (L := fun i => M_sumOf_8 (d + 3) m p (tCnt (fun t => T (17 + 2 * t) = p ∧ tIn T t = -1 ∧ T (18 + 2 * t) = T (39 + m)) i) (tCnt (fun t => T (17 + 2 * t) = p) i) i mem) t6.1 (fun i i0 i1 => ?_)
    have b1 := tCnt_in (fun t => T (17 + 2 * t) = p ∧ tIn T t = -1 ∧ T (18 + 2 * t) = T (39 + m)) i0
    have b2 := tCnt_in (fun t => T (17 + 2 * t) = p) i0
    rw [tCnt_s _ i0, tCnt_s _ i0]
    generalize tCnt (fun t => T (17 + 2 * t) = p ∧ tIn T t = -1 ∧ T (18 + 2 * t) = T (39 + m)) i = x at b1 ⊢
    generalize tCnt (fun t => T (17 + 2 * t) = p) i = y at b2 ⊢
    rw [q_M_sumOf_8, e6, if_pos i1, s_M_poolOf (d + 2) i mem (by omega), hT]
    simp only [jbnd_s, jasI_v]
    rw [jw32_id (x := i + 1) (by omega) (by omega)]
    by_cases c1 : T (17 + 2 * i) = p
    · rw [if_pos c1, if_pos c1, s_M_memoryIn (d + 2) i mem (by omega) (by omega), hT]
      simp only [jbnd_s, jasI_v]
      rw [jw32_id (x := y + 1) (by omega) (by omega), jw32_id (x := x + 1) (by omega) (by omega), jw32_id (x := x + 0) (by omega) (by omega), Int.add_zero]
      simp only [tIn_neg]
      by_cases c2 : tIn T i = -1
      · rw [if_pos c2, s_M_baitOf (d + 2) i mem (by omega), hT]
        simp only [jbnd_s, jasI_v]
        rw [jw32_id (x := 39 + m) (by omega) (by omega), jix_in (by omega) (by omega), hT]
        by_cases c3 : T (18 + 2 * i) = T (39 + m)
        · rw [if_pos c3, if_pos ⟨c1, c2, c3⟩]
        · rw [if_neg c3, if_neg (fun w => c3 w.2.2)]
      · rw [if_neg c2, if_neg (fun w => c2 w.2.1)]
    · rw [if_neg c1, if_neg c1, if_neg (fun w => c1 w.1)]
  have l2 : M_sumOf_83 (d + 3) m p (tBait T m p) (tTrp T p) 0 0 mem = M_sumOf_83 (d + 3) m p (tBait T m p) (tTrp T p) (tWith T m p) (T 5) mem := by
    refine puUp (L := fun i => M_sumOf_83 (d + 3) m p (tBait T m p) (tTrp T p) (tCnt (fun o => o ≠ m ∧ T (11 + o) = p) i) i mem) t5.1 (fun i i0 i1 => ?_)
    have b1 := tCnt_in (fun o => o ≠ m ∧ T (11 + o) = p) i0
    rw [tCnt_s _ i0]
    generalize tCnt (fun o => o ≠ m ∧ T (11 + o) = p) i = x at b1 ⊢
    rw [q_M_sumOf_83, e5, if_pos i1, jw32_id (x := i + 1) (by omega) (by omega), jw32_id (x := x + 0) (by omega) (by omega), jw32_id (x := x + 1) (by omega) (by omega), Int.add_zero]
    by_cases c1 : i = m
    · rw [if_pos c1, if_neg (fun w => w.1 c1)]
    · rw [if_neg c1, jw32_id (x := 11 + i) (by omega) (by omega), jix_in (by omega) (by omega), hT]
      by_cases c2 : T (11 + i) = p
      · rw [if_pos c2, if_pos ⟨c1, c2⟩]
      · rw [if_neg c2, if_neg (fun w => c2 w.2)]
  rw [l1, q_M_sumOf_8, e6, if_neg (by omega), l2, q_M_sumOf_83, e5, if_neg (by omega), jw32_id (x := 11 + m) (by omega) (by omega), jw32_id (x := 33 + m) (by omega) (by omega), jw32_id (x := 39 + m) (by omega) (by omega), jix_in (by omega) (by omega), jix_in (by omega) (by omega), jix_in (by omega) (by omega), hT]
  have fin : ∀ memW : jMem, memW = jwJ (jwJ (jwJ (jwJ (jwJ (jwJ (jwJ (jwJ mem 54 0 0 m) 54 0 1 p) 54 0 2 (T (11 + m))) 54 0 3 (T (33 + m))) 54 0 4 (T (39 + m))) 54 0 5 (tBait T m p)) 54 0 6 (tTrp T p)) 54 0 7 (tWith T m p) → ∃ mem', M_sumOf_255 (d + 3) m 8 lt memW = some (vJ (cRl mem fo (tEnv T lt m p)), mem') ∧ uSm2 mem mem' := fun memW hW2 => by
    have eW : jrI memW = jrI mem := by rw [hW2]; rfl
    have sW : uSm2 mem memW := by
      rw [hW2]
      exact uSm2_J (uSm2_J (uSm2_J (uSm2_J (uSm2_J (uSm2_J (uSm2_J (uSm2_J (uSm2_rf mem))))))))
    rw [q_M_sumOf_255, jix_in (by decide) (by decide), eW, hT, jw32_id (x := T 10 + 1) (by omega) (by omega), s_M_lightOn d (T 10 + 1) (jwJ memW 54 0 8 lt) (by show tRv (jrI memW 55 0); rw [eW, hT]; exact hR) (by show jrI memW 55 0 0 = 1; rw [eW, hT]; exact h1) (by omega)]
    simp only [jbnd_s, jasI_v]
    have e8 : jrI (jwJ memW 54 0 8 lt) = jrI mem := eW
    rw [e8, hT, jw32_id (x := 45 + m) (by omega) (by omega), jix_in (by omega) (by omega), hf]
    generalize hm3 : jwJ (jwJ (jwJ (jwJ memW 54 0 8 lt) 54 0 9 (tLi T (T 10 + 1))) 54 0 10 (T (45 + m))) 54 0 11 (T 10) = mem3
    have s3 : uSm2 mem mem3 := by
      rw [← hm3]
      exact uSm2_J (uSm2_J (uSm2_J (uSm2_J sW)))
    have hv : ∀ j, 0 ≤ j → j < 12 → jrJ mem3 54 0 j = tEnv T lt m p j := fun j j0 j1 => by
      rw [← hm3, hW2]
      have hj : j = 0 ∨ j = 1 ∨ j = 2 ∨ j = 3 ∨ j = 4 ∨ j = 5 ∨ j = 6 ∨ j = 7 ∨ j = 8 ∨ j = 9 ∨ j = 10 ∨ j = 11 := by omega
      rcases hj with rfl | rfl | rfl | rfl | rfl | rfl | rfl | rfl | rfl | rfl | rfl | rfl <;> simp [jrJ_w, tEnv]
    obtain ⟨mem4, f1, f2⟩ := s_M_summedBy d fo (tEnv T lt m p) mem3 hf6 (cRu_sm (uSm4_2 s3) hc) hok hv
    rw [f1]
    simp only [jbnd_s, jasJ_v]
    exact ⟨mem4, by rw [cRl_sm (uSm4_2 s3)], uSm2_tr s3 (uSm2_53 f2)⟩
  by_cases hneg : jrI mem 11 0 23 < 0
  · rw [if_pos hneg] at hl
    rw [if_pos hneg, s_M_lightOn d (T 10) _ (by show tRv (jrI mem 55 0); rw [hT]; exact hR) (by show jrI mem 55 0 0 = 1; rw [hT]; exact h1) (by omega)]
    simp only [jbnd_s, jasI_v]
    have := fin _ rfl
    rw [hl] at this
    rw [hl]
    show ∃ mem', M_sumOf_255 (d + 3) m 8 (tLi (jrI mem 55 0) (T 10)) _ = _ ∧ _
    rw [hT]
    exact this
  · rw [if_neg hneg] at hl
    rw [if_neg hneg]
    have := fin _ rfl
    rw [hl] at this
    rw [hl]
    exact this
