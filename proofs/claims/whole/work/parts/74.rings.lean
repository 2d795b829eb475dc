/-! Rings -/
theorem s_M_isOf (d : Nat) (x p : Int) (mem : jMem) : M_isOf (d + 1) x p mem = some (vI (jb (tBit x p = 1)), mem) := by
  rw [q_M_isOf]
  unfold tBit
  by_cases h : jand (jshr x p) 1 = 1
  · rw [if_pos h, jb_1 h]
  · rw [if_neg h, jb_n h]
/-- in a set each one has one of another in it, and lacks one -/
def tHas (T : Int → Int) (s p n : Int) : Prop := ∃ m, 0 ≤ m ∧ m < n ∧ (30 ≤ T (11 + m) ∧ T (11 + m) ≠ 30 + T (45 + m)) ∧ T (11 + m) - 30 = p ∧ tBit s (T (45 + m)) = 1
def tLak (T : Int → Int) (s p n : Int) : Prop := ∃ m, 0 ≤ m ∧ m < n ∧ (30 ≤ T (11 + m) ∧ T (11 + m) ≠ 30 + T (45 + m)) ∧ T (45 + m) = p ∧ tBit s (T (11 + m) - 30) = 1
def tRg (T : Int → Int) (s : Int) : Prop := ∀ p, 0 ≤ p → p < T 4 → tBit s p = 1 → tHas T s p (T 5) ∧ tLak T s p (T 5)
theorem tHas_s {T : Int → Int} {s p i : Int} (h0 : 0 ≤ i) : tHas T s p (i + 1) ↔ tHas T s p i ∨ ((30 ≤ T (11 + i) ∧ T (11 + i) ≠ 30 + T (45 + i)) ∧ T (11 + i) - 30 = p ∧ tBit s (T (45 + i)) = 1) := by
  constructor
  · rintro ⟨m, a, b, c⟩
    by_cases e : m = i
    · subst e; exact Or.inr c
    · exact Or.inl ⟨m, a, by omega, c⟩
  · rintro (⟨m, a, b, c⟩ | c)
    · exact ⟨m, a, by omega, c⟩
    · exact ⟨i, h0, by omega, c⟩
theorem tLak_s {T : Int → Int} {s p i : Int} (h0 : 0 ≤ i) : tLak T s p (i + 1) ↔ tLak T s p i ∨ ((30 ≤ T (11 + i) ∧ T (11 + i) ≠ 30 + T (45 + i)) ∧ T (45 + i) = p ∧ tBit s (T (11 + i) - 30) = 1) := by
  constructor
  · rintro ⟨m, a, b, c⟩
    by_cases e : m = i
    · subst e; exact Or.inr c
    · exact Or.inl ⟨m, a, by omega, c⟩
  · rintro (⟨m, a, b, c⟩ | c)
    · exact ⟨m, a, by omega, c⟩
    · exact ⟨i, h0, by omega, c⟩
/-- whose hand holds it -/
theorem tWho {T : Int → Int} (hR : tRv T) (hW : tWv T) {m : Int} (h0 : 0 ≤ m) (h1 : m < T 5) (h : 30 ≤ T (11 + m)) : 0 ≤ T (11 + m) - 30 ∧ T (11 + m) - 30 < T 4 ∧ 0 ≤ T (45 + m) ∧ T (45 + m) < T 4 := by
  have a := hW.2.1 m h0 h1
  have b := hR.2.2.2.2.2.2.1 m h0 h1
  have t6 := hR.2.2.2.2.1
  have t1 := hR.1
  omega
theorem s_M_isLinked (d : Nat) (p s : Int) (T : Int → Int) (mem : jMem) (hR : tRv T) (hW : tWv T) (hT : jrI mem 55 0 = T) : ∃ v, M_isLinked (d + 4) p s mem = some (vI v, mem) ∧ (v = 0 ∨ v = 1) ∧ (v = 1 ↔ tHas T s p (T 5) ∧ tLak T s p (T 5)) := by
  have t5 := hR.2.2.2.1
  have t4 := hR.2.2.1
  rw [q_M_isLinked]
  obtain ⟨⟨a, b⟩, h1, h2, h3, h4, h5⟩ := puUpE (P := fun i (z : Int × Int) => (z.1 = 0 ∨ z.1 = 1) ∧ (z.2 = 0 ∨ z.2 = 1) ∧ (z.1 = 1 ↔ tHas T s p i) ∧ (z.2 = 1 ↔ tLak T s p i)) (L := fun i z => M_isLinked_8 (d + 3) p s z.1 z.2 i mem) (n := T 5) t5.1 (fun i z i0 i1 hP => by
    obtain ⟨a, b⟩ := z
    obtain ⟨p1, p2, p3, p4⟩ := hP
    have hm := hR.2.2.2.2.2.2.1 i i0 i1
    show ∃ z' : Int × Int, M_isLinked_8 (d + 3) p s a b i mem = M_isLinked_8 (d + 3) p s z'.1 z'.2 (i + 1) mem ∧ _
    rw [q_M_isLinked_8, hT, if_pos i1, s_M_isAstray d i T mem hR hT i0 i1, jw32_id (x := i + 1) (by omega) (by omega)]
    simp only [jbnd_s, jasI_v]
    by_cases hp : 30 ≤ T (11 + i) ∧ T (11 + i) ≠ 30 + T (45 + i)
    case neg =>
      rw [jb_n hp, if_pos rfl]
      exact ⟨(a, b), rfl, p1, p2, p3.trans ⟨fun w => (tHas_s i0).mpr (Or.inl w), fun w => ((tHas_s i0).mp w).elim id (fun w => absurd w.1 hp)⟩, p4.trans ⟨fun w => (tLak_s i0).mpr (Or.inl w), fun w => ((tLak_s i0).mp w).elim id (fun w => absurd w.1 hp)⟩⟩
    have hw := tWho hR hW i0 i1 hp.1
    rw [jb_1 hp, if_neg (by decide), jw32_id (x := 11 + i) (by omega) (by omega), jix_in (by omega) (by omega), hT, jw32_id (x := T (11 + i) - 30) (by omega) (by omega), jw32_id (x := 45 + i) (by omega) (by omega), jix_in (by omega) (by omega)]
    -- the second half
    have half : ∀ a' : Int, (a' = 0 ∨ a' = 1) → (a' = 1 ↔ tHas T s p (i + 1)) → ∃ z' : Int × Int, M_isLinked_78 (d + 3) p s b i (T (11 + i) - 30) a' mem = M_isLinked_8 (d + 3) p s z'.1 z'.2 (i + 1) mem ∧ ((z'.1 = 0 ∨ z'.1 = 1) ∧ (z'.2 = 0 ∨ z'.2 = 1) ∧ (z'.1 = 1 ↔ tHas T s p (i + 1)) ∧ (z'.2 = 1 ↔ tLak T s p (i + 1))) := fun a' g1 g2 => by
      rw [q_M_isLinked_78, hT, jw32_id (x := 45 + i) (by omega) (by omega), jix_in (by omega) (by omega), s_M_isOf, jw32_id (x := i + 1) (by omega) (by omega)]
      simp only [jbnd_s, jasI_v]
      by_cases hb : b = 0
      · rw [if_pos hb]
        have hnb : ¬ tLak T s p i := fun w => by have := p4.mpr w; omega
        by_cases ho : T (45 + i) = p
        · rw [if_pos ho]
          by_cases hq : tBit s (T (11 + i) - 30) = 1
          · rw [jb_1 hq, if_neg (by decide)]
            exact ⟨(a', 1), rfl, g1, Or.inr rfl, g2, ⟨fun _ => (tLak_s i0).mpr (Or.inr ⟨hp, ho, hq⟩), fun _ => rfl⟩⟩
          · rw [jb_n hq, if_pos rfl]
            exact ⟨(a', 0), rfl, g1, Or.inl rfl, g2, ⟨fun w => by omega, fun w => ((tLak_s i0).mp w).elim (fun w => absurd w hnb) (fun w => absurd w.2.2 hq)⟩⟩
        · rw [if_neg ho]
          exact ⟨(a', 0), rfl, g1, Or.inl rfl, g2, ⟨fun w => by omega, fun w => ((tLak_s i0).mp w).elim (fun w => absurd w hnb) (fun w => absurd w.2.1 ho)⟩⟩
      · rw [if_neg hb]
        exact ⟨(a', 1), rfl, g1, Or.inr rfl, g2, ⟨fun _ => (tLak_s i0).mpr (Or.inl (p4.mp (show b = 1 by simp only at p2; omega))), fun _ => rfl⟩⟩
    by_cases ha : a = 0
    · rw [if_pos ha]
      have hna : ¬ tHas T s p i := fun w => by have := p3.mpr w; simp only at this; omega
      by_cases ho : T (11 + i) - 30 = p
      · rw [if_pos ho, s_M_isOf]
        simp only [jbnd_s, jasI_v]
        by_cases hq : tBit s (T (45 + i)) = 1
        · rw [jb_1 hq, if_neg (by decide)]
          exact half 1 (Or.inr rfl) ⟨fun _ => (tHas_s i0).mpr (Or.inr ⟨hp, ho, hq⟩), fun _ => rfl⟩
        · rw [jb_n hq, if_pos rfl]
          exact half 0 (Or.inl rfl) ⟨fun w => by omega, fun w => ((tHas_s i0).mp w).elim (fun w => absurd w hna) (fun w => absurd w.2.2 hq)⟩
      · rw [if_neg ho]
        exact half 0 (Or.inl rfl) ⟨fun w => by omega, fun w => ((tHas_s i0).mp w).elim (fun w => absurd w hna) (fun w => absurd w.2.1 ho)⟩
    · rw [if_neg ha]
      exact half 1 (Or.inr rfl) ⟨fun _ => (tHas_s i0).mpr (Or.inl (p3.mp (show a = 1 by simp only at p1; omega))), fun _ => rfl⟩) (0, 0) ⟨Or.inl rfl, Or.inl rfl, ⟨fun w => by simp only at w; omega, fun ⟨m, q1, q2, _⟩ => by omega⟩, ⟨fun w => by simp only at w; omega, fun ⟨m, q1, q2, _⟩ => by omega⟩⟩
  have h1' : M_isLinked_8 (d + 3) p s 0 0 0 mem = M_isLinked_8 (d + 3) p s a b (T 5) mem := h1
  simp only at h2 h3 h4 h5
  rw [h1', q_M_isLinked_8, hT, if_neg (by omega)]
  by_cases ha : a = 0
  · rw [if_pos ha]
    exact ⟨0, rfl, Or.inl rfl, ⟨fun w => by omega, fun w => by have := h4.mpr w.1; omega⟩⟩
  · rw [if_neg ha]
    by_cases hb : b = 0
    · rw [if_pos hb]
      exact ⟨0, rfl, Or.inl rfl, ⟨fun w => by omega, fun w => by have := h5.mpr w.2; omega⟩⟩
    · rw [if_neg hb]
      exact ⟨1, rfl, Or.inr rfl, ⟨fun _ => ⟨h4.mp (by omega), h5.mp (by omega)⟩, fun _ => rfl⟩⟩
theorem s_M_isRing (d : Nat) (s : Int) (T : Int → Int) (mem : jMem) (hR : tRv T) (hW : tWv T) (hT : jrI mem 55 0 = T) (s0 : 0 ≤ s) (s1 : s < 256) : ∃ v, M_isRing (d + 5) s mem = some (vI v, mem) ∧ (v = 0 ∨ v = 1) ∧ (v = 1 ↔ tRg T s ∧ 2 ≤ tPop s) := by
  have t4 := hR.2.2.1
  rw [q_M_isRing]
  have key : ∀ (k : Nat) (i : Int), 0 ≤ i → i + (k : Int) = T 4 → (∀ p, 0 ≤ p → p < i → tBit s p = 1 → tHas T s p (T 5) ∧ tLak T s p (T 5)) → ∃ v, M_isRing_2 (d + 4) s i mem = some (vI v, mem) ∧ (v = 0 ∨ v = 1) ∧ (v = 1 ↔ tRg T s ∧ 2 ≤ tPop s) := by
    intro k
    induction k with
    | zero =>
      intro i i0 i1 hall
      rw [q_M_isRing_2, hT, if_neg (by omega), s_M_bits (d + 3) s mem s0 (by omega)]
      simp only [jbnd_s, jasI_v]
      have hg : tRg T s := fun p p0 p1 hb => hall p p0 (by omega) hb
      by_cases hc : 1 < tPop s
      · rw [if_pos hc]
        exact ⟨1, rfl, Or.inr rfl, ⟨fun _ => ⟨hg, by omega⟩, fun _ => rfl⟩⟩
      · rw [if_neg hc]
        exact ⟨0, rfl, Or.inl rfl, ⟨fun w => by omega, fun w => by omega⟩⟩
    | succ k ih =>
      intro i i0 i1 hall
      rw [q_M_isRing_2, hT, if_pos (by omega), s_M_isOf, jw32_id (x := i + 1) (by omega) (by omega)]
      simp only [jbnd_s, jasI_v]
      by_cases hb : tBit s i = 1
      · rw [jb_1 hb, if_neg (by decide)]
        obtain ⟨v, l1, l2, l3⟩ := s_M_isLinked d i s T mem hR hW hT
        rw [l1]
        simp only [jbnd_s, jasI_v]
        by_cases hv : v = 0
        · rw [if_pos hv]
          exact ⟨0, rfl, Or.inl rfl, ⟨fun w => by omega, fun w => by have := l3.mpr (w.1 i i0 (by omega) hb); omega⟩⟩
        · rw [if_neg hv]
          refine ih (i + 1) (by omega) (by omega) (fun p p0 p1 hb2 => ?_)
          by_cases e : p = i
          · rw [e]; exact l3.mp (by omega)
          · exact hall p p0 (by omega) hb2
      · rw [jb_n hb, if_pos rfl]
        refine ih (i + 1) (by omega) (by omega) (fun p p0 p1 hb2 => ?_)
        by_cases e : p = i
        · rw [e] at hb2; exact absurd hb2 hb
        · exact hall p p0 (by omega) hb2
  exact key (T 4).toNat 0 (Int.le_refl 0) (by omega) (fun p a b => by omega)
/-! The class -/
theorem bBd : ∀ n : Nat, n < 5 → ∀ a : Nat, a < 2 ^ n → ∀ q : Nat, q < 8 → n ≤ q → tBit (a : Int) (q : Int) = 0 := by decide +kernel
theorem bit_ext {a b : Int} (a0 : 0 ≤ a) (a1 : a < 256) (b0 : 0 ≤ b) (b1 : b < 256) (h : ∀ q : Nat, q < 8 → tBit a (q : Int) = tBit b (q : Int)) : a = b := by
  obtain ⟨x, rfl⟩ := Int.eq_ofNat_of_zero_le a0
  obtain ⟨y, rfl⟩ := Int.eq_ofNat_of_zero_le b0
  have hx := bG x (by omega)
  have hy := bG y (by omega)
  have e0 : tBit (x : Int) 0 = tBit (y : Int) 0 := h 0 (by decide)
  have e1 : tBit (x : Int) 1 = tBit (y : Int) 1 := h 1 (by decide)
  have e2 : tBit (x : Int) 2 = tBit (y : Int) 2 := h 2 (by decide)
  have e3 : tBit (x : Int) 3 = tBit (y : Int) 3 := h 3 (by decide)
  have e4 : tBit (x : Int) 4 = tBit (y : Int) 4 := h 4 (by decide)
  have e5 : tBit (x : Int) 5 = tBit (y : Int) 5 := h 5 (by decide)
  have e6 : tBit (x : Int) 6 = tBit (y : Int) 6 := h 6 (by decide)
  have e7 : tBit (x : Int) 7 = tBit (y : Int) 7 := h 7 (by decide)
  rw [e0, e1, e2, e3, e4, e5, e6, e7] at hx
  rw [hx, ← hy]
theorem bit01 {a q : Int} (a0 : 0 ≤ a) (a1 : a < 256) (q0 : 0 ≤ q) (q1 : q < 8) : tBit a q = 0 ∨ tBit a q = 1 := by
  obtain ⟨x, rfl⟩ := Int.eq_ofNat_of_zero_le a0
  obtain ⟨y, rfl⟩ := Int.eq_ofNat_of_zero_le q0
  exact bG1 x (by omega) y (by omega)
theorem bit_or {a p : Int} (a0 : 0 ≤ a) (a1 : a < 256) (p0 : 0 ≤ p) (p1 : p < 8) : 0 ≤ jor a (jshl 1 p) ∧ jor a (jshl 1 p) < 256 ∧ (jand a (jshl 1 p) = 0 ↔ tBit a p = 0) ∧ ∀ q, 0 ≤ q → q < 8 → tBit (jor a (jshl 1 p)) q = if q = p then 1 else tBit a q := by
  obtain ⟨x, rfl⟩ := Int.eq_ofNat_of_zero_le a0
  obtain ⟨y, rfl⟩ := Int.eq_ofNat_of_zero_le p0
  obtain ⟨h1, h2, h3⟩ := bH x (by omega) y (by omega)
  refine ⟨h1, h2, h3, fun q q0 q1 => ?_⟩
  obtain ⟨z, rfl⟩ := Int.eq_ofNat_of_zero_le q0
  rw [bH2 x (by omega) y (by omega) z (by omega)]
  by_cases e : z = y
  · rw [if_pos e, if_pos (by omega)]
  · rw [if_neg e, if_neg (by omega)]
theorem s_Ha_isRing (d : Nat) (s : Int) (T : Int → Int) (mem : jMem) (hR : tRv T) (hW : tWv T) (cr : cRv mem 0 T) (cw : cWv mem 0 T) (s0 : 0 ≤ s) (s1 : s < 256) (hs : ∀ q, T 4 ≤ q → q < 8 → tBit s q = 0) : ∃ v, Ha_isRing (d + 2) 0 s mem = some (vI v, mem) ∧ (v = 0 ∨ v = 1) ∧ (v = 1 ↔ tRg T s) := by
  have t5 := hR.2.2.2.1
  have t4 := hR.2.2.1
  have r5 := cr.2.2.2.2.2.1
  rw [q_Ha_isRing, s_Ha_strayed d T mem hR cr cw]
  simp only [jbnd_s, jasI_v]
  obtain ⟨n, hn⟩ := Int.eq_ofNat_of_zero_le t5.1
  obtain ⟨-, -, sb⟩ := tSet_bit (fun m => 30 ≤ T (11 + m) ∧ T (11 + m) ≠ 30 + T (45 + m)) n (by omega)
  rw [← hn] at sb
  generalize tSet (fun m => 30 ≤ T (11 + m) ∧ T (11 + m) ≠ 30 + T (45 + m)) (T 5) = S at sb ⊢
  have hjn : ∀ q, 0 ≤ q → q < 8 → (jand s (jshl 1 q) = 0 ↔ tBit s q = 0) := fun q q0 q1 => (bit_or s0 s1 q0 q1).2.2.1
  have s01 : ∀ q, 0 ≤ q → q < 8 → tBit s q = 0 ∨ tBit s q = 1 := fun q q0 q1 => bit01 s0 s1 q0 q1
  obtain ⟨⟨a, b⟩, h1, h2, h3, h4, h5, h6, h7⟩ := puUpE (P := fun i (z : Int × Int) => 0 ≤ z.1 ∧ z.1 < 256 ∧ 0 ≤ z.2 ∧ z.2 < 256 ∧ (∀ q, 0 ≤ q → q < 8 → (tBit z.1 q = 1 ↔ tHas T s q i ∧ tBit s q = 1)) ∧ (∀ q, 0 ≤ q → q < 8 → (tBit z.2 q = 1 ↔ tLak T s q i ∧ tBit s q = 1))) (L := fun i z => Ha_isRing_13 (d + 1) 0 s z.1 z.2 S i mem) (n := T 5) t5.1 (fun i z i0 i1 hP => by
    obtain ⟨a, b⟩ := z
    obtain ⟨p1, p2, p3, p4, p5, p6⟩ := hP
    have hm := hR.2.2.2.2.2.2.1 i i0 i1
    show ∃ z' : Int × Int, Ha_isRing_13 (d + 1) 0 s a b S i mem = Ha_isRing_13 (d + 1) 0 s z'.1 z'.2 S (i + 1) mem ∧ _
    obtain ⟨y, rfl⟩ := Int.eq_ofNat_of_zero_le i0
    have hb := sb y (by omega)
    unfold tBit at hb
    rw [q_Ha_isRing_13, r5, if_pos i1, hb, jw32_id (x := (y : Int) + 1) (by omega) (by omega)]
    have keep : (¬ ((30 ≤ T (11 + (y : Int)) ∧ T (11 + (y : Int)) ≠ 30 + T (45 + (y : Int))) ∧ tBit s (T (11 + (y : Int)) - 30) = 1 ∧ tBit s (T (45 + (y : Int))) = 1)) → ((∀ q, 0 ≤ q → q < 8 → (tBit a q = 1 ↔ tHas T s q ((y : Int) + 1) ∧ tBit s q = 1)) ∧ (∀ q, 0 ≤ q → q < 8 → (tBit b q = 1 ↔ tLak T s q ((y : Int) + 1) ∧ tBit s q = 1))) := fun hno => by
      refine ⟨fun q q0 q1 => (p5 q q0 q1).trans ⟨fun w => ⟨(tHas_s i0).mpr (Or.inl w.1), w.2⟩, fun w => ⟨((tHas_s i0).mp w.1).elim id (fun c => absurd ⟨c.1, by rw [c.2.1]; exact w.2, c.2.2⟩ hno), w.2⟩⟩, fun q q0 q1 => (p6 q q0 q1).trans ⟨fun w => ⟨(tLak_s i0).mpr (Or.inl w.1), w.2⟩, fun w => ⟨((tLak_s i0).mp w.1).elim id (fun c => absurd ⟨c.1, c.2.2, by rw [c.2.1]; exact w.2⟩ hno), w.2⟩⟩⟩
    by_cases hp : 30 ≤ T (11 + (y : Int)) ∧ T (11 + (y : Int)) ≠ 30 + T (45 + (y : Int))
    case neg =>
      rw [jb_n (fun w => hp w.2), if_pos rfl]
      obtain ⟨k1, k2⟩ := keep (fun w => hp w.1)
      exact ⟨(a, b), rfl, p1, p2, p3, p4, k1, k2⟩
    have hw := tWho hR hW i0 i1 hp.1
    rw [jb_1 ⟨i1, hp⟩, if_neg (by decide), jix_in i0 (by omega), jix_in i0 (by omega), (cw.2.1 _ i0 i1).1, (cr.2.2.2.2.2.2.2.1 _ i0 i1).2.2.2, jw32_id (x := T (11 + (y : Int)) - 30) (by omega) (by omega)]
    by_cases ha : tBit s (T (11 + (y : Int)) - 30) = 0
    · rw [if_pos ((hjn _ (by omega) (by omega)).mpr ha)]
      obtain ⟨k1, k2⟩ := keep (fun w => by omega)
      exact ⟨(a, b), rfl, p1, p2, p3, p4, k1, k2⟩
    rw [if_neg (fun w => ha ((hjn _ (by omega) (by omega)).mp w))]
    by_cases hc : tBit s (T (45 + (y : Int))) = 0
    · rw [if_pos ((hjn _ (by omega) (by omega)).mpr hc)]
      obtain ⟨k1, k2⟩ := keep (fun w => by omega)
      exact ⟨(a, b), rfl, p1, p2, p3, p4, k1, k2⟩
    rw [if_neg (fun w => hc ((hjn _ (by omega) (by omega)).mp w))]
    have ha1 : tBit s (T (11 + (y : Int)) - 30) = 1 := (s01 _ (by omega) (by omega)).resolve_left ha
    have hc1 : tBit s (T (45 + (y : Int))) = 1 := (s01 _ (by omega) (by omega)).resolve_left hc
    obtain ⟨u1, u2, -, u3⟩ := bit_or (a := a) (p := T (11 + (y : Int)) - 30) p1 p2 (by omega) (by omega)
    obtain ⟨v1, v2, -, v3⟩ := bit_or (a := b) (p := T (45 + (y : Int))) p3 p4 (by omega) (by omega)
    refine ⟨(_, _), rfl, u1, u2, v1, v2, fun q q0 q1 => ?_, fun q q0 q1 => ?_⟩
    · show tBit (jor a (jshl 1 (T (11 + (y : Int)) - 30))) q = 1 ↔ _
      rw [u3 q q0 q1]
      by_cases e : q = T (11 + (y : Int)) - 30
      · rw [if_pos e]
        exact ⟨fun _ => ⟨(tHas_s i0).mpr (Or.inr ⟨hp, e.symm, hc1⟩), by rw [e]; exact ha1⟩, fun _ => rfl⟩
      · rw [if_neg e]
        exact (p5 q q0 q1).trans ⟨fun w => ⟨(tHas_s i0).mpr (Or.inl w.1), w.2⟩, fun w => ⟨((tHas_s i0).mp w.1).elim id (fun c => absurd c.2.1.symm e), w.2⟩⟩
    · show tBit (jor b (jshl 1 (T (45 + (y : Int))))) q = 1 ↔ _
      rw [v3 q q0 q1]
      by_cases e : q = T (45 + (y : Int))
      · rw [if_pos e]
        exact ⟨fun _ => ⟨(tLak_s i0).mpr (Or.inr ⟨hp, e.symm, ha1⟩), by rw [e]; exact hc1⟩, fun _ => rfl⟩
      · rw [if_neg e]
        exact (p6 q q0 q1).trans ⟨fun w => ⟨(tLak_s i0).mpr (Or.inl w.1), w.2⟩, fun w => ⟨((tLak_s i0).mp w.1).elim id (fun c => absurd c.2.1.symm e), w.2⟩⟩) (0, 0) ⟨by decide, by decide, by decide, by decide, fun q q0 q1 => ⟨fun w => by
      obtain ⟨z, rfl⟩ := Int.eq_ofNat_of_zero_le q0
      have := tBit_0 z (by omega)
      simp only at w
      omega, fun w => by obtain ⟨⟨m, g1, g2, _⟩, _⟩ := w; omega⟩, fun q q0 q1 => ⟨fun w => by
      obtain ⟨z, rfl⟩ := Int.eq_ofNat_of_zero_le q0
      have := tBit_0 z (by omega)
      simp only at w
      omega, fun w => by obtain ⟨⟨m, g1, g2, _⟩, _⟩ := w; omega⟩⟩
  have h1' : Ha_isRing_13 (d + 1) 0 s 0 0 S 0 mem = Ha_isRing_13 (d + 1) 0 s a b S (T 5) mem := h1
  simp only at h2 h3 h4 h5 h6 h7
  rw [h1', q_Ha_isRing_13, r5, if_neg (by omega)]
  have eqa : a = s ↔ ∀ p, 0 ≤ p → p < T 4 → tBit s p = 1 → tHas T s p (T 5) := by
    constructor
    · intro e p p0 p1 hb
      have h := (h6 p p0 (by omega)).mp (by rw [e]; exact hb)
      exact h.1
    · intro hall
      refine bit_ext h2 h3 s0 s1 (fun q hq => ?_)
      rcases s01 (q : Int) (by omega) (by omega) with g | g
      · rcases bit01 h2 h3 (q := (q : Int)) (by omega) (by omega) with w | w
        · rw [w, g]
        · have := ((h6 (q : Int) (by omega) (by omega)).mp w).2
          omega
      · have hlt : (q : Int) < T 4 := by
          by_cases hh : (q : Int) < T 4
          · exact hh
          · have := hs (q : Int) (by omega) (by omega)
            omega
        rw [g]
        exact (h6 (q : Int) (by omega) (by omega)).mpr ⟨hall (q : Int) (by omega) hlt g, g⟩
  have eqb : b = s ↔ ∀ p, 0 ≤ p → p < T 4 → tBit s p = 1 → tLak T s p (T 5) := by
    constructor
    · intro e p p0 p1 hb
      have h := (h7 p p0 (by omega)).mp (by rw [e]; exact hb)
      exact h.1
    · intro hall
      refine bit_ext h4 h5 s0 s1 (fun q hq => ?_)
      rcases s01 (q : Int) (by omega) (by omega) with g | g
      · rcases bit01 h4 h5 (q := (q : Int)) (by omega) (by omega) with w | w
        · rw [w, g]
        · have := ((h7 (q : Int) (by omega) (by omega)).mp w).2
          omega
      · have hlt : (q : Int) < T 4 := by
          by_cases hh : (q : Int) < T 4
          · exact hh
          · have := hs (q : Int) (by omega) (by omega)
            omega
        rw [g]
        exact (h7 (q : Int) (by omega) (by omega)).mpr ⟨hall (q : Int) (by omega) hlt g, g⟩
  by_cases e1 : a = s
  · rw [if_pos e1]
    by_cases e2 : b = s
    · rw [if_pos e2]
      exact ⟨1, rfl, Or.inr rfl, ⟨fun _ p p0 p1 hb => ⟨eqa.mp e1 p p0 p1 hb, eqb.mp e2 p p0 p1 hb⟩, fun _ => rfl⟩⟩
    · rw [if_neg e2]
      exact ⟨0, rfl, Or.inl rfl, ⟨fun w => by omega, fun w => absurd (eqb.mpr (fun p p0 p1 hb => (w p p0 p1 hb).2)) e2⟩⟩
  · rw [if_neg e1]
    exact ⟨0, rfl, Or.inl rfl, ⟨fun w => by omega, fun w => absurd (eqa.mpr (fun p p0 p1 hb => (w p p0 p1 hb).1)) e1⟩⟩
theorem shl1 : ∀ n : Nat, n < 5 → jshl 1 (n : Int) = ((2 ^ n : Nat) : Int) ∧ 2 ^ n ≤ 16 := by decide
theorem p_rings (x : Int) : pCase (E_rings 60 x) (M_rings 60 x) := pCase_ro fun mem hi hm => by
  obtain ⟨hR, hW, hN, h999, cr, cw, cn, hl⟩ := pNow hi
  have t4 := hR.2.2.1
  have r4 := cr.2.2.2.2.1
  rw [q_E_rings 59, q_M_rings 59, cr.1, s_M_isRiver]
  simp only [jbnd_s, jasI_v]
  rcases told01 hR with h0 | h1
  · rw [if_pos h0, jb_n (by omega), if_pos rfl]
    exact ⟨_, rfl, rfl⟩
  rw [if_neg (by omega), jb_1 h1, if_neg (by decide), s_E_within, s_M_in]
  simp only [jbnd_s, jasI_v]
  by_cases hx : 0 ≤ x ∧ x ≤ 1
  case neg =>
    rw [jb_n hx, if_pos rfl, if_pos rfl]
    exact ⟨_, rfl, rfl⟩
  rw [jb_1 hx, if_neg (by decide), if_neg (by decide), q_Ha_ringed]
  obtain ⟨n, hn⟩ := Int.eq_ofNat_of_zero_le t4.1
  obtain ⟨l1, l2⟩ := shl1 n (by omega)
  have key : ∀ (k : Nat) (s c g : Int), 1 ≤ s → s + (k : Int) = ((2 ^ n : Nat) : Int) → 0 ≤ c → c ≤ s → 0 ≤ g → g < s → ∃ r, Ha_ringed_7 58 0 x c g s mem = some (vI r, mem) ∧ M_rings_26 59 x c g s mem = some (vI r, mem) := by
    intro k
    induction k with
    | zero =>
      intro s c g s0 s1 c0 c1 g0 g1
      rw [q_Ha_ringed_7, r4, hn, l1, if_neg (show ¬ s < ((2 ^ n : Nat) : Int) by omega), q_M_rings_26, hn, l1, if_neg (show ¬ s < ((2 ^ n : Nat) : Int) by omega)]
      by_cases x0 : x = 0
      · rw [if_pos x0]
        exact ⟨_, rfl, rfl⟩
      · rw [if_neg x0]
        exact ⟨_, rfl, rfl⟩
    | succ k ih =>
      intro s c g s0 s1 c0 c1 g0 g1
      have hbd : ∀ q, jrI mem 55 0 4 ≤ q → q < 8 → tBit s q = 0 := fun q a b => by
        obtain ⟨y, rfl⟩ := Int.eq_ofNat_of_zero_le (show 0 ≤ s by omega)
        obtain ⟨z, rfl⟩ := Int.eq_ofNat_of_zero_le (show 0 ≤ q by omega)
        exact bBd n (by omega) y (by omega) z (by omega) (by omega)
      obtain ⟨v, a1, a2, a3⟩ := s_Ha_isRing 56 s _ mem hR hW cr cw (by omega) (by omega) hbd
      obtain ⟨w, b1, b2, b3⟩ := s_M_isRing 54 s _ mem hR hW rfl (by omega) (by omega)
      rw [q_Ha_ringed_7, r4, hn, l1, if_pos (show s < ((2 ^ n : Nat) : Int) by omega), q_M_rings_26, hn, l1, if_pos (show s < ((2 ^ n : Nat) : Int) by omega), s_J_bitCount 57 s mem (by omega) (by omega), b1, jw32_id (x := s + 1) (by omega) (by omega), jw32_id (x := c + 1) (by omega) (by omega)]
      simp only [jbnd_s, jasI_v]
      by_cases h2 : tPop s < 2
      · rw [if_pos h2, if_pos (show w = 0 by rcases b2 with b2 | b2; exact b2; have := (b3.mp b2).2; omega)]
        exact ih (s + 1) c g (by omega) (by omega) c0 (by omega) g0 (by omega)
      · rw [if_neg h2, a1]
        simp only [jbnd_s, jasI_v]
        by_cases hv : v = 0
        · rw [if_pos hv, if_pos (show w = 0 by rcases b2 with b2 | b2; exact b2; have := a3.mpr (b3.mp b2).1; omega)]
          exact ih (s + 1) c g (by omega) (by omega) c0 (by omega) g0 (by omega)
        · rw [if_neg hv, if_neg (show ¬ w = 0 by have := b3.mpr ⟨a3.mp (by omega), by omega⟩; omega), s_J_bitCount 57 s mem (by omega) (by omega), s_M_bits 58 s mem (by omega) (by omega)]
          simp only [jbnd_s, jasI_v]
          rw [s_J_bitCount 57 g mem (by omega) (by omega), s_M_bits 58 g mem (by omega) (by omega)]
          simp only [jbnd_s, jasI_v]
          by_cases hq : tPop g < tPop s
          · rw [if_pos hq, if_pos hq]
            exact ih (s + 1) (c + 1) s (by omega) (by omega) (by omega) (by omega) (by omega) (by omega)
          · rw [if_neg hq, if_neg hq]
            exact ih (s + 1) (c + 1) g (by omega) (by omega) (by omega) (by omega) g0 (by omega)
  have hp1 : 1 ≤ 2 ^ n := Nat.one_le_two_pow
  obtain ⟨r, k1, k2⟩ := key (2 ^ n - 1) 1 0 0 (by decide) (by omega) (by decide) (by decide) (by decide) (by decide)
  rw [k1, k2]
  simp only [jbnd_s, jasI_v]
  exact ⟨_, rfl, rfl⟩
