/-! Sets as bits -/
def tPop (x : Int) : Int := x % 2 + x / 2 % 2 + x / 4 % 2 + x / 8 % 2 + x / 16 % 2 + x / 32 % 2 + x / 64 % 2 + x / 128 % 2 + x / 256 % 2 + x / 512 % 2 + x / 1024 % 2 + x / 2048 % 2
def jPc (x0 : Int) : Int := (jand (jw32 ((jw32 ((jand (jw32 ((jw32 ((jand (jw32 (x0 - (jand (jushr x0 1) 1431655765))) 858993459) + (jand (jushr (jw32 (x0 - (jand (jushr x0 1) 1431655765))) 2) 858993459))) + (jushr (jw32 ((jand (jw32 (x0 - (jand (jushr x0 1) 1431655765))) 858993459) + (jand (jushr (jw32 (x0 - (jand (jushr x0 1) 1431655765))) 2) 858993459))) 4))) 252645135) + (jushr (jand (jw32 ((jw32 ((jand (jw32 (x0 - (jand (jushr x0 1) 1431655765))) 858993459) + (jand (jushr (jw32 (x0 - (jand (jushr x0 1) 1431655765))) 2) 858993459))) + (jushr (jw32 ((jand (jw32 (x0 - (jand (jushr x0 1) 1431655765))) 858993459) + (jand (jushr (jw32 (x0 - (jand (jushr x0 1) 1431655765))) 2) 858993459))) 4))) 252645135) 8))) + (jushr (jw32 ((jand (jw32 ((jw32 ((jand (jw32 (x0 - (jand (jushr x0 1) 1431655765))) 858993459) + (jand (jushr (jw32 (x0 - (jand (jushr x0 1) 1431655765))) 2) 858993459))) + (jushr (jw32 ((jand (jw32 (x0 - (jand (jushr x0 1) 1431655765))) 858993459) + (jand (jushr (jw32 (x0 - (jand (jushr x0 1) 1431655765))) 2) 858993459))) 4))) 252645135) + (jushr (jand (jw32 ((jw32 ((jand (jw32 (x0 - (jand (jushr x0 1) 1431655765))) 858993459) + (jand (jushr (jw32 (x0 - (jand (jushr x0 1) 1431655765))) 2) 858993459))) + (jushr (jw32 ((jand (jw32 (x0 - (jand (jushr x0 1) 1431655765))) 858993459) + (jand (jushr (jw32 (x0 - (jand (jushr x0 1) 1431655765))) 2) 858993459))) 4))) 252645135) 8))) 16))) 63)
theorem bF1k : ∀ u : Nat, u < 64 → ∀ v : Nat, v < 64 → jPc ((64 * u + v : Nat) : Int) = tPop ((64 * u + v : Nat) : Int) := by decide +kernel
theorem bF1 (a : Nat) (h : a < 4096) : jPc (a : Int) = tPop (a : Int) := by
  have h1 := bF1k (a / 64) (by omega) (a % 64) (by omega)
  rw [show 64 * (a / 64) + a % 64 = a by omega] at h1
  exact h1
theorem bF2 : ∀ m : Nat, m < 12 → ∀ a : Nat, a < 2 ^ m → jor (a : Int) (jshl 1 (m : Int)) = (a : Int) + ((2 ^ m : Nat) : Int) ∧ tPop ((a : Int) + ((2 ^ m : Nat) : Int)) = tPop (a : Int) + 1 := by decide +kernel
theorem bMk : ∀ u : Nat, u < 64 → ∀ v : Nat, v < 64 → 64 * u + v = 0 ∨ (0 ≤ jand ((64 * u + v : Nat) : Int) (((64 * u + v : Nat) : Int) - 1) ∧ jand ((64 * u + v : Nat) : Int) (((64 * u + v : Nat) : Int) - 1) < ((64 * u + v : Nat) : Int) ∧ tPop (jand ((64 * u + v : Nat) : Int) (((64 * u + v : Nat) : Int) - 1)) + 1 = tPop ((64 * u + v : Nat) : Int)) := by decide +kernel
theorem bM (x : Nat) (h : x < 4096) (hx : x ≠ 0) : 0 ≤ jand (x : Int) ((x : Int) - 1) ∧ jand (x : Int) ((x : Int) - 1) < (x : Int) ∧ tPop (jand (x : Int) ((x : Int) - 1)) + 1 = tPop (x : Int) := by
  have h1 := bMk (x / 64) (by omega) (x % 64) (by omega)
  rw [show 64 * (x / 64) + x % 64 = x by omega] at h1
  exact h1.resolve_left hx
def tBit (x m : Int) : Int := jand (jshr x m) 1
theorem bG : ∀ a : Nat, a < 256 → (a : Int) = tBit (a : Int) 0 + 2 * tBit (a : Int) 1 + 4 * tBit (a : Int) 2 + 8 * tBit (a : Int) 3 + 16 * tBit (a : Int) 4 + 32 * tBit (a : Int) 5 + 64 * tBit (a : Int) 6 + 128 * tBit (a : Int) 7 := by decide +kernel
theorem bG1 : ∀ a : Nat, a < 256 → ∀ q : Nat, q < 8 → tBit (a : Int) (q : Int) = 0 ∨ tBit (a : Int) (q : Int) = 1 := by decide +kernel
theorem bH : ∀ a : Nat, a < 256 → ∀ p : Nat, p < 8 → 0 ≤ jor (a : Int) (jshl 1 (p : Int)) ∧ jor (a : Int) (jshl 1 (p : Int)) < 256 ∧ (jand (a : Int) (jshl 1 (p : Int)) = 0 ↔ tBit (a : Int) (p : Int) = 0) := by decide +kernel
theorem bH2 : ∀ a : Nat, a < 256 → ∀ p : Nat, p < 8 → ∀ q : Nat, q < 8 → tBit (jor (a : Int) (jshl 1 (p : Int))) (q : Int) = if q = p then 1 else tBit (a : Int) (q : Int) := by decide +kernel
theorem s_J_bitCount (d : Nat) (x : Int) (mem : jMem) (h0 : 0 ≤ x) (h1 : x < 4096) : J_bitCount (d + 1) x mem = some (vI (tPop x), mem) := by
  obtain ⟨a, rfl⟩ := Int.eq_ofNat_of_zero_le h0
  have h := bF1 a (by omega)
  rw [q_J_bitCount, ← h]
  rfl
theorem s_M_bits (d : Nat) (x : Int) (mem : jMem) (h0 : 0 ≤ x) (h1 : x < 4096) : M_bits (d + 1) x mem = some (vI (tPop x), mem) := by
  have key : ∀ (k a : Nat) (c : Int), a < k → a < 4096 → 0 ≤ c → c + (a : Int) ≤ 5000 → M_bits_4 d c (a : Int) mem = some (vI (c + tPop (a : Int)), mem) := by
    intro k
    induction k with
    | zero => intro a c h; omega
    | succ k ih =>
      intro a c hk ha c0 c1
      rw [q_M_bits_4]
      by_cases e : a = 0
      · subst e
        rw [if_pos (by omega), show tPop ((0 : Nat) : Int) = 0 from rfl, show c + 0 = c by omega]
      · obtain ⟨g1, g2, g3⟩ := bM a ha e
        rw [if_neg (by omega), jw32_id (x := c + 1) (by omega) (by omega), jw32_id (x := (a : Int) - 1) (by omega) (by omega)]
        generalize jand (a : Int) ((a : Int) - 1) = y at g1 g2 g3 ⊢
        obtain ⟨b, rfl⟩ := Int.eq_ofNat_of_zero_le g1
        rw [ih b (c + 1) (by omega) (by omega) (by omega) (by omega), ← g3, show c + 1 + tPop (b : Int) = c + (tPop (b : Int) + 1) by omega]
  obtain ⟨a, rfl⟩ := Int.eq_ofNat_of_zero_le h0
  rw [q_M_bits, key (a + 1) a 0 (by omega) (by omega) (by omega) (by omega), show 0 + tPop (a : Int) = tPop (a : Int) by omega]
theorem tSet_pop (p : Int → Prop) [DecidablePred p] : ∀ k : Nat, k ≤ 12 → 0 ≤ tSet p (k : Int) ∧ tSet p (k : Int) < ((2 ^ k : Nat) : Int) ∧ tPop (tSet p (k : Int)) = tCnt p (k : Int) := by
  intro k
  induction k with
  | zero => intro _; exact ⟨by show (0 : Int) ≤ 0; decide, by show (0 : Int) < 1; decide, rfl⟩
  | succ k ih =>
    intro hk
    obtain ⟨a1, a2, a3⟩ := ih (by omega)
    have ep : ((2 ^ (k + 1) : Nat) : Int) = ((2 ^ k : Nat) : Int) + ((2 ^ k : Nat) : Int) := by
      rw [Nat.pow_succ]
      omega
    rw [show ((k + 1 : Nat) : Int) = (k : Int) + 1 by omega, tSet_s p (by omega), tCnt_s p (by omega), ep]
    by_cases hp : p (k : Int)
    · rw [if_pos hp, if_pos hp]
      generalize tSet p (k : Int) = y at a1 a2 a3 ⊢
      obtain ⟨b, rfl⟩ := Int.eq_ofNat_of_zero_le a1
      obtain ⟨g1, g2⟩ := bF2 k (by omega) b (by omega)
      rw [g1]
      exact ⟨by omega, by omega, by rw [g2, a3]⟩
    · rw [if_neg hp, if_neg hp]
      exact ⟨a1, by omega, a3⟩
theorem tBit_0 (q : Nat) (h : q < 8) : tBit 0 (q : Int) = 0 := by
  have : ∀ q : Nat, q < 8 → tBit 0 (q : Int) = 0 := by decide
  exact this q h
theorem tSet_bit (p : Int → Prop) [DecidablePred p] : ∀ k : Nat, k ≤ 8 → 0 ≤ tSet p (k : Int) ∧ tSet p (k : Int) < 256 ∧ ∀ q : Nat, q < 8 → tBit (tSet p (k : Int)) (q : Int) = jb ((q : Int) < (k : Int) ∧ p (q : Int)) := by
  intro k
  induction k with
  | zero => intro _; exact ⟨by show (0 : Int) ≤ 0; decide, by show (0 : Int) < 256; decide, fun q hq => by rw [jb_n (by omega)]; exact tBit_0 q hq⟩
  | succ k ih =>
    intro hk
    obtain ⟨a1, a2, a3⟩ := ih (by omega)
    rw [show ((k + 1 : Nat) : Int) = (k : Int) + 1 by omega, tSet_s p (by omega)]
    by_cases hp : p (k : Int)
    · rw [if_pos hp]
      generalize tSet p (k : Int) = y at a1 a2 a3 ⊢
      obtain ⟨b, rfl⟩ := Int.eq_ofNat_of_zero_le a1
      obtain ⟨g1, g2, -⟩ := bH b (by omega) k (by omega)
      refine ⟨g1, g2, fun q hq => ?_⟩
      rw [bH2 b (by omega) k (by omega) q hq]
      by_cases e : q = k
      · subst e
        rw [if_pos rfl, jb_1 ⟨by omega, hp⟩]
      · rw [if_neg e, a3 q hq]
        exact jb_cong ⟨fun w => ⟨by omega, w.2⟩, fun w => ⟨by omega, w.2⟩⟩
    · rw [if_neg hp]
      refine ⟨a1, a2, fun q hq => ?_⟩
      rw [a3 q hq]
      exact jb_cong ⟨fun w => ⟨by omega, w.2⟩, fun w => ⟨by
        have h1 := w.1
        by_cases e : q = k
        · subst e; exact absurd w.2 hp
        · omega, w.2⟩⟩
