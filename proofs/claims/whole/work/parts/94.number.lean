/-! Numbers along the tape -/
def rNv (b : Int → Int) (i : Int) : Nat → Int
  | 0 => 0
  | k + 1 => 10 * rNv b i k + b (i + (k : Int)) - 48
def rDg (b : Int → Int) (n i : Int) : Int := rTo (fun j => ¬ (48 ≤ b j ∧ b j ≤ 57)) n i
def rVl (b : Int → Int) (i e : Int) : Int := rNv b i (if e - i < 5 then e - i else 5).toNat
theorem rNv_in {b : Int → Int} {i e : Int} (h : ∀ j, i ≤ j → j < e → 48 ≤ b j ∧ b j ≤ 57) : ∀ k : Nat, i + (k : Int) ≤ e → k ≤ 5 → 0 ≤ rNv b i k ∧ rNv b i k < ((10 ^ k : Nat) : Int) := by
  intro k
  induction k with
  | zero => intro _ _; exact ⟨by show (0 : Int) ≤ 0; decide, by show (0 : Int) < 1; decide⟩
  | succ k ih =>
    intro hk h5
    obtain ⟨a, c⟩ := ih (by omega) (by omega)
    have := h (i + (k : Int)) (by omega) (by omega)
    show 0 ≤ 10 * rNv b i k + b (i + (k : Int)) - 48 ∧ 10 * rNv b i k + b (i + (k : Int)) - 48 < _
    rw [Nat.pow_succ]
    omega
theorem rNv_b {b : Int → Int} {i e : Int} (h : ∀ j, i ≤ j → j < e → 48 ≤ b j ∧ b j ≤ 57) (k : Nat) (hk : i + (k : Int) ≤ e) (h5 : k ≤ 5) : 0 ≤ rNv b i k ∧ rNv b i k ≤ 99999 := by
  have h1 := rNv_in h k hk h5
  have h2 : 10 ^ k ≤ 10 ^ 5 := Nat.pow_le_pow_right (by decide) h5
  omega
theorem s_Ta_blame (d : Nat) (p q : Int) (mem : jMem) (hf : jrI mem 8 0 3 = 0) (hp : 0 ≤ p ∧ p ≤ 400) (hq : 0 ≤ q ∧ q ≤ 8) : Ta_blame (d + 1) p q mem = some (vI 0, jwI mem 8 0 3 (1 + 8 * p + q)) := by
  rw [q_Ta_blame, if_pos hf, jw32_id (x := 8 * p) (by omega) (by omega), jw32_id (x := 1 + 8 * p) (by omega) (by omega), jw32_id (x := 1 + 8 * p + q) (by omega) (by omega)]
theorem s_M_fails (d : Nat) (p q : Int) (mem : jMem) (hf : jrI mem 11 0 9 = 0) (hp : 0 ≤ p ∧ p ≤ 400) (hq : 0 ≤ q ∧ q ≤ 8) : M_fails (d + 1) q p mem = some (vI 0, jwI mem 11 0 9 (1 + 8 * p + q)) := by
  rw [q_M_fails, if_pos hf, jw32_id (x := 8 * p) (by omega) (by omega), jw32_id (x := 1 + 8 * p) (by omega) (by omega), jw32_id (x := 1 + 8 * p + q) (by omega) (by omega)]
