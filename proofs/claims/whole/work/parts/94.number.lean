/-! Numbers along the tape -/
def rNv (b : Int → Int) (i : Int) : Nat → Int
  | 0 => 0
  | k + 1 => 10 * rNv b i k + b (i + (k : Int)) - 48
def rDg (b : Int → Int) (n i : Int) : Int := rTo (fun j => ¬ (48 ≤ b j ∧ b j ≤ 57)) n i
def rVl (b : Int → Int) (i e : Int) : Int := rNv b i (if e - i < 5 then e - i else 5).toNat
theorem rNv_in {b : Int → Int} {i e : Int} (h : ∀ j, i ≤ j → j < e → 48 ≤ b j ∧ b j ≤ 57) : ∀ k : Nat, i + (k : Int) ≤ e → k ≤ 5 → 0 ≤ rNv b i k ∧ rNv b i k < ((10 ^ k : Nat) : Int) := by
  intro k
  induction k with
  | zero => intro _ _; exact ⟨by show (0 : Int) ≤ 0; decide, by show (0 : Int) < 1; decide⟩
  | succ k ih =>
    intro hk h5
    obtain ⟨a, c⟩ := ih (by omega) (by omega)
    have := h (i + (k : Int)) (by omega) (by omega)
    show 0 ≤ 10 * rNv b i k + b (i + (k : Int)) - 48 ∧ 10 * rNv b i k + b (i + (k : Int)) - 48 < _
    rw [Nat.pow_succ]
    omega
theorem rNv_b {b : Int → Int} {i e : Int} (h : ∀ j, i ≤ j → j < e → 48 ≤ b j ∧ b j ≤ 57) (k : Nat) (hk : i + (k : Int) ≤ e) (h5 : k ≤ 5) : 0 ≤ rNv b i k ∧ rNv b i k ≤ 99999 := by
  have h1 := rNv_in h k hk h5
  have h2 : 10 ^ k ≤ 10 ^ 5 := Nat.pow_le_pow_right (by decide) h5
  omega
theorem s_Ta_blame (d : Nat) (p q : Int) (mem : jMem) (hf : jrI mem 8 0 3 = 0) (hp : 0 ≤ p ∧ p ≤ 400) (hq : 0 ≤ q ∧ q ≤ 8) : Ta_blame (d + 1) p q mem = some (vI 0, jwI mem 8 0 3 (1 + 8 * p + q)) := by
  rw [q_Ta_blame, if_pos hf, jw32_id (x := 8 * p) (by omega) (by omega), jw32_id (x := 1 + 8 * p) (by omega) (by omega), jw32_id (x := 1 + 8 * p + q) (by omega) (by omega)]
theorem s_M_fails (d : Nat) (p q : Int) (mem : jMem) (hf : jrI mem 11 0 9 = 0) (hp : 0 ≤ p ∧ p ≤ 400) (hq : 0 ≤ q ∧ q ≤ 8) : M_fails (d + 1) q p mem = some (vI 0, jwI mem 11 0 9 (1 + 8 * p + q)) := by
  rw [q_M_fails, if_pos hf, jw32_id (x := 8 * p) (by omega) (by omega), jw32_id (x := 1 + 8 * p) (by omega) (by omega), jw32_id (x := 1 + 8 * p + q) (by omega) (by omega)]
/-- what a number read from s to e is: so, or the kind of its fault -/
def rOk (b : Int → Int) (s e lo hi : Int) : Prop := 0 < e - s ∧ e - s ≤ 5 ∧ lo ≤ rVl b s e ∧ rVl b s e ≤ hi
theorem s_Ta_number_21 (d : Nat) (lo hi s n : Int) (b : Int → Int) (mem : jMem) (hb : ∀ j, 0 ≤ j → j < n → jrI mem 37 0 j = b j) (hn : jrI mem 8 0 1 = n) (h : 0 ≤ s ∧ s ≤ n ∧ n ≤ 400) (hs : jrI mem 8 0 2 = s) : ∃ m', Ta_number_21 d lo hi s 0 mem = Ta_number_103 d lo hi s (rVl b s (rDg b n s)) m' ∧ jrI m' 8 0 2 = rDg b n s ∧ puR (fun f i k => f = 8 ∧ i = 0 ∧ k = 2) mem m' := by
  have hd := rTo_in (fun j => ¬ (48 ≤ b j ∧ b j ≤ 57)) h.1 h.2.1
  have hdig : ∀ j, s ≤ j → j < rDg b n s → 48 ≤ b j ∧ b j ≤ 57 := fun j j0 j1 => Decidable.of_not_not (hd.2.2.2 j j0 j1)
  have key : ∀ (k : Nat) (j : Int) (m : jMem), s ≤ j → j + (k : Int) = rDg b n s → jrI m 8 0 2 = j → puR (fun f i k => f = 8 ∧ i = 0 ∧ k = 2) mem m → ∃ m', Ta_number_21 d lo hi s (rVl b s j) m = Ta_number_103 d lo hi s (rVl b s (rDg b n s)) m' ∧ jrI m' 8 0 2 = rDg b n s ∧ puR (fun f i k => f = 8 ∧ i = 0 ∧ k = 2) mem m' := by
    intro k
    induction k with
    | zero =>
      intro j m j0 j1 hj hr
      have e : j = rDg b n s := by omega
      refine ⟨m, ?_, by rw [hj, e], hr⟩
      rw [q_Ta_number_21, hj, hr 8 0 1 (by omega), hn, ← e]
      by_cases hjn : j < n
      · have hnd := hd.2.2.1 (show rDg b n s < n by omega)
        have hnd' : ¬ (48 ≤ b j ∧ b j ≤ 57) := by rw [e]; exact hnd
        rw [if_pos hjn, jix_in (by omega) (by omega), jix_in (by omega) (by omega), hr 37 0 j (by omega), hb j (by omega) hjn]
        by_cases h1 : b j < 48
        · rw [if_pos h1]
        · rw [if_neg h1, if_pos (by omega)]
      · rw [if_neg hjn]
    | succ k ih =>
      intro j m j0 j1 hj hr
      have hdj := hdig j j0 (by omega)
      have hle : rDg b n s ≤ n := hd.2.1
      rw [q_Ta_number_21, hj, hr 8 0 1 (by omega), hn, if_pos (by omega), jix_in (by omega) (by omega), jix_in (by omega) (by omega), jix_in (by omega) (by omega), hr 37 0 j (by omega), hb j (by omega) (by omega), if_neg (by omega), if_neg (by omega), jw32_id (x := j - s) (by omega) (by omega), jw32_id (x := j + 1) (by omega) (by omega)]
      have hnx := ih (j + 1) (jwI m 8 0 2 (j + 1)) (by omega) (by omega) (jrI_ws _ _ _ _ _) (puR_w hr ⟨rfl, rfl, rfl⟩)
      by_cases h5 : j - s < 5
      · have e1 : rVl b s j = rNv b s (j - s).toNat := by unfold rVl; rw [if_pos h5]
        have e2 : rVl b s (j + 1) = rNv b s ((j - s).toNat + 1) := by
          unfold rVl
          by_cases h6 : j + 1 - s < 5
          · rw [if_pos h6, show (j + 1 - s).toNat = (j - s).toNat + 1 by omega]
          · rw [if_neg h6, show (5 : Int).toNat = (j - s).toNat + 1 by omega]
        have hbd := rNv_b hdig (j - s).toNat (by omega) (by omega)
        have hst : rNv b s ((j - s).toNat + 1) = 10 * rNv b s (j - s).toNat + b j - 48 := by
          show 10 * rNv b s (j - s).toNat + b (s + (((j - s).toNat : Nat) : Int)) - 48 = _
          rw [show s + (((j - s).toNat : Nat) : Int) = j by omega]
        rw [if_pos h5, e1, jw32_id (x := 10 * rNv b s (j - s).toNat) (by omega) (by omega), jw32_id (x := 10 * rNv b s (j - s).toNat + b j) (by omega) (by omega), jw32_id (x := 10 * rNv b s (j - s).toNat + b j - 48) (by omega) (by omega), ← hst, ← e2]
        exact hnx
      · have e1 : rVl b s (j + 1) = rVl b s j := by
          unfold rVl
          rw [if_neg (by omega), if_neg (by omega)]
        rw [if_neg h5, ← e1]
        exact hnx
  have h0 : rVl b s s = 0 := by
    unfold rVl
    rw [if_pos (by omega), show (s - s).toNat = 0 by omega]
    rfl
  have := key (rDg b n s - s).toNat s mem (Int.le_refl s) (by have := hd.1; unfold rDg; omega) hs (puR_rf _ mem)
  rw [h0] at this
  exact this
