/-! Reading along the tape: b the bytes, n how many -/
/-- the first place from i on where it is so, or the end -/
def rTo (P : Int → Prop) [DecidablePred P] (n i : Int) : Int := if puG P (n - i).toNat i = -1 then n else puG P (n - i).toNat i
theorem rTo_e (P : Int → Prop) [DecidablePred P] (n : Int) : rTo P n n = n := by
  unfold rTo
  rw [show (n - n).toNat = 0 by omega]
  rfl
theorem rTo_y {P : Int → Prop} [DecidablePred P] {n i : Int} (h0 : 0 ≤ i) (h : i < n) (hp : P i) : rTo P n i = i := by
  unfold rTo
  rw [show (n - i).toNat = (n - i - 1).toNat + 1 by omega, puG_s, if_pos hp, if_neg (by omega)]
theorem rTo_n {P : Int → Prop} [DecidablePred P] {n i : Int} (h0 : 0 ≤ i) (h : i < n) (hp : ¬ P i) : rTo P n i = rTo P n (i + 1) := by
  unfold rTo
  rw [show (n - i).toNat = (n - (i + 1)).toNat + 1 by omega, puG_s, if_neg hp]
theorem rTo_in (P : Int → Prop) [DecidablePred P] {n i : Int} (h0 : 0 ≤ i) (h : i ≤ n) : i ≤ rTo P n i ∧ rTo P n i ≤ n ∧ (rTo P n i < n → P (rTo P n i)) ∧ ∀ j, i ≤ j → j < rTo P n i → ¬ P j := by
  unfold rTo
  rcases puG_spec P (n - i).toNat i h0 with ⟨a, b⟩ | ⟨a, b, c, d⟩
  · rw [if_pos a]
    exact ⟨h, Int.le_refl n, fun w => by omega, fun j j0 j1 => b j j0 (by omega)⟩
  · rw [if_neg (by omega)]
    exact ⟨a, by omega, fun _ => c, d⟩
theorem s_Ta_skip (d : Nat) (b : Int → Int) (n i : Int) (mem : jMem) (hb : ∀ j, 0 ≤ j → j < n → jrI mem 37 0 j = b j) (hn : jrI mem 8 0 1 = n) (hi : jrI mem 8 0 2 = i) (h : 0 ≤ i ∧ i ≤ n ∧ n ≤ 400) : ∃ m', Ta_skip (d + 1) mem = some (vU, m') ∧ jrI m' 8 0 2 = rTo (fun j => b j ≠ 32) n i ∧ puR (fun f i k => f = 8 ∧ i = 0 ∧ k = 2) mem m' := by
  rw [q_Ta_skip]
  have key : ∀ (k : Nat) (i : Int) (m : jMem), 0 ≤ i → i + (k : Int) = n → jrI m 8 0 2 = i → puR (fun f i k => f = 8 ∧ i = 0 ∧ k = 2) mem m → ∃ m', Ta_skip_0 d m = some (vU, m') ∧ jrI m' 8 0 2 = rTo (fun j => b j ≠ 32) n i ∧ puR (fun f i k => f = 8 ∧ i = 0 ∧ k = 2) mem m' := by
    intro k
    induction k with
    | zero =>
      intro i m i0 i1 him hr
      rw [q_Ta_skip_0, him, hr 8 0 1 (by omega), hn, if_neg (by omega)]
      refine ⟨m, rfl, ?_, hr⟩
      rw [him, show i = n by omega, rTo_e]
    | succ k ih =>
      intro i m i0 i1 him hr
      rw [q_Ta_skip_0, him, hr 8 0 1 (by omega), hn, if_pos (by omega), jix_in i0 (by omega), hr 37 0 i (by omega), hb i i0 (by omega), jw32_id (x := i + 1) (by omega) (by omega)]
      by_cases h32 : b i = 32
      · rw [if_pos h32, rTo_n i0 (by omega) (fun w => w h32)]
        exact ih (i + 1) _ (by omega) (by omega) (jrI_ws _ _ _ _ _) (puR_w hr ⟨rfl, rfl, rfl⟩)
      · rw [if_neg h32]
        refine ⟨m, rfl, ?_, hr⟩
        rw [him, rTo_y i0 (by omega) h32]
  exact key (n - i).toNat i mem h.1 (by omega) hi (puR_rf _ mem)
theorem s_M_see (d : Nat) (b : Int → Int) (n i : Int) (mem : jMem) (hb : ∀ j, 0 ≤ j → j < n → jrI mem 46 0 j = b j) (hn : jrI mem 11 0 1 = n) (hi : jrI mem 11 0 8 = i) (h : 0 ≤ i ∧ i ≤ n ∧ n ≤ 400) : ∃ m', M_see (d + 1) mem = some (vI (if rTo (fun j => b j ≠ 32) n i < n then jand (b (rTo (fun j => b j ≠ 32) n i)) 255 else -1), m') ∧ jrI m' 11 0 8 = rTo (fun j => b j ≠ 32) n i ∧ puR (fun f i k => f = 11 ∧ i = 0 ∧ k = 8) mem m' := by
  rw [q_M_see]
  have key : ∀ (k : Nat) (i : Int) (m : jMem), 0 ≤ i → i + (k : Int) = n → jrI m 11 0 8 = i → puR (fun f i k => f = 11 ∧ i = 0 ∧ k = 8) mem m → ∃ m', M_see_0 d m = some (vI (if rTo (fun j => b j ≠ 32) n i < n then jand (b (rTo (fun j => b j ≠ 32) n i)) 255 else -1), m') ∧ jrI m' 11 0 8 = rTo (fun j => b j ≠ 32) n i ∧ puR (fun f i k => f = 11 ∧ i = 0 ∧ k = 8) mem m' := by
    intro k
    induction k with
    | zero =>
      intro i m i0 i1 him hr
      rw [q_M_see_0, him, hr 11 0 1 (by omega), hn, if_neg (by omega), q_M_see_38, him, hr 11 0 1 (by omega), hn, if_neg (by omega), show i = n by omega, rTo_e, if_neg (by omega)]
      refine ⟨m, rfl, ?_, hr⟩
      rw [him]; omega
    | succ k ih =>
      intro i m i0 i1 him hr
      rw [q_M_see_0, him, hr 11 0 1 (by omega), hn, if_pos (by omega), jix_in i0 (by omega), hr 46 0 i (by omega), hb i i0 (by omega), jw32_id (x := i + 1) (by omega) (by omega)]
      by_cases h32 : b i = 32
      · rw [if_pos h32, rTo_n i0 (by omega) (fun w => w h32)]
        exact ih (i + 1) _ (by omega) (by omega) (jrI_ws _ _ _ _ _) (puR_w hr ⟨rfl, rfl, rfl⟩)
      · rw [if_neg h32, q_M_see_38, him, hr 11 0 1 (by omega), hn, if_pos (by omega), jix_in i0 (by omega), hr 46 0 i (by omega), hb i i0 (by omega), rTo_y i0 (by omega) h32, if_pos (by omega)]
        exact ⟨m, rfl, him, hr⟩
  exact key (n - i).toNat i mem h.1 (by omega) hi (puR_rf _ mem)
