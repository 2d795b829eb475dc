/-! Words along the tape -/
theorem s_Ta_passWord (d : Nat) (b : Int → Int) (n i : Int) (mem : jMem) (hb : ∀ j, 0 ≤ j → j < n → jrI mem 37 0 j = b j) (hn : jrI mem 8 0 1 = n) (hi : jrI mem 8 0 2 = i) (h : 0 ≤ i ∧ i ≤ n ∧ n ≤ 400) : ∃ m', Ta_passWord (d + 1) mem = some (vU, m') ∧ jrI m' 8 0 2 = rTo (fun j => ¬ (97 ≤ b j ∧ b j ≤ 122)) n i ∧ puR (fun f i k => f = 8 ∧ i = 0 ∧ k = 2) mem m' := by
  rw [q_Ta_passWord]
  have key : ∀ (k : Nat) (i : Int) (m : jMem), 0 ≤ i → i + (k : Int) = n → jrI m 8 0 2 = i → puR (fun f i k => f = 8 ∧ i = 0 ∧ k = 2) mem m → ∃ m', Ta_passWord_0 d m = some (vU, m') ∧ jrI m' 8 0 2 = rTo (fun j => ¬ (97 ≤ b j ∧ b j ≤ 122)) n i ∧ puR (fun f i k => f = 8 ∧ i = 0 ∧ k = 2) mem m' := by
    intro k
    induction k with
    | zero =>
      intro i m i0 i1 him hr
      rw [q_Ta_passWord_0, him, hr 8 0 1 (by omega), hn, if_neg (by omega)]
      refine ⟨m, rfl, ?_, hr⟩
      rw [him, show i = n by omega, rTo_e]
    | succ k ih =>
      intro i m i0 i1 him hr
      rw [q_Ta_passWord_0, him, hr 8 0 1 (by omega), hn, if_pos (by omega), jix_in i0 (by omega), jix_in i0 (by omega), hr 37 0 i (by omega), hb i i0 (by omega), jw32_id (x := i + 1) (by omega) (by omega)]
      by_cases h1 : b i < 97
      · rw [if_pos h1]
        refine ⟨m, rfl, ?_, hr⟩
        rw [him, rTo_y i0 (by omega) (by omega)]
      rw [if_neg h1]
      by_cases h2 : 122 < b i
      · rw [if_pos h2]
        refine ⟨m, rfl, ?_, hr⟩
        rw [him, rTo_y i0 (by omega) (by omega)]
      rw [if_neg h2, rTo_n i0 (by omega) (by omega)]
      exact ih (i + 1) _ (by omega) (by omega) (jrI_ws _ _ _ _ _) (puR_w hr ⟨rfl, rfl, rfl⟩)
  exact key (n - i).toNat i mem h.1 (by omega) hi (puR_rf _ mem)
theorem s_M_isLetter (d : Nat) (b : Int → Int) (n x : Int) (mem : jMem) (hb : ∀ j, 0 ≤ j → j < n → jrI mem 46 0 j = b j) (hn : jrI mem 11 0 1 = n) (h0 : 0 ≤ x) (h4 : n ≤ 400) : M_isLetter (d + 1) x mem = some (vI (jb (x < n ∧ 97 ≤ b x ∧ b x ≤ 122)), mem) := by
  rw [q_M_isLetter, hn]
  by_cases hx : x < n
  · rw [if_pos hx, jix_in h0 (by omega), jix_in h0 (by omega), hb x h0 hx]
    by_cases h1 : b x < 97
    · rw [if_pos h1, jb_n (by omega)]
    rw [if_neg h1]
    by_cases h2 : 122 < b x
    · rw [if_pos h2, jb_n (by omega)]
    · rw [if_neg h2, jb_1 ⟨hx, by omega, by omega⟩]
  · rw [if_neg hx, jb_n (by omega)]
theorem s_M_passWord (d : Nat) (b : Int → Int) (n i : Int) (mem : jMem) (hb : ∀ j, 0 ≤ j → j < n → jrI mem 46 0 j = b j) (hn : jrI mem 11 0 1 = n) (hi : jrI mem 11 0 8 = i) (h : 0 ≤ i ∧ i ≤ n ∧ n ≤ 400) : ∃ m', M_passWord (d + 2) mem = some (vU, m') ∧ jrI m' 11 0 8 = rTo (fun j => ¬ (97 ≤ b j ∧ b j ≤ 122)) n i ∧ puR (fun f i k => f = 11 ∧ i = 0 ∧ k = 8) mem m' := by
  rw [q_M_passWord]
  have key : ∀ (k : Nat) (i : Int) (m : jMem), 0 ≤ i → i + (k : Int) = n → jrI m 11 0 8 = i → puR (fun f i k => f = 11 ∧ i = 0 ∧ k = 8) mem m → ∃ m', M_passWord_0 (d + 1) m = some (vU, m') ∧ jrI m' 11 0 8 = rTo (fun j => ¬ (97 ≤ b j ∧ b j ≤ 122)) n i ∧ puR (fun f i k => f = 11 ∧ i = 0 ∧ k = 8) mem m' := by
    intro k
    induction k with
    | zero =>
      intro i m i0 i1 him hr
      rw [q_M_passWord_0, him, s_M_isLetter d b n i m (fun j j0 j1 => by rw [hr 46 0 j (by omega)]; exact hb j j0 j1) (by rw [hr 11 0 1 (by omega)]; exact hn) i0 h.2.2]
      simp only [jbnd_s, jasI_v]
      rw [jb_n (by omega), if_pos rfl]
      refine ⟨m, rfl, ?_, hr⟩
      rw [him, show i = n by omega, rTo_e]
    | succ k ih =>
      intro i m i0 i1 him hr
      rw [q_M_passWord_0, him, s_M_isLetter d b n i m (fun j j0 j1 => by rw [hr 46 0 j (by omega)]; exact hb j j0 j1) (by rw [hr 11 0 1 (by omega)]; exact hn) i0 h.2.2]
      simp only [jbnd_s, jasI_v]
      by_cases hl : 97 ≤ b i ∧ b i ≤ 122
      · rw [jb_1 ⟨by omega, hl⟩, if_neg (by decide), rTo_n i0 (by omega) (by omega), him, jw32_id (x := i + 1) (by omega) (by omega)]
        exact ih (i + 1) _ (by omega) (by omega) (jrI_ws _ _ _ _ _) (puR_w hr ⟨rfl, rfl, rfl⟩)
      · rw [jb_n (by omega), if_pos rfl]
        refine ⟨m, rfl, ?_, hr⟩
        rw [him, rTo_y i0 (by omega) hl]
  exact key (n - i).toNat i mem h.1 (by omega) hi (puR_rf _ mem)
