/-! Numbers, both readers -/
def rSk (b : Int → Int) (n i : Int) : Int := rTo (fun j => b j ≠ 32) n i
theorem s_Ta_number (d : Nat) (lo hi i n : Int) (b : Int → Int) (mem : jMem) (hb : ∀ j, 0 ≤ j → j < n → jrI mem 37 0 j = b j) (hn : jrI mem 8 0 1 = n) (hi9 : jrI mem 8 0 2 = i) (h : 0 ≤ i ∧ i ≤ n ∧ n ≤ 400) (hf : jrI mem 8 0 3 = 0) : ∃ m', (rOk b (rSk b n i) (rDg b n (rSk b n i)) lo hi → Ta_number (d + 2) lo hi mem = some (vI (rVl b (rSk b n i) (rDg b n (rSk b n i))), m') ∧ jrI m' 8 0 3 = 0) ∧ (¬ rOk b (rSk b n i) (rDg b n (rSk b n i)) lo hi → Ta_number (d + 2) lo hi mem = some (vI (-1), m') ∧ jrI m' 8 0 3 = 1 + 8 * rSk b n i + (if rDg b n (rSk b n i) = rSk b n i then 0 else 1)) ∧ jrI m' 8 0 2 = rDg b n (rSk b n i) ∧ puR (fun f i k => f = 8 ∧ i = 0 ∧ (k = 2 ∨ k = 3)) mem m' := by
  obtain ⟨m1, a1, a2, a3⟩ := s_Ta_skip d b n i mem hb hn hi9 h
  have hsk := rTo_in (fun j => b j ≠ 32) h.1 h.2.1
  have hS : rTo (fun j => b j ≠ 32) n i = rSk b n i := rfl
  rw [hS] at hsk a2
  generalize rSk b n i = s at *
  have hb1 : ∀ j, 0 ≤ j → j < n → jrI m1 37 0 j = b j := fun j j0 j1 => by rw [a3 37 0 j (by omega)]; exact hb j j0 j1
  have hn1 : jrI m1 8 0 1 = n := by rw [a3 8 0 1 (by omega)]; exact hn
  obtain ⟨m2, c1, c2, c3⟩ := s_Ta_number_21 (d + 1) lo hi s n b m1 hb1 hn1 ⟨by omega, hsk.2.1, h.2.2⟩ a2
  have hdg := rTo_in (fun j => ¬ (48 ≤ b j ∧ b j ≤ 57)) (show 0 ≤ s by omega) hsk.2.1
  have hD : rTo (fun j => ¬ (48 ≤ b j ∧ b j ≤ 57)) n s = rDg b n s := rfl
  rw [hD] at hdg
  generalize rDg b n s = e at *
  have hf2 : jrI m2 8 0 3 = 0 := by rw [c3 8 0 3 (by omega), a3 8 0 3 (by omega)]; exact hf
  have fr : puR (fun f i k => f = 8 ∧ i = 0 ∧ (k = 2 ∨ k = 3)) mem m2 := puR_tr (puR_mono a3 (fun f i k w => by omega)) (puR_mono c3 (fun f i k w => by omega))
  have hst : Ta_number (d + 2) lo hi mem = Ta_number_103 (d + 1) lo hi s (rVl b s e) m2 := by
    rw [q_Ta_number, if_pos hf, a1]
    simp only [jbnd_s]
    rw [a2, c1]
  have h137 : Ta_number_137 (d + 1) s (e - s) m2 = some (vI (-1), jwI m2 8 0 3 (1 + 8 * s + (if e = s then 0 else 1))) := by
    rw [q_Ta_number_137]
    by_cases he : e - s = 0
    · rw [if_pos he, s_Ta_blame d s 0 m2 hf2 (by omega) (by decide), if_pos (by omega)]
      rfl
    · rw [if_neg he, s_Ta_blame d s 1 m2 hf2 (by omega) (by decide), if_neg (by omega)]
      rfl
  by_cases ok : rOk b s e lo hi
  · refine ⟨m2, fun _ => ⟨?_, hf2⟩, fun w => absurd ok w, c2, fr⟩
    obtain ⟨o1, o2, o3, o4⟩ := ok
    rw [hst, q_Ta_number_103, c2, jw32_id (x := e - s) (by omega) (by omega), if_pos o1, if_neg (by omega), if_neg (by omega), if_neg (by omega)]
  · refine ⟨jwI m2 8 0 3 (1 + 8 * s + (if e = s then 0 else 1)), fun w => absurd w ok, fun _ => ⟨?_, jrI_ws _ _ _ _ _⟩, by rw [jrI_wk (by decide)]; exact c2, puR_w fr ⟨rfl, rfl, Or.inr rfl⟩⟩
    rw [hst, q_Ta_number_103, c2, jw32_id (x := e - s) (by omega) (by omega)]
    by_cases q1 : 0 < e - s
    · rw [if_pos q1]
      by_cases q2 : 5 < e - s
      · rw [if_pos q2, h137]
      rw [if_neg q2]
      by_cases q3 : rVl b s e < lo
      · rw [if_pos q3, h137]
      rw [if_neg q3]
      by_cases q4 : hi < rVl b s e
      · rw [if_pos q4, h137]
      · exact absurd ⟨q1, by omega, by omega, by omega⟩ ok
    · rw [if_neg q1, h137]
