/-! The readers' states: C the class, M the reference -/
def rPw (b : Int → Int) (n i : Int) : Int := rTo (fun j => ¬ (97 ≤ b j ∧ b j ≤ 122)) n i
def rCh (b : Int → Int) (n i : Int) : Int := if i < n then jand (b i) 255 else -1
def rC (b : Int → Int) (n i : Int) (mem : jMem) : Prop := (∀ j, 0 ≤ j → j < n → jrI mem 37 0 j = b j) ∧ jrI mem 8 0 1 = n ∧ jrI mem 8 0 2 = i ∧ jrI mem 8 0 3 = 0 ∧ (0 ≤ i ∧ i ≤ n ∧ n ≤ 400)
def rM (b : Int → Int) (n i : Int) (mem : jMem) : Prop := (∀ j, 0 ≤ j → j < n → jrI mem 46 0 j = b j) ∧ jrI mem 11 0 1 = n ∧ jrI mem 11 0 8 = i ∧ jrI mem 11 0 9 = 0 ∧ (0 ≤ i ∧ i ≤ n ∧ n ≤ 400)
def aC (f : Nat) (i k : Int) : Prop := f = 8 ∧ i = 0 ∧ (k = 2 ∨ k = 3)
def aM (f : Nat) (i k : Int) : Prop := f = 11 ∧ i = 0 ∧ (k = 8 ∨ k = 9 ∨ k = 10)
theorem rSk_in {b : Int → Int} {n i : Int} (h0 : 0 ≤ i) (h : i ≤ n) : i ≤ rSk b n i ∧ rSk b n i ≤ n := by
  have := rTo_in (fun j => b j ≠ 32) h0 h
  exact ⟨this.1, this.2.1⟩
theorem rPw_in {b : Int → Int} {n i : Int} (h0 : 0 ≤ i) (h : i ≤ n) : i ≤ rPw b n i ∧ rPw b n i ≤ n := by
  have := rTo_in (fun j => ¬ (97 ≤ b j ∧ b j ≤ 122)) h0 h
  exact ⟨this.1, this.2.1⟩
theorem rDg_in {b : Int → Int} {n i : Int} (h0 : 0 ≤ i) (h : i ≤ n) : i ≤ rDg b n i ∧ rDg b n i ≤ n := by
  have := rTo_in (fun j => ¬ (48 ≤ b j ∧ b j ≤ 57)) h0 h
  exact ⟨this.1, this.2.1⟩
theorem rSk_id {b : Int → Int} {n i : Int} (h0 : 0 ≤ i) (h : i ≤ n) : rSk b n (rSk b n i) = rSk b n i := by
  have h1 := rTo_in (fun j => b j ≠ 32) h0 h
  have h2 := rSk_in (b := b) h0 h
  by_cases e : rSk b n i < n
  · exact rTo_y (by omega) e (h1.2.2.1 e)
  · have e2 : rSk b n i = n := by omega
    rw [e2]
    exact rTo_e _ n
theorem rC_fr {b : Int → Int} {n i : Int} {m m' : jMem} (hr : ∀ f k, f = 37 ∨ (f = 8 ∧ (k = 1 ∨ k = 2 ∨ k = 3)) → jrI m' f 0 k = jrI m f 0 k) (h : rC b n i m) : rC b n i m' := by
  obtain ⟨h1, h2, h3, h4, h5⟩ := h
  exact ⟨fun j j0 j1 => by rw [hr 37 j (by omega)]; exact h1 j j0 j1, by rw [hr 8 1 (by omega)]; exact h2, by rw [hr 8 2 (by omega)]; exact h3, by rw [hr 8 3 (by omega)]; exact h4, h5⟩
theorem rM_fr {b : Int → Int} {n i : Int} {m m' : jMem} (hr : ∀ f k, f = 46 ∨ (f = 11 ∧ (k = 1 ∨ k = 8 ∨ k = 9)) → jrI m' f 0 k = jrI m f 0 k) (h : rM b n i m) : rM b n i m' := by
  obtain ⟨h1, h2, h3, h4, h5⟩ := h
  exact ⟨fun j j0 j1 => by rw [hr 46 j (by omega)]; exact h1 j j0 j1, by rw [hr 11 1 (by omega)]; exact h2, by rw [hr 11 8 (by omega)]; exact h3, by rw [hr 11 9 (by omega)]; exact h4, h5⟩
theorem rC_to {b : Int → Int} {n i j : Int} {m : jMem} (h : rC b n i m) (h0 : 0 ≤ j) (h1 : j ≤ n) : rC b n j (jwI m 8 0 2 j) := by
  obtain ⟨c1, c2, c3, c4, c5⟩ := h
  exact ⟨fun k k0 k1 => by rw [jrI_wf (by decide)]; exact c1 k k0 k1, by rw [jrI_wk (by decide)]; exact c2, jrI_ws _ _ _ _ _, by rw [jrI_wk (by decide)]; exact c4, h0, h1, c5.2.2⟩
theorem rM_to {b : Int → Int} {n i j : Int} {m : jMem} (h : rM b n i m) (h0 : 0 ≤ j) (h1 : j ≤ n) : rM b n j (jwI m 11 0 8 j) := by
  obtain ⟨c1, c2, c3, c4, c5⟩ := h
  exact ⟨fun k k0 k1 => by rw [jrI_wf (by decide)]; exact c1 k k0 k1, by rw [jrI_wk (by decide)]; exact c2, jrI_ws _ _ _ _ _, by rw [jrI_wk (by decide)]; exact c4, h0, h1, c5.2.2⟩
theorem c_skip (d : Nat) {b : Int → Int} {n i : Int} {m : jMem} (h : rC b n i m) : ∃ m', Ta_skip (d + 1) m = some (vU, m') ∧ rC b n (rSk b n i) m' ∧ puR aC m m' := by
  obtain ⟨h1, h2, h3, h4, h5⟩ := h
  obtain ⟨m', a1, a2, a3⟩ := s_Ta_skip d b n i m h1 h2 h3 h5
  have hk := rSk_in (b := b) h5.1 h5.2.1
  exact ⟨m', a1, ⟨fun j j0 j1 => by rw [a3 37 0 j (by omega)]; exact h1 j j0 j1, by rw [a3 8 0 1 (by omega)]; exact h2, a2, by rw [a3 8 0 3 (by omega)]; exact h4, by omega⟩, puR_mono a3 (fun f i k w => by unfold aC; omega)⟩
theorem c_pass (d : Nat) {b : Int → Int} {n i : Int} {m : jMem} (h : rC b n i m) : ∃ m', Ta_passWord (d + 1) m = some (vU, m') ∧ rC b n (rPw b n i) m' ∧ puR aC m m' := by
  obtain ⟨h1, h2, h3, h4, h5⟩ := h
  obtain ⟨m', a1, a2, a3⟩ := s_Ta_passWord d b n i m h1 h2 h3 h5
  have hk := rPw_in (b := b) h5.1 h5.2.1
  exact ⟨m', a1, ⟨fun j j0 j1 => by rw [a3 37 0 j (by omega)]; exact h1 j j0 j1, by rw [a3 8 0 1 (by omega)]; exact h2, a2, by rw [a3 8 0 3 (by omega)]; exact h4, by omega⟩, puR_mono a3 (fun f i k w => by unfold aC; omega)⟩
theorem m_see (d : Nat) {b : Int → Int} {n i : Int} {m : jMem} (h : rM b n i m) : ∃ m', M_see (d + 1) m = some (vI (rCh b n (rSk b n i)), m') ∧ rM b n (rSk b n i) m' ∧ puR aM m m' := by
  obtain ⟨h1, h2, h3, h4, h5⟩ := h
  obtain ⟨m', a1, a2, a3⟩ := s_M_see d b n i m h1 h2 h3 h5
  have hk := rSk_in (b := b) h5.1 h5.2.1
  exact ⟨m', a1, ⟨fun j j0 j1 => by rw [a3 46 0 j (by omega)]; exact h1 j j0 j1, by rw [a3 11 0 1 (by omega)]; exact h2, a2, by rw [a3 11 0 9 (by omega)]; exact h4, by omega⟩, puR_mono a3 (fun f i k w => by unfold aM; omega)⟩
theorem m_pass (d : Nat) {b : Int → Int} {n i : Int} {m : jMem} (h : rM b n i m) : ∃ m', M_passWord (d + 2) m = some (vU, m') ∧ rM b n (rPw b n i) m' ∧ puR aM m m' := by
  obtain ⟨h1, h2, h3, h4, h5⟩ := h
  obtain ⟨m', a1, a2, a3⟩ := s_M_passWord d b n i m h1 h2 h3 h5
  have hk := rPw_in (b := b) h5.1 h5.2.1
  exact ⟨m', a1, ⟨fun j j0 j1 => by rw [a3 46 0 j (by omega)]; exact h1 j j0 j1, by rw [a3 11 0 1 (by omega)]; exact h2, a2, by rw [a3 11 0 9 (by omega)]; exact h4, by omega⟩, puR_mono a3 (fun f i k w => by unfold aM; omega)⟩
theorem c_peek (d : Nat) {b : Int → Int} {n i : Int} {m : jMem} (h : rC b n i m) : Ta_peek (d + 1) m = some (vI (rCh b n i), m) := by
  obtain ⟨h1, h2, h3, h4, h5⟩ := h
  rw [q_Ta_peek, h2, h3]
  unfold rCh
  by_cases hi : i < n
  · rw [if_pos hi, if_pos hi, jix_in h5.1 (by omega), h1 i h5.1 hi]
  · rw [if_neg hi, if_neg hi]
theorem rCh_lt {b : Int → Int} {n i x : Int} (h : rCh b n i = x) (hx : 0 ≤ x) : i < n := by
  unfold rCh at h
  by_cases hi : i < n
  · exact hi
  · rw [if_neg hi] at h
    omega
theorem c_took (d : Nat) (x : Int) {b : Int → Int} {n i : Int} {m : jMem} (h : rC b n i m) (hx : 0 ≤ x) : (rCh b n i = x → Ta_took (d + 2) x m = some (vI 1, jwI m 8 0 2 (i + 1)) ∧ rC b n (i + 1) (jwI m 8 0 2 (i + 1))) ∧ (rCh b n i ≠ x → Ta_took (d + 2) x m = some (vI 0, m)) := by
  have h5 := h.2.2.2.2
  constructor
  · intro hc
    have hi := rCh_lt hc hx
    rw [q_Ta_took, c_peek d h]
    simp only [jbnd_s, jasI_v]
    rw [if_pos hc, h.2.2.1, jw32_id (x := i + 1) (by omega) (by omega)]
    exact ⟨rfl, rC_to h (by omega) (by omega)⟩
  · intro hc
    rw [q_Ta_took, c_peek d h]
    simp only [jbnd_s, jasI_v]
    rw [if_neg hc]
theorem c_over (d : Nat) {b : Int → Int} {n i : Int} {m : jMem} (h : rC b n i m) : ∃ m', Ta_over (d + 2) m = some (vI (jb (rCh b n (rSk b n i) = -1)), m') ∧ rC b n (rSk b n i) m' ∧ puR aC m m' := by
  obtain ⟨m1, a1, a2, a3⟩ := c_skip d h
  refine ⟨m1, ?_, a2, a3⟩
  rw [q_Ta_over, a1]
  simp only [jbnd_s]
  rw [c_peek d a2]
  simp only [jbnd_s, jasI_v]
  by_cases e : rCh b n (rSk b n i) = -1
  · rw [if_pos e, jb_1 e]
  · rw [if_neg e, jb_n e]
def rFt (b : Int → Int) (n s : Int) : Int := 1 + 8 * s + (if rDg b n s = s then 0 else 1)
theorem c_number (d : Nat) (lo hi : Int) {b : Int → Int} {n i : Int} {m : jMem} (h : rC b n i m) : (rOk b (rSk b n i) (rDg b n (rSk b n i)) lo hi → ∃ m', Ta_number (d + 2) lo hi m = some (vI (rVl b (rSk b n i) (rDg b n (rSk b n i))), m') ∧ rC b n (rDg b n (rSk b n i)) m' ∧ puR aC m m') ∧ (¬ rOk b (rSk b n i) (rDg b n (rSk b n i)) lo hi → ∃ m', Ta_number (d + 2) lo hi m = some (vI (-1), m') ∧ jrI m' 8 0 3 = rFt b n (rSk b n i) ∧ puR aC m m') := by
  obtain ⟨h1, h2, h3, h4, h5⟩ := h
  obtain ⟨m', a1, a2, a3, a4⟩ := s_Ta_number d lo hi i n b m h1 h2 h3 h5 h4
  have hk := rSk_in (b := b) h5.1 h5.2.1
  have hd := rDg_in (b := b) (n := n) (i := rSk b n i) (by omega) hk.2
  refine ⟨fun ok => ⟨m', (a1 ok).1, ⟨fun j j0 j1 => by rw [a4 37 0 j (by omega)]; exact h1 j j0 j1, by rw [a4 8 0 1 (by omega)]; exact h2, a3, (a1 ok).2, by omega⟩, puR_mono a4 (fun f i k w => by unfold aC; omega)⟩, fun ok => ⟨m', (a2 ok).1, (a2 ok).2, puR_mono a4 (fun f i k w => by unfold aC; omega)⟩⟩
theorem rFt_n {b : Int → Int} {n s : Int} (h : 0 ≤ s) : rFt b n s ≠ 0 := by
  unfold rFt
  by_cases e : rDg b n s = s
  · rw [if_pos e]; omega
  · rw [if_neg e]; omega
theorem c_none (d : Nat) (lo hi : Int) (m : jMem) (h : jrI m 8 0 3 ≠ 0) : Ta_number (d + 1) lo hi m = some (vI (-1), m) := by
  rw [q_Ta_number, if_neg h]
theorem s_M_isDigit (d : Nat) (b : Int → Int) (n x : Int) (mem : jMem) (hb : ∀ j, 0 ≤ j → j < n → jrI mem 46 0 j = b j) (hn : jrI mem 11 0 1 = n) (h0 : 0 ≤ x) (h4 : n ≤ 400) : M_isDigit (d + 1) x mem = some (vI (jb (x < n ∧ 48 ≤ b x ∧ b x ≤ 57)), mem) := by
  rw [q_M_isDigit, hn]
  by_cases hx : x < n
  · rw [if_pos hx, jix_in h0 (by omega), jix_in h0 (by omega), hb x h0 hx]
    by_cases h1 : b x < 48
    · rw [if_pos h1, jb_n (by omega)]
    rw [if_neg h1]
    by_cases h2 : 57 < b x
    · rw [if_pos h2, jb_n (by omega)]
    · rw [if_neg h2, jb_1 ⟨hx, by omega, by omega⟩]
  · rw [if_neg hx, jb_n (by omega)]
theorem c_onDigit (d : Nat) {b : Int → Int} {n i : Int} {m : jMem} (h : rC b n i m) : Ta_onDigit (d + 1) m = some (vI (jb (i < n ∧ 48 ≤ b i ∧ b i ≤ 57)), m) := by
  obtain ⟨hb, hn, hi, hf, h0, -, h4⟩ := h
  rw [q_Ta_onDigit, hn, hi]
  by_cases hx : i < n
  · rw [if_pos hx, jix_in h0 (by omega), jix_in h0 (by omega), hb i h0 hx]
    by_cases h1 : b i < 48
    · rw [if_pos h1, jb_n (by omega)]
    rw [if_neg h1]
    by_cases h2 : 57 < b i
    · rw [if_pos h2, jb_n (by omega)]
    · rw [if_neg h2, jb_1 ⟨hx, by omega, by omega⟩]
  · rw [if_neg hx, jb_n (by omega)]
theorem m_numberEnd (d : Nat) (lo hi : Int) {b : Int → Int} {n s v e : Int} {m : jMem} (h : rM b n e m) (hs : 0 ≤ s ∧ s < e) (hv : v = rVl b s e) (he : rDg b n s = e) : (rOk b s e lo hi → ∃ m', M_numberHere_34 (d + 2) lo hi s v m = some (vI 1, m') ∧ rM b n e m' ∧ jrI m' 11 0 10 = v ∧ puR aM m m') ∧ (¬ rOk b s e lo hi → ∃ m', M_numberHere_34 (d + 2) lo hi s v m = some (vI 0, m') ∧ jrI m' 11 0 9 = rFt b n s ∧ puR aM m m') := by
  obtain ⟨h1, h2, h3, h4, h5⟩ := id h
  have hd := rTo_in (fun j => ¬ (48 ≤ b j ∧ b j ≤ 57)) hs.1 (show s ≤ n by omega)
  have hnd : ¬ (e < n ∧ 48 ≤ b e ∧ b e ≤ 57) := by
    intro w
    have := hd.2.2.1
    have e2 : rTo (fun j => ¬ (48 ≤ b j ∧ b j ≤ 57)) n s = e := he
    rw [e2] at this
    exact this w.1 w.2
  have fr : puR aM m (jwI m 11 0 10 v) := puR_w (puR_rf _ m) ⟨rfl, rfl, Or.inr (Or.inr rfl)⟩
  have hft : 1 + 8 * s + 1 = rFt b n s := by
    unfold rFt
    rw [if_neg (by omega)]
  have h117 : M_numberHere_117 (d + 2) s (jwI m 11 0 10 v) = some (vI 0, jwI (jwI m 11 0 10 v) 11 0 9 (1 + 8 * s + 1)) := by
    rw [q_M_numberHere_117, s_M_fails (d + 1) s 1 _ (by rw [jrI_wk (by decide)]; exact h4) (by omega) (by decide)]
    simp only [jbnd_s, jasI_v]
    rfl
  rw [q_M_numberHere_34, h3, s_M_isDigit (d + 1) b n e m h1 h2 h5.1 h5.2.2]
  simp only [jbnd_s, jasI_v]
  rw [jb_n hnd, if_pos rfl, h3, jw32_id (x := e - s) (by omega) (by omega), s_M_in]
  simp only [jbnd_s, jasI_v]
  have bad : ∀ g : ¬ rOk b s e lo hi, ∃ m', some (vI 0, jwI (jwI m 11 0 10 v) 11 0 9 (1 + 8 * s + 1)) = some (vI 0, m') ∧ jrI m' 11 0 9 = rFt b n s ∧ puR aM m m' := fun _ => ⟨_, rfl, by rw [jrI_ws]; exact hft, puR_w fr ⟨rfl, rfl, Or.inr (Or.inl rfl)⟩⟩
  by_cases c1 : 5 < e - s
  · rw [if_pos c1, h117]
    exact ⟨fun w => absurd w.2.1 (by omega), bad⟩
  rw [if_neg c1]
  by_cases c2 : lo ≤ v ∧ v ≤ hi
  · rw [jb_1 c2, if_neg (by decide)]
    refine ⟨fun _ => ⟨_, rfl, rM_fr (fun f k w => by rw [jrI_w, if_neg (by omega)]) h, jrI_ws _ _ _ _ _, fr⟩, fun w => absurd ⟨by omega, by omega, by omega, by omega⟩ w⟩
  · rw [jb_n c2, if_pos rfl, h117]
    exact ⟨fun w => absurd ⟨by rw [hv]; exact w.2.2.1, by rw [hv]; exact w.2.2.2⟩ c2, bad⟩
theorem m_number (d : Nat) (lo hi : Int) {b : Int → Int} {n i : Int} {m : jMem} (h : rM b n i m) : (rOk b (rSk b n i) (rDg b n (rSk b n i)) lo hi → ∃ m', M_numberHere (d + 3) lo hi m = some (vI 1, m') ∧ rM b n (rDg b n (rSk b n i)) m' ∧ jrI m' 11 0 10 = rVl b (rSk b n i) (rDg b n (rSk b n i)) ∧ puR aM m m') ∧ (¬ rOk b (rSk b n i) (rDg b n (rSk b n i)) lo hi → ∃ m', M_numberHere (d + 3) lo hi m = some (vI 0, m') ∧ jrI m' 11 0 9 = rFt b n (rSk b n i) ∧ puR aM m m') := by
  obtain ⟨m1, a1, a2, a3⟩ := m_see (d + 1) h
  generalize rSk b n i = s at *
  obtain ⟨h1, h2, h3, h4, h5⟩ := id a2
  have hdg := rDg_in (b := b) h5.1 h5.2.1
  rw [q_M_numberHere, a1]
  simp only [jbnd_s]
  rw [h3, s_M_isDigit (d + 1) b n s m1 h1 h2 h5.1 h5.2.2]
  simp only [jbnd_s, jasI_v]
  by_cases hd : s < n ∧ 48 ≤ b s ∧ b s ≤ 57
  · have hd1 := rTo_in (fun j => ¬ (48 ≤ b j ∧ b j ≤ 57)) h5.1 h5.2.1
    have hdig : ∀ j, s ≤ j → j < rDg b n s → 48 ≤ b j ∧ b j ≤ 57 := fun j j0 j1 => Decidable.of_not_not (hd1.2.2.2 j j0 j1)
    have hlt : s < rDg b n s := by
      have e1 : rDg b n s = rDg b n (s + 1) := rTo_n h5.1 hd.1 (fun w => w hd.2)
      have := rDg_in (b := b) (n := n) (i := s + 1) (by omega) (by omega)
      omega
    rw [jb_1 hd, if_neg (by decide), h3]
    have key : ∀ (k : Nat) (j : Int) (m : jMem), s ≤ j → j + (k : Int) = rDg b n s → rM b n j m → puR aM m1 m → ∃ m', M_numberHere_34 (d + 2) lo hi s (rVl b s j) m = M_numberHere_34 (d + 2) lo hi s (rVl b s (rDg b n s)) m' ∧ rM b n (rDg b n s) m' ∧ puR aM m1 m' := by
      intro k
      induction k with
      | zero =>
        intro j m j0 j1 hj hr
        have e : j = rDg b n s := by omega
        rw [← e]
        exact ⟨m, rfl, hj, hr⟩
      | succ k ih =>
        intro j m j0 j1 hj hr
        obtain ⟨g1, g2, g3, g4, g5⟩ := id hj
        have hdj := hdig j j0 (by omega)
        have hnx := ih (j + 1) (jwI m 11 0 8 (j + 1)) (by omega) (by omega) (rM_to hj (by omega) (by omega)) (puR_w hr ⟨rfl, rfl, Or.inl rfl⟩)
        rw [q_M_numberHere_34 (d + 2) lo hi s (rVl b s j) m, g3, s_M_isDigit (d + 1) b n j m g1 g2 g5.1 g5.2.2]
        simp only [jbnd_s, jasI_v]
        rw [jb_1 ⟨by omega, hdj⟩, if_neg (by decide), g3, jw32_id (x := j - s) (by omega) (by omega), jw32_id (x := j + 1) (by omega) (by omega)]
        by_cases h5' : j - s < 5
        · have e1 : rVl b s j = rNv b s (j - s).toNat := by unfold rVl; rw [if_pos h5']
          have e2 : rVl b s (j + 1) = rNv b s ((j - s).toNat + 1) := by
            unfold rVl
            by_cases h6 : j + 1 - s < 5
            · rw [if_pos h6, show (j + 1 - s).toNat = (j - s).toNat + 1 by omega]
            · rw [if_neg h6, show (5 : Int).toNat = (j - s).toNat + 1 by omega]
          have hbd := rNv_b hdig (j - s).toNat (by omega) (by omega)
          have hst : rNv b s ((j - s).toNat + 1) = 10 * rNv b s (j - s).toNat + b j - 48 := by
            show 10 * rNv b s (j - s).toNat + b (s + (((j - s).toNat : Nat) : Int)) - 48 = _
            rw [show s + (((j - s).toNat : Nat) : Int) = j by omega]
          rw [if_pos h5', jix_in g5.1 (by omega), g1 j g5.1 (by omega), e1, jw32_id (x := 10 * rNv b s (j - s).toNat) (by omega) (by omega), jw32_id (x := 10 * rNv b s (j - s).toNat + b j) (by omega) (by omega), jw32_id (x := 10 * rNv b s (j - s).toNat + b j - 48) (by omega) (by omega), ← hst, ← e2]
          exact hnx
        · have e1 : rVl b s (j + 1) = rVl b s j := by
            unfold rVl
            rw [if_neg (by omega), if_neg (by omega)]
          rw [if_neg h5', ← e1]
          exact hnx
    have h0 : rVl b s s = 0 := by
      unfold rVl
      rw [if_pos (by omega), show (s - s).toNat = 0 by omega]
      rfl
    obtain ⟨m2, c1, c2, c3⟩ := key (rDg b n s - s).toNat s m1 (Int.le_refl s) (by omega) a2 (puR_rf _ m1)
    rw [h0] at c1
    rw [c1]
    obtain ⟨e1, e2⟩ := m_numberEnd d lo hi c2 ⟨h5.1, hlt⟩ rfl rfl
    refine ⟨fun ok => ?_, fun ok => ?_⟩
    · obtain ⟨m3, f1, f2, f3, f4⟩ := e1 ok
      exact ⟨m3, f1, f2, f3, puR_tr a3 (puR_tr c3 f4)⟩
    · obtain ⟨m3, f1, f2, f3⟩ := e2 ok
      exact ⟨m3, f1, f2, puR_tr a3 (puR_tr c3 f3)⟩
  · have e : rDg b n s = s := by
      by_cases hs : s < n
      · exact rTo_y h5.1 hs (fun w => hd ⟨hs, w⟩)
      · have : s = n := by omega
        rw [this]
        exact rTo_e _ n
    rw [jb_n hd, if_pos rfl, h3, s_M_fails (d + 1) s 0 m1 h4 (by omega) (by decide)]
    simp only [jbnd_s, jasI_v]
    refine ⟨fun w => absurd w.1 (by omega), fun _ => ⟨_, rfl, ?_, puR_w a3 ⟨rfl, rfl, Or.inr (Or.inl rfl)⟩⟩⟩
    rw [jrI_ws]
    unfold rFt
    rw [if_pos e]
