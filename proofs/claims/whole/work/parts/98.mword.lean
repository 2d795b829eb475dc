/-! The reference's way to tell a word: its letters in one number -/
def pkR : List Int → Int
  | [] => 0
  | c :: l => 256 * pkR l + c
theorem pkR_0 : ∀ l : List Int, (∀ c ∈ l, 97 ≤ c ∧ c ≤ 122) → 0 ≤ pkR l := by
  intro l
  induction l with
  | nil => intro _; exact Int.le_refl 0
  | cons c l ih =>
    intro h
    have h1 := h c List.mem_cons_self
    have h2 := ih (fun x hx => h x (List.mem_cons_of_mem _ hx))
    show 0 ≤ 256 * pkR l + c
    omega
theorem pkR_inj : ∀ l l' : List Int, (∀ c ∈ l, 97 ≤ c ∧ c ≤ 122) → (∀ c ∈ l', 97 ≤ c ∧ c ≤ 122) → pkR l = pkR l' → l = l' := by
  intro l
  induction l with
  | nil =>
    intro l' _ h' e
    cases l' with
    | nil => rfl
    | cons c t =>
      have h1 := h' c List.mem_cons_self
      have h2 := pkR_0 t (fun x hx => h' x (List.mem_cons_of_mem _ hx))
      have e' : (0 : Int) = 256 * pkR t + c := e
      omega
  | cons c l ih =>
    intro l' h h' e
    have g1 := h c List.mem_cons_self
    have g2 := pkR_0 l (fun x hx => h x (List.mem_cons_of_mem _ hx))
    cases l' with
    | nil =>
      have e' : 256 * pkR l + c = 0 := e
      omega
    | cons c' t =>
      have h1 := h' c' List.mem_cons_self
      have e' : 256 * pkR l + c = 256 * pkR t + c' := e
      have e1 : c = c' := by omega
      rw [ih t (fun x hx => h x (List.mem_cons_of_mem _ hx)) (fun x hx => h' x (List.mem_cons_of_mem _ hx)) (by omega), e1]
def rlN (n : Nat) : Int64 := Int64.ofNat n
theorem rb_tb (n : Nat) : (rlN n).toBitVec = BitVec.ofNat 64 n := rfl
theorem rb_of (n : Nat) : Int64.ofInt (n : Int) = rlN n := Int64.toBitVec_inj.mp (by
  rw [rb_tb]
  exact BitVec.ofInt_natCast 64 n)
theorem rb_8 : ((Int32.ofInt 8).toInt64 &&& 63).toBitVec.smod 64 = BitVec.ofNat 64 8 := by decide +kernel
theorem rb_shl (n : Nat) : rlN n <<< ((Int32.ofInt 8).toInt64 &&& 63) = rlN (n * 256) := by
  apply Int64.toBitVec_inj.mp
  rw [Int64.toBitVec_shiftLeft, rb_tb, rb_tb, rb_8]
  apply BitVec.eq_of_toNat_eq
  rw [BitVec.shiftLeft_eq', BitVec.toNat_shiftLeft, BitVec.toNat_ofNat, BitVec.toNat_ofNat, BitVec.toNat_ofNat, Nat.mod_eq_of_lt (show 8 < 2 ^ 64 by decide), Nat.shiftLeft_eq, Nat.mul_mod, Nat.mod_mod, ← Nat.mul_mod]
theorem rb_or {a c : Nat} (hc : c < 256) (h : a * 256 + c < 2 ^ 64) : rlN (a * 256) ||| rlN c = rlN (a * 256 + c) := by
  apply Int64.toBitVec_inj.mp
  rw [Int64.toBitVec_or, rb_tb, rb_tb, rb_tb]
  apply BitVec.eq_of_toNat_eq
  have h1 : a * 256 ||| c = a * 256 + c := by
    have := Nat.shiftLeft_add_eq_or_of_lt (i := 8) (b := c) hc a
    rw [Nat.shiftLeft_eq] at this
    exact this.symm
  rw [BitVec.toNat_or, BitVec.toNat_ofNat, BitVec.toNat_ofNat, BitVec.toNat_ofNat, Nat.mod_eq_of_lt (Nat.lt_of_le_of_lt (Nat.le_add_right (a * 256) c) h), Nat.mod_eq_of_lt (Nat.lt_of_le_of_lt (Nat.le_add_left c (a * 256)) h), Nat.mod_eq_of_lt h, h1]
theorem rb_step {y c : Int} (h0 : 0 ≤ y) (h1 : y < 281474976710656) (c0 : 0 ≤ c) (c1 : c < 256) : jlor (jlshl y 8) c = 256 * y + c := by
  obtain ⟨a, rfl⟩ := Int.eq_ofNat_of_zero_le h0
  obtain ⟨q, rfl⟩ := Int.eq_ofNat_of_zero_le c0
  unfold jlor jlshl
  rw [Int64.ofInt_toInt, rb_of, rb_of, rb_shl, rb_or (by omega) (by omega)]
  have e : (rlN (a * 256 + q)).toInt = ((a * 256 + q : Nat) : Int) := Int64.toInt_ofNat_of_lt (by omega)
  rw [e]
  omega
theorem wR_l {b : Int → Int} {i : Int} : ∀ k : Nat, (∀ j, i ≤ j → j < i + (k : Int) → 97 ≤ b j ∧ b j ≤ 122) → (∀ c ∈ wR b i k, 97 ≤ c ∧ c ≤ 122) ∧ (wR b i k).length = k := by
  intro k
  induction k with
  | zero =>
    intro _
    exact ⟨fun c hc => (by cases hc), rfl⟩
  | succ k ih =>
    intro h
    obtain ⟨g1, g2⟩ := ih (fun j j0 j1 => h j j0 (by omega))
    refine ⟨fun c hc => ?_, ?_⟩
    · rcases List.mem_cons.mp hc with e | e
      · rw [e]
        exact h (i + (k : Int)) (by omega) (by omega)
      · exact g1 c e
    · show (wR b i k).length + 1 = k + 1
      rw [g2]
theorem pkR_b : ∀ (l : List Int) (q : Nat), (∀ c ∈ l, 97 ≤ c ∧ c ≤ 122) → l.length ≤ q → q ≤ 6 → pkR l < 281474976710656 := by
  intro l q h1 h2 h3
  have key : ∀ l : List Int, (∀ c ∈ l, 97 ≤ c ∧ c ≤ 122) → pkR l < ((256 ^ l.length : Nat) : Int) := by
    intro l
    induction l with
    | nil => intro _; show (0 : Int) < ((256 ^ 0 : Nat) : Int); decide
    | cons c l ih =>
      intro h
      have g1 := h c List.mem_cons_self
      have g2 := ih (fun x hx => h x (List.mem_cons_of_mem _ hx))
      show 256 * pkR l + c < ((256 ^ (l.length + 1) : Nat) : Int)
      rw [Nat.pow_succ]
      omega
  have k1 := key l h1
  have k2 : 256 ^ l.length ≤ 256 ^ 6 := Nat.pow_le_pow_right (by decide) (by omega)
  have k3 : (256 : Nat) ^ 6 = 281474976710656 := by decide
  omega
theorem m_isWord (d : Nat) (cs : List Int) (hc0 : cs ≠ []) (hc7 : cs.length < 8) (hcl : ∀ c ∈ cs, 97 ≤ c ∧ c ≤ 122) {y : Int} (hy : y = pkR cs) {b : Int → Int} {n i : Int} {m : jMem} (h : rM b n i m) : ∃ m', M_isWord (d + 2) y m = some (vI (jb (rW b n (rSk b n i) = cs)), m') ∧ rM b n (rSk b n i) m' ∧ puR aM m m' := by
  obtain ⟨m1, a1, a2, a3⟩ := m_see d h
  refine ⟨m1, ?_, a2, a3⟩
  generalize rSk b n i = s at *
  obtain ⟨h1, h2, h3, h4, h5⟩ := id a2
  have hp := rPw_in (b := b) h5.1 h5.2.1
  have ht := rTo_in (fun j => ¬ (97 ≤ b j ∧ b j ≤ 122)) h5.1 h5.2.1
  have hlet : ∀ j, s ≤ j → j < rPw b n s → 97 ≤ b j ∧ b j ≤ 122 := fun j j0 j1 => Decidable.of_not_not (ht.2.2.2 j j0 j1)
  have hend : ¬ (rPw b n s < n ∧ 97 ≤ b (rPw b n s) ∧ b (rPw b n s) ≤ 122) := fun w => ht.2.2.1 w.1 w.2
  have hall := wR_l (b := b) (i := s) (rPw b n s - s).toNat (fun j j0 j1 => hlet j j0 (by omega))
  have key : ∀ (q k : Nat) (v : Int), k + q = (rPw b n s - s).toNat → (k ≤ 7 → v = pkR (wR b s k)) → M_isWord_10 (d + 1) y v (k : Int) m1 = some (vI (jb (rW b n s = cs)), m1) := by
    intro q
    induction q with
    | zero =>
      intro k v hk hv
      rw [q_M_isWord_10, h3, jw32_id (x := s + (k : Int)) (by omega) (by omega), s_M_isLetter d b n _ m1 h1 h2 (by omega) h5.2.2]
      simp only [jbnd_s, jasI_v]
      rw [show s + (k : Int) = rPw b n s by omega, jb_n hend, if_pos rfl]
      have hkk : k = (rPw b n s - s).toNat := hk
      have hrw : rW b n s = wR b s k := by
        unfold rW
        rw [hkk]
      rw [← hkk] at hall
      by_cases k0 : 0 < (k : Int)
      · rw [if_pos k0]
        by_cases k8 : (k : Int) < 8
        · rw [if_pos k8, hv (by omega)]
          simp only [jlcmp_eq]
          by_cases e : pkR (wR b s k) = y
          · rw [if_pos e, jb_1 (by rw [hrw]; exact pkR_inj _ _ hall.1 hcl (by rw [e, hy]))]
          · rw [if_neg e, jb_n (fun w => e (by rw [hy, ← w, hrw]))]
        · rw [if_neg k8, jb_n]
          intro w
          have := congrArg List.length w
          rw [hrw, hall.2] at this
          omega
      · rw [if_neg k0, jb_n]
        intro w
        have := congrArg List.length w
        rw [hrw, hall.2] at this
        have h0 : cs.length ≠ 0 := fun w => hc0 (List.length_eq_zero_iff.mp w)
        omega
    | succ q ih =>
      intro k v hk hv
      have hl := hlet (s + (k : Int)) (by omega) (by omega)
      rw [q_M_isWord_10, h3, jw32_id (x := s + (k : Int)) (by omega) (by omega), s_M_isLetter d b n _ m1 h1 h2 (by omega) h5.2.2]
      simp only [jbnd_s, jasI_v]
      rw [jb_1 ⟨by omega, hl⟩, if_neg (by decide), h3, jw32_id (x := s + (k : Int)) (by omega) (by omega), jw32_id (x := (k : Int) + 1) (by omega) (by omega), show (k : Int) + 1 = ((k + 1 : Nat) : Int) by omega]
      by_cases k8 : (k : Int) < 8
      · rw [if_pos k8, jix_in (by omega) (by omega), h1 _ (by omega) (by omega)]
        refine ih (k + 1) _ (by omega) (fun hk7 => ?_)
        have hw := wR_l (b := b) (i := s) k (fun j j0 j1 => hlet j j0 (by omega))
        rw [hv (by omega)]
        exact rb_step (pkR_0 _ hw.1) (pkR_b _ k hw.1 (by omega) (by omega)) (by omega) (by omega)
      · rw [if_neg k8]
        exact ih (k + 1) v (by omega) (fun hk7 => by omega)
  rw [q_M_isWord, a1]
  simp only [jbnd_s]
  exact key (rPw b n s - s).toNat 0 0 (by omega) (fun _ => rfl)
