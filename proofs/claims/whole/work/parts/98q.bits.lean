/-! A sign and its number out of one number -/
theorem ri_tb (n : Nat) : (Int32.ofNat n).toBitVec = BitVec.ofNat 32 n := rfl
theorem ri_of (n : Nat) : Int32.ofInt (n : Int) = Int32.ofNat n := Int32.toBitVec_inj.mp (by
  rw [ri_tb]
  exact BitVec.ofInt_natCast 32 n)
theorem j_and15 {x : Int} (h0 : 0 ≤ x) (h1 : x < 2147483648) : jand x 15 = x % 16 := by
  obtain ⟨a, rfl⟩ := Int.eq_ofNat_of_zero_le h0
  unfold jand
  have e : Int32.ofInt (a : Int) &&& Int32.ofInt 15 = Int32.ofNat (a % 16) := by
    apply Int32.toBitVec_inj.mp
    rw [ri_of, show Int32.ofInt 15 = Int32.ofNat 15 from ri_of 15, Int32.toBitVec_and, ri_tb, ri_tb, ri_tb]
    apply BitVec.eq_of_toNat_eq
    have h2 : a < 2 ^ 32 := by omega
    have h3 : a % 16 < 2 ^ 32 := by omega
    have h4 := Nat.and_two_pow_sub_one_eq_mod a 4
    rw [BitVec.toNat_and, BitVec.toNat_ofNat, BitVec.toNat_ofNat, BitVec.toNat_ofNat, Nat.mod_eq_of_lt h2, Nat.mod_eq_of_lt h3]
    exact h4
  rw [e, Int32.toInt_ofNat_of_lt (by omega)]
  omega
theorem ri_4 : (Int32.ofInt 4 &&& 31).toBitVec.smod 32 = BitVec.ofNat 32 4 := by decide +kernel
theorem j_shr4 {x : Int} (h0 : 0 ≤ x) (h1 : x < 2147483648) : jshr x 4 = x / 16 := by
  obtain ⟨a, rfl⟩ := Int.eq_ofNat_of_zero_le h0
  unfold jshr
  have e : (Int32.ofInt (a : Int) >>> (Int32.ofInt 4 &&& 31)).toBitVec = (BitVec.ofNat 32 a).sshiftRight 4 := by
    rw [Int32.toBitVec_shiftRight, ri_4, ri_of, ri_tb]
    rfl
  show (Int32.ofInt (a : Int) >>> (Int32.ofInt 4 &&& 31)).toBitVec.toInt = _
  rw [e, BitVec.toInt_sshiftRight]
  have e2 : (BitVec.ofNat 32 a).toInt = (a : Int) := Int32.toInt_ofNat_of_lt (n := a) (by omega)
  rw [e2, Int.shiftRight_eq_div_pow]
  rfl
theorem enc_1 {x : Int × Int} (h : okT x) : jand (enc x) 15 = mC x.1 ∧ jshr (enc x) 4 = x.2 := by
  have hm := mC_in x.1
  have hv : 0 ≤ x.2 ∧ x.2 ≤ 99999 := by
    unfold okT at h
    omega
  unfold enc
  rw [j_and15 (by omega) (by omega), j_shr4 (by omega) (by omega)]
  omega
