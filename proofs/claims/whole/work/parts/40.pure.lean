/-! Pure rows: guards that hold, numbers in range -/
theorem jw32_id {x : Int} (h1 : -2147483648 ≤ x) (h2 : x < 2147483648) : jw32 x = x := by
  unfold jw32
  rw [Int.bmod_def]
  omega
theorem jw64_id {x : Int} (h1 : -9223372036854775808 ≤ x) (h2 : x < 9223372036854775808) : jw64 x = x := by
  unfold jw64
  rw [Int.bmod_def]
  omega
theorem jix_in {n : Nat} {x : Int} {k : jR} (h1 : 0 ≤ x) (h2 : x < (n : Int)) : jix n x k = k := by
  cases x with
  | ofNat j =>
    have : j < n := by
      have h3 : (j : Int) < n := h2
      omega
    show (bif Nat.blt j n then k else none) = k
    rw [show Nat.blt j n = true from Nat.ble_eq_true_of_le this]
    rfl
  | negSucc j => omega
theorem jbo_in {v : Int} {k : jR} (h : v = 0 ∨ v = 1) : jbo v k = k := by
  rcases h with h | h <;> subst h <;> rfl
theorem jnz_in {v : Int} {k : jR} (h : v ≠ 0) : jnz v k = k := by
  cases v with
  | ofNat j =>
    show (bif Nat.blt 0 j then k else none) = k
    have : 0 < j := by
      have h3 : (j : Int) ≠ 0 := h
      omega
    rw [show Nat.blt 0 j = true from Nat.ble_eq_true_of_le this]
    rfl
  | negSucc j => rfl
theorem jbnd_s (v : jV) (m : jMem) (k : jV → jMem → jR) : jbnd (some (v, m)) k = k v m := rfl
theorem jasI_v (x : Int) : jasI (vI x) = x := rfl
theorem jasJ_v (x : Int) : jasJ (vJ x) = x := rfl
theorem jasR_v (f : Nat) (o : Option Int) : jasR (vR f o) = o := rfl
theorem jsm_s (i : Int) (k : Int → jR) : jsm (some i) k = k i := rfl
def jb (p : Prop) [Decidable p] : Int := if p then 1 else 0
theorem jb_0 {p : Prop} [Decidable p] : (jb p = 0) = ¬ p := by
  unfold jb
  by_cases h : p <;> simp [h]
theorem jlcmp_lt (x y : Int) : (jlcmp x y < 0) = (x < y) := by
  unfold jlcmp
  by_cases h : x < y
  · simp [h]
  · by_cases h2 : x = y <;> simp [h, h2]
theorem jlcmp_gt (x y : Int) : (0 < jlcmp x y) = (y < x) := by
  unfold jlcmp
  by_cases h : x < y
  · simp [h]; omega
  · by_cases h2 : x = y
    · simp [h2]
    · simp [h, h2]; omega
theorem jlcmp_eq (x y : Int) : (jlcmp x y = 0) = (x = y) := by
  unfold jlcmp
  by_cases h : x < y
  · simp [h]; omega
  · by_cases h2 : x = y <;> simp [h, h2]
theorem s_M_in (d : Nat) (v a b : Int) (mem : jMem) : M_in (d + 1) v a b mem = some (vI (jb (a ≤ v ∧ v ≤ b)), mem) := by
  rw [q_M_in]
  unfold jb
  simp only [jlcmp_lt, jlcmp_gt]
  split <;> split <;> simp <;> omega
theorem s_M_isMemory (d : Nat) (x : Int) (mem : jMem) : M_isMemory (d + 1) x mem = some (vI (jb (0 ≤ x ∧ x < jrI mem 55 0 5)), mem) := by
  rw [q_M_isMemory]
  unfold jb
  split <;> try split
  all_goals simp <;> omega
