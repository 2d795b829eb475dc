/-! What a step that has an answer found on the stack; numbers -/
theorem jpI_some {st : List jV} {k : Int → List jV → jR} {r : jV × jMem} (h : jpI st k = some r) : ∃ x t, st = .inl x :: t ∧ k x t = some r := by
  unfold jpI at h
  split at h
  · exact ⟨_, _, rfl, h⟩
  · cases h
theorem jpJ_some {st : List jV} {k : Int → List jV → jR} {r : jV × jMem} (h : jpJ st k = some r) : ∃ x t, st = .inr (.inl x) :: t ∧ k x t = some r := by
  unfold jpJ at h
  split at h
  · exact ⟨_, _, rfl, h⟩
  · cases h
theorem jpR_some {f : Nat} {st : List jV} {k : Option Int → List jV → jR} {r : jV × jMem} (h : jpR f st k = some r) : ∃ o t, st = .inr (.inr (.inl (f, o))) :: t ∧ k o t = some r := by
  unfold jpR at h
  split at h
  · rename_i g o t
    cases hb : Nat.beq g f with
    | true =>
      rw [hb] at h
      cases Nat.eq_of_beq_eq_true hb
      exact ⟨_, _, rfl, h⟩
    | false => rw [hb] at h; cases h
  · cases h
theorem jsm_some {o : Option Int} {k : Int → jR} {r : jV × jMem} (h : jsm o k = some r) : ∃ i, o = some i ∧ k i = some r := by
  cases o with
  | none => cases h
  | some i => exact ⟨i, rfl, h⟩
theorem jpD_some {f : Nat} {st : List jV} {k : Int → List jV → jR} {r : jV × jMem} (h : jpD f st k = some r) : ∃ i t, st = .inr (.inr (.inl (f, some i))) :: t ∧ k i t = some r := by
  obtain ⟨o, t, h1, h2⟩ := jpR_some h
  obtain ⟨i, rfl, h3⟩ := jsm_some h2
  exact ⟨i, t, h1, h3⟩
theorem jix_some {n : Nat} {x : Int} {k : jR} {r : jV × jMem} (h : jix n x k = some r) : 0 ≤ x ∧ x < (n : Int) ∧ k = some r := by
  cases x with
  | ofNat j =>
    change (bif Nat.blt j n then k else none) = some r at h
    cases hb : Nat.blt j n with
    | true =>
      rw [hb] at h
      have : j < n := Nat.le_of_ble_eq_true hb
      exact ⟨Int.natCast_nonneg j, by show (j : Int) < n; omega, h⟩
    | false => rw [hb] at h; cases h
  | negSucc j => cases h
theorem jbo_some {v : Int} {k : jR} {r : jV × jMem} (h : jbo v k = some r) : (v = 0 ∨ v = 1) ∧ k = some r := by
  cases v with
  | ofNat j =>
    change (bif Nat.blt j 2 then k else none) = some r at h
    cases hb : Nat.blt j 2 with
    | true =>
      rw [hb] at h
      have : j < 2 := Nat.le_of_ble_eq_true hb
      refine ⟨?_, h⟩
      rcases (show j = 0 ∨ j = 1 by omega) with rfl | rfl
      · exact Or.inl rfl
      · exact Or.inr rfl
    | false => rw [hb] at h; cases h
  | negSucc j => cases h
theorem jnz_some {v : Int} {k : jR} {r : jV × jMem} (h : jnz v k = some r) : v ≠ 0 ∧ k = some r := by
  cases v with
  | ofNat j =>
    change (bif Nat.blt 0 j then k else none) = some r at h
    cases hb : Nat.blt 0 j with
    | true =>
      rw [hb] at h
      have : 0 < j := Nat.le_of_ble_eq_true hb
      exact ⟨by show (j : Int) ≠ 0; omega, h⟩
    | false => rw [hb] at h; cases h
  | negSucc j => exact ⟨by omega, h⟩
theorem jbnd_some {x : jR} {k : jV → jMem → jR} {r : jV × jMem} (h : jbnd x k = some r) : ∃ v m, x = some (v, m) ∧ k v m = some r := by
  cases x with
  | none => cases h
  | some q => exact ⟨q.1, q.2, rfl, h⟩
theorem jb1_some {st : List jV} {k : Int → Int → List jV → jR} {r : jV × jMem} (h : jb1 st k = some r) : ∃ x y t, st = .inl y :: .inl x :: t ∧ k x y t = some r := by
  obtain ⟨y, t, rfl, h1⟩ := jpI_some h
  obtain ⟨x, t, rfl, h2⟩ := jpI_some h1
  exact ⟨x, y, t, rfl, h2⟩
theorem jb2_some {st : List jV} {k : Int → Int → List jV → jR} {r : jV × jMem} (h : jb2 st k = some r) : ∃ x y t, st = .inr (.inl y) :: .inr (.inl x) :: t ∧ k x y t = some r := by
  obtain ⟨y, t, rfl, h1⟩ := jpJ_some h
  obtain ⟨x, t, rfl, h2⟩ := jpJ_some h1
  exact ⟨x, y, t, rfl, h2⟩
theorem jrecv_some {rv : Nat} {as : List jV} {k : jR} {r : jV × jMem} (h : jrecv rv as k = some r) : k = some r ∧ ∀ f, rv = f + 1 → ∃ i t, as = .inr (.inr (.inl (f, some i))) :: t := by
  cases rv with
  | zero => exact ⟨h, fun f e => by cases e⟩
  | succ f =>
    unfold jrecv at h
    dsimp only at h
    split at h
    · rename_i g o t
      cases hb : Nat.beq g f with
      | true =>
        rw [hb] at h
        cases Nat.eq_of_beq_eq_true hb
        obtain ⟨i, rfl, h2⟩ := jsm_some h
        exact ⟨h2, fun f e => by cases e; exact ⟨i, t, rfl⟩⟩
      | false => rw [hb] at h; cases h
    · cases h
theorem jtake_some : ∀ (n : Nat) (st acc as rest : List jV), jtake n st acc = some (as, rest) → as.reverse ++ rest = acc.reverse ++ st ∧ as.length = n + acc.length
  | 0, st, acc, as, rest, h => by cases h; exact ⟨rfl, by omega⟩
  | n + 1, [], acc, as, rest, h => by cases h
  | n + 1, v :: st, acc, as, rest, h => by
    have := jtake_some n st (v :: acc) as rest h
    refine ⟨by rw [this.1]; simp, by rw [this.2]; simp; omega⟩
theorem jtI {x : Int} (h : jokI x) : (Int32.ofInt x).toInt = x := Int32.toInt_ofInt_of_le (by have := h.1; omega) (by have := h.2; omega)
theorem jtJ {x : Int} (h : jokJ x) : (Int64.ofInt x).toInt = x := Int64.toInt_ofInt_of_le (by have := h.1; omega) (by have := h.2; omega)
theorem jokI_t (x : Int32) : jokI x.toInt := ⟨by have := Int32.le_toInt x; omega, by have := Int32.toInt_lt x; omega⟩
theorem jokJ_t (x : Int64) : jokJ x.toInt := ⟨by have := Int64.le_toInt x; omega, by have := Int64.toInt_lt x; omega⟩
theorem jw32_t (x : Int) : jw32 x = (Int32.ofInt x).toInt := by
  rw [Int32.toInt_ofInt]; rfl
theorem jw64_t (x : Int) : jw64 x = (Int64.ofInt x).toInt := by
  rw [Int64.toInt_ofInt]; rfl
theorem jokI_w (x : Int) : jokI (jw32 x) := by rw [jw32_t]; exact jokI_t _
theorem jokJ_w (x : Int) : jokJ (jw64 x) := by rw [jw64_t]; exact jokJ_t _
theorem jo32 (x : Int) : Int32.ofInt (jw32 x) = Int32.ofInt x := by rw [jw32_t, Int32.ofInt_toInt]
theorem jo64 (x : Int) : Int64.ofInt (jw64 x) = Int64.ofInt x := by rw [jw64_t, Int64.ofInt_toInt]
theorem jIJ {x : Int} (h : jokI x) : jokJ x := ⟨by have := h.1; omega, by have := h.2; omega⟩
theorem j_add (x y : Int) : Int32.ofInt (jw32 (x + y)) = Int32.ofInt x + Int32.ofInt y := by rw [jo32, Int32.ofInt_add]
theorem j_sub (x y : Int) : Int32.ofInt (jw32 (x - y)) = Int32.ofInt x - Int32.ofInt y := by rw [jo32, Int32.ofInt_sub]
theorem j_mul (x y : Int) : Int32.ofInt (jw32 (x * y)) = Int32.ofInt x * Int32.ofInt y := by rw [jo32, Int32.ofInt_mul]
theorem j_ladd (x y : Int) : Int64.ofInt (jw64 (x + y)) = Int64.ofInt x + Int64.ofInt y := by rw [jo64, Int64.ofInt_add]
theorem j_lsub (x y : Int) : Int64.ofInt (jw64 (x - y)) = Int64.ofInt x - Int64.ofInt y := by rw [jo64, Int64.ofInt_sub]
theorem j_lmul (x y : Int) : Int64.ofInt (jw64 (x * y)) = Int64.ofInt x * Int64.ofInt y := by rw [jo64, Int64.ofInt_mul]
theorem j_div {x y : Int} (hx : jokI x) (hy : jokI y) : Int32.ofInt (jw32 (x.tdiv y)) = Int32.ofInt x / Int32.ofInt y := by
  rw [jo32, ← Int32.ofInt_toInt (Int32.ofInt x / Int32.ofInt y), Int32.toInt_div, jtI hx, jtI hy]
  exact (jo32 (x.tdiv y)).symm
theorem j_ldiv {x y : Int} (hx : jokJ x) (hy : jokJ y) : Int64.ofInt (jw64 (x.tdiv y)) = Int64.ofInt x / Int64.ofInt y := by
  rw [jo64, ← Int64.ofInt_toInt (Int64.ofInt x / Int64.ofInt y), Int64.toInt_div, jtJ hx, jtJ hy]
  exact (jo64 (x.tdiv y)).symm
theorem j_rem {x y : Int} (hx : jokI x) (hy : jokI y) : Int32.ofInt (x.tmod y) = Int32.ofInt x - Int32.ofInt x / Int32.ofInt y * Int32.ofInt y := by
  rw [← j_div hx hy, jo32, ← Int32.ofInt_mul, ← Int32.ofInt_sub]
  congr 1
  have := Int.tmod_add_mul_tdiv x y
  have e : y * x.tdiv y = x.tdiv y * y := Int.mul_comm _ _
  omega
theorem j_lrem {x y : Int} (hx : jokJ x) (hy : jokJ y) : Int64.ofInt (x.tmod y) = Int64.ofInt x - Int64.ofInt x / Int64.ofInt y * Int64.ofInt y := by
  rw [← j_ldiv hx hy, jo64, ← Int64.ofInt_mul, ← Int64.ofInt_sub]
  congr 1
  have := Int.tmod_add_mul_tdiv x y
  have e : y * x.tdiv y = x.tdiv y * y := Int.mul_comm _ _
  omega
theorem jtmod_le {x y : Int} (h : 0 ≤ x) : x.tmod y ≤ x := by
  have h1 := Int.natAbs_tmod x y
  have h2 := Nat.mod_le x.natAbs y.natAbs
  omega
theorem jok_tmod {x y : Int} (hx : jokI x) : jokI (x.tmod y) := by
  have h1 := hx.1
  have h2 := hx.2
  rcases Int.lt_or_le x 0 with h | h
  · have a : x.tmod y = -((-x).tmod y) := by rw [Int.neg_tmod]; omega
    have b : 0 ≤ (-x).tmod y := Int.tmod_nonneg _ (by omega)
    have c : (-x).tmod y ≤ -x := jtmod_le (by omega)
    exact ⟨by omega, by omega⟩
  · have b : 0 ≤ x.tmod y := Int.tmod_nonneg _ h
    have c : x.tmod y ≤ x := jtmod_le h
    exact ⟨by omega, by omega⟩
theorem jok_ltmod {x y : Int} (hx : jokJ x) : jokJ (x.tmod y) := by
  have h1 := hx.1
  have h2 := hx.2
  rcases Int.lt_or_le x 0 with h | h
  · have a : x.tmod y = -((-x).tmod y) := by rw [Int.neg_tmod]; omega
    have b : 0 ≤ (-x).tmod y := Int.tmod_nonneg _ (by omega)
    have c : (-x).tmod y ≤ -x := jtmod_le (by omega)
    exact ⟨by omega, by omega⟩
  · have b : 0 ≤ x.tmod y := Int.tmod_nonneg _ h
    have c : x.tmod y ≤ x := jtmod_le h
    exact ⟨by omega, by omega⟩
theorem j_i2l {x : Int} (h : jokI x) : (Int32.ofInt x).toInt64 = Int64.ofInt x := by
  rw [← Int64.ofInt_toInt (Int32.ofInt x).toInt64, Int32.toInt_toInt64, jtI h]
theorem j_l2i {x : Int} (h : jokJ x) : (Int64.ofInt x).toInt32 = Int32.ofInt (jw32 x) := by
  rw [jo32, ← Int32.ofInt_toInt (Int64.ofInt x).toInt32, Int64.toInt_toInt32, jtJ h]
  exact jo32 x
theorem j_i2b {x : Int} (h : jokI x) : (Int32.ofInt x).toInt8.toInt32 = Int32.ofInt (jw8 x) := by
  rw [← Int32.ofInt_toInt (Int32.ofInt x).toInt8.toInt32, Int8.toInt_toInt32, Int32.toInt_toInt8, jtI h]
  rfl
theorem jokI_8 (x : Int) : jokI (jw8 x) := by
  unfold jw8
  have h1 := Int.le_bmod (x := x) (m := 256) (by omega)
  have h2 := Int.bmod_lt (x := x) (m := 256) (by omega)
  exact ⟨by omega, by omega⟩
theorem j_cmp {x y : Int} (hx : jokJ x) (hy : jokJ y) : lg_cmp (Int64.ofInt x) (Int64.ofInt y) = Int32.ofInt (jlcmp x y) := by
  unfold lg_cmp jlcmp
  have e1 : Int64.ofInt x < Int64.ofInt y ↔ x < y := by rw [Int64.lt_iff_toInt_lt, jtJ hx, jtJ hy]
  have e2 : Int64.ofInt x = Int64.ofInt y ↔ x = y := by rw [← Int64.toInt_inj, jtJ hx, jtJ hy]
  have e3 : Int64.ofInt y < Int64.ofInt x ↔ y < x := by rw [Int64.lt_iff_toInt_lt, jtJ hx, jtJ hy]
  by_cases h1 : x < y
  · have h3 : ¬ y < x := by omega
    have h4 : ¬ x = y := by omega
    simp [e2, e3, h1, h3, h4] <;> rfl
  · by_cases h2 : x = y
    · simp [h2] <;> rfl
    · have h3 : y < x := by omega
      simp [e3, h1, h2, h3] <;> rfl
theorem j_eq {x y : Int} (hx : jokI x) (hy : jokI y) : Int32.ofInt x = Int32.ofInt y ↔ x = y := by rw [← Int32.toInt_inj, jtI hx, jtI hy]
theorem j_lt {x y : Int} (hx : jokI x) (hy : jokI y) : Int32.ofInt x < Int32.ofInt y ↔ x < y := by rw [Int32.lt_iff_toInt_lt, jtI hx, jtI hy]
theorem j_le {x y : Int} (hx : jokI x) (hy : jokI y) : Int32.ofInt x ≤ Int32.ofInt y ↔ x ≤ y := by rw [Int32.le_iff_toInt_le, jtI hx, jtI hy]
theorem j_0 : Int32.ofInt 0 = 0 := rfl
theorem jok0 : jokI 0 := ⟨by omega, by omega⟩
theorem j_in {x : Int} {n : Nat} (h0 : 0 ≤ x) (h : x < (n : Int)) (hx : jokI x) : vp_in (Int32.ofInt x) n := by
  rw [vp_in_iff, jtI hx]
  exact ⟨h0, h⟩
theorem j_cl {x : Int} (h0 : 0 ≤ x) (hx : jokI x) : (((Int32.ofInt x).toNatClampNeg : Nat) : Int) = x := by
  have : (Int32.ofInt x).toNatClampNeg = (Int32.ofInt x).toInt.toNat := rfl
  rw [this, jtI hx]
  omega
