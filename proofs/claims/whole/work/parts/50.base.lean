/-! Pure rows: guards that hold, numbers in range -/
theorem jw32_id {x : Int} (h1 : -2147483648 ≤ x) (h2 : x < 2147483648) : jw32 x = x := by
  unfold jw32
  rw [Int.bmod_def]
  omega
theorem jw64_id {x : Int} (h1 : -9223372036854775808 ≤ x) (h2 : x < 9223372036854775808) : jw64 x = x := by
  unfold jw64
  rw [Int.bmod_def]
  omega
theorem jix_in {n : Nat} {x : Int} {k : jR} (h1 : 0 ≤ x) (h2 : x < (n : Int)) : jix n x k = k := by
  cases x with
  | ofNat j =>
    have : j < n := by
      have h3 : (j : Int) < n := h2
      omega
    show (bif Nat.blt j n then k else none) = k
    rw [show Nat.blt j n = true from Nat.ble_eq_true_of_le this]
    rfl
  | negSucc j => omega
theorem jbo_in {v : Int} {k : jR} (h : v = 0 ∨ v = 1) : jbo v k = k := by
  rcases h with h | h <;> subst h <;> rfl
theorem jnz_in {v : Int} {k : jR} (h : v ≠ 0) : jnz v k = k := by
  cases v with
  | ofNat j =>
    show (bif Nat.blt 0 j then k else none) = k
    have : 0 < j := by
      have h3 : (j : Int) ≠ 0 := h
      omega
    rw [show Nat.blt 0 j = true from Nat.ble_eq_true_of_le this]
    rfl
  | negSucc j => rfl
theorem jbnd_s (v : jV) (m : jMem) (k : jV → jMem → jR) : jbnd (some (v, m)) k = k v m := rfl
theorem jasI_v (x : Int) : jasI (vI x) = x := by cases x <;> rfl
theorem jasJ_v (x : Int) : jasJ (vJ x) = x := by cases x <;> rfl
theorem jasR_v (f : Nat) (o : Option Int) : jasR (vR f o) = o := by cases o <;> rfl
theorem jsm_s (i : Int) (k : Int → jR) : jsm (some i) k = k i := rfl
def jb (p : Prop) [Decidable p] : Int := if p then 1 else 0
theorem jb_0 {p : Prop} [Decidable p] : (jb p = 0) = ¬ p := by
  unfold jb
  by_cases h : p <;> simp [h]
theorem jlcmp_lt (x y : Int) : (jlcmp x y < 0) = (x < y) := by
  unfold jlcmp
  by_cases h : x < y
  · simp [h]
  · by_cases h2 : x = y <;> simp [h, h2]
theorem jlcmp_gt (x y : Int) : (0 < jlcmp x y) = (y < x) := by
  unfold jlcmp
  by_cases h : x < y
  · simp [h]; omega
  · by_cases h2 : x = y
    · simp [h2]
    · simp [h, h2]; omega
theorem jlcmp_eq (x y : Int) : (jlcmp x y = 0) = (x = y) := by
  unfold jlcmp
  by_cases h : x < y
  · simp [h]; omega
  · by_cases h2 : x = y <;> simp [h, h2]
theorem jb_1 {p : Prop} [Decidable p] (h : p) : jb p = 1 := by
  unfold jb
  rw [if_pos h]
theorem jb_n {p : Prop} [Decidable p] (h : ¬ p) : jb p = 0 := by
  unfold jb
  rw [if_neg h]
theorem jb_01 {p : Prop} [Decidable p] : jb p = 0 ∨ jb p = 1 := by
  unfold jb
  by_cases h : p <;> simp [h]
theorem jbo_b {p : Prop} [Decidable p] (k : jR) : jbo (jb p) k = k := jbo_in jb_01
theorem jb_cong {p q : Prop} [Decidable p] [Decidable q] (h : p ↔ q) : jb p = jb q := by
  unfold jb
  by_cases hp : p
  · rw [if_pos hp, if_pos (h.mp hp)]
  · rw [if_neg hp, if_neg (fun w => hp (h.mpr w))]
/-! Memory, family by family -/
theorem jrI_wf {m : jMem} {f : Nat} {i k v : Int} {g : Nat} (h : g ≠ f) : jrI (jwI m f i k v) g = jrI m g := by
  funext j n
  rw [jrI_w, if_neg (fun w => h w.1)]
theorem jrI_wi {m : jMem} {f : Nat} {i k v : Int} {g : Nat} {j : Int} (h : j ≠ i) : jrI (jwI m f i k v) g j = jrI m g j := by
  funext n
  rw [jrI_w, if_neg (fun w => h w.2.1)]
theorem jrI_wk {m : jMem} {f : Nat} {i k v : Int} {g : Nat} {j n : Int} (h : n ≠ k) : jrI (jwI m f i k v) g j n = jrI m g j n := by
  rw [jrI_w, if_neg (fun w => h w.2.2)]
theorem jrI_ws (m : jMem) (f : Nat) (i k v : Int) : jrI (jwI m f i k v) f i k = v := by
  rw [jrI_w, if_pos ⟨rfl, rfl, rfl⟩]
theorem jrI_cf {m : jMem} {f : Nat} {i sp : Int} {f' : Nat} {i' dp n : Int} {g : Nat} (h : g ≠ f') : jrI (jwC m f i sp f' i' dp n) g = jrI m g := by
  funext j k
  rw [jrI_wC, if_neg (fun w => h w.1)]
theorem jrI_ci {m : jMem} {f : Nat} {i sp : Int} {f' : Nat} {i' dp n : Int} {g : Nat} {j : Int} (h : j ≠ i') : jrI (jwC m f i sp f' i' dp n) g j = jrI m g j := by
  funext k
  rw [jrI_wC, if_neg (fun w => h w.2.1)]
theorem jrI_cs {m : jMem} {f : Nat} {i : Int} {f' : Nat} {i' n k : Int} (h0 : 0 ≤ k) (h1 : k < n) : jrI (jwC m f i 0 f' i' 0 n) f' i' k = jrI m f i k := by
  rw [jrI_wC, if_pos ⟨rfl, rfl, h0, by omega⟩]
  congr 1
  omega
theorem jrJ_wf {m : jMem} {f : Nat} {i k v : Int} {g : Nat} (h : g ≠ f) : jrJ (jwJ m f i k v) g = jrJ m g := by
  funext j n
  rw [jrJ_w, if_neg (fun w => h w.1)]
theorem jrJ_wk {m : jMem} {f : Nat} {i k v : Int} {g : Nat} {j n : Int} (h : n ≠ k) : jrJ (jwJ m f i k v) g j n = jrJ m g j n := by
  rw [jrJ_w, if_neg (fun w => h w.2.2)]
theorem jrJ_ws (m : jMem) (f : Nat) (i k v : Int) : jrJ (jwJ m f i k v) f i k = v := by
  rw [jrJ_w, if_pos ⟨rfl, rfl, rfl⟩]
/-- what may have changed: ints by cell -/
def puR (A : Nat → Int → Int → Prop) (m m' : jMem) : Prop := ∀ f i k, ¬ A f i k → jrI m' f i k = jrI m f i k
theorem puR_rf (A : Nat → Int → Int → Prop) (m : jMem) : puR A m m := fun _ _ _ _ => rfl
theorem puR_tr {A : Nat → Int → Int → Prop} {a b c : jMem} (h1 : puR A a b) (h2 : puR A b c) : puR A a c := fun f i k h => (h2 f i k h).trans (h1 f i k h)
theorem puR_mono {A B : Nat → Int → Int → Prop} {a b : jMem} (h : puR A a b) (hm : ∀ f i k, A f i k → B f i k) : puR B a b := fun f i k hb => h f i k (fun w => hb (hm f i k w))
theorem puR_w {A : Nat → Int → Int → Prop} {a b : jMem} {f : Nat} {i k v : Int} (h : puR A a b) (hA : A f i k) : puR A a (jwI b f i k v) := fun g j n hf => by
  rw [jrI_w, if_neg (fun w => by obtain ⟨rfl, rfl, rfl⟩ := w; exact hf hA)]
  exact h g j n hf
theorem puR_J {A : Nat → Int → Int → Prop} {a b : jMem} {f : Nat} {i k v : Int} (h : puR A a b) : puR A a (jwJ b f i k v) := fun g j n hf => h g j n hf
theorem puR_S {A : Nat → Int → Int → Prop} {a b : jMem} {f : Nat} {i : Int} {k : Nat} {v : Option Int} (h : puR A a b) : puR A a (jwS b f i k v) := fun g j n hf => h g j n hf
theorem puR_C {A : Nat → Int → Int → Prop} {a b : jMem} {f : Nat} {i sp : Int} {f' : Nat} {i' dp n : Int} (h : puR A a b) (hA : ∀ k, A f' i' k) : puR A a (jwC b f i sp f' i' dp n) := fun g j k hf => by
  rw [jrI_wC, if_neg (fun w => by obtain ⟨rfl, rfl, -⟩ := w; exact hf (hA k))]
  exact h g j k hf
/-! Loops -/
def puF {α : Type} (f : Int → α → α) : Nat → Int → α → α
  | 0, _, a => a
  | n + 1, i, a => puF f n (i + 1) (f i a)
theorem puF_run {α β : Type} (P : Int → α → Prop) {L : Int → α → β} {f : Int → α → α} {n : Int} (hs : ∀ i a, 0 ≤ i → i < n → P i a → L i a = L (i + 1) (f i a) ∧ P (i + 1) (f i a)) : ∀ (k : Nat) (i : Int) (a : α), 0 ≤ i → i + (k : Int) = n → P i a → L i a = L n (puF f k i a) ∧ P n (puF f k i a)
  | 0, i, a, h0, hn, hp => by
    have e : i = n := by omega
    subst e
    exact ⟨rfl, hp⟩
  | k + 1, i, a, h0, hn, hp => by
    obtain ⟨h1, h2⟩ := hs i a h0 (by omega) hp
    obtain ⟨h3, h4⟩ := puF_run P hs k (i + 1) (f i a) (by omega) (by omega) h2
    exact ⟨h1.trans h3, h4⟩
theorem puF_run0 {α β : Type} (P : Int → α → Prop) {L : Int → α → β} {f : Int → α → α} {n : Int} (hn : 0 ≤ n) (hs : ∀ i a, 0 ≤ i → i < n → P i a → L i a = L (i + 1) (f i a) ∧ P (i + 1) (f i a)) (a : α) (hp : P 0 a) : L 0 a = L n (puF f n.toNat 0 a) ∧ P n (puF f n.toNat 0 a) := puF_run P hs n.toNat 0 a (Int.le_refl 0) (by omega) hp
theorem puF_cong {α : Type} {f g : Int → α → α} {n : Int} (h : ∀ i a, 0 ≤ i → i < n → f i a = g i a) : ∀ (k : Nat) (i : Int) (a : α), 0 ≤ i → i + (k : Int) ≤ n → puF f k i a = puF g k i a
  | 0, _, _, _, _ => rfl
  | k + 1, i, a, h0, hn => by
    unfold puF
    rw [h i a h0 (by omega)]
    exact puF_cong h k (i + 1) (g i a) (by omega) (by omega)
/-- the first that is so; -1 -/
def puG (p : Int → Prop) [DecidablePred p] : Nat → Int → Int
  | 0, _ => -1
  | n + 1, i => if p i then i else puG p n (i + 1)
theorem puG_spec (p : Int → Prop) [DecidablePred p] : ∀ (k : Nat) (i : Int), 0 ≤ i → (puG p k i = -1 ∧ ∀ j, i ≤ j → j < i + (k : Int) → ¬ p j) ∨ (i ≤ puG p k i ∧ puG p k i < i + (k : Int) ∧ p (puG p k i) ∧ ∀ j, i ≤ j → j < puG p k i → ¬ p j)
  | 0, i, _ => Or.inl ⟨rfl, fun j h1 h2 => by omega⟩
  | k + 1, i, h0 => by
    unfold puG
    by_cases hp : p i
    · rw [if_pos hp]
      exact Or.inr ⟨Int.le_refl _, by omega, hp, fun j h1 h2 => by omega⟩
    · rw [if_neg hp]
      rcases puG_spec p k (i + 1) (by omega) with ⟨h1, h2⟩ | ⟨h1, h2, h3, h4⟩
      · refine Or.inl ⟨h1, fun j a b => ?_⟩
        by_cases e : j = i
        · rw [e]; exact hp
        · exact h2 j (by omega) (by omega)
      · refine Or.inr ⟨by omega, by omega, h3, fun j a b => ?_⟩
        by_cases e : j = i
        · rw [e]; exact hp
        · exact h4 j (by omega) b
theorem puG_cong {p q : Int → Prop} [DecidablePred p] [DecidablePred q] {n : Int} (h : ∀ i, 0 ≤ i → i < n → (p i ↔ q i)) : ∀ (k : Nat) (i : Int), 0 ≤ i → i + (k : Int) ≤ n → puG p k i = puG q k i
  | 0, _, _, _ => rfl
  | k + 1, i, h0, hn => by
    unfold puG
    have hi := h i h0 (by omega)
    by_cases hp : p i
    · rw [if_pos hp, if_pos (hi.mp hp)]
    · rw [if_neg hp, if_neg (fun w => hp (hi.mpr w))]
      exact puG_cong h k (i + 1) (by omega) (by omega)
/-! Small methods of both -/
theorem s_M_in (d : Nat) (v a b : Int) (mem : jMem) : M_in (d + 1) v a b mem = some (vI (jb (a ≤ v ∧ v ≤ b)), mem) := by
  rw [q_M_in]
  unfold jb
  simp only [jlcmp_lt, jlcmp_gt]
  split <;> split <;> simp <;> omega
theorem s_M_isMemory (d : Nat) (x : Int) (mem : jMem) : M_isMemory (d + 1) x mem = some (vI (jb (0 ≤ x ∧ x < jrI mem 55 0 5)), mem) := by
  rw [q_M_isMemory]
  unfold jb
  split <;> try split
  all_goals simp <;> omega
theorem s_M_isTrap (d : Nat) (x : Int) (mem : jMem) : M_isTrap (d + 1) x mem = some (vI (jb (0 ≤ x ∧ x < jrI mem 55 0 6)), mem) := by
  rw [q_M_isTrap]
  unfold jb
  split <;> try split
  all_goals simp <;> omega
theorem s_M_isPerson (d : Nat) (x : Int) (mem : jMem) : M_isPerson (d + 1) x mem = some (vI (jb (0 ≤ x ∧ x < jrI mem 55 0 4)), mem) := by
  rw [q_M_isPerson]
  unfold jb
  split <;> try split
  all_goals simp <;> omega
theorem s_M_isPool (d : Nat) (x : Int) (mem : jMem) : M_isPool (d + 1) x mem = some (vI (jb (0 ≤ x ∧ x < jrI mem 55 0 1)), mem) := by
  rw [q_M_isPool]
  unfold jb
  split <;> try split
  all_goals simp <;> omega
theorem s_M_isRule (d : Nat) (x : Int) (mem : jMem) : M_isRule (d + 1) x mem = some (vI (jb (0 ≤ x ∧ x < jrI mem 11 0 2)), mem) := by
  rw [q_M_isRule]
  unfold jb
  split <;> try split
  all_goals simp <;> omega
theorem s_M_isRiver (d : Nat) (mem : jMem) : M_isRiver (d + 1) mem = some (vI (jb (jrI mem 55 0 0 = 1)), mem) := by
  rw [q_M_isRiver]
  unfold jb
  split <;> rfl
theorem s_E_within (d : Nat) (x a b : Int) (mem : jMem) : E_within (d + 1) x a b mem = some (vI (jb (a ≤ x ∧ x ≤ b)), mem) := by
  rw [q_E_within]
  unfold jb
  split <;> try split
  all_goals simp <;> omega
theorem s_E_isFreePlace (d : Nat) (x : Int) (mem : jMem) : E_isFreePlace (d + 2) x mem = some (vI (jb (0 ≤ x ∧ x < 12)), mem) := by
  rw [q_E_isFreePlace, s_E_within, jbnd_s, jasI_v, jbo_b]
  rw [jb_cong (q := 0 ≤ x ∧ x < 12) (by omega)]
theorem s_E_isMemory (d : Nat) (x : Int) (mem : jMem) (h0 : 0 ≤ jrI mem 4 0 5) (h1 : jrI mem 4 0 5 ≤ 1000) : E_isMemory (d + 2) x mem = some (vI (jb (0 ≤ x ∧ x < jrI mem 4 0 5)), mem) := by
  rw [q_E_isMemory, s_E_within, jbnd_s, jasI_v, jbo_b, jw32_id (by omega) (by omega)]
  rw [jb_cong (q := 0 ≤ x ∧ x < jrI mem 4 0 5) (by omega)]
theorem s_E_isTrap (d : Nat) (x : Int) (mem : jMem) (h0 : 0 ≤ jrI mem 4 0 6) (h1 : jrI mem 4 0 6 ≤ 1000) : E_isTrap (d + 2) x mem = some (vI (jb (0 ≤ x ∧ x < jrI mem 4 0 6)), mem) := by
  rw [q_E_isTrap, s_E_within, jbnd_s, jasI_v, jbo_b, jw32_id (by omega) (by omega)]
  rw [jb_cong (q := 0 ≤ x ∧ x < jrI mem 4 0 6) (by omega)]
theorem s_E_isPerson (d : Nat) (x : Int) (mem : jMem) (h0 : 0 ≤ jrI mem 4 0 4) (h1 : jrI mem 4 0 4 ≤ 1000) : E_isPerson (d + 2) x mem = some (vI (jb (0 ≤ x ∧ x < jrI mem 4 0 4)), mem) := by
  rw [q_E_isPerson, s_E_within, jbnd_s, jasI_v, jbo_b, jw32_id (by omega) (by omega)]
  rw [jb_cong (q := 0 ≤ x ∧ x < jrI mem 4 0 4) (by omega)]
theorem s_E_isPool (d : Nat) (x : Int) (mem : jMem) (h0 : 0 ≤ jrI mem 4 0 1) (h1 : jrI mem 4 0 1 ≤ 1000) : E_isPool (d + 2) x mem = some (vI (jb (0 ≤ x ∧ x < jrI mem 4 0 1)), mem) := by
  rw [q_E_isPool, s_E_within, jbnd_s, jasI_v, jbo_b, jw32_id (by omega) (by omega)]
  rw [jb_cong (q := 0 ≤ x ∧ x < jrI mem 4 0 1) (by omega)]
theorem s_J_max (d : Nat) (x y : Int) (mem : jMem) : J_max (d + 1) x y mem = some (vI (if x < y then y else x), mem) := by
  rw [q_J_max]
  split <;> rfl
theorem s_J_min (d : Nat) (x y : Int) (mem : jMem) : J_min (d + 1) x y mem = some (vI (if y < x then y else x), mem) := by
  rw [q_J_min]
  split <;> rfl
