/-! What memory stands for: cells at addresses -/
def jcnts : List Nat := [1, 1, 1, 5, 6, 6, 5, 3, 1, 27, 1, 1, 1, 1, 1, 1, 1, 1, 5, 5, 5, 6, 6, 6, 6, 6, 6, 6, 6, 6, 6, 6, 6, 3, 3, 3, 3, 1, 27, 27, 27, 27, 27, 27, 1, 1, 1, 1, 1, 1, 1, 1, 1, 1, 1, 1, 1, 1, 1, 1, 1, 1, 1, 1, 1, 1, 1]
def jcnt (f : Nat) : Nat := bif Nat.beq f 100 then 7 else jcnts.getD f 0
def jfds : List (List (Nat × Nat × Nat)) := [[(2, 12, 0), (0, 0, 0), (0, 0, 0)], [(5, 7, 1), (5, 9, 25), (2, 13, 0), (2, 14, 0), (2, 15, 0), (1, 0, 0)], [(5, 7, 2), (5, 9, 26), (2, 16, 0), (2, 17, 0)], [(0, 0, 0), (2, 18, 0), (2, 19, 0), (2, 20, 0)], [(0, 0, 0), (0, 0, 0), (0, 0, 0), (0, 0, 0), (0, 0, 0), (0, 0, 0), (0, 0, 0), (2, 21, 0), (2, 22, 0), (2, 23, 0), (2, 24, 0), (2, 25, 0), (2, 26, 0), (2, 27, 0), (2, 28, 0), (2, 29, 0), (2, 30, 0)], [(2, 31, 0), (2, 32, 0), (0, 0, 0), (0, 0, 0), (0, 0, 0)], [(2, 4, 0), (2, 9, 0), (2, 3, 0), (0, 0, 0), (0, 0, 0), (0, 0, 0)], [(2, 33, 0), (2, 34, 0), (2, 35, 0), (2, 36, 0), (3, 4, 0), (3, 9, 0), (3, 5, 0), (0, 0, 0), (0, 0, 0), (0, 0, 0), (0, 0, 0), (0, 0, 0)], [(2, 37, 0), (0, 0, 0), (0, 0, 0), (0, 0, 0)], [(0, 0, 0), (2, 38, 0), (2, 39, 0), (2, 40, 0), (2, 41, 0), (2, 42, 0), (2, 43, 0)], [(2, 8, 0), (2, 44, 0), (0, 0, 0), (2, 6, 0), (2, 45, 0), (5, 4, 5), (2, 0, 0), (2, 7, 0), (2, 1, 0), (2, 2, 0)], [(2, 46, 0), (0, 0, 0), (0, 0, 0), (2, 47, 0), (2, 48, 0), (2, 49, 0), (2, 50, 0), (2, 51, 0), (0, 0, 0), (0, 0, 0), (0, 0, 0), (0, 0, 0), (0, 0, 0), (0, 0, 0), (0, 0, 0), (2, 52, 0), (0, 0, 0), (2, 53, 0), (0, 0, 0), (2, 54, 0), (2, 55, 0), (0, 0, 0), (0, 0, 0), (0, 0, 0), (2, 56, 0), (2, 57, 0), (0, 0, 0), (2, 58, 0), (2, 59, 0), (2, 60, 0), (2, 61, 0), (2, 62, 0), (1, 0, 0), (2, 63, 0), (2, 64, 0), (2, 65, 0), (2, 66, 0)]]
def jarrs : List (Nat × Nat × Nat × Nat) := [(6, 20, 9, 5), (1, 61, 0, 0), (0, 64, 0, 0), (0, 64, 0, 0), (0, 7, 0, 0), (0, 42, 0, 0), (0, 10, 0, 0), (0, 10, 0, 0), (0, 10, 0, 0), (0, 12, 0, 0), (0, 4, 0, 0), (0, 6, 0, 0), (0, 6, 0, 0), (0, 6, 0, 0), (0, 6, 0, 0), (0, 4, 0, 0), (0, 4, 0, 0), (0, 4, 0, 0), (0, 4, 0, 0), (0, 400, 0, 0), (0, 400, 0, 0), (1, 64, 0, 0), (0, 6, 0, 0), (0, 12, 0, 0), (0, 12, 0, 0), (2, 400, 0, 0), (0, 6, 0, 0), (0, 6, 0, 0), (0, 4, 0, 0), (0, 4, 0, 0), (0, 4, 0, 0), (0, 4, 0, 0), (4, 6, 5, 0), (5, 4, 6, 1), (2, 400, 0, 0), (0, 2400, 0, 0), (0, 7, 0, 0), (0, 288, 0, 0), (0, 6, 0, 0), (0, 81, 0, 0), (0, 400, 0, 0), (1, 64, 0, 0), (1, 12, 0, 0), (0, 112, 0, 0), (0, 6, 0, 0), (0, 300, 0, 0), (0, 15, 0, 0), (0, 128, 0, 0), (0, 366, 0, 0), (3, 7, 0, 0), (0, 42, 0, 0), (0, 448, 0, 0), (0, 4, 0, 0), (0, 4, 0, 0), (3, 4, 0, 0)]
def jall : List (Nat × Int) := (List.range 67).flatMap fun f => (List.range (jcnts.getD f 0)).map fun (i : Nat) => (f, Int.ofNat i)
def jval (f : Nat) (i : Int) : Prop := 0 ≤ i ∧ i < (jcnt f : Int)
set_option maxRecDepth 100000 in
theorem jall_nd : jall.Nodup := by decide +kernel
theorem jall_mem {f : Nat} {i : Int} (hf : f < 67) (h : jval f i) : (f, i) ∈ jall := by
  have hc : jcnt f = jcnts.getD f 0 := by
    unfold jcnt
    have : Nat.beq f 100 = false := by
      cases hb : Nat.beq f 100 with
      | false => rfl
      | true => have := Nat.eq_of_beq_eq_true hb; omega
    rw [this]; rfl
  refine List.mem_flatMap.mpr ⟨f, List.mem_range.mpr hf, List.mem_map.mpr ⟨i.toNat, List.mem_range.mpr ?_, ?_⟩⟩
  · have := h.2
    rw [hc] at this
    have := h.1
    omega
  · have := h.1
    have e : Int.ofNat i.toNat = i := by
      show (i.toNat : Int) = i
      omega
    rw [e]
def jfv (ad : Nat → Int → Nat) (mem : jMem) (f : Nat) (i : Int) (k : Nat) (q : Nat × Nat × Nat) : Value := match q.1 with
  | 0 => .int (Int32.ofInt (jrI mem f i (k : Int)))
  | 1 => .long (Int64.ofInt (jrJ mem f i (k : Int)))
  | 2 => .ref (ad q.2.1 i)
  | 3 => va_rf ((jrS mem f i k).map (ad q.2.1))
  | _ => .ref (ad q.2.1 (q.2.2 : Int))
def jfvs (ad : Nat → Int → Nat) (mem : jMem) (f : Nat) (i : Int) : Nat → List (Nat × Nat × Nat) → List Value
  | _, [] => []
  | k, q :: l => jfv ad mem f i k q :: jfvs ad mem f i (k + 1) l
theorem jfvs_get (ad : Nat → Int → Nat) (mem : jMem) (f : Nat) (i : Int) : ∀ (l : List (Nat × Nat × Nat)) (n k : Nat), (jfvs ad mem f i n l)[k]? = (l[k]?).map (jfv ad mem f i (n + k))
  | [], _, _ => by simp [jfvs]
  | q :: l, n, 0 => by simp [jfvs]
  | q :: l, n, k + 1 => by
    simp only [jfvs, List.getElem?_cons_succ]
    rw [jfvs_get ad mem f i l (n + 1) k, Nat.add_assoc, Nat.add_comm 1 k]
theorem jfvs_len (ad : Nat → Int → Nat) (mem : jMem) (f : Nat) (i : Int) : ∀ (l : List (Nat × Nat × Nat)) (n : Nat), (jfvs ad mem f i n l).length = l.length
  | [], _ => rfl
  | q :: l, n => by simp [jfvs, jfvs_len ad mem f i l (n + 1)]
def jarc (ad : Nat → Int → Nat) (cA : Nat → ClassId) (mem : jMem) (f : Nat) (i : Int) (q : Nat × Nat × Nat × Nat) : va_E := match q.1 with
  | 0 => .inl (cA 0, q.2.1, .inl fun j => Int32.ofInt (jrI mem f i (j : Int)))
  | 1 => .inl (cA 1, q.2.1, .inr (.inl fun j => Int64.ofInt (jrJ mem f i (j : Int))))
  | 2 => .inl (cA 2, q.2.1, .inl fun j => Int32.ofInt (jrI mem f i (j : Int)))
  | 3 => .inl (cA 3, q.2.1, .inl fun j => Int32.ofInt (jrI mem f i (j : Int)))
  | t => .inl (cA t, q.2.1, .inr (.inr (.inr (.inr fun j => some (ad q.2.2.1 ((j : Int) + (q.2.2.2 : Int)))))))
def jcell (ad : Nat → Int → Nat) (cA : Nat → ClassId) (mem : jMem) (f : Nat) (i : Int) : va_E := bif Nat.blt f 12 then .inr (f, jfvs ad mem f i 0 (jfds.getD f [])) else jarc ad cA mem f i (jarrs.getD (f - 12) (0, 0, 0, 0))
def jws (ad : Nat → Int → Nat) (cA : Nat → ClassId) (mem : jMem) : va_W := jall.map fun q => (ad q.1 q.2, jcell ad cA mem q.1 q.2)
abbrev jtys (cA : Nat → ClassId) : List (ClassId × FieldType) := [(cA 0, .int), (cA 1, .long), (cA 2, .byte), (cA 3, .boolean), (cA 4, .object "EelThroat$Rule"), (cA 5, .object "EelThroat$Scene"), (cA 6, .object "EelThroat$Water")]
theorem jws_get (ad : Nat → Int → Nat) (cA : Nat → ClassId) (mem : jMem) (k : Nat) : (jws ad cA mem)[k]? = (jall[k]?).map fun q => (ad q.1 q.2, jcell ad cA mem q.1 q.2) := by
  unfold jws
  rw [List.getElem?_map]
theorem jws_at (ad : Nat → Int → Nat) (cA : Nat → ClassId) (mem : jMem) {f : Nat} {i : Int} (h : (f, i) ∈ jall) : ∃ k : Nat, jall[k]? = some (f, i) ∧ (jws ad cA mem)[k]? = some (ad f i, jcell ad cA mem f i) := by
  obtain ⟨k, hk⟩ := List.getElem?_of_mem h
  exact ⟨k, hk, by rw [jws_get, hk]; rfl⟩
/-- one cell changed -/
theorem jws_set (ad : Nat → Int → Nat) (cA : Nat → ClassId) (mem mem' : jMem) {f k : Nat} {i : Int} (hk : jall[k]? = some (f, i)) (ho : ∀ g j, (g, j) ≠ (f, i) → jcell ad cA mem' g j = jcell ad cA mem g j) : (jws ad cA mem).set k (ad f i, jcell ad cA mem' f i) = jws ad cA mem' := by
  apply List.ext_getElem?
  intro n
  have hlt : k < jall.length := (List.getElem?_eq_some_iff.mp hk).1
  by_cases hn : k = n
  · subst hn
    rw [List.getElem?_set_self (by unfold jws; rw [List.length_map]; exact hlt), jws_get, hk]
    rfl
  · rw [List.getElem?_set_ne hn, jws_get, jws_get]
    cases hq : jall[n]? with
    | none => rfl
    | some q =>
      obtain ⟨g, j⟩ := q
      have hne : (g, j) ≠ (f, i) := by
        intro e
        rw [e] at hq
        exact hn ((List.getElem?_inj hlt jall_nd).mp (hk.trans hq.symm))
      simp only [Option.map_some]
      rw [ho g j hne]
/-- addresses apart -/
def jInj (ad : Nat → Int → Nat) : Prop := ∀ p ∈ jall, ∀ q ∈ jall, ad p.1 p.2 = ad q.1 q.2 → p = q
def jA (ad : Nat → Int → Nat) : Nat → Prop := fun a => ∃ q ∈ jall, ad q.1 q.2 = a
theorem jws_D {ad : Nat → Int → Nat} {cA : Nat → ClassId} {mem : jMem} (h : jInj ad) : va_D (jA ad) (jws ad cA mem) := by
  constructor
  · intro i j p q hp hq e
    rw [jws_get] at hp hq
    cases h1 : jall[i]? with
    | none => rw [h1] at hp; cases hp
    | some a =>
      cases h2 : jall[j]? with
      | none => rw [h2] at hq; cases hq
      | some b =>
        rw [h1] at hp
        rw [h2] at hq
        cases hp
        cases hq
        have hab := h a (List.mem_of_getElem? h1) b (List.mem_of_getElem? h2) e
        rw [hab] at h1
        exact (List.getElem?_inj (List.getElem?_eq_some_iff.mp h1).1 jall_nd).mp (h1.trans h2.symm)
  · intro k q hk
    rw [jws_get] at hk
    cases h1 : jall[k]? with
    | none => rw [h1] at hk; cases hk
    | some a =>
      rw [h1] at hk
      cases hk
      exact ⟨a, List.mem_of_getElem? h1, rfl⟩
def jokI (x : Int) : Prop := -2147483648 ≤ x ∧ x < 2147483648
def jokJ (x : Int) : Prop := -9223372036854775808 ≤ x ∧ x < 9223372036854775808
def jokV : jV → Prop
  | .inl x => jokI x
  | .inr (.inl x) => jokJ x
  | .inr (.inr (.inl (f, o))) => ∀ i, o = some i → jval f i
  | _ => True
def jokL (l : List jV) : Prop := ∀ v ∈ l, jokV v
def jokM (mem : jMem) : Prop := (∀ f i k, jokI (jrI mem f i k)) ∧ (∀ f i k, jokJ (jrJ mem f i k)) ∧ ∀ f i k f' mp j, (jfds.getD f [])[k]? = some (3, f', mp) → jrS mem f i k = some j → jval f' j
def jcv (ad : Nat → Int → Nat) : jV → Value
  | .inl x => .int (Int32.ofInt x)
  | .inr (.inl x) => .long (Int64.ofInt x)
  | .inr (.inr (.inl (f, o))) => va_rf (o.map (ad f))
  | _ => .null
theorem jieq_iff (a b : Int) : jieq a b = true ↔ a = b := by
  cases a <;> cases b <;> simp [jieq] <;> omega
theorem jieq_ne {a b : Int} (h : a ≠ b) : jieq a b = false := by
  cases e : jieq a b with
  | false => rfl
  | true => exact absurd ((jieq_iff a b).mp e) h
theorem jieq_rf (a : Int) : jieq a a = true := (jieq_iff a a).mpr rfl
theorem jrI_w (m : jMem) (f : Nat) (i k v : Int) (g : Nat) (j n : Int) : jrI (jwI m f i k v) g j n = if g = f ∧ j = i ∧ n = k then v else jrI m g j n := by
  unfold jrI jwI
  by_cases h1 : g = f
  · by_cases h2 : j = i
    · by_cases h3 : n = k
      · simp [h1, h2, h3, jieq_rf]
      · simp [h1, h2, h3, jieq_rf, jieq_ne h3]
    · simp [h1, h2, jieq_ne h2]
  · have : Nat.beq g f = false := by
      cases e : Nat.beq g f with
      | false => rfl
      | true => exact absurd (Nat.eq_of_beq_eq_true e) h1
    simp [h1, this]
theorem jrJ_w (m : jMem) (f : Nat) (i k v : Int) (g : Nat) (j n : Int) : jrJ (jwJ m f i k v) g j n = if g = f ∧ j = i ∧ n = k then v else jrJ m g j n := by
  unfold jrJ jwJ
  by_cases h1 : g = f
  · by_cases h2 : j = i
    · by_cases h3 : n = k
      · simp [h1, h2, h3, jieq_rf]
      · simp [h1, h2, h3, jieq_rf, jieq_ne h3]
    · simp [h1, h2, jieq_ne h2]
  · have : Nat.beq g f = false := by
      cases e : Nat.beq g f with
      | false => rfl
      | true => exact absurd (Nat.eq_of_beq_eq_true e) h1
    simp [h1, this]
theorem jrS_w (m : jMem) (f : Nat) (i : Int) (k : Nat) (v : Option Int) (g : Nat) (j : Int) (n : Nat) : jrS (jwS m f i k v) g j n = if g = f ∧ j = i ∧ n = k then v else jrS m g j n := by
  unfold jrS jwS
  by_cases h1 : g = f
  · by_cases h2 : j = i
    · by_cases h3 : n = k
      · simp [h1, h2, h3, jieq_rf]
      · have : Nat.beq n k = false := by
          cases e : Nat.beq n k with
          | false => rfl
          | true => exact absurd (Nat.eq_of_beq_eq_true e) h3
        simp [h1, h2, h3, jieq_rf, this]
    · simp [h1, h2, jieq_ne h2]
  · have : Nat.beq g f = false := by
      cases e : Nat.beq g f with
      | false => rfl
      | true => exact absurd (Nat.eq_of_beq_eq_true e) h1
    simp [h1, this]
theorem jrI_wJ (m : jMem) (f : Nat) (i k v : Int) : jrI (jwJ m f i k v) = jrI m := rfl
theorem jrI_wS (m : jMem) (f : Nat) (i : Int) (k : Nat) (v : Option Int) : jrI (jwS m f i k v) = jrI m := rfl
theorem jrJ_wI (m : jMem) (f : Nat) (i k v : Int) : jrJ (jwI m f i k v) = jrJ m := rfl
theorem jrJ_wS (m : jMem) (f : Nat) (i : Int) (k : Nat) (v : Option Int) : jrJ (jwS m f i k v) = jrJ m := rfl
theorem jrS_wI (m : jMem) (f : Nat) (i k v : Int) : jrS (jwI m f i k v) = jrS m := rfl
theorem jrS_wJ (m : jMem) (f : Nat) (i k v : Int) : jrS (jwJ m f i k v) = jrS m := rfl
theorem jrJ_wC (m : jMem) (f : Nat) (i sp : Int) (f' : Nat) (i' dp n : Int) : jrJ (jwC m f i sp f' i' dp n) = jrJ m := rfl
theorem jrS_wC (m : jMem) (f : Nat) (i sp : Int) (f' : Nat) (i' dp n : Int) : jrS (jwC m f i sp f' i' dp n) = jrS m := rfl
theorem jrI_wC (m : jMem) (f : Nat) (i sp : Int) (f' : Nat) (i' dp n : Int) (g : Nat) (j k : Int) : jrI (jwC m f i sp f' i' dp n) g j k = if g = f' ∧ j = i' ∧ dp ≤ k ∧ k < dp + n then jrI m f i (sp + (k - dp)) else jrI m g j k := by
  unfold jrI jwC
  by_cases h1 : g = f'
  · simp [h1]
  · have : Nat.beq g f' = false := by
      cases e : Nat.beq g f' with
      | false => rfl
      | true => exact absurd (Nat.eq_of_beq_eq_true e) h1
    simp [h1, this]
