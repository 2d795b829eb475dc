/-! Constructors: what the list of cells stands for -/
def kad (as : List Nat) (a : Nat) : Nat := as.getD a 0
def kval (as : List Nat) (kd : Nat) (v : kV) : Value := match v with
  | .inl x => bif Nat.beq kd 1 then .long (Int64.ofInt x) else .int (Int32.ofInt x)
  | .inr o => va_rf (o.map (kad as))
def kvals (as : List Nat) : List (Nat × Nat × Nat) → List kV → List Value
  | q :: l, v :: t => kval as q.1 v :: kvals as l t
  | _, _ => []
def krow (as : List Nat) (cA : ClassId) (t n : Nat) (rs : List (Option Nat)) : va_E := match t with
  | 0 => .inl (cA, n, .inl fun _ => 0)
  | 1 => .inl (cA, n, .inr (.inl fun _ => 0))
  | 2 => .inl (cA, n, .inl fun _ => 0)
  | 3 => .inl (cA, n, .inl fun _ => 0)
  | _ => .inl (cA, n, .inr (.inr (.inr (.inr fun j => (rs.getD j none).map (kad as)))))
def kcell (as : List Nat) (cs : List ClassId) (k : Nat) (c : kC) : va_E := match c with
  | .inl o => .inr (o.1, kvals as (jfds.getD o.1 []) o.2)
  | .inr r => krow as (cs.getD k 0) r.1 r.2.1 r.2.2
def kws (as : List Nat) (cs : List ClassId) (h : kH) : va_W := h.zipIdx.map fun q => (kad as q.2, kcell as cs q.2 q.1)
theorem kws_get (as : List Nat) (cs : List ClassId) (h : kH) (k : Nat) : (kws as cs h)[k]? = (h[k]?).map fun c => (kad as k, kcell as cs k c) := by
  unfold kws
  rw [List.getElem?_map, List.getElem?_zipIdx]
  cases h[k]? with
  | none => rfl
  | some c => simp
def kokV (n : Nat) : kV → Prop
  | .inl x => jokI x
  | .inr (some a) => a < n
  | .inr none => True
def kokC (n : Nat) : kC → Prop
  | .inl o => (∀ v ∈ o.2, kokV n v) ∧ o.1 < 12 ∧ o.2.length = (jfds.getD o.1 []).length
  | .inr r => ∀ a, some a ∈ r.2.2 → a < n
def kokH (h : kH) : Prop := ∀ c ∈ h, kokC h.length c
theorem kokV_le {n m : Nat} (hnm : n ≤ m) {v : kV} (h : kokV n v) : kokV m v := by
  match v, h with
  | .inl _, h => exact h
  | .inr none, _ => trivial
  | .inr (some a), h => exact Nat.lt_of_lt_of_le h hnm
theorem kokC_le {n m : Nat} (hnm : n ≤ m) {c : kC} (h : kokC n c) : kokC m c := by
  match c, h with
  | .inl o, h => exact ⟨fun v hv => kokV_le hnm (h.1 v hv), h.2⟩
  | .inr r, h => exact fun a ha => Nat.lt_of_lt_of_le (h a ha) hnm
/-- longer lists of addresses agree with the old -/
def kExt (as as' : List Nat) (n : Nat) : Prop := ∀ a, a < n → kad as' a = kad as a
theorem kad_app {as : List Nat} {q a : Nat} (h : a < as.length) : kad (as ++ [q]) a = kad as a := by
  unfold kad
  rw [List.getD_eq_getElem?_getD, List.getD_eq_getElem?_getD, List.getElem?_append_left h]
theorem kad_last {as : List Nat} {q : Nat} : kad (as ++ [q]) as.length = q := by
  unfold kad
  rw [List.getD_eq_getElem?_getD, List.getElem?_append_right (Nat.le_refl _), Nat.sub_self]
  rfl
theorem kval_ext {as as' : List Nat} {n kd : Nat} {v : kV} (he : kExt as as' n) (h : kokV n v) : kval as' kd v = kval as kd v := by
  match v, h with
  | .inl _, _ => rfl
  | .inr none, _ => rfl
  | .inr (some a), h =>
    unfold kval
    simp only [Option.map_some]
    rw [he a h]
theorem kvals_ext {as as' : List Nat} {n : Nat} (he : kExt as as' n) : ∀ (l : List (Nat × Nat × Nat)) (fs : List kV), (∀ v ∈ fs, kokV n v) → kvals as' l fs = kvals as l fs
  | [], [], _ => rfl
  | [], _ :: _, _ => rfl
  | _ :: _, [], _ => rfl
  | q :: l, v :: t, h => by
    rw [kvals, kvals, kval_ext he (h v List.mem_cons_self), kvals_ext he l t (fun w hw => h w (List.mem_cons_of_mem _ hw))]
theorem krow_ext {as as' : List Nat} {n : Nat} (he : kExt as as' n) (cA : ClassId) (t m : Nat) (rs : List (Option Nat)) (h : ∀ a, some a ∈ rs → a < n) : krow as' cA t m rs = krow as cA t m rs := by
  have key : (fun j => (rs.getD j none).map (kad as')) = fun j => (rs.getD j none).map (kad as) := by
    funext j
    rw [List.getD_eq_getElem?_getD]
    cases hj : rs[j]? with
    | none => rfl
    | some o =>
      cases o with
      | none => rfl
      | some a =>
        simp only [Option.getD_some, Option.map_some]
        rw [he a (h a (List.mem_of_getElem? hj))]
  unfold krow
  rw [key]
theorem kvals_get (as : List Nat) : ∀ (l : List (Nat × Nat × Nat)) (fs : List kV) (k : Nat) (q : Nat × Nat × Nat) (v : kV), l[k]? = some q → fs[k]? = some v → (kvals as l fs)[k]? = some (kval as q.1 v)
  | [], _, _, _, _, h, _ => by simp at h
  | _ :: _, [], _, _, _, _, h => by simp at h
  | q :: l, v :: t, 0, _, _, h1, h2 => by cases h1; cases h2; rfl
  | q :: l, v :: t, k + 1, _, _, h1, h2 => by
    rw [kvals, List.getElem?_cons_succ]
    exact kvals_get as l t k _ _ (by simpa using h1) (by simpa using h2)
theorem kvals_len (as : List Nat) : ∀ (l : List (Nat × Nat × Nat)) (fs : List kV), fs.length = l.length → (kvals as l fs).length = l.length
  | [], [], _ => rfl
  | [], _ :: _, h => by simp at h
  | _ :: _, [], h => by simp at h
  | q :: l, v :: t, h => by
    rw [kvals, List.length_cons, List.length_cons, kvals_len as l t (by simpa using h)]
theorem kvals_set (as : List Nat) : ∀ (l : List (Nat × Nat × Nat)) (fs : List kV) (k : Nat) (q : Nat × Nat × Nat) (v : kV), l[k]? = some q → kvals as l (fs.set k v) = (kvals as l fs).set k (kval as q.1 v)
  | [], [], _, _, _, h => by simp at h
  | [], _ :: _, _, _, _, h => by simp at h
  | _ :: _, [], k, _, _, _ => by simp [kvals]
  | q :: l, w :: t, 0, _, v, h => by cases h; rfl
  | q :: l, w :: t, k + 1, _, v, h => by
    simp only [List.set_cons_succ, kvals]
    rw [kvals_set as l t k _ v (by simpa using h)]
