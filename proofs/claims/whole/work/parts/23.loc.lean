/-! Locals of the abstract machine and of the real one -/
def jL (ad : Nat → Int → Nat) (L : List jV) (ls : Array Slot) : Prop := ls.size = L.length ∧ lv_wf ls ∧ ∀ (i : Nat) (v : jV), L[i]? = some v → v ≠ vU → ls[i]? = some (.val (jcv ad v))
theorem jnth_get : ∀ {L : List jV} {i : Nat} {v : jV}, jnth L i = v → v ≠ vU → L[i]? = some v
  | [], _, _, h, hv => absurd h.symm hv
  | _ :: _, 0, _, h, _ => by cases h; rfl
  | _ :: l, n + 1, _, h, hv => by
    rw [List.getElem?_cons_succ]
    exact jnth_get (L := l) h hv
theorem jget_nth : ∀ {L : List jV} {i : Nat} {v : jV}, L[i]? = some v → jnth L i = v
  | [], _, _, h => by simp at h
  | _ :: _, 0, _, h => by cases h; rfl
  | _ :: l, n + 1, _, h => by
    rw [List.getElem?_cons_succ] at h
    exact jget_nth (L := l) h
theorem jset_len : ∀ (L : List jV) (i : Nat) (v : jV), (jset L i v).length = L.length
  | [], _, _ => rfl
  | _ :: _, 0, _ => rfl
  | _ :: l, n + 1, v => by simp [jset, jset_len l n v]
theorem jset_get : ∀ (L : List jV) (i : Nat) (v : jV) (j : Nat) (w : jV), (jset L i v)[j]? = some w → (j = i ∧ w = v) ∨ (j ≠ i ∧ L[j]? = some w)
  | [], _, _, _, _, h => by simp [jset] at h
  | a :: l, 0, v, 0, w, h => by simp [jset] at h; exact Or.inl ⟨rfl, h.symm⟩
  | a :: l, 0, v, j + 1, w, h => by simp [jset] at h; exact Or.inr ⟨by omega, by simpa using h⟩
  | a :: l, n + 1, v, 0, w, h => by simp [jset] at h; exact Or.inr ⟨by omega, by simpa using h⟩
  | a :: l, n + 1, v, j + 1, w, h => by
    simp only [jset, List.getElem?_cons_succ] at h
    rcases jset_get l n v j w h with ⟨h1, h2⟩ | ⟨h1, h2⟩
    · exact Or.inl ⟨by omega, h2⟩
    · exact Or.inr ⟨by omega, by simpa using h2⟩
theorem jset_mem {L : List jV} {i : Nat} {v w : jV} (h : w ∈ jset L i v) : w = v ∨ w ∈ L := by
  obtain ⟨j, hj⟩ := List.getElem?_of_mem h
  rcases jset_get L i v j w hj with ⟨-, h2⟩ | ⟨-, h2⟩
  · exact Or.inl h2
  · exact Or.inr (List.mem_of_getElem? h2)
theorem jkill_len : ∀ (is : List Nat) (L : List jV), (jkill is L).length = L.length
  | [], _ => rfl
  | i :: is, L => by rw [jkill, jkill_len is, jset_len]
theorem jL_set {ad : Nat → Int → Nat} {L : List jV} {ls : Array Slot} (i : Nat) (h : jL ad L ls) : jL ad (jset L i vU) ls := by
  refine ⟨by rw [jset_len]; exact h.1, h.2.1, fun j v hj hv => ?_⟩
  rcases jset_get L i vU j v hj with ⟨-, h2⟩ | ⟨-, h2⟩
  · exact absurd h2 hv
  · exact h.2.2 j v h2 hv
theorem jL_kill {ad : Nat → Int → Nat} : ∀ (is : List Nat) {L : List jV} {ls : Array Slot}, jL ad L ls → jL ad (jkill is L) ls
  | [], _, _, h => h
  | i :: is, _, _, h => jL_kill is (jL_set i h)
theorem jok_vU : jokV vU := trivial
theorem jokL_set {L : List jV} {i : Nat} {v : jV} (h : jokL L) (hv : jokV v) : jokL (jset L i v) := fun w hw => by
  rcases jset_mem hw with e | e
  · rw [e]; exact hv
  · exact h w e
theorem jokL_kill : ∀ (is : List Nat) {L : List jV}, jokL L → jokL (jkill is L)
  | [], _, h => h
  | _ :: is, _, h => jokL_kill is (jokL_set h jok_vU)
theorem jinv_len (L : List jV) (i : Nat) : (jinv L i).length = L.length := by
  unfold jinv
  split
  · rfl
  · split
    · rw [jset_len]
    · rfl
theorem jokL_inv {L : List jV} (i : Nat) (h : jokL L) : jokL (jinv L i) := by
  unfold jinv
  split
  · exact h
  · split
    · exact jokL_set h jok_vU
    · exact h
theorem jinv_get {L : List jV} {i j : Nat} {v : jV} (h : (jinv L i)[j]? = some v) (hv : v ≠ vU) : L[j]? = some v ∧ ¬ (j + 1 = i ∧ jcat v = 2) := by
  unfold jinv at h
  split at h
  · exact ⟨h, fun e => by omega⟩
  · rename_i n
    split at h
    · rename_i x hx
      rcases jset_get L n vU j v h with ⟨-, h2⟩ | ⟨h1, h2⟩
      · exact absurd h2 hv
      · exact ⟨h2, fun e => by omega⟩
    · rename_i hx
      refine ⟨h, fun e => ?_⟩
      have e1 : j = n := by omega
      subst e1
      have := jget_nth h
      obtain ⟨-, hc⟩ := e
      match v, hc with
      | .inr (.inl x), _ => exact hx x this
theorem jcat_cv (ad : Nat → Int → Nat) (v : jV) : (jcv ad v).category = jcat v := by
  match v with
  | .inl x => rfl
  | .inr (.inl x) => rfl
  | .inr (.inr (.inl (f, none))) => rfl
  | .inr (.inr (.inl (f, some i))) => rfl
  | .inr (.inr (.inr u)) => rfl
def jlv (ad : Nat → Int → Nat) (L : List jV) : List (Nat × Value) := (List.range L.length).filterMap fun i => match jnth L i with
  | .inr (.inr (.inr _)) => none
  | v => some (i, jcv ad v)
theorem jlv_mem {ad : Nat → Int → Nat} {L : List jV} {i : Nat} {v : jV} (h : L[i]? = some v) (hv : v ≠ vU) : (i, jcv ad v) ∈ jlv ad L := by
  refine List.mem_filterMap.mpr ⟨i, List.mem_range.mpr (List.getElem?_eq_some_iff.mp h).1, ?_⟩
  rw [jget_nth h]
  match v, hv with
  | .inl x, _ => rfl
  | .inr (.inl x), _ => rfl
  | .inr (.inr (.inl q)), _ => rfl
  | .inr (.inr (.inr u)), hv => exact absurd rfl hv
theorem jlv_of {ad : Nat → Int → Nat} {L : List jV} {q : Nat × Value} (h : q ∈ jlv ad L) : ∃ v, L[q.1]? = some v ∧ v ≠ vU ∧ q.2 = jcv ad v := by
  obtain ⟨i, hi, hq⟩ := List.mem_filterMap.mp h
  have hl := List.mem_range.mp hi
  have e : L[i]? = some L[i] := List.getElem?_eq_getElem hl
  have e2 := jget_nth e
  rw [e2] at hq
  generalize L[i] = v at e hq
  match v, hq with
  | .inl x, hq => cases hq; exact ⟨_, e, (fun z => by cases z), rfl⟩
  | .inr (.inl x), hq => cases hq; exact ⟨_, e, (fun z => by cases z), rfl⟩
  | .inr (.inr (.inl w)), hq => cases hq; exact ⟨_, e, (fun z => by cases z), rfl⟩
theorem jL_has {ad : Nat → Int → Nat} {L : List jV} {ls : Array Slot} (h : jL ad L ls) : lv_has ls L.length (jlv ad L) := by
  refine ⟨h.1, h.2.1, fun q hq => ?_⟩
  obtain ⟨v, h1, h2, h3⟩ := jlv_of hq
  rw [h3]
  exact h.2.2 q.1 v h1 h2
theorem jL_st1 {ad : Nat → Int → Nat} {L : List jV} {ls' : Array Slot} {i : Nat} {v : jV} (h : lv_has ls' L.length ((i, jcv ad v) :: (jlv ad L).filter (fun q => !(q.1 == i) && !(q.1 + 1 == i && q.2.category == 2)))) : jL ad (jset (jinv L i) i v) ls' := by
  refine ⟨by rw [jset_len, jinv_len]; exact h.1, h.2.1, fun j w hj hw => ?_⟩
  rcases jset_get _ i v j w hj with ⟨h1, h2⟩ | ⟨h1, h2⟩
  · rw [h1, h2]
    exact h.2.2 (i, jcv ad v) List.mem_cons_self
  · obtain ⟨h3, h4⟩ := jinv_get h2 hw
    refine h.2.2 (j, jcv ad w) (List.mem_cons_of_mem _ (List.mem_filter.mpr ⟨jlv_mem h3 hw, ?_⟩))
    rw [jcat_cv]
    simp only [Bool.and_eq_true, Bool.not_eq_true', beq_eq_false_iff_ne, ne_eq, Bool.and_eq_false_imp, beq_iff_eq]
    exact ⟨h1, fun e1 e2 => h4 ⟨e1, e2⟩⟩
theorem jL_st2 {ad : Nat → Int → Nat} {L : List jV} {ls' : Array Slot} {i : Nat} {v : jV} (h : lv_has ls' L.length ((i, jcv ad v) :: (jlv ad L).filter (fun q => !(q.1 == i) && (!(q.1 == i + 1) && !(q.1 + 1 == i && q.2.category == 2))))) : jL ad (jset (jset (jinv L i) i v) (i + 1) vU) ls' := by
  refine ⟨by rw [jset_len, jset_len, jinv_len]; exact h.1, h.2.1, fun j w hj hw => ?_⟩
  rcases jset_get _ (i + 1) vU j w hj with ⟨h1, h2⟩ | ⟨h0, h2⟩
  · exact absurd h2 hw
  rcases jset_get _ i v j w h2 with ⟨h1, h2⟩ | ⟨h1, h2⟩
  · rw [h1, h2]
    exact h.2.2 (i, jcv ad v) List.mem_cons_self
  · obtain ⟨h3, h4⟩ := jinv_get h2 hw
    refine h.2.2 (j, jcv ad w) (List.mem_cons_of_mem _ (List.mem_filter.mpr ⟨jlv_mem h3 hw, ?_⟩))
    rw [jcat_cv]
    simp only [Bool.and_eq_true, Bool.not_eq_true', beq_eq_false_iff_ne, ne_eq, Bool.and_eq_false_imp, beq_iff_eq]
    exact ⟨h1, h0, fun e1 e2 => h4 ⟨e1, e2⟩⟩
theorem jokL_c {v : jV} {t : List jV} (h : jokL (v :: t)) : jokV v ∧ jokL t := ⟨h v List.mem_cons_self, fun w hw => h w (List.mem_cons_of_mem _ hw)⟩
theorem jokL_k {v : jV} {t : List jV} (hv : jokV v) (h : jokL t) : jokL (v :: t) := fun w hw => by
  rcases List.mem_cons.mp hw with e | e
  · rw [e]; exact hv
  · exact h w e
theorem jokL_nth {L : List jV} {i : Nat} {v : jV} (h : jokL L) (e : jnth L i = v) (hv : v ≠ vU) : jokV v := h v (List.mem_of_getElem? (jnth_get e hv))
theorem jsum_cv (ad : Nat → Int → Nat) : ∀ st : List jV, ((st.map (jcv ad)).map fun v => v.category).sum = jsum st
  | [] => rfl
  | v :: t => by
    simp only [List.map_cons, List.sum_cons, jsum]
    rw [jcat_cv, jsum_cv ad t]
