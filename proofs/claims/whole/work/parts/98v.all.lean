/-! All that is owed of the methods -/
def lP1 (n zE zM : Nat) : Prop := ∀ as : List Int, as.length = n → (∀ x ∈ as, jokI x) → ∀ mem, pInv mem → jokM mem → ∃ r mem1, jSem 60 zE (vR 10 (some 0) :: as.map vI) mem = some (vI r, mem1) ∧ (jokM mem1 → ∃ mem2, jSem 60 zM (vR 11 (some 0) :: as.map vI) mem1 = some (vI r, mem2) ∧ pInv mem2)
theorem lP_0 {zE zM : Nat} {e m : jMem → jR} (hp : pCase (e) (m)) (he : ∀ mem, jSem 60 zE [vR 10 (some 0)] mem = e mem) (hm : ∀ mem, jSem 60 zM [vR 11 (some 0)] mem = m mem) : lP1 0 zE zM := by
  intro as hl hok mem hi hM
  have e0 : as = [] := List.length_eq_zero_iff.mp hl
  subst e0
  obtain ⟨r, mem1, h1, h2⟩ := hp mem hi hM
  refine ⟨r, mem1, (he mem).trans h1, fun w => ?_⟩
  obtain ⟨mem2, h3, h4⟩ := h2 w
  exact ⟨mem2, (hm mem1).trans h3, h4⟩
theorem lP_1 {zE zM : Nat} {e m : Int → jMem → jR} (hp : ∀ a1 : Int, pCase (e a1) (m a1)) (he : ∀ a1 mem, jSem 60 zE [vR 10 (some 0), vI a1] mem = e a1 mem) (hm : ∀ a1 mem, jSem 60 zM [vR 11 (some 0), vI a1] mem = m a1 mem) : lP1 1 zE zM := by
  intro as hl hok mem hi hM
  have e0 : ∃ a1 : Int, as = [a1] := by
    match as, hl with
    | [a1], _ => exact ⟨a1, rfl⟩
  obtain ⟨a1, rfl⟩ := e0
  obtain ⟨r, mem1, h1, h2⟩ := hp a1 mem hi hM
  refine ⟨r, mem1, (he a1 mem).trans h1, fun w => ?_⟩
  obtain ⟨mem2, h3, h4⟩ := h2 w
  exact ⟨mem2, (hm a1 mem1).trans h3, h4⟩
theorem lP_2 {zE zM : Nat} {e m : Int → Int → jMem → jR} (hp : ∀ a1 a2 : Int, pCase (e a1 a2) (m a1 a2)) (he : ∀ a1 a2 mem, jSem 60 zE [vR 10 (some 0), vI a1, vI a2] mem = e a1 a2 mem) (hm : ∀ a1 a2 mem, jSem 60 zM [vR 11 (some 0), vI a1, vI a2] mem = m a1 a2 mem) : lP1 2 zE zM := by
  intro as hl hok mem hi hM
  have e0 : ∃ a1 a2 : Int, as = [a1, a2] := by
    match as, hl with
    | [a1, a2], _ => exact ⟨a1, a2, rfl⟩
  obtain ⟨a1, a2, rfl⟩ := e0
  obtain ⟨r, mem1, h1, h2⟩ := hp a1 a2 mem hi hM
  refine ⟨r, mem1, (he a1 a2 mem).trans h1, fun w => ?_⟩
  obtain ⟨mem2, h3, h4⟩ := h2 w
  exact ⟨mem2, (hm a1 a2 mem1).trans h3, h4⟩
theorem lP_3 {zE zM : Nat} {e m : Int → Int → Int → jMem → jR} (hp : ∀ a1 a2 a3 : Int, pCase (e a1 a2 a3) (m a1 a2 a3)) (he : ∀ a1 a2 a3 mem, jSem 60 zE [vR 10 (some 0), vI a1, vI a2, vI a3] mem = e a1 a2 a3 mem) (hm : ∀ a1 a2 a3 mem, jSem 60 zM [vR 11 (some 0), vI a1, vI a2, vI a3] mem = m a1 a2 a3 mem) : lP1 3 zE zM := by
  intro as hl hok mem hi hM
  have e0 : ∃ a1 a2 a3 : Int, as = [a1, a2, a3] := by
    match as, hl with
    | [a1, a2, a3], _ => exact ⟨a1, a2, a3, rfl⟩
  obtain ⟨a1, a2, a3, rfl⟩ := e0
  obtain ⟨r, mem1, h1, h2⟩ := hp a1 a2 a3 mem hi hM
  refine ⟨r, mem1, (he a1 a2 a3 mem).trans h1, fun w => ?_⟩
  obtain ⟨mem2, h3, h4⟩ := h2 w
  exact ⟨mem2, (hm a1 a2 a3 mem1).trans h3, h4⟩
theorem lP_4 {zE zM : Nat} {e m : Int → Int → Int → Int → jMem → jR} (hp : ∀ a1 a2 a3 a4 : Int, pCase (e a1 a2 a3 a4) (m a1 a2 a3 a4)) (he : ∀ a1 a2 a3 a4 mem, jSem 60 zE [vR 10 (some 0), vI a1, vI a2, vI a3, vI a4] mem = e a1 a2 a3 a4 mem) (hm : ∀ a1 a2 a3 a4 mem, jSem 60 zM [vR 11 (some 0), vI a1, vI a2, vI a3, vI a4] mem = m a1 a2 a3 a4 mem) : lP1 4 zE zM := by
  intro as hl hok mem hi hM
  have e0 : ∃ a1 a2 a3 a4 : Int, as = [a1, a2, a3, a4] := by
    match as, hl with
    | [a1, a2, a3, a4], _ => exact ⟨a1, a2, a3, a4, rfl⟩
  obtain ⟨a1, a2, a3, a4, rfl⟩ := e0
  obtain ⟨r, mem1, h1, h2⟩ := hp a1 a2 a3 a4 mem hi hM
  refine ⟨r, mem1, (he a1 a2 a3 a4 mem).trans h1, fun w => ?_⟩
  obtain ⟨mem2, h3, h4⟩ := h2 w
  exact ⟨mem2, (hm a1 a2 a3 a4 mem1).trans h3, h4⟩
theorem lP_5 {zE zM : Nat} {e m : Int → Int → Int → Int → Int → jMem → jR} (hp : ∀ a1 a2 a3 a4 a5 : Int, pCase (e a1 a2 a3 a4 a5) (m a1 a2 a3 a4 a5)) (he : ∀ a1 a2 a3 a4 a5 mem, jSem 60 zE [vR 10 (some 0), vI a1, vI a2, vI a3, vI a4, vI a5] mem = e a1 a2 a3 a4 a5 mem) (hm : ∀ a1 a2 a3 a4 a5 mem, jSem 60 zM [vR 11 (some 0), vI a1, vI a2, vI a3, vI a4, vI a5] mem = m a1 a2 a3 a4 a5 mem) : lP1 5 zE zM := by
  intro as hl hok mem hi hM
  have e0 : ∃ a1 a2 a3 a4 a5 : Int, as = [a1, a2, a3, a4, a5] := by
    match as, hl with
    | [a1, a2, a3, a4, a5], _ => exact ⟨a1, a2, a3, a4, a5, rfl⟩
  obtain ⟨a1, a2, a3, a4, a5, rfl⟩ := e0
  obtain ⟨r, mem1, h1, h2⟩ := hp a1 a2 a3 a4 a5 mem hi hM
  refine ⟨r, mem1, (he a1 a2 a3 a4 a5 mem).trans h1, fun w => ?_⟩
  obtain ⟨mem2, h3, h4⟩ := h2 w
  exact ⟨mem2, (hm a1 a2 a3 a4 a5 mem1).trans h3, h4⟩
theorem pure_all : ∀ q ∈ ltab, lP1 q.2.1 q.2.2.2.1 q.2.2.2.2.2.2.1 := by
  unfold ltab
  refine List.forall_mem_cons.mpr ⟨lP_5 p_feed (fun _ _ _ _ _ _ => rfl) (fun _ _ _ _ _ _ => rfl), ?_⟩
  refine List.forall_mem_cons.mpr ⟨lP_1 p_end (fun _ _ => rfl) (fun _ _ => rfl), ?_⟩
  refine List.forall_mem_cons.mpr ⟨lP_0 p_river (fun _ => rfl) (fun _ => rfl), ?_⟩
  refine List.forall_mem_cons.mpr ⟨lP_0 p_rule (fun _ => rfl) (fun _ => rfl), ?_⟩
  refine List.forall_mem_cons.mpr ⟨lP_1 p_force (fun _ _ => rfl) (fun _ _ => rfl), ?_⟩
  refine List.forall_mem_cons.mpr ⟨lP_2 p_memory (fun _ _ _ => rfl) (fun _ _ _ => rfl), ?_⟩
  refine List.forall_mem_cons.mpr ⟨lP_2 p_trap (fun _ _ _ => rfl) (fun _ _ _ => rfl), ?_⟩
  refine List.forall_mem_cons.mpr ⟨lP_1 p_person (fun _ _ => rfl) (fun _ _ => rfl), ?_⟩
  refine List.forall_mem_cons.mpr ⟨lP_1 p_moon (fun _ _ => rfl) (fun _ _ => rfl), ?_⟩
  refine List.forall_mem_cons.mpr ⟨lP_0 p_night (fun _ => rfl) (fun _ => rfl), ?_⟩
  refine List.forall_mem_cons.mpr ⟨lP_1 p_lift (fun _ _ => rfl) (fun _ _ => rfl), ?_⟩
  refine List.forall_mem_cons.mpr ⟨lP_3 p_sink (fun _ _ _ _ => rfl) (fun _ _ _ _ => rfl), ?_⟩
  refine List.forall_mem_cons.mpr ⟨lP_2 p_free (fun _ _ _ => rfl) (fun _ _ _ => rfl), ?_⟩
  refine List.forall_mem_cons.mpr ⟨lP_2 p_give (fun _ _ _ => rfl) (fun _ _ _ => rfl), ?_⟩
  refine List.forall_mem_cons.mpr ⟨lP_0 p_undo (fun _ => rfl) (fun _ => rfl), ?_⟩
  refine List.forall_mem_cons.mpr ⟨lP_2 p_ahead (fun _ _ _ => rfl) (fun _ _ _ => rfl), ?_⟩
  refine List.forall_mem_cons.mpr ⟨lP_2 p_caught (fun _ _ _ => rfl) (fun _ _ _ => rfl), ?_⟩
  refine List.forall_mem_cons.mpr ⟨lP_1 p_atSea (fun _ _ => rfl) (fun _ _ => rfl), ?_⟩
  refine List.forall_mem_cons.mpr ⟨lP_0 p_full (fun _ => rfl) (fun _ => rfl), ?_⟩
  refine List.forall_mem_cons.mpr ⟨lP_3 p_bestSink (fun _ _ _ _ => rfl) (fun _ _ _ _ => rfl), ?_⟩
  refine List.forall_mem_cons.mpr ⟨lP_4 p_lay (fun _ _ _ _ _ => rfl) (fun _ _ _ _ _ => rfl), ?_⟩
  refine List.forall_mem_cons.mpr ⟨lP_2 p_throats (fun _ _ _ => rfl) (fun _ _ _ => rfl), ?_⟩
  refine List.forall_mem_cons.mpr ⟨lP_0 p_astray (fun _ => rfl) (fun _ => rfl), ?_⟩
  refine List.forall_mem_cons.mpr ⟨lP_1 p_rings (fun _ _ => rfl) (fun _ _ => rfl), ?_⟩
  refine List.forall_mem_cons.mpr ⟨lP_1 p_right (fun _ _ => rfl) (fun _ _ => rfl), ?_⟩
  refine List.forall_mem_cons.mpr ⟨lP_1 p_of (fun _ _ => rfl) (fun _ _ => rfl), ?_⟩
  refine List.forall_mem_cons.mpr ⟨lP_4 p_rests (fun _ _ _ _ _ => rfl) (fun _ _ _ _ _ => rfl), ?_⟩
  refine List.forall_mem_cons.mpr ⟨lP_1 p_cycle (fun _ _ => rfl) (fun _ _ => rfl), ?_⟩
  refine List.forall_mem_cons.mpr ⟨lP_2 p_pence (fun _ _ _ => rfl) (fun _ _ _ => rfl), ?_⟩
  refine List.forall_mem_cons.mpr ⟨lP_3 p_note (fun _ _ _ _ => rfl) (fun _ _ _ _ => rfl), ?_⟩
  refine List.forall_mem_cons.mpr ⟨lP_1 p_ruled (fun _ _ => rfl) (fun _ _ => rfl), ?_⟩
  refine List.forall_mem_cons.mpr ⟨lP_2 p_look (fun _ _ _ => rfl) (fun _ _ _ => rfl), ?_⟩
  refine List.forall_mem_cons.mpr ⟨lP_1 p_seed (fun _ _ => rfl) (fun _ _ => rfl), ?_⟩
  refine List.forall_mem_cons.mpr ⟨lP_4 p_moons (fun _ _ _ _ _ => rfl) (fun _ _ _ _ _ => rfl), ?_⟩
  refine List.forall_mem_cons.mpr ⟨lP_1 p_count (fun _ _ => rfl) (fun _ _ => rfl), ?_⟩
  refine List.forall_mem_cons.mpr ⟨lP_1 p_image (fun _ _ => rfl) (fun _ _ => rfl), ?_⟩
  refine List.forall_mem_cons.mpr ⟨lP_1 p_back (fun _ _ => rfl) (fun _ _ => rfl), ?_⟩
  exact fun q hq => by cases hq
theorem pure_hyp : lHyp pInv := fun q hq as hl hok mem hi hM => pure_all q hq as hl hok mem hi hM
