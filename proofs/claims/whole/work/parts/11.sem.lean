/-! One step takes just one way on; so runs have limits, and these satisfy the step's equation. -/
def jLin (F : jKf → (Nat → jKf) → jR) : Prop := (∃ r, ∀ kf kj, F kf kj = r) ∨ (∃ ls st mem, ∀ kf kj, F kf kj = kf ls st mem) ∨ (∃ t ls st mem, ∀ kf kj, F kf kj = kj t ls st mem)
theorem jl_c (r : jR) : jLin (fun _ _ => r) := Or.inl ⟨r, fun _ _ => rfl⟩
theorem jl_f (ls st : List jV) (mem : jMem) : jLin (fun kf _ => kf ls st mem) := Or.inr (Or.inl ⟨ls, st, mem, fun _ _ => rfl⟩)
theorem jl_j (t : Nat) (ls st : List jV) (mem : jMem) : jLin (fun _ kj => kj t ls st mem) := Or.inr (Or.inr ⟨t, ls, st, mem, fun _ _ => rfl⟩)
theorem jl_ite {c : Prop} {F G : jKf → (Nat → jKf) → jR} (d : Decidable c) (hF : jLin F) (hG : jLin G) : jLin (fun kf kj => @ite _ c d (F kf kj) (G kf kj)) := by
  by_cases h : c
  · simpa [h] using hF
  · simpa [h] using hG
theorem jl_cond {b : Bool} {F G : jKf → (Nat → jKf) → jR} (hF : jLin F) (hG : jLin G) : jLin (fun kf kj => bif b then F kf kj else G kf kj) := by
  cases b
  · exact hG
  · exact hF
theorem jl_sm {o : Option Int} {F : Int → jKf → (Nat → jKf) → jR} (h : ∀ i, jLin (F i)) : jLin (fun kf kj => jsm o fun i => F i kf kj) := by
  cases o with
  | none => exact jl_c none
  | some i => exact h i
theorem jl_nl {o : Option Int} {F G : jKf → (Nat → jKf) → jR} (hF : jLin F) (hG : jLin G) : jLin (fun kf kj => jnl o (F kf kj) (G kf kj)) := by
  cases o with
  | none => exact hF
  | some i => exact hG
theorem jl_pI {st : List jV} {F : Int → List jV → jKf → (Nat → jKf) → jR} (h : ∀ x s, jLin (F x s)) : jLin (fun kf kj => jpI st fun x s => F x s kf kj) := by
  unfold jpI
  split
  · exact h _ _
  · exact jl_c none
theorem jl_pJ {st : List jV} {F : Int → List jV → jKf → (Nat → jKf) → jR} (h : ∀ x s, jLin (F x s)) : jLin (fun kf kj => jpJ st fun x s => F x s kf kj) := by
  unfold jpJ
  split
  · exact h _ _
  · exact jl_c none
theorem jl_pR {f : Nat} {st : List jV} {F : Option Int → List jV → jKf → (Nat → jKf) → jR} (h : ∀ x s, jLin (F x s)) : jLin (fun kf kj => jpR f st fun x s => F x s kf kj) := by
  unfold jpR
  split
  · exact jl_cond (h _ _) (jl_c none)
  · exact jl_c none
theorem jl_pD {f : Nat} {st : List jV} {F : Int → List jV → jKf → (Nat → jKf) → jR} (h : ∀ x s, jLin (F x s)) : jLin (fun kf kj => jpD f st fun x s => F x s kf kj) :=
  jl_pR fun _ s => jl_sm fun i => h i s
theorem jl_ix {n : Nat} {x : Int} {F : jKf → (Nat → jKf) → jR} (h : jLin F) : jLin (fun kf kj => jix n x (F kf kj)) := by
  cases x with
  | ofNat j => exact jl_cond h (jl_c none)
  | negSucc j => exact jl_c none
theorem jl_bo {v : Int} {F : jKf → (Nat → jKf) → jR} (h : jLin F) : jLin (fun kf kj => jbo v (F kf kj)) := by
  cases v with
  | ofNat j => exact jl_cond h (jl_c none)
  | negSucc j => exact jl_c none
theorem jl_nz {v : Int} {F : jKf → (Nat → jKf) → jR} (h : jLin F) : jLin (fun kf kj => jnz v (F kf kj)) := by
  cases v with
  | ofNat j => exact jl_cond h (jl_c none)
  | negSucc j => exact h
theorem jl_bnd {r : jR} {F : jV → jMem → jKf → (Nat → jKf) → jR} (h : ∀ v m, jLin (F v m)) : jLin (fun kf kj => jbnd r fun v m => F v m kf kj) := by
  cases r with
  | none => exact jl_c none
  | some q => exact h _ _
theorem jl_recv {rv : Nat} {as : List jV} {F : jKf → (Nat → jKf) → jR} (h : jLin F) : jLin (fun kf kj => jrecv rv as (F kf kj)) := by
  unfold jrecv
  split
  · exact h
  · split
    · exact jl_cond (jl_sm fun _ => h) (jl_c none)
    · exact jl_c none
theorem jl_b1 {st : List jV} {F : Int → Int → List jV → jKf → (Nat → jKf) → jR} (h : ∀ x y s, jLin (F x y s)) : jLin (fun kf kj => jb1 st fun x y s => F x y s kf kj) := jl_pI fun _ _ => jl_pI fun _ _ => h _ _ _
theorem jl_b2 {st : List jV} {F : Int → Int → List jV → jKf → (Nat → jKf) → jR} (h : ∀ x y s, jLin (F x y s)) : jLin (fun kf kj => jb2 st fun x y s => F x y s kf kj) := jl_pJ fun _ _ => jl_pJ fun _ _ => h _ _ _
theorem jl_cd {c : Jvm.ClassFile.Cond} {x y : Int} {F G : jKf → (Nat → jKf) → jR} (hF : jLin F) (hG : jLin G) : jLin (fun kf kj => jcond c x y (F kf kj) (G kf kj)) := by
  cases c
  · exact jl_ite _ hF hG
  · exact jl_ite _ hG hF
  · exact jl_ite _ hF hG
  · exact jl_ite _ hG hF
  · exact jl_ite _ hF hG
  · exact jl_ite _ hG hF
theorem jl_swi {x : Int} {ls st : List jV} {mem : jMem} {d : Nat} : ∀ l : List Nat, jLin (fun _ kj => jswi x (kj d ls st mem) (fun t => kj t ls st mem) l)
  | [] => jl_j _ _ _ _
  | [_] => jl_j _ _ _ _
  | _ :: _ :: l => jl_ite _ (jl_j _ _ _ _) (jl_swi l)
theorem jsetK_eq : ∀ (ls : List jV) (i : Nat) (v : jV) (k : List jV → jR), jsetK ls i v k = k (jset ls i v)
  | [], _, _, _ => rfl
  | _ :: _, 0, _, _ => rfl
  | _ :: l, n + 1, v, k => by
    unfold jsetK jset
    rw [jsetK_eq l n v]
theorem jkillK_eq : ∀ (is : List Nat) (ls : List jV) (k : List jV → jR), jkillK is ls k = k (jkill is ls)
  | [], _, _ => rfl
  | i :: is, ls, k => by
    unfold jkillK jkill
    rw [jsetK_eq, jkillK_eq is]
theorem jinvK_eq (ls : List jV) (i : Nat) (k : List jV → jR) : jinvK ls i k = k (jinv ls i) := by
  unfold jinvK jinv
  split
  · rfl
  · split
    · rw [jsetK_eq]
    · rfl
theorem jst1_eq (ls : List jV) (i : Nat) (v : jV) (k : List jV → jR) : jst1 ls i v k = k (jset (jinv ls i) i v) := by
  unfold jst1
  rw [jinvK_eq, jsetK_eq]
theorem jst2_eq (ls : List jV) (i : Nat) (v : jV) (k : List jV → jR) : jst2 ls i v k = k (jset (jset (jinv ls i) i v) (i + 1) vU) := by
  unfold jst2
  rw [jinvK_eq, jsetK_eq, jsetK_eq]
theorem jl_st1 {ls : List jV} {i : Nat} {v : jV} {F : List jV → jKf → (Nat → jKf) → jR} (h : ∀ l, jLin (F l)) : jLin (fun kf kj => jst1 ls i v fun l => F l kf kj) := by
  simp only [jst1_eq]
  exact h _
theorem jl_st2 {ls : List jV} {i : Nat} {v : jV} {F : List jV → jKf → (Nat → jKf) → jR} (h : ∀ l, jLin (F l)) : jLin (fun kf kj => jst2 ls i v fun l => F l kf kj) := by
  simp only [jst2_eq]
  exact h _
theorem jl_invoke (aux : List Nat) (ls st : List jV) (mem : jMem) (call : jCall) : jLin (fun kf _ => jinvoke aux ls st mem call kf) := by
  unfold jinvoke
  split
  · split
    · exact jl_cond (jl_recv (jl_bnd fun _ _ => jl_f _ _ _)) (jl_c none)
    · exact jl_c none
  · exact jl_c none
theorem jl_copy (aux : List Nat) (ls st : List jV) (mem : jMem) : jLin (fun kf _ => jcopy aux ls st mem kf) := by
  unfold jcopy
  split
  · exact jl_pI fun _ _ => jl_pI fun _ _ => jl_pD fun _ _ => jl_pI fun _ _ => jl_pD fun _ _ => jl_ite _ (jl_cond (jl_f _ _ _) (jl_c none)) (jl_c none)
  · exact jl_c none
theorem jl_getf (aux : List Nat) (ls st : List jV) (mem : jMem) : jLin (fun kf _ => jgetf aux ls st mem kf) := by
  unfold jgetf
  split
  · exact jl_pD fun _ _ => jl_f _ _ _
  · exact jl_c none
theorem jl_putf (aux : List Nat) (ls st : List jV) (mem : jMem) : jLin (fun kf _ => jputf aux ls st mem kf) := by
  unfold jputf
  split
  · exact jl_pI fun _ _ => jl_pD fun _ _ => jl_f _ _ _
  · exact jl_pJ fun _ _ => jl_pD fun _ _ => jl_f _ _ _
  · exact jl_pR fun _ _ => jl_pD fun _ _ => jl_f _ _ _
  · exact jl_pI fun _ _ => jl_pD fun _ _ => jl_bo (jl_f _ _ _)
  · exact jl_c none
theorem jl_ald (J : Bool) (aux : List Nat) (ls st : List jV) (mem : jMem) : jLin (fun kf _ => jald J aux ls st mem kf) := by
  unfold jald
  split
  · exact jl_pI fun _ _ => jl_pD fun _ _ => jl_ix (jl_f _ _ _)
  · exact jl_c none
theorem jl_aald (aux : List Nat) (ls st : List jV) (mem : jMem) : jLin (fun kf _ => jaald aux ls st mem kf) := by
  unfold jaald
  split
  · exact jl_pI fun _ _ => jl_pD fun _ _ => jl_ix (jl_f _ _ _)
  · exact jl_pI fun _ _ => jl_pD fun _ _ => jl_ix (jl_f _ _ _)
  · exact jl_c none
theorem jl_ast (aux : List Nat) (ls st : List jV) (mem : jMem) : jLin (fun kf _ => jast aux ls st mem kf) := by
  unfold jast
  split
  · exact jl_pI fun _ _ => jl_pI fun _ _ => jl_pD fun _ _ => jl_ix (jl_f _ _ _)
  · exact jl_pJ fun _ _ => jl_pI fun _ _ => jl_pD fun _ _ => jl_ix (jl_f _ _ _)
  · exact jl_pI fun _ _ => jl_pI fun _ _ => jl_pD fun _ _ => jl_ix (jl_f _ _ _)
  · exact jl_pI fun _ _ => jl_pI fun _ _ => jl_pD fun _ _ => jl_ix (jl_bo (jl_f _ _ _))
  · exact jl_c none
set_option maxHeartbeats 4000000 in
theorem jl_step (ins : Instr) (aux : List Nat) (ls st : List jV) (mem : jMem) (call : jCall) : jLin (fun kf kj => jstep ins aux ls st mem call kf kj) := by
  cases ins <;> first
    | exact jl_c none
    | exact jl_f _ _ _
    | exact jl_getf _ _ _ _
    | exact jl_putf _ _ _ _
    | exact jl_ald _ _ _ _ _
    | exact jl_aald _ _ _ _
    | exact jl_ast _ _ _ _
    | exact jl_invoke _ _ _ _ _
    | exact jl_b1 fun _ _ _ => jl_f _ _ _
    | exact jl_b2 fun _ _ _ => jl_f _ _ _
    | exact jl_b1 fun _ _ _ => jl_nz (jl_f _ _ _)
    | exact jl_b2 fun _ _ _ => jl_nz (jl_f _ _ _)
    | exact jl_pI fun _ _ => jl_f _ _ _
    | exact jl_pI fun _ _ => jl_st1 fun _ => jl_f _ _ _
    | exact jl_pJ fun _ _ => jl_st2 fun _ => jl_f _ _ _
    | exact jl_pJ fun _ _ => jl_f _ _ _
    | exact jl_pI fun _ _ => jl_pJ fun _ _ => jl_f _ _ _
    | (dsimp only [jstep]; split <;> first
        | exact jl_c _
        | exact jl_f _ _ _
        | exact jl_st1 fun _ => jl_f _ _ _
        | exact jl_j _ _ _ _
        | exact jl_copy _ _ _ _
        | exact jl_invoke _ _ _ _ _
        | exact jl_bnd fun _ _ => jl_f _ _ _
        | exact jl_pD fun _ _ => jl_f _ _ _
        | exact jl_pI fun _ _ => jl_cd (jl_j _ _ _ _) (jl_f _ _ _)
        | exact jl_b1 fun _ _ _ => jl_cd (jl_j _ _ _ _) (jl_f _ _ _)
        | exact jl_pR fun _ _ => jl_nl (jl_j _ _ _ _) (jl_f _ _ _)
        | exact jl_pR fun _ _ => jl_nl (jl_f _ _ _) (jl_j _ _ _ _)
        | exact jl_pI fun _ _ => jl_swi _)
theorem jl_step3 (ins : Instr) (aux : List Nat) (ls st : List jV) (mem : jMem) (call : jCall) : (∃ r, ∀ kf kj, jstep ins aux ls st mem call kf kj = r) ∨ (∃ ls' st' mem', ∀ kf kj, jstep ins aux ls st mem call kf kj = kf ls' st' mem') ∨ (∃ t ls' st' mem', ∀ kf kj, jstep ins aux ls st mem call kf kj = kj t ls' st' mem') := jl_step ins aux ls st mem call
theorem jrun_s (cd : jCode) (call : jCall) (n pc : Nat) (ls st : List jV) (mem : jMem) : jrun cd call (n + 1) pc ls st mem = match jget cd pc with
    | none => none
    | some e => jstep e.1 e.2.2.1 ls st mem call (fun ls st mem => jkillK e.2.2.2.1 ls fun ls => jrun cd call n e.2.1 ls st mem) (fun t ls st mem => jkillK e.2.2.2.2 ls fun ls => jrun cd call n t ls st mem) := rfl
/-- more fuel, the same answer -/
theorem jrun_mono (cd : jCode) (call : jCall) : ∀ (n pc : Nat) (ls st : List jV) (mem : jMem) (r : jV × jMem), jrun cd call n pc ls st mem = some r → jrun cd call (n + 1) pc ls st mem = some r
  | 0, _, _, _, _, _, h => by cases h
  | n + 1, pc, ls, st, mem, r, h => by
    rw [jrun_s] at h ⊢
    cases he : jget cd pc with
    | none => rw [he] at h; cases h
    | some e =>
      rw [he] at h
      dsimp only at h ⊢
      rcases jl_step3 e.1 e.2.2.1 ls st mem call with ⟨x, hx⟩ | ⟨ls', st', mem', hx⟩ | ⟨t, ls', st', mem', hx⟩
      · rw [hx] at h ⊢
        exact h
      · rw [hx, jkillK_eq] at h ⊢
        exact jrun_mono cd call n _ _ _ _ _ h
      · rw [hx, jkillK_eq] at h ⊢
        exact jrun_mono cd call n _ _ _ _ _ h
theorem jrun_le (cd : jCode) (call : jCall) {n k pc : Nat} {ls st : List jV} {mem : jMem} {r : jV × jMem} (h : jrun cd call n pc ls st mem = some r) : jrun cd call (n + k) pc ls st mem = some r := by
  induction k with
  | zero => exact h
  | succ k ih => exact jrun_mono cd call _ _ _ _ _ _ ih
noncomputable def jlim (f : Nat → jR) : jR := (Classical.propDecidable (∃ n r, f n = some r)).casesOn (fun _ => none) (fun h => some (Classical.choose (Classical.choose_spec h)))
theorem jlim_of {f : Nat → jR} (hm : ∀ n r, f n = some r → f (n + 1) = some r) {n : Nat} {r : jV × jMem} (h : f n = some r) : jlim f = some r := by
  have hle : ∀ k n r, f n = some r → f (n + k) = some r := by
    intro k
    induction k with
    | zero => exact fun _ _ h => h
    | succ k ih => exact fun n r h => hm _ _ (ih n r h)
  unfold jlim
  cases Classical.propDecidable (∃ n r, f n = some r) with
  | isFalse q => exact absurd ⟨n, r, h⟩ q
  | isTrue q =>
    have h2 := Classical.choose_spec (Classical.choose_spec q)
    have h3 := hle n _ _ h2
    have h4 := hle (Classical.choose q) _ _ h
    rw [Nat.add_comm] at h4
    exact h3.symm.trans h4
theorem jlim_ex {f : Nat → jR} {r : jV × jMem} (h : jlim f = some r) : ∃ n, f n = some r := by
  unfold jlim at h
  cases hq : Classical.propDecidable (∃ n r, f n = some r) with
  | isFalse q => rw [hq] at h; cases h
  | isTrue q =>
    rw [hq] at h
    cases h
    exact ⟨_, Classical.choose_spec (Classical.choose_spec q)⟩
/-- the place's meaning, with the callees' meaning given -/
noncomputable def jAtC (cd : jCode) (call : jCall) (pc : Nat) (ls st : List jV) (mem : jMem) : jR := jlim fun n => jrun cd call n pc ls st mem
theorem jAt_step (cd : jCode) (call : jCall) (pc : Nat) (ls st : List jV) (mem : jMem) : jAtC cd call pc ls st mem = match jget cd pc with
    | none => none
    | some e => jstep e.1 e.2.2.1 ls st mem call (fun ls st mem => jkillK e.2.2.2.1 ls fun ls => jAtC cd call e.2.1 ls st mem) (fun t ls st mem => jkillK e.2.2.2.2 ls fun ls => jAtC cd call t ls st mem) := by
  have hm := jrun_mono cd call
  apply Option.ext
  intro r
  constructor
  · intro h
    obtain ⟨n, hn⟩ := jlim_ex h
    cases n with
    | zero => cases hn
    | succ n =>
      unfold jrun at hn
      split at hn
      · cases hn
      · rename_i e he
        simp only [he]
        rcases jl_step3 e.1 e.2.2.1 ls st mem call with ⟨x, hx⟩ | ⟨ls', st', mem', hx⟩ | ⟨t, ls', st', mem', hx⟩
        · rw [hx] at hn ⊢
          exact hn
        · rw [hx, jkillK_eq] at hn ⊢
          exact jlim_of (fun n r => hm n _ _ _ _ r) hn
        · rw [hx, jkillK_eq] at hn ⊢
          exact jlim_of (fun n r => hm n _ _ _ _ r) hn
  · intro h
    split at h
    · cases h
    · rename_i e he
      have key : ∀ n, jrun cd call (n + 1) pc ls st mem = jstep e.1 e.2.2.1 ls st mem call (fun ls st mem => jkillK e.2.2.2.1 ls fun ls => jrun cd call n e.2.1 ls st mem) (fun t ls st mem => jkillK e.2.2.2.2 ls fun ls => jrun cd call n t ls st mem) := by
        intro n
        conv => lhs; unfold jrun
        simp only [he]
      rcases jl_step3 e.1 e.2.2.1 ls st mem call with ⟨x, hx⟩ | ⟨ls', st', mem', hx⟩ | ⟨t, ls', st', mem', hx⟩
      · rw [hx] at h
        exact jlim_of (n := 1) (fun n r => hm n _ _ _ _ r) (by rw [key, hx]; exact h)
      · rw [hx, jkillK_eq] at h
        obtain ⟨n, hn⟩ := jlim_ex h
        exact jlim_of (n := n + 1) (fun n r => hm n _ _ _ _ r) (by rw [key, hx, jkillK_eq]; exact hn)
      · rw [hx, jkillK_eq] at h
        obtain ⟨n, hn⟩ := jlim_ex h
        exact jlim_of (n := n + 1) (fun n r => hm n _ _ _ _ r) (by rw [key, hx, jkillK_eq]; exact hn)
def jmem : List Nat → Nat → Bool
  | [], _ => false
  | a :: l, b => bif Nat.beq a b then true else jmem l b
/-- the code laid out from a place up to the cuts -/
noncomputable def jun (cd : jCode) (call : jCall) (cuts : List Nat) : Nat → Nat → List jV → List jV → jMem → jR
  | 0, pc, ls, st, mem => jAtC cd call pc ls st mem
  | n + 1, pc, ls, st, mem => bif jmem cuts pc then jAtC cd call pc ls st mem else match jget cd pc with
    | none => none
    | some e => jstep e.1 e.2.2.1 ls st mem call (fun ls st mem => jkillK e.2.2.2.1 ls fun ls => jun cd call cuts n e.2.1 ls st mem) (fun t ls st mem => jkillK e.2.2.2.2 ls fun ls => jun cd call cuts n t ls st mem)
theorem jun_eq (cd : jCode) (call : jCall) (cuts : List Nat) : ∀ (n pc : Nat) (ls st : List jV) (mem : jMem), jun cd call cuts n pc ls st mem = jAtC cd call pc ls st mem
  | 0, _, _, _, _ => rfl
  | n + 1, pc, ls, st, mem => by
    unfold jun
    cases jmem cuts pc with
    | true => rfl
    | false =>
      rw [jAt_step]
      simp only [cond_false]
      split
      · rfl
      · simp only [jun_eq cd call cuts n]
/-- from a cut on -/
noncomputable def jfrom (cd : jCode) (call : jCall) (cuts : List Nat) (n pc : Nat) (ls st : List jV) (mem : jMem) : jR := match jget cd pc with
    | none => none
    | some e => jstep e.1 e.2.2.1 ls st mem call (fun ls st mem => jkillK e.2.2.2.1 ls fun ls => jun cd call cuts n e.2.1 ls st mem) (fun t ls st mem => jkillK e.2.2.2.2 ls fun ls => jun cd call cuts n t ls st mem)
theorem jfrom_eq (cd : jCode) (call : jCall) (cuts : List Nat) (n pc : Nat) (ls st : List jV) (mem : jMem) : jAtC cd call pc ls st mem = jfrom cd call cuts n pc ls st mem := by
  rw [jAt_step]
  unfold jfrom
  split
  · rfl
  · simp only [jun_eq cd call cuts n]
