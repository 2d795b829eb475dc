/-! What both answer of a rule that was read -/
theorem cEv_s1 (c g env : Int → Int) (k : Nat) (i : Int) (st : List Int) : cEv c g env (k + 1) i st = (if c i = 6 ∨ c i = 7 then cEv c g env k (i + 1) (if st.length < 64 then (if c i = 6 then g i else env (g i)) :: st else st)
    else if c i = 8 then (match st with
      | a :: _ => a
      | [] => 0)
    else if c i = 3 then cEv c g env k (i + 1) (match st with
      | a :: t => jw64 (1 - a) :: t
      | [] => [])
    else match st with
      | b :: a :: t => if c i = 9 then (if b = 0 then cEv c g env k (i + 1) t else a) else cEv c g env k (i + 1) (cJoin (c i) a b :: t)
      | st => cEv c g env k (i + 1) st) := rfl
theorem mRk_s1 (sg env : Int → Int) (k : Nat) (i : Int) (st : List Int) : mRk sg env (k + 1) i st = (if jand (sg i) 15 = 0 then (if st.length < 64 then mRk sg env k (i + 1) (jshr (sg i) 4 :: st) else none)
    else if jand (sg i) 15 = 1 then (if st.length < 64 ∧ 0 ≤ jshr (sg i) 4 ∧ jshr (sg i) 4 < 12 then mRk sg env k (i + 1) (env (jshr (sg i) 4) :: st) else none)
    else if jand (sg i) 15 = 11 then (match st with
      | a :: t => if st.length ≤ 64 then mRk sg env k (i + 1) (jw64 (1 - a) :: t) else none
      | [] => none)
    else (match st with
      | b :: a :: t => mRk sg env k (i + 1) (mOne (jand (sg i) 15) a b :: t)
      | _ => none)) := rfl
theorem cEv_run {c g env : Int → Int} (k : Nat) : ∀ (X : List (Int × Int)) (p : Int) (st s : List Int), onL c g X p → (∀ x ∈ X, okT x) → sRn env X st = some s → cEv c g env (X.length + k) p st = cEv c g env k (p + (X.length : Int)) s := by
  intro X
  induction X with
  | nil =>
    intro p st s _ _ h
    have e : st = s := Option.some.inj h
    rw [e]
    show cEv c g env (0 + k) p s = cEv c g env k (p + ((0 : Nat) : Int)) s
    rw [Nat.zero_add, show p + ((0 : Nat) : Int) = p by omega]
  | cons x X ih =>
    intro p st s ho hk h
    obtain ⟨o1, o2, o3⟩ := ho
    have hx := hk x List.mem_cons_self
    have h' : (match sSt env x st with
      | some s => sRn env X s
      | none => none) = some s := h
    cases hs : sSt env x st with
    | none => rw [hs] at h'; cases h'
    | some s1 =>
      rw [hs] at h'
      have hI := ih (p + 1) s1 s o3 (fun y hy => hk y (List.mem_cons_of_mem _ hy)) h'
      rw [show (x :: X).length + k = (X.length + k) + 1 by rw [List.length_cons]; omega, show p + ((x :: X).length : Int) = p + 1 + (X.length : Int) by rw [List.length_cons]; omega]
      rw [← hI]
      rw [cEv_s1, o1, o2]
      unfold sSt at hs
      by_cases c67 : x.1 = 6 ∨ x.1 = 7
      · rw [if_pos c67] at hs ⊢
        by_cases hl : st.length < 64
        · rw [if_pos hl] at hs ⊢
          rw [Option.some.inj hs]
        · rw [if_neg hl] at hs
          cases hs
      rw [if_neg c67] at hs ⊢
      rw [if_neg (show ¬ x.1 = 8 by unfold okT at hx; omega)]
      by_cases c3 : x.1 = 3
      · rw [if_pos c3] at hs ⊢
        cases st with
        | nil => cases hs
        | cons a t =>
          have hs' : (if (a :: t).length ≤ 64 then some (jw64 (1 - a) :: t) else none) = some s1 := hs
          by_cases hl : (a :: t).length ≤ 64
          · rw [if_pos hl] at hs'
            rw [← Option.some.inj hs']
          · rw [if_neg hl] at hs'
            cases hs'
      rw [if_neg c3] at hs ⊢
      cases st with
      | nil => cases hs
      | cons e t =>
        cases t with
        | nil => cases hs
        | cons a t =>
          have hs' : some (cJoin x.1 a e :: t) = some s1 := hs
          rw [← Option.some.inj hs']
          show (if x.1 = 9 then _ else _) = _
          rw [if_neg (show ¬ x.1 = 9 by unfold okT at hx; omega)]
theorem mC_join {x : Int × Int} (h : okT x) (h67 : ¬ (x.1 = 6 ∨ x.1 = 7)) (h3 : ¬ x.1 = 3) (a e : Int) : mC x.1 ≠ 0 ∧ mC x.1 ≠ 1 ∧ mC x.1 ≠ 11 ∧ mOne (mC x.1) a e = cJoin x.1 a e := by
  have h' : x.1 = 43 ∨ x.1 = 45 ∨ x.1 = 42 ∨ x.1 = 47 ∨ x.1 = 37 ∨ x.1 = 60 ∨ x.1 = 1 ∨ x.1 = 61 ∨ x.1 = 2 ∨ x.1 = 62 ∨ x.1 = 4 ∨ x.1 = 5 := by
    unfold okT at h
    omega
  rcases h' with h | h | h | h | h | h | h | h | h | h | h | h <;> rw [h] <;> exact ⟨by decide, by decide, by decide, rfl⟩
theorem mRk_run {sg env : Int → Int} (k : Nat) : ∀ (X : List (Int × Int)) (p : Int) (st s : List Int), onM sg X p → (∀ x ∈ X, okT x) → sRn env X st = some s → mRk sg env (X.length + k) p st = mRk sg env k (p + (X.length : Int)) s := by
  intro X
  induction X with
  | nil =>
    intro p st s _ _ h
    have e : st = s := Option.some.inj h
    rw [e]
    show mRk sg env (0 + k) p s = mRk sg env k (p + ((0 : Nat) : Int)) s
    rw [Nat.zero_add, show p + ((0 : Nat) : Int) = p by omega]
  | cons x X ih =>
    intro p st s ho hk h
    obtain ⟨o1, o3⟩ := ho
    have hx := hk x List.mem_cons_self
    obtain ⟨e1, e2⟩ := enc_1 hx
    have h' : (match sSt env x st with
      | some s => sRn env X s
      | none => none) = some s := h
    cases hs : sSt env x st with
    | none => rw [hs] at h'; cases h'
    | some s1 =>
      rw [hs] at h'
      have hI := ih (p + 1) s1 s o3 (fun y hy => hk y (List.mem_cons_of_mem _ hy)) h'
      rw [show (x :: X).length + k = (X.length + k) + 1 by rw [List.length_cons]; omega, show p + ((x :: X).length : Int) = p + 1 + (X.length : Int) by rw [List.length_cons]; omega]
      rw [← hI]
      rw [mRk_s1, o1, e1, e2]
      unfold sSt at hs
      by_cases c6 : x.1 = 6
      · have hm : mC x.1 = 0 := by rw [c6]; rfl
        rw [if_pos (Or.inl c6), if_pos c6] at hs
        rw [if_pos hm]
        by_cases hl : st.length < 64
        · rw [if_pos hl] at hs ⊢
          rw [Option.some.inj hs]
        · rw [if_neg hl] at hs
          cases hs
      by_cases c7 : x.1 = 7
      · have hm : mC x.1 = 1 := by rw [c7]; rfl
        rw [if_pos (Or.inr c7), if_neg c6] at hs
        rw [hm, if_neg (by decide), if_pos rfl]
        by_cases hl : st.length < 64
        · rw [if_pos hl] at hs
          rw [if_pos (show st.length < 64 ∧ 0 ≤ x.2 ∧ x.2 < 12 from ⟨hl, by unfold okT at hx; omega, by unfold okT at hx; omega⟩), Option.some.inj hs]
        · rw [if_neg hl] at hs
          cases hs
      rw [if_neg (fun w => w.elim c6 c7)] at hs
      by_cases c3 : x.1 = 3
      · have hm : mC x.1 = 11 := by rw [c3]; rfl
        rw [if_pos c3] at hs
        rw [hm, if_neg (by decide), if_neg (by decide), if_pos rfl]
        cases st with
        | nil => cases hs
        | cons a t =>
          have hs' : (if (a :: t).length ≤ 64 then some (jw64 (1 - a) :: t) else none) = some s1 := hs
          by_cases hl : (a :: t).length ≤ 64
          · rw [if_pos hl] at hs'
            show (if (a :: t).length ≤ 64 then _ else _) = _
            rw [if_pos hl, ← Option.some.inj hs']
          · rw [if_neg hl] at hs'
            cases hs'
      rw [if_neg c3] at hs
      cases st with
      | nil => cases hs
      | cons e t =>
        cases t with
        | nil => cases hs
        | cons a t =>
          have hs' : some (cJoin x.1 a e :: t) = some s1 := hs
          obtain ⟨n0, n1, n11, nj⟩ := mC_join hx (fun w => w.elim c6 c7) c3 a e
          rw [if_neg n0, if_neg n1, if_neg n11]
          show mRk sg env (X.length + k) (p + 1) (mOne (mC x.1) a e :: t) = _
          rw [nj, ← Option.some.inj hs']
/-! Clauses -/
def gSig : List gC → List (Int × Int)
  | [] => []
  | cl :: l => (match cl.2 with
    | none => cl.1
    | some B => cl.1 ++ B) ++ gSig l
def onK (f : Int → Int) : List gC → Int → Int → Prop
  | [], _, _ => True
  | cl :: l, c, p => match cl.2 with
    | none => (f (4 * c) = p ∧ f (4 * c + 1) = p + (cl.1.length : Int) ∧ f (4 * c + 2) = -1) ∧ onK f l (c + 1) (p + (cl.1.length : Int))
    | some B => (f (4 * c) = p ∧ f (4 * c + 1) = p + (cl.1.length : Int) ∧ f (4 * c + 2) = p + (cl.1.length : Int) ∧ f (4 * c + 3) = p + (cl.1.length : Int) + (B.length : Int)) ∧ onK f l (c + 1) (p + (cl.1.length : Int) + (B.length : Int))
/-- a clause that was read -/
def gdC (cl : gC) : Prop := (∃ q, q ≤ 60 ∧ gd cl.1 q False) ∧ ∀ B, cl.2 = some B → ∃ q, q ≤ 60 ∧ gd B q True
theorem len8 (A : List (Int × Int)) (K : List gC) : (A ++ [((8 : Int), (0 : Int))] ++ gCode K).length = A.length + ((gCode K).length + 1) := by
  rw [List.length_append, List.length_append, show [((8 : Int), (0 : Int))].length = 1 from rfl]
  omega
theorem len9 (A B : List (Int × Int)) (K : List gC) : (A ++ B ++ [((9 : Int), (0 : Int))] ++ gCode K).length = A.length + (B.length + ((gCode K).length + 1)) := by
  rw [List.length_append, List.length_append, List.length_append, show [((9 : Int), (0 : Int))].length = 1 from rfl]
  omega
theorem sem_eq {c g sg f : Int → Int} : ∀ (K : List gC) (k0 pc pm : Int), 0 ≤ pm → onL c g (gCode K) pc → onM sg (gSig K) pm → onK f K k0 pm → (∀ cl ∈ K, gdC cl) → ∀ env, mSm sg f env K.length k0 = some (cEv c g env (gCode K).length pc []) := by
  intro K
  induction K with
  | nil =>
    intro k0 pc pm _ _ _ _ _ env
    rfl
  | cons cl K ih =>
    intro k0 pc pm hpm hc hm hk hg env
    obtain ⟨⟨qa, qa6, -, a2, VA, -, -, a5⟩, hB⟩ := hg cl List.mem_cons_self
    cases cl with
    | mk A B =>
      cases B with
      | none =>
        have hc' : onL c g (A ++ [(8, 0)] ++ gCode K) pc := hc
        have hm' : onM sg (A ++ gSig K) pm := hm
        have hk' : (f (4 * k0) = pm ∧ f (4 * k0 + 1) = pm + (A.length : Int) ∧ f (4 * k0 + 2) = -1) ∧ onK f K (k0 + 1) (pm + (A.length : Int)) := hk
        obtain ⟨⟨k1, k2, k3⟩, -⟩ := hk'
        rw [List.append_assoc] at hc'
        obtain ⟨o1, o2, o3, -⟩ := (onL_app A pc).mp hc'
        obtain ⟨p1, -⟩ := (onM_app A pm).mp hm'
        have hA := a5 env [] (by show ((0 : Nat) : Int) + qa ≤ 64; omega)
        have e1 : mSm sg f env (K.length + 1) k0 = mRk sg env (A.length + 0) pm [] := by
          show (if f (4 * k0 + 2) < 0 then _ else _) = _
          rw [k3, if_pos (by decide), k1, k2, show (pm + (A.length : Int) - pm).toNat = A.length + 0 by omega]
        have e2 := mRk_run (sg := sg) (env := env) 0 A pm [] _ p1 a2 hA
        have e3 := cEv_run (c := c) (g := g) (env := env) ((gCode K).length + 1) A pc [] _ o1 a2 hA
        show mSm sg f env (K.length + 1) k0 = some (cEv c g env (A ++ [(8, 0)] ++ gCode K).length pc [])
        rw [e1, e2, len8 A K, e3]
        show some (VA env) = some (if c (pc + (A.length : Int)) = 6 ∨ c (pc + (A.length : Int)) = 7 then _ else if c (pc + (A.length : Int)) = 8 then _ else _)
        have o2' : c (pc + (A.length : Int)) = 8 := o2
        rw [o2', if_neg (by decide), if_pos rfl]
      | some B =>
        obtain ⟨qb, qb6, -, b2, VB, b3, -, b5⟩ := hB B rfl
        have hc' : onL c g (A ++ B ++ [(9, 0)] ++ gCode K) pc := hc
        have hm' : onM sg (A ++ B ++ gSig K) pm := hm
        have hk' : (f (4 * k0) = pm ∧ f (4 * k0 + 1) = pm + (A.length : Int) ∧ f (4 * k0 + 2) = pm + (A.length : Int) ∧ f (4 * k0 + 3) = pm + (A.length : Int) + (B.length : Int)) ∧ onK f K (k0 + 1) (pm + (A.length : Int) + (B.length : Int)) := hk
        obtain ⟨⟨k1, k2, k3, k4⟩, k5⟩ := hk'
        rw [List.append_assoc, List.append_assoc] at hc'
        obtain ⟨o1, oB⟩ := (onL_app A pc).mp hc'
        obtain ⟨o2, o3, o4, o5⟩ := (onL_app B (pc + (A.length : Int))).mp oB
        rw [List.append_assoc] at hm'
        obtain ⟨p1, pB⟩ := (onM_app A pm).mp hm'
        obtain ⟨p2, p3⟩ := (onM_app B (pm + (A.length : Int))).mp pB
        have hA := a5 env [] (by show ((0 : Nat) : Int) + qa ≤ 64; omega)
        have hBm := b5 env [] (by show ((0 : Nat) : Int) + qb ≤ 64; omega)
        have hBc := b5 env [VA env] (by show ((1 : Nat) : Int) + qb ≤ 64; omega)
        have eA := mRk_run (sg := sg) (env := env) 0 A pm [] _ p1 a2 hA
        have eB := mRk_run (sg := sg) (env := env) 0 B (pm + (A.length : Int)) [] _ p2 b2 hBm
        have hI := ih (k0 + 1) (pc + (A.length : Int) + (B.length : Int) + 1) (pm + (A.length : Int) + (B.length : Int)) (by omega) o5 p3 k5 (fun x hx => hg x (List.mem_cons_of_mem _ hx)) env
        have e1 : mSm sg f env (K.length + 1) k0 = if VB env = 1 then some (VA env) else mSm sg f env K.length (k0 + 1) := by
          show (if f (4 * k0 + 2) < 0 then _ else (match mRk sg env (f (4 * k0 + 3) - f (4 * k0 + 2)).toNat (f (4 * k0 + 2)) [] with
            | none => none
            | some v => if v = 1 then mRk sg env (f (4 * k0 + 1) - f (4 * k0)).toNat (f (4 * k0)) [] else mSm sg f env K.length (k0 + 1))) = _
          rw [k3, if_neg (by omega), k4, k1, k2, show (pm + (A.length : Int) + (B.length : Int) - (pm + (A.length : Int))).toNat = B.length + 0 by omega, show (pm + (A.length : Int) - pm).toNat = A.length + 0 by omega, eB, eA]
          rfl
        have c1 := cEv_run (c := c) (g := g) (env := env) (B.length + ((gCode K).length + 1)) A pc [] _ o1 a2 hA
        have c2 := cEv_run (c := c) (g := g) (env := env) ((gCode K).length + 1) B (pc + (A.length : Int)) [VA env] _ o2 b2 hBc
        show mSm sg f env (K.length + 1) k0 = some (cEv c g env (A ++ B ++ [(9, 0)] ++ gCode K).length pc [])
        rw [e1, len9 A B K, c1, c2]
        have o3' : c (pc + (A.length : Int) + (B.length : Int)) = 9 := o3
        have e9 : cEv c g env ((gCode K).length + 1) (pc + (A.length : Int) + (B.length : Int)) [VB env, VA env] = if VB env = 0 then cEv c g env (gCode K).length (pc + (A.length : Int) + (B.length : Int) + 1) [] else VA env := by
          rw [cEv_s1, o3', if_neg (by decide), if_neg (by decide), if_neg (by decide)]
          show (if (9 : Int) = 9 then _ else _) = _
          rw [if_pos rfl]
        rw [e9]
        rcases b3 trivial env with v | v
        · rw [v, if_neg (by decide), if_pos rfl]
          exact hI
        · rw [v, if_pos rfl, if_neg (by decide)]
theorem sem_un {c g : Int → Int} : ∀ (K : List gC) (pc : Int), onL c g (gCode K) pc → (∀ cl ∈ K, gdC cl) → (∀ x ∈ gCode K, unT x) → ∀ env env', agr env env' → cEv c g env (gCode K).length pc [] = cEv c g env' (gCode K).length pc [] := by
  intro K
  induction K with
  | nil => intro pc _ _ _ env env' _; rfl
  | cons cl K ih =>
    intro pc hc hg hu env env' hag
    obtain ⟨⟨qa, qa6, -, a2, VA, -, a4, a5⟩, hB⟩ := hg cl List.mem_cons_self
    cases cl with
    | mk A B =>
      cases B with
      | none =>
        have hc' : onL c g (A ++ [(8, 0)] ++ gCode K) pc := hc
        have hu' : ∀ x ∈ A ++ [(8, 0)] ++ gCode K, unT x := hu
        rw [List.append_assoc] at hc'
        obtain ⟨o1, o2, o3, -⟩ := (onL_app A pc).mp hc'
        have o2' : c (pc + (A.length : Int)) = 8 := o2
        have eV : VA env = VA env' := a4 (fun x hx => hu' x (List.mem_append_left _ (List.mem_append_left _ hx))) env env' hag
        have run : ∀ e, cEv c g e (A ++ [(8, 0)] ++ gCode K).length pc [] = VA e := by
          intro e
          have hA := a5 e [] (by show ((0 : Nat) : Int) + qa ≤ 64; omega)
          rw [len8 A K, cEv_run (c := c) (g := g) (env := e) ((gCode K).length + 1) A pc [] _ o1 a2 hA]
          rw [cEv_s1, o2', if_neg (by decide), if_pos rfl]
        show cEv c g env (A ++ [(8, 0)] ++ gCode K).length pc [] = cEv c g env' (A ++ [(8, 0)] ++ gCode K).length pc []
        rw [run, run, eV]
      | some B =>
        obtain ⟨qb, qb6, -, b2, VB, b3, b4, b5⟩ := hB B rfl
        have hc' : onL c g (A ++ B ++ [(9, 0)] ++ gCode K) pc := hc
        have hu' : ∀ x ∈ A ++ B ++ [(9, 0)] ++ gCode K, unT x := hu
        rw [List.append_assoc, List.append_assoc] at hc'
        obtain ⟨o1, oB⟩ := (onL_app A pc).mp hc'
        obtain ⟨o2, o3, o4, o5⟩ := (onL_app B (pc + (A.length : Int))).mp oB
        have o3' : c (pc + (A.length : Int) + (B.length : Int)) = 9 := o3
        have eV : VA env = VA env' := a4 (fun x hx => hu' x (List.mem_append_left _ (List.mem_append_left _ (List.mem_append_left _ hx)))) env env' hag
        have eW : VB env = VB env' := b4 (fun x hx => hu' x (List.mem_append_left _ (List.mem_append_left _ (List.mem_append_right _ hx)))) env env' hag
        have hI := ih (pc + (A.length : Int) + (B.length : Int) + 1) o5 (fun x hx => hg x (List.mem_cons_of_mem _ hx)) (fun x hx => hu' x (List.mem_append_right _ hx)) env env' hag
        have run : ∀ e, cEv c g e (A ++ B ++ [(9, 0)] ++ gCode K).length pc [] = if VB e = 0 then cEv c g e (gCode K).length (pc + (A.length : Int) + (B.length : Int) + 1) [] else VA e := by
          intro e
          have hA := a5 e [] (by show ((0 : Nat) : Int) + qa ≤ 64; omega)
          have hBc := b5 e [VA e] (by show ((1 : Nat) : Int) + qb ≤ 64; omega)
          rw [len9 A B K, cEv_run (c := c) (g := g) (env := e) (B.length + ((gCode K).length + 1)) A pc [] _ o1 a2 hA, cEv_run (c := c) (g := g) (env := e) ((gCode K).length + 1) B (pc + (A.length : Int)) [VA e] _ o2 b2 hBc]
          rw [cEv_s1, o3', if_neg (by decide), if_neg (by decide), if_neg (by decide)]
          show (if (9 : Int) = 9 then _ else _) = _
          rw [if_pos rfl]
        show cEv c g env (A ++ B ++ [(9, 0)] ++ gCode K).length pc [] = cEv c g env' (A ++ B ++ [(9, 0)] ++ gCode K).length pc []
        rw [run, run, eV, eW, hI]
