/-! rule -/
theorem mSm_s1 (sg cl env : Int → Int) (k : Nat) (c : Int) : mSm sg cl env (k + 1) c = (if cl (4 * c + 2) < 0 then mRk sg env (cl (4 * c + 1) - cl (4 * c)).toNat (cl (4 * c)) []
    else match mRk sg env (cl (4 * c + 3) - cl (4 * c + 2)).toNat (cl (4 * c + 2)) [] with
      | none => none
      | some v => if v = 1 then mRk sg env (cl (4 * c + 1) - cl (4 * c)).toNat (cl (4 * c)) [] else mSm sg cl env k (c + 1)) := rfl
theorem mRk_cong {sg sg' env : Int → Int} : ∀ (k : Nat) (i : Int) (st : List Int), (∀ j, i ≤ j → j < i + (k : Int) → sg' j = sg j) → mRk sg' env k i st = mRk sg env k i st := by
  intro k
  induction k with
  | zero => intro i st _; rfl
  | succ k ih =>
    intro i st h
    have e : ∀ s, mRk sg' env k (i + 1) s = mRk sg env k (i + 1) s := fun s => ih (i + 1) s (fun j j0 j1 => h j (by omega) (by omega))
    rw [mRk_s1, mRk_s1, h i (Int.le_refl i) (by omega)]
    simp only [e]
theorem mSm_cong {sg sg' cl cl' env : Int → Int} (hs : ∀ j, 0 ≤ j → j < 400 → sg' j = sg j) : ∀ (k : Nat) (c : Int), 0 ≤ c → c + (k : Int) ≤ 12 → (∀ j, 0 ≤ j → j < 48 → cl' j = cl j) → (∀ q, c ≤ q → q < c + (k : Int) → 0 ≤ cl (4 * q) ∧ cl (4 * q) ≤ cl (4 * q + 1) ∧ cl (4 * q + 1) ≤ 400 ∧ (cl (4 * q + 2) < 0 ∨ (cl (4 * q + 2) ≤ cl (4 * q + 3) ∧ cl (4 * q + 3) ≤ 400))) → mSm sg' cl' env k c = mSm sg cl env k c := by
  intro k
  induction k with
  | zero => intro c _ _ _ _; rfl
  | succ k ih =>
    intro c c0 c1 hc hb
    have hI := ih (c + 1) (by omega) (by omega) hc (fun q q0 q1 => hb q (by omega) (by omega))
    obtain ⟨b1, b2, b3, b4⟩ := hb c (Int.le_refl c) (by omega)
    rw [mSm_s1, mSm_s1, hc (4 * c) (by omega) (by omega), hc (4 * c + 1) (by omega) (by omega), hc (4 * c + 2) (by omega) (by omega), hc (4 * c + 3) (by omega) (by omega), hI]
    have eA : mRk sg' env (cl (4 * c + 1) - cl (4 * c)).toNat (cl (4 * c)) [] = mRk sg env (cl (4 * c + 1) - cl (4 * c)).toNat (cl (4 * c)) [] := mRk_cong _ _ _ (fun j j0 j1 => hs j (by omega) (by omega))
    rw [eA]
    by_cases n : cl (4 * c + 2) < 0
    · rw [if_pos n, if_pos n]
    · rw [if_neg n, if_neg n, mRk_cong (sg := sg) (sg' := sg') _ _ _ (fun j j0 j1 => hs j (by omega) (by omega))]
theorem cRu_fr2 {mem mem' : jMem} {r : Int} (h : ∀ f k, (f = 5 ∧ (k = 2 ∨ k = 3)) ∨ f = 31 ∨ f = 32 → jrI mem' f r k = jrI mem f r k) (h47 : ∀ j, 0 ≤ j → j < 400 → jrI mem' 47 0 (400 * r + j) = jrI mem 47 0 (400 * r + j)) (h49 : ∀ j, 0 ≤ j → j < 48 → jrI mem' 49 0 (48 * r + j) = jrI mem 49 0 (48 * r + j)) (h50 : jrI mem' 50 0 r = jrI mem 50 0 r) (hc : cRu mem r) : cRu mem' r := by
  have e1 : jrI mem' 31 r = jrI mem 31 r := funext fun k => h 31 k (by omega)
  have e2 : jrI mem' 32 r = jrI mem 32 r := funext fun k => h 32 k (by omega)
  have e6 : jrI mem' 5 r 2 = jrI mem 5 r 2 := h 5 2 (by omega)
  have e7 : jrI mem' 5 r 3 = jrI mem 5 r 3 := h 5 3 (by omega)
  obtain ⟨c1, c2, c3, c4, c5, c6, c7⟩ := hc
  have eR : ∀ env, cRl mem' r env = cRl mem r env := fun env => by
    unfold cRl
    rw [e1, e2, e6]
  have eM : ∀ env, mRl mem' r env = mRl mem r env := fun env => by
    unfold mRl
    rw [h50]
    exact mSm_cong (fun j j0 j1 => h47 j j0 j1) _ 0 (by decide) (by omega) (fun j j0 j1 => h49 j j0 j1) (fun q q0 q1 => c4 q q0 (by omega))
  refine ⟨by rw [e6]; exact c1, by rw [e7]; exact c2, by rw [h50]; exact c3, fun c a b => ?_, fun i a b => ?_, fun env he => ?_, fun w env env' ha => ?_⟩
  · rw [h50] at b
    rw [h49 (4 * c) (by omega) (by omega), h49 (4 * c + 1) (by omega) (by omega), h49 (4 * c + 2) (by omega) (by omega), h49 (4 * c + 3) (by omega) (by omega)]
    exact c4 c a b
  · rw [e6] at b
    rw [e1, e2]
    exact c5 i a b
  · rw [eM, eR]
    exact c6 env he
  · rw [e7] at w
    rw [eR, eR]
    exact c7 w env env' ha
theorem onL_at {c g : Int → Int} : ∀ (X : List (Int × Int)) (p : Int), onL c g X p → ∀ i, p ≤ i → i < p + (X.length : Int) → ∃ x ∈ X, c i = x.1 ∧ g i = x.2 := by
  intro X
  induction X with
  | nil =>
    intro p _ i h0 h1
    have : i < p + ((0 : Nat) : Int) := h1
    omega
  | cons x X ih =>
    intro p h i h0 h1
    have hl : ((x :: X).length : Int) = (X.length : Int) + 1 := by
      rw [List.length_cons]; omega
    by_cases e : i = p
    · rw [e]
      exact ⟨x, List.mem_cons_self, h.1, h.2.1⟩
    · obtain ⟨y, y1, y2⟩ := ih (p + 1) h.2.2 i (by omega) (by omega)
      exact ⟨y, List.mem_cons_of_mem _ y1, y2⟩
theorem gCode_7 : ∀ (K : List gC), (∀ cl ∈ K, gdC cl) → ∀ x ∈ gCode K, x.1 = 7 → 0 ≤ x.2 ∧ x.2 < 12 := by
  intro K
  induction K with
  | nil => intro _ x hx; cases hx
  | cons cl K ih =>
    intro hg x hx h7
    obtain ⟨⟨qa, -, -, a2, -⟩, hB⟩ := hg cl List.mem_cons_self
    have okx : okT x → 0 ≤ x.2 ∧ x.2 < 12 := fun w => by
      unfold okT at w
      omega
    have rest : x ∈ gCode K → 0 ≤ x.2 ∧ x.2 < 12 := fun w => ih (fun y hy => hg y (List.mem_cons_of_mem _ hy)) x w h7
    cases cl with
    | mk A B =>
      cases B with
      | none =>
        have hx' : x ∈ A ++ [(8, 0)] ++ gCode K := hx
        rcases List.mem_append.mp hx' with q | q
        · rcases List.mem_append.mp q with q | q
          · exact okx (a2 x q)
          · rw [List.mem_singleton.mp q] at h7
            exact absurd (show (8 : Int) = 7 from h7) (by decide)
        · exact rest q
      | some B =>
        obtain ⟨qb, -, -, b2, -⟩ := hB B rfl
        have hx' : x ∈ A ++ B ++ [(9, 0)] ++ gCode K := hx
        rcases List.mem_append.mp hx' with q | q
        · rcases List.mem_append.mp q with q | q
          · rcases List.mem_append.mp q with q | q
            · exact okx (a2 x q)
            · exact okx (b2 x q)
          · rw [List.mem_singleton.mp q] at h7
            exact absurd (show (9 : Int) = 7 from h7) (by decide)
        · exact rest q
theorem onK_b {f : Int → Int} : ∀ (K : List gC) (c p : Int), 0 ≤ p → p + ((gSig K).length : Int) ≤ 400 → onK f K c p → ∀ q, c ≤ q → q < c + (K.length : Int) → 0 ≤ f (4 * q) ∧ f (4 * q) ≤ f (4 * q + 1) ∧ f (4 * q + 1) ≤ 400 ∧ (f (4 * q + 2) < 0 ∨ (f (4 * q + 2) ≤ f (4 * q + 3) ∧ f (4 * q + 3) ≤ 400)) := by
  intro K
  induction K with
  | nil =>
    intro c p _ _ _ q q0 q1
    have : q < c + ((0 : Nat) : Int) := q1
    omega
  | cons cl K ih =>
    intro c p hp hl hk q q0 q1
    have hl2 : ((cl :: K).length : Int) = (K.length : Int) + 1 := by
      rw [List.length_cons]; omega
    obtain ⟨k1, k2⟩ := (onK_cons f cl K c p).mp hk
    have hlen : ((gSig (cl :: K)).length : Int) = ((tokC cl).length : Int) + ((gSig K).length : Int) := by
      show ((tokC cl ++ gSig K).length : Int) = _
      rw [List.length_append]
      omega
    by_cases e : q = c
    · subst e
      cases cl with
      | mk A B =>
        cases B with
        | none =>
          have e2 : ((tokC (A, none)).length : Int) = (A.length : Int) := rfl
          obtain ⟨⟨a1, a2, a3⟩, -⟩ := k1
          have a2' : f (4 * q + 1) = p + (A.length : Int) := a2
          omega
        | some B =>
          have e2 : ((tokC (A, some B)).length : Int) = (A.length : Int) + (B.length : Int) := by
            show ((A ++ B).length : Int) = _
            rw [List.length_append]
            omega
          obtain ⟨⟨a1, a2, a3, a4⟩, -⟩ := k1
          have a2' : f (4 * q + 1) = p + (A.length : Int) := a2
          have a3' : f (4 * q + 2) = p + (A.length : Int) := a3
          have a4' : f (4 * q + 3) = p + (A.length : Int) + (B.length : Int) := a4
          omega
    · exact ih (c + 1) (p + ((tokC cl).length : Int)) (by omega) (by omega) k2 q (by omega) (by omega)
set_option maxHeartbeats 4000000 in
theorem p_rule : pCase (E_rule 60) (M_rule 60) := fun mem hi hm => by
  obtain ⟨c1, c2, c3, c4, c5, c6⟩ := id hi
  obtain ⟨t1, t2, t3, t4⟩ := id c1
  obtain ⟨r1, r2, r3, r4⟩ := id c2
  generalize hb : jrI mem 46 0 = b at *
  generalize hn : jrI mem 11 0 1 = n at *
  generalize hr : jrI mem 11 0 2 = r at *
  have hby : ∀ j, 0 ≤ j → j < n → -128 ≤ b j ∧ b j ≤ 127 := fun j j0 j1 => ⟨(t4 j j0 j1).2.1, (t4 j j0 j1).2.2⟩
  by_cases h6 : r = 6
  · refine ⟨-1, mem, by rw [q_E_rule 59, r1, if_neg (by omega)], fun _ => ⟨mem, by rw [q_M_rule 59, hr, if_pos h6], hi⟩⟩
  generalize hmA : (jwI (jwI (jwI (jwI (jwI mem 5 r 2 0) 5 r 3 0) 5 r 4 0) 8 0 2 0) 8 0 3 0) = mA
  have frA : puR (aU r) mem mA := by
    rw [← hmA]
    refine puR_w (puR_w (puR_w (puR_w (puR_w (puR_rf _ mem) ?_) ?_) ?_) ?_) ?_
    · exact Or.inr ⟨rfl, Or.inr (Or.inr ⟨rfl, Or.inl rfl⟩)⟩
    · exact Or.inr ⟨rfl, Or.inr (Or.inr ⟨rfl, Or.inr (Or.inl rfl)⟩)⟩
    · exact Or.inr ⟨rfl, Or.inr (Or.inr ⟨rfl, Or.inr (Or.inr rfl)⟩)⟩
    · exact Or.inl ⟨rfl, rfl, Or.inl rfl⟩
    · exact Or.inl ⟨rfl, rfl, Or.inr rfl⟩
  have hA : cQ b n r 0 0 [] mA := by
    refine ⟨⟨fun j j0 j1 => ?_, ?_, ?_, ?_, by omega⟩, ?_, ?_, trivial, Or.inl ?_, fun _ x hx => by cases hx⟩
    · rw [frA 37 0 j (by unfold aU; omega)]
      exact (t4 j j0 j1).1
    · rw [frA 8 0 1 (by unfold aU; omega)]
      exact t1
    · rw [← hmA, jrI_wk (by decide), jrI_ws]
    · rw [← hmA, jrI_ws]
    · rw [← hmA, jrI_wf (by decide), jrI_wf (by decide), jrI_wk (by decide), jrI_wk (by decide), jrI_ws]
      rfl
    · rw [← hmA, jrI_wf (by decide), jrI_wf (by decide), jrI_ws]
    · rw [← hmA, jrI_wf (by decide), jrI_wf (by decide), jrI_wk (by decide), jrI_ws]
  have hC := c_rl 20 13 0 0 0 [] mA (by decide) (by decide) (by decide) hA (by decide) (by decide) (by decide)
  have hgl := gRl_g (b := b) (n := n) 13 0 0 0 (by decide) (by decide) (by decide) t2 (by decide) (by decide)
  have eR : Ru_read 59 r mem = Ru_read_21 58 r 0 mA := by
    rw [q_Ru_read 58, q_Ta_rewind 57]
    simp only [jbnd_s]
    rw [hmA]
  -- the reference's reading, from any memory that has the same tape
  have mdl : ∀ mem1 : jMem, (∀ j, jrI mem1 46 0 j = b j) → jrI mem1 11 0 1 = n → jrI mem1 11 0 2 = r → ∃ m2, M_rule 60 mem1 = (if jb ((gRl b n 13 0 0 0).1 = 0) = 0 then some (vI (jw32 ((-2) - (jrI m2 11 0 9))), m2) else some (vI (jw32 ((jw32 (r + 1)) - 1)), jwI m2 11 0 2 (r + 1))) ∧ jrI m2 11 0 1 = 0 ∧ puR (fun f i k => aZr r 0 f i k ∨ (f = 11 ∧ i = 0 ∧ k = 11)) mem1 m2 ∧ ((gRl b n 13 0 0 0).1 = 0 → onM (fun j => jrI m2 47 0 (400 * r + j)) (gSig (gRl b n 13 0 0 0).2) 0 ∧ ((gSig (gRl b n 13 0 0 0).2).length : Int) ≤ 400 ∧ onK (fun j => jrI m2 49 0 (48 * r + j)) (gRl b n 13 0 0 0).2 0 0 ∧ jrI m2 50 0 r = ((gRl b n 13 0 0 0).2.length : Int)) ∧ ((gRl b n 13 0 0 0).1 ≠ 0 → jrI m2 11 0 9 = (gRl b n 13 0 0 0).1) := by
    intro mem1 hb1 hn1 hr1
    generalize hmC : (jwI (jwI (jwI (jwI (jwI (jwI (jwI mem1 11 0 11 r) 50 0 r 0) 48 0 r 0) 11 0 14 0) 11 0 8 0) 11 0 9 0) 11 0 12 0) = mC
    have frC : puR (fun f i k => aZr r 0 f i k ∨ (f = 11 ∧ i = 0 ∧ k = 11)) mem1 mC := by
      rw [← hmC]
      refine puR_w (puR_w (puR_w (puR_w (puR_w (puR_w (puR_w (puR_rf _ mem1) ?_) ?_) ?_) ?_) ?_) ?_) ?_
      all_goals (unfold aZr aZ0; omega)
    have hM : mQ b n r 0 0 [] mC := by
      refine ⟨⟨fun j j0 j1 => ?_, ?_, ?_, ?_, by omega⟩, ?_, ?_, trivial, ?_, r2, by omega⟩
      · rw [frC 46 0 j (by unfold aZr aZ0; omega)]
        exact hb1 j
      · rw [← hmC, jrI_wk (by decide), jrI_wk (by decide), jrI_wk (by decide), jrI_wk (by decide), jrI_wf (by decide), jrI_wf (by decide), jrI_wk (by decide)]
        exact hn1
      · rw [← hmC, jrI_wk (by decide), jrI_wk (by decide), jrI_ws]
      · rw [← hmC, jrI_wk (by decide), jrI_ws]
      · rw [← hmC, jrI_wk (by decide), jrI_wk (by decide), jrI_wk (by decide), jrI_wk (by decide), jrI_wf (by decide), jrI_wf (by decide), jrI_ws]
      · rw [← hmC, jrI_wf (by decide), jrI_wf (by decide), jrI_wf (by decide), jrI_wf (by decide), jrI_ws]
        rfl
      · rw [← hmC, jrI_ws]
    have h50 : jrI mC 50 0 r = 0 := by rw [← hmC, jrI_wf (by decide), jrI_wf (by decide), jrI_wf (by decide), jrI_wf (by decide), jrI_wf (by decide), jrI_ws]
    have h14 : jrI mC 11 0 14 = 0 := by rw [← hmC, jrI_wk (by decide), jrI_wk (by decide), jrI_wk (by decide), jrI_ws]
    obtain ⟨m2, x1, x2, x3, x4, x5⟩ := m_rl 47 hby 13 0 0 0 [] mC (by decide) (by decide) (by decide) hM (by decide) (by decide) (by decide) h50 h14
    have er : jrI m2 11 0 2 = r := by
      rw [x3 11 0 2 (by unfold aZr aZ0; omega), frC 11 0 2 (by unfold aZr aZ0; omega)]
      exact hr1
    refine ⟨m2, ?_, x2, puR_tr frC (puR_mono x3 (fun f i k w => Or.inl w)), fun w => ?_, x5⟩
    · rw [q_M_rule 59, hr1, if_neg h6, jix_in r2 (by omega), q_M_readsAll 58]
      have e11 : jrI (jwI (jwI mem1 11 0 11 r) 50 0 r 0) 11 0 11 = r := by rw [jrI_wf (by decide), jrI_ws]
      rw [e11, jix_in r2 (by omega), hmC, x1]
      simp only [jbnd_s, jasI_v]
      rw [er, jw32_id (x := r + 1) (by omega) (by omega)]
    · obtain ⟨y1, y2, y3, y4⟩ := x4 w
      exact ⟨y1, y2, y3, by rw [y4]; omega⟩
  -- the other rules stay
  have keep : ∀ m' : jMem, puR (fun f i k => aU r f i k ∨ aZr r 0 f i k ∨ (f = 8 ∧ i = 0 ∧ k = 1) ∨ (f = 11 ∧ i = 0 ∧ (k = 11 ∨ k = 2)) ∨ (f = 10 ∧ i = 0 ∧ k = 2)) mem m' → ∀ q, 0 ≤ q → q < r → cRu m' q := by
    intro m' fr q q0 q1
    refine cRu_fr2 (fun f k w => fr f q k ?_) (fun j j0 j1 => fr 47 0 _ ?_) (fun j j0 j1 => fr 49 0 _ ?_) (fr 50 0 q ?_) (r4 q q0 q1)
    · unfold aU aZr aZ0
      omega
    · unfold aU aZr aZ0
      omega
    · unfold aU aZr aZ0
      omega
    · unfold aU aZr aZ0
      omega
  have rest : ∀ m' : jMem, puR (fun f i k => aU r f i k ∨ aZr r 0 f i k ∨ (f = 8 ∧ i = 0 ∧ k = 1) ∨ (f = 11 ∧ i = 0 ∧ (k = 11 ∨ k = 2)) ∨ (f = 10 ∧ i = 0 ∧ k = 2)) mem m' → jrI m' 8 0 1 = 0 → jrI m' 11 0 1 = 0 → (jrI m' 11 0 2 = r ∨ jrI m' 11 0 2 = r + 1) → iRule m' → pInv m' := by
    intro m' fr e8 e11 e2 hR
    have frx : ∀ f i k, f ≠ 8 → f ≠ 5 → f ≠ 10 → f ≠ 11 → f ≠ 31 → f ≠ 32 → f ≠ 47 → f ≠ 48 → f ≠ 49 → f ≠ 50 → f ≠ 52 → jrI m' f i k = jrI mem f i k := fun f i k a1 a2 a3 a4 a5 a6 a7 a8 a9 a10 a11 => fr f i k (by unfold aU aZr aZ0; omega)
    have fr11 : ∀ k, k = 21 ∨ k = 22 ∨ k = 23 ∨ k = 26 → jrI m' 11 0 k = jrI mem 11 0 k := fun k hk => fr 11 0 k (by unfold aU aZr aZ0; omega)
    refine ⟨⟨by rw [e8, e11], by rw [e11]; decide, by rw [e11]; decide, fun i a c => by rw [e11] at c; omega⟩, hR, iNow_fr (fun f k hf => frx f 0 k (by unfold dSc at hf; omega) (by unfold dSc at hf; omega) (by unfold dSc at hf; omega) (by unfold dSc at hf; omega) (by unfold dSc at hf; omega) (by unfold dSc at hf; omega) (by unfold dSc at hf; omega) (by unfold dSc at hf; omega) (by unfold dSc at hf; omega) (by unfold dSc at hf; omega) (by unfold dSc at hf; omega)) c3, ?_, ?_, ?_⟩
    · obtain ⟨⟨d1, d2, d3⟩, d4, d5⟩ := c4
      unfold iMis
      rw [frx 6 0 3 (by decide) (by decide) (by decide) (by decide) (by decide) (by decide) (by decide) (by decide) (by decide) (by decide) (by decide), frx 6 0 4 (by decide) (by decide) (by decide) (by decide) (by decide) (by decide) (by decide) (by decide) (by decide) (by decide) (by decide), fr11 21 (by omega), fr11 22 (by omega), fr11 23 (by omega)]
      exact ⟨⟨d1, d2, by omega⟩, d4, d5⟩
    · refine iAct_fr (fun f i k hf => ?_) c5
      by_cases f11 : f = 11
      · subst f11
        have : i = 0 ∧ k = 26 := by omega
        rw [this.1]
        exact fr11 k (by omega)
      · exact frx f i k (by omega) (by omega) (by omega) f11 (by omega) (by omega) (by omega) (by omega) (by omega) (by omega) (by omega)
    · intro k a b'
      obtain ⟨d1, d2⟩ := c6 k a b'
      have x6 : ∀ i j, jrI m' 6 i j = jrI mem 6 i j := fun i j => frx 6 i j (by decide) (by decide) (by decide) (by decide) (by decide) (by decide) (by decide) (by decide) (by decide) (by decide) (by decide)
      have x63 : ∀ f i j, 63 ≤ f → jrI m' f i j = jrI mem f i j := fun f i j hf => frx f i j (by omega) (by omega) (by omega) (by omega) (by omega) (by omega) (by omega) (by omega) (by omega) (by omega) (by omega)
      have e63 : (fun i => jrI m' 63 0 (112 * k + i)) = (fun i => jrI mem 63 0 (112 * k + i)) := funext fun i => x63 63 0 _ (by decide)
      rw [x6, x63 66 0 k (by decide), e63, x63 63 0 _ (by decide), x6, x6, x63 64 0 k (by decide), x63 65 0 k (by decide)]
      refine ⟨d1, ?_⟩
      rcases d2 with d2 | ⟨w1, w2, w3, w4, ⟨w5, w6, w7⟩, w8⟩
      · exact Or.inl d2
      · exact Or.inr ⟨w1, w2, w3, cSc_fr (fun f j hf => frx f _ j (by unfold dSc at hf; omega) (by unfold dSc at hf; omega) (by unfold dSc at hf; omega) (by unfold dSc at hf; omega) (by unfold dSc at hf; omega) (by unfold dSc at hf; omega) (by unfold dSc at hf; omega) (by unfold dSc at hf; omega) (by unfold dSc at hf; omega) (by unfold dSc at hf; omega) (by unfold dSc at hf; omega)) w4, ⟨w5, w6, by omega⟩, w8⟩
  generalize gRl b n 13 0 0 0 = R at *
  by_cases z : R.1 = 0
  · obtain ⟨m1, i1, u1, x1, x2, x3, x4⟩ := hC.1 z
    obtain ⟨hgd, hgn⟩ := hgl z
    have x2' : cQ b n r i1 u1 (gCode R.2) m1 := x2
    have x3' : ((gCode R.2).length : Int) ≤ 400 := x3
    have fr1 : puR (aU r) mem m1 := puR_tr frA x4
    refine ⟨jw32 ((jw32 (r + 1)) - 1), jwI (jwI m1 8 0 1 0) 10 0 2 (r + 1), ?_, fun _ => ?_⟩
    · rw [q_E_rule 59, r1, if_pos (by omega), jix_in r2 (by omega), eR, x1]
      simp only [jbnd_s, jasI_v]
      rw [if_neg (by decide), fr1 10 0 2 (by unfold aU; omega), r1, jw32_id (x := r + 1) (by omega) (by omega)]
    · have rd1 : ∀ f i k, f ≠ 8 → f ≠ 10 → jrI (jwI (jwI m1 8 0 1 0) 10 0 2 (r + 1)) f i k = jrI m1 f i k := fun f i k w1 w2 => by rw [jrI_wf w2, jrI_wf w1]
      obtain ⟨m2, p1, p2, p3, p4, -⟩ := mdl (jwI (jwI m1 8 0 1 0) 10 0 2 (r + 1)) (fun j => by rw [rd1 46 0 j (by decide) (by decide), fr1 46 0 j (by unfold aU; omega), hb]) (by rw [rd1 11 0 1 (by decide) (by decide), fr1 11 0 1 (by unfold aU; omega)]; exact hn) (by rw [rd1 11 0 2 (by decide) (by decide), fr1 11 0 2 (by unfold aU; omega)]; exact hr)
      obtain ⟨y1, y2, y3, y4⟩ := p4 z
      refine ⟨jwI m2 11 0 2 (r + 1), by rw [p1, jb_1 z, if_neg (by decide)], ?_⟩
      have frF : puR (fun f i k => aU r f i k ∨ aZr r 0 f i k ∨ (f = 8 ∧ i = 0 ∧ k = 1) ∨ (f = 11 ∧ i = 0 ∧ (k = 11 ∨ k = 2)) ∨ (f = 10 ∧ i = 0 ∧ k = 2)) mem (jwI m2 11 0 2 (r + 1)) := by
        refine puR_w (puR_tr (puR_w (puR_w (puR_mono fr1 (fun f i k w => Or.inl w)) (Or.inr (Or.inr (Or.inl ⟨rfl, rfl, rfl⟩)))) (Or.inr (Or.inr (Or.inr (Or.inr ⟨rfl, rfl, rfl⟩))))) (puR_mono p3 (fun f i k w => ?_))) (Or.inr (Or.inr (Or.inr (Or.inl ⟨rfl, rfl, Or.inr rfl⟩))))
        rcases w with w | w
        · exact Or.inr (Or.inl w)
        · exact Or.inr (Or.inr (Or.inr (Or.inl ⟨w.1, w.2.1, Or.inl w.2.2⟩)))
      have e2' : jrI (jwI m2 11 0 2 (r + 1)) 11 0 2 = r + 1 := jrI_ws _ _ _ _ _
      have e10 : jrI (jwI m2 11 0 2 (r + 1)) 10 0 2 = r + 1 := by
        rw [jrI_wf (by decide), p3 10 0 2 (by unfold aZr aZ0; omega), jrI_ws]
      -- the class's row is as it was read
      have cr : ∀ f k, (f = 5 ∨ f = 31 ∨ f = 32) → jrI (jwI m2 11 0 2 (r + 1)) f r k = jrI m1 f r k := fun f k w => by
        rw [jrI_wf (by omega), p3 f r k (by unfold aZr aZ0; omega), rd1 f r k (by omega) (by omega)]
      have mr : ∀ f k, (f = 47 ∨ f = 49 ∨ f = 50) → jrI (jwI m2 11 0 2 (r + 1)) f 0 k = jrI m2 f 0 k := fun f k w => by rw [jrI_wf (by omega)]
      obtain ⟨z1, z2, z3, z4, z5, z6⟩ := x2'
      have e31 : jrI (jwI m2 11 0 2 (r + 1)) 31 r = jrI m1 31 r := funext fun k => cr 31 k (by omega)
      have e32 : jrI (jwI m2 11 0 2 (r + 1)) 32 r = jrI m1 32 r := funext fun k => cr 32 k (by omega)
      have e47 : jrI (jwI m2 11 0 2 (r + 1)) 47 0 = jrI m2 47 0 := funext fun k => mr 47 k (by omega)
      have e49 : jrI (jwI m2 11 0 2 (r + 1)) 49 0 = jrI m2 49 0 := funext fun k => mr 49 k (by omega)
      have hnew : cRu (jwI m2 11 0 2 (r + 1)) r := by
        unfold cRu mRl cRl
        rw [e31, e32, e47, e49, cr 5 2 (by omega), cr 5 3 (by omega), mr 50 r (by omega), z2, y4]
        refine ⟨⟨by omega, x3'⟩, z5, ⟨by omega, by omega⟩, fun c a b' => ?_, fun i a b' h7 => ?_, fun env _ => ?_, fun w env env' ha => ?_⟩
        · exact onK_b R.2 0 0 (by decide) (by omega) y3 c a (by omega)
        · obtain ⟨x, xm, xa, xb⟩ := onL_at (gCode R.2) 0 z4 i a (by omega)
          rw [xb]
          exact gCode_7 R.2 hgd x xm (by rw [← xa]; exact h7)
        · have := sem_eq R.2 0 0 0 (by decide) z4 y1 y3 hgd env
          rw [show ((R.2.length : Int)).toNat = R.2.length by omega, show (((gCode R.2).length : Int)).toNat = (gCode R.2).length by omega]
          exact this
        · rw [show (((gCode R.2).length : Int)).toNat = (gCode R.2).length by omega]
          exact sem_un R.2 0 z4 hgd (z6 w) env env' ha
      refine rest _ frF ?_ (by rw [jrI_wk (by decide)]; exact p2) (Or.inr e2') ⟨by rw [e10, e2'], by rw [e2']; omega, by rw [e2']; omega, fun q q0 q1 => ?_⟩
      · rw [jrI_wf (by decide), p3 8 0 1 (by unfold aZr aZ0; omega), jrI_wf (by decide), jrI_ws]
      · rw [e2'] at q1
        by_cases eq : q = r
        · rw [eq]
          exact hnew
        · exact keep _ frF q q0 (by omega)
  · obtain ⟨m1, x1, x2, x3⟩ := hC.2 z
    have fr1 : puR (aU r) mem m1 := puR_tr frA x3
    refine ⟨jw32 ((-2) - R.1), jwI m1 8 0 1 0, ?_, fun _ => ?_⟩
    · rw [q_E_rule 59, r1, if_pos (by omega), jix_in r2 (by omega), eR, x1]
      simp only [jbnd_s, jasI_v]
      first | rw [if_pos (show (0 : Int) = 0 from rfl)] | rw [if_pos trivial]
      rw [x2]
    · have rd1 : ∀ f i k, f ≠ 8 → jrI (jwI m1 8 0 1 0) f i k = jrI m1 f i k := fun f i k w1 => by rw [jrI_wf w1]
      obtain ⟨m2, p1, p2, p3, -, p5⟩ := mdl (jwI m1 8 0 1 0) (fun j => by rw [rd1 46 0 j (by decide), fr1 46 0 j (by unfold aU; omega), hb]) (by rw [rd1 11 0 1 (by decide), fr1 11 0 1 (by unfold aU; omega)]; exact hn) (by rw [rd1 11 0 2 (by decide), fr1 11 0 2 (by unfold aU; omega)]; exact hr)
      refine ⟨m2, ?_, ?_⟩
      · rw [p1, jb_n z]
        first | rw [if_pos (show (0 : Int) = 0 from rfl)] | rw [if_pos trivial]
        rw [p5 z]
      have frF : puR (fun f i k => aU r f i k ∨ aZr r 0 f i k ∨ (f = 8 ∧ i = 0 ∧ k = 1) ∨ (f = 11 ∧ i = 0 ∧ (k = 11 ∨ k = 2)) ∨ (f = 10 ∧ i = 0 ∧ k = 2)) mem m2 := by
        refine puR_tr (puR_w (puR_mono fr1 (fun f i k w => Or.inl w)) (Or.inr (Or.inr (Or.inl ⟨rfl, rfl, rfl⟩)))) (puR_mono p3 (fun f i k w => ?_))
        rcases w with w | w
        · exact Or.inr (Or.inl w)
        · exact Or.inr (Or.inr (Or.inr (Or.inl ⟨w.1, w.2.1, Or.inl w.2.2⟩)))
      have e2' : jrI m2 11 0 2 = r := by rw [p3 11 0 2 (by unfold aZr aZ0; omega), rd1 11 0 2 (by decide), fr1 11 0 2 (by unfold aU; omega)]; exact hr
      have e10 : jrI m2 10 0 2 = r := by rw [p3 10 0 2 (by unfold aZr aZ0; omega), rd1 10 0 2 (by decide), fr1 10 0 2 (by unfold aU; omega)]; exact r1
      refine rest _ frF ?_ p2 (Or.inl e2') ⟨by rw [e10, e2'], by rw [e2']; exact r2, by rw [e2']; exact r3, fun q q0 q1 => keep _ frF q q0 (by omega)⟩
      rw [p3 8 0 1 (by unfold aZr aZ0; omega), jrI_ws]
