/-! Rules: the grammar as pure functions; what steps on a stack answer -/
abbrev gR : Type := Int × (Int × (Int × List (Int × Int)))
def gB (r : gR) (k : Int → Int → gR) : gR := if r.1 = 0 then ((k r.2.1 r.2.2.1).1, (k r.2.1 r.2.2.1).2.1, (k r.2.1 r.2.2.1).2.2.1, r.2.2.2 ++ (k r.2.1 r.2.2.1).2.2.2) else r
theorem gB_0 {r : gR} {k : Int → Int → gR} (h : r.1 = 0) : gB r k = ((k r.2.1 r.2.2.1).1, (k r.2.1 r.2.2.1).2.1, (k r.2.1 r.2.2.1).2.2.1, r.2.2.2 ++ (k r.2.1 r.2.2.1).2.2.2) := if_pos h
theorem gB_n {r : gR} {k : Int → Int → gR} (h : r.1 ≠ 0) : gB r k = r := if_neg h
def gVal (b : Int → Int) (n i u : Int) : gR :=
  if rSk b n i < n ∧ 48 ≤ b (rSk b n i) ∧ b (rSk b n i) ≤ 57 then
    (if (rN1 b n 0 99999 0 (rSk b n i)).1 = 0 then (if u < 60 then (0, (rN1 b n 0 99999 0 (rSk b n i)).2.1, u + 1, [(6, (rN1 b n 0 99999 0 (rSk b n i)).2.2)]) else (1 + 8 * rSk b n i + 3, 0, 0, [])) else ((rN1 b n 0 99999 0 (rSk b n i)).1, 0, 0, []))
  else if rIx (rW b n (rSk b n i)) nWd 0 = -1 then (1 + 8 * rSk b n i, 0, 0, [])
  else if u < 60 then (0, rPw b n (rSk b n i), u + 1, [(7, rIx (rW b n (rSk b n i)) nWd 0)]) else (1 + 8 * rSk b n i + 3, 0, 0, [])
def gW (w : Int) : List (Int × Int) := if w = 0 then [] else [(w, 0)]
def gSl (b : Int → Int) (n : Int) : Nat → Int → Int → Int → gR
  | 0, w, i, u => (0, i, u, gW w)
  | k + 1, w, i, u =>
    if rCh b n (rSk b n i) = 42 ∨ rCh b n (rSk b n i) = 47 ∨ rCh b n (rSk b n i) = 37 then gB (gB (gVal b n (rSk b n i + 1) u) fun i' u' => (0, i', u', [(rCh b n (rSk b n i), 0)])) fun i' u' => gSl b n k w i' u'
    else if rCh b n (rSk b n i) = 43 ∨ rCh b n (rSk b n i) = 45 then gB (0, rSk b n i + 1, u, gW w) fun i' u' => gB (gVal b n i' u') fun i'' u'' => gSl b n k (rCh b n (rSk b n i)) i'' u''
    else (0, rSk b n i, u, gW w)
def gSum (b : Int → Int) (n i u : Int) : gR := gB (gVal b n i u) fun i' u' => gSl b n 61 0 i' u'
def gSg (b : Int → Int) (n s : Int) : Int := if rCh b n s = 61 then 61 else if rCh b n s = 60 then (if rCh b n (s + 1) = 61 then 1 else 60) else if rCh b n s = 62 then (if rCh b n (s + 1) = 61 then 2 else 62) else -1
def gSe (b : Int → Int) (n s : Int) : Int := if gSg b n s = 1 ∨ gSg b n s = 2 then s + 2 else s + 1
def gCmp (b : Int → Int) (n i u : Int) : gR := gB (gSum b n i u) fun i' u' =>
  if gSg b n (rSk b n i') = -1 then (1 + 8 * rSk b n i', 0, 0, [])
  else if u' < 60 then gB (gSum b n (gSe b n (rSk b n i')) (u' + 1)) fun i'' u'' => (0, i'', u'', [(gSg b n (rSk b n i'), 0)]) else (1 + 8 * rSk b n i' + 3, 0, 0, [])
def gLp (b : Int → Int) (n : Int) (wd : List Int) (op : Int) (F : Int → Int → gR) : Nat → Int → Int → gR
  | 0, i, u => (0, i, u, [])
  | k + 1, i, u => if rW b n (rSk b n i) = wd then gB (gB (F (rPw b n (rSk b n i)) u) fun i' u' => (0, i', u', [(op, 0)])) fun i' u' => gLp b n wd op F k i' u' else (0, rSk b n i, u, [])
def gPt (b : Int → Int) (n : Int) (F : Int → Int → gR) (i u : Int) : gR := gB (F i u) fun i' u' => gLp b n [100, 110, 97] 4 F 61 i' u'
def gTs (b : Int → Int) (n : Int) (F : Int → Int → gR) (i u : Int) : gR := gB (gPt b n F i u) fun i' u' => gLp b n [114, 111] 5 (gPt b n F) 61 i' u'
def gFc (b : Int → Int) (n : Int) : Nat → Int → Int → gR
  | 0, i, u => if rW b n (rSk b n i) = [116, 111, 110] ∨ rCh b n (rSk b n i) = 91 then (1 + 8 * rSk b n i + 2, 0, 0, []) else gCmp b n (rSk b n i) u
  | q + 1, i, u => if rW b n (rSk b n i) = [116, 111, 110] then gB (gFc b n q (rPw b n (rSk b n i)) u) fun i' u' => (0, i', u', [(3, 0)])
    else if rCh b n (rSk b n i) = 91 then gB (gTs b n (gFc b n q) (rSk b n i + 1) u) fun i' u' => if rCh b n (rSk b n i') = 93 then (0, rSk b n i' + 1, u', []) else (1 + 8 * rSk b n i', 0, 0, [])
    else gCmp b n (rSk b n i) u
/-! What steps answer -/
def okT (x : Int × Int) : Prop := (x.1 = 6 ∧ 0 ≤ x.2 ∧ x.2 ≤ 99999) ∨ (x.1 = 7 ∧ 0 ≤ x.2 ∧ x.2 < 12) ∨ (x.2 = 0 ∧ (x.1 = 43 ∨ x.1 = 45 ∨ x.1 = 42 ∨ x.1 = 47 ∨ x.1 = 37 ∨ x.1 = 60 ∨ x.1 = 1 ∨ x.1 = 61 ∨ x.1 = 2 ∨ x.1 = 62 ∨ x.1 = 3 ∨ x.1 = 4 ∨ x.1 = 5))
def unT (x : Int × Int) : Prop := x.1 = 7 → x.2 ≠ 8 ∧ x.2 ≠ 9 ∧ x.2 ≠ 11
def agr (e e' : Int → Int) : Prop := ∀ j, j ≠ 8 → j ≠ 9 → j ≠ 11 → e j = e' j
def sSt (env : Int → Int) (x : Int × Int) (st : List Int) : Option (List Int) :=
  if x.1 = 6 ∨ x.1 = 7 then (if st.length < 64 then some ((if x.1 = 6 then x.2 else env x.2) :: st) else none)
  else if x.1 = 3 then (match st with
    | a :: t => if st.length ≤ 64 then some (jw64 (1 - a) :: t) else none
    | [] => none)
  else match st with
    | c :: a :: t => some (cJoin x.1 a c :: t)
    | _ => none
def sRn (env : Int → Int) : List (Int × Int) → List Int → Option (List Int)
  | [], st => some st
  | x :: l, st => match sSt env x st with
    | some s => sRn env l s
    | none => none
theorem sRn_app (env : Int → Int) (B : List (Int × Int)) : ∀ (A : List (Int × Int)) (st s : List Int), sRn env A st = some s → sRn env (A ++ B) st = sRn env B s := by
  intro A
  induction A with
  | nil =>
    intro st s h
    have : st = s := Option.some.inj h
    rw [this]
    rfl
  | cons x A ih =>
    intro st s h
    have h' : (match sSt env x st with
      | some s => sRn env A s
      | none => none) = some s := h
    show (match sSt env x st with
      | some s => sRn env (A ++ B) s
      | none => none) = _
    cases hx : sSt env x st with
    | none => rw [hx] at h'; cases h'
    | some s1 =>
      rw [hx] at h'
      exact ih s1 s h'
def gd (X : List (Int × Int)) (q : Int) (t : Prop) : Prop := 1 ≤ q ∧ (∀ x ∈ X, okT x) ∧ ∃ V : (Int → Int) → Int, (t → ∀ env, V env = 0 ∨ V env = 1) ∧ ((∀ x ∈ X, unT x) → ∀ e e', agr e e' → V e = V e') ∧ ∀ (env : Int → Int) (st : List Int), (st.length : Int) + q ≤ 64 → sRn env X st = some (V env :: st)
theorem gd_mono {X : List (Int × Int)} {q q' : Int} {t t' : Prop} (h : gd X q t) (hq : q ≤ q') (ht : t' → t) : gd X q' t' := by
  obtain ⟨h1, h2, V, h3, h4, h5⟩ := h
  exact ⟨by omega, h2, V, fun w => h3 (ht w), h4, fun env st hs => h5 env st (by omega)⟩
theorem gd_val {x : Int × Int} (hx : okT x) (h67 : x.1 = 6 ∨ x.1 = 7) : gd [x] 1 False := by
  refine ⟨by decide, fun y hy => ?_, fun env => if x.1 = 6 then x.2 else env x.2, fun w => w.elim, fun hu e e' ha => ?_, fun env st hs => ?_⟩
  · rw [List.mem_singleton.mp hy]
    exact hx
  · show (if x.1 = 6 then x.2 else e x.2) = (if x.1 = 6 then x.2 else e' x.2)
    by_cases h6 : x.1 = 6
    · rw [if_pos h6, if_pos h6]
    · rw [if_neg h6, if_neg h6]
      have := hu x (List.mem_singleton.mpr rfl) (by omega)
      exact ha x.2 this.1 this.2.1 this.2.2
  · show (match sSt env x st with
      | some s => sRn env [] s
      | none => none) = _
    unfold sSt
    rw [if_pos h67, if_pos (by omega)]
    rfl
theorem gd_bin {A B : List (Int × Int)} {qa qb : Int} {ta tb t : Prop} {x : Int × Int} (hA : gd A qa ta) (hB : gd B qb tb) (hx : okT x) (h67 : x.1 ≠ 6 ∧ x.1 ≠ 7 ∧ x.1 ≠ 3) (ht : t → (ta ∧ tb ∧ ∀ a c : Int, a = 0 ∨ a = 1 → c = 0 ∨ c = 1 → cJoin x.1 a c = 0 ∨ cJoin x.1 a c = 1) ∨ (∀ a c : Int, cJoin x.1 a c = 0 ∨ cJoin x.1 a c = 1)) : gd (A ++ B ++ [x]) (qa + qb) t := by
  obtain ⟨a1, a2, VA, a3, a4, a5⟩ := hA
  obtain ⟨b1, b2, VB, b3, b4, b5⟩ := hB
  refine ⟨by omega, fun y hy => ?_, fun env => cJoin x.1 (VA env) (VB env), fun w env => ?_, fun hu e e' ha => ?_, fun env st hs => ?_⟩
  · rcases List.mem_append.mp hy with h | h
    · rcases List.mem_append.mp h with h | h
      · exact a2 y h
      · exact b2 y h
    · rw [List.mem_singleton.mp h]
      exact hx
  · rcases ht w with ⟨h1, h2, h3⟩ | h3
    · exact h3 _ _ (a3 h1 env) (b3 h2 env)
    · exact h3 _ _
  · show cJoin x.1 (VA e) (VB e) = cJoin x.1 (VA e') (VB e')
    rw [a4 (fun y hy => hu y (List.mem_append_left _ (List.mem_append_left _ hy))) e e' ha, b4 (fun y hy => hu y (List.mem_append_left _ (List.mem_append_right _ hy))) e e' ha]
  · rw [List.append_assoc, sRn_app env _ A st _ (a5 env st (by omega)), sRn_app env _ B _ _ (b5 env (VA env :: st) (by rw [List.length_cons]; omega))]
    show (match sSt env x (VB env :: VA env :: st) with
      | some s => sRn env [] s
      | none => none) = _
    unfold sSt
    rw [if_neg (by omega), if_neg h67.2.2]
    rfl
theorem jw64_01 {a : Int} (h : a = 0 ∨ a = 1) : jw64 (1 - a) = 0 ∨ jw64 (1 - a) = 1 := by
  rw [jw64_id (by omega) (by omega)]
  omega
theorem gd_not {A : List (Int × Int)} {q : Int} (hA : gd A q True) : gd (A ++ [(3, 0)]) q True := by
  obtain ⟨a1, a2, VA, a3, a4, a5⟩ := hA
  refine ⟨a1, fun y hy => ?_, fun env => jw64 (1 - VA env), fun _ env => jw64_01 (a3 trivial env), fun hu e e' ha => ?_, fun env st hs => ?_⟩
  · rcases List.mem_append.mp hy with h | h
    · exact a2 y h
    · rw [List.mem_singleton.mp h]
      unfold okT
      exact Or.inr (Or.inr ⟨rfl, by simp⟩)
  · show jw64 (1 - VA e) = jw64 (1 - VA e')
    rw [a4 (fun y hy => hu y (List.mem_append_left _ hy)) e e' ha]
  · rw [sRn_app env _ A st _ (a5 env st hs)]
    show (match sSt env (3, 0) (VA env :: st) with
      | some s => sRn env [] s
      | none => none) = _
    unfold sSt
    rw [if_neg (by decide), if_pos rfl]
    show (match (if (VA env :: st).length ≤ 64 then some (jw64 (1 - VA env) :: st) else none) with
      | some s => sRn env [] s
      | none => none) = _
    rw [if_pos (by rw [List.length_cons]; omega)]
    rfl
theorem cJ_cmp (a c : Int) {s : Int} (h : s = 60 ∨ s = 1 ∨ s = 61 ∨ s = 2 ∨ s = 62) : cJoin s a c = 0 ∨ cJoin s a c = 1 := by
  rcases h with rfl | rfl | rfl | rfl | rfl
  · exact jb_01 (p := a < c)
  · exact jb_01 (p := a ≤ c)
  · exact jb_01 (p := a = c)
  · exact jb_01 (p := c ≤ a)
  · exact jb_01 (p := c < a)
theorem cJ_ao (a c : Int) {s : Int} (h : s = 4 ∨ s = 5) (ha : a = 0 ∨ a = 1) (hc : c = 0 ∨ c = 1) : cJoin s a c = 0 ∨ cJoin s a c = 1 := by
  rcases h with rfl | rfl <;> rcases ha with rfl | rfl <;> rcases hc with rfl | rfl <;> decide +kernel
/-! What the grammar's functions give -/
def gG (n i u : Int) (t : Prop) (r : gR) : Prop := r.1 = 0 → (r.2.1 ≤ n ∧ (r.2.2.2.length : Int) + i ≤ r.2.1) ∧ (u < r.2.2.1 ∧ r.2.2.1 ≤ 60) ∧ gd r.2.2.2 (r.2.2.1 - u) t
theorem rIx_in (W : List Int) : ∀ (l : List (List Int)) (w : Int), 0 ≤ w → rIx W l w = -1 ∨ (w ≤ rIx W l w ∧ rIx W l w < w + (l.length : Int)) := by
  intro l
  induction l with
  | nil => intro w _; exact Or.inl rfl
  | cons c l ih =>
    intro w hw
    show (if W = c.reverse then w else rIx W l (w + 1)) = -1 ∨ (w ≤ (if W = c.reverse then w else rIx W l (w + 1)) ∧ (if W = c.reverse then w else rIx W l (w + 1)) < w + ((l.length + 1 : Nat) : Int))
    by_cases e : W = c.reverse
    · rw [if_pos e]
      right
      omega
    · rw [if_neg e]
      rcases ih (w + 1) (by omega) with h | h
      · exact Or.inl h
      · right
        omega
theorem rIx_w {b : Int → Int} {n s : Int} (h0 : 0 ≤ s) (h1 : s ≤ n) {l : List (List Int)} (hl : ∀ c ∈ l, c ≠ []) {w : Int} (hn : rIx (rW b n s) l w ≠ -1) : s + 1 ≤ rPw b n s := by
  have h2 := rPw_in (b := b) h0 h1
  by_cases e : rPw b n s = s
  · exfalso
    have hW : rW b n s = [] := by
      unfold rW
      rw [e, show (s - s).toNat = 0 by omega]
      rfl
    rw [hW] at hn
    have : ∀ (l : List (List Int)) (w : Int), (∀ c ∈ l, c ≠ []) → rIx [] l w = -1 := by
      intro l
      induction l with
      | nil => intro w _; rfl
      | cons c l ih =>
        intro w hc
        show (if [] = c.reverse then w else rIx [] l (w + 1)) = -1
        rw [if_neg (fun q => hc c List.mem_cons_self (by simpa using q.symm))]
        exact ih (w + 1) (fun x hx => hc x (List.mem_cons_of_mem _ hx))
    exact hn (this l w hl)
  · omega
theorem rW_ne {b : Int → Int} {n s : Int} (h0 : 0 ≤ s) (h1 : s ≤ n) {cs : List Int} (hc : cs ≠ []) (h : rW b n s = cs) : s + 1 ≤ rPw b n s := by
  have h2 := rPw_in (b := b) h0 h1
  by_cases e : rPw b n s = s
  · exfalso
    apply hc
    rw [← h]
    unfold rW
    rw [e, show (s - s).toNat = 0 by omega]
    rfl
  · omega
theorem gVal_g {b : Int → Int} {n i u : Int} (h0 : 0 ≤ i) (h1 : i ≤ n) : gG n i u False (gVal b n i u) := by
  intro hz
  have hs := rSk_in (b := b) h0 h1
  have hid := rSk_id (b := b) h0 h1
  unfold gVal at hz ⊢
  by_cases hd : rSk b n i < n ∧ 48 ≤ b (rSk b n i) ∧ b (rSk b n i) ≤ 57
  · rw [if_pos hd] at hz ⊢
    by_cases hn : (rN1 b n 0 99999 0 (rSk b n i)).1 = 0
    · rw [if_pos hn] at hz ⊢
      by_cases hu : u < 60
      · rw [if_pos hu] at hz ⊢
        obtain ⟨-, k2, k3⟩ := rN1_in hn
        have hlt : rSk b n i < rDg b n (rSk b n i) := by
          have e1 : rDg b n (rSk b n i) = rDg b n (rSk b n i + 1) := rTo_n (by omega) hd.1 (fun w => w hd.2)
          have := rDg_in (b := b) (n := n) (i := rSk b n i + 1) (by omega) (by omega)
          omega
        have hle := (rDg_in (b := b) (n := n) (i := rSk b n i) (by omega) (by omega)).2
        have hend : (rN1 b n 0 99999 0 (rSk b n i)).2.1 = rDg b n (rSk b n i) := by
          unfold rN1
          rw [if_pos rfl, hid]
          split <;> rfl
        refine ⟨⟨?_, ?_⟩, ⟨?_, ?_⟩, ?_⟩
        · show (rN1 b n 0 99999 0 (rSk b n i)).2.1 ≤ n
          omega
        · show ((1 : Nat) : Int) + i ≤ (rN1 b n 0 99999 0 (rSk b n i)).2.1
          omega
        · show u < u + 1
          omega
        · show u + 1 ≤ 60
          omega
        · show gd [(6, (rN1 b n 0 99999 0 (rSk b n i)).2.2)] (u + 1 - u) False
          exact gd_mono (gd_val (Or.inl ⟨rfl, k2, k3⟩) (Or.inl rfl)) (by omega) id
      · rw [if_neg hu] at hz
        have hz' : 1 + 8 * rSk b n i + 3 = 0 := hz
        omega
    · rw [if_neg hn] at hz
      exact absurd hz hn
  · rw [if_neg hd] at hz ⊢
    by_cases hw : rIx (rW b n (rSk b n i)) nWd 0 = -1
    · rw [if_pos hw] at hz
      have hz' : 1 + 8 * rSk b n i = 0 := hz
      omega
    · rw [if_neg hw] at hz ⊢
      by_cases hu : u < 60
      · rw [if_pos hu] at hz ⊢
        have hp := rIx_w (b := b) (n := n) (s := rSk b n i) (by omega) (by omega) (l := nWd) (by decide) hw
        have hle := (rPw_in (b := b) (n := n) (i := rSk b n i) (by omega) (by omega)).2
        have hr := rIx_in (rW b n (rSk b n i)) nWd 0 (by decide)
        have hr2 : 0 ≤ rIx (rW b n (rSk b n i)) nWd 0 ∧ rIx (rW b n (rSk b n i)) nWd 0 < 12 := by
          rcases hr with h | ⟨h, h'⟩
          · exact absurd h hw
          · have : (nWd.length : Int) = 12 := rfl
            omega
        refine ⟨⟨?_, ?_⟩, ⟨?_, ?_⟩, ?_⟩
        · show rPw b n (rSk b n i) ≤ n
          omega
        · show ((1 : Nat) : Int) + i ≤ rPw b n (rSk b n i)
          omega
        · show u < u + 1
          omega
        · show u + 1 ≤ 60
          omega
        · show gd [(7, rIx (rW b n (rSk b n i)) nWd 0)] (u + 1 - u) False
          exact gd_mono (gd_val (Or.inr (Or.inl ⟨rfl, hr2.1, hr2.2⟩)) (Or.inr rfl)) (by omega) id
      · rw [if_neg hu] at hz
        have hz' : 1 + 8 * rSk b n i + 3 = 0 := hz
        omega
