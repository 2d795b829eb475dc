/-! The invariant between the class's memory and the reference's. T: what is said (112 numbers), as the reference lays it -/
/-- which memory lies in a trap; -1 -/
def tIn (T : Int → Int) (t : Int) : Int := puG (fun m => T (11 + m) = 20 + t) (T 5).toNat 0
def tRv (T : Int → Int) : Prop :=
  ((T 0 = 0 ∧ T 1 = 0 ∧ T 2 = 0 ∧ T 3 = 0 ∧ T 4 = 0 ∧ T 5 = 0 ∧ T 6 = 0) ∨ (T 0 = 1 ∧ 2 ≤ T 1 ∧ T 1 ≤ 12 ∧ 1 ≤ T 2 ∧ T 2 ≤ 9)) ∧
  (0 ≤ T 3 ∧ T 3 ≤ 12) ∧ (0 ≤ T 4 ∧ T 4 ≤ 4) ∧ (0 ≤ T 5 ∧ T 5 ≤ 6) ∧ (0 ≤ T 6 ∧ T 6 ≤ 4) ∧ (T 3 = 0 → T 55 = 0) ∧
  (∀ m, 0 ≤ m → m < T 5 → 1 ≤ T (33 + m) ∧ T (33 + m) ≤ 9 ∧ 0 ≤ T (39 + m) ∧ T (39 + m) ≤ 7 ∧ 0 ≤ T (45 + m) ∧ T (45 + m) < T 4 ∧ 0 ≤ T (67 + m) ∧ T (67 + m) < T 1) ∧
  (∀ t, 0 ≤ t → t < T 6 → 1 ≤ T (25 + t) ∧ T (25 + t) ≤ 9 ∧ 0 ≤ T (29 + t) ∧ T (29 + t) < T 4 ∧ 0 ≤ T (73 + 2 * t) ∧ T (73 + 2 * t) < T 1 ∧ 0 ≤ T (74 + 2 * t) ∧ T (74 + 2 * t) ≤ 7) ∧
  (∀ p, 0 ≤ p → p < T 4 → 1 ≤ T (51 + p) ∧ T (51 + p) ≤ 9) ∧
  (∀ i, 0 ≤ i → i < T 3 → 0 ≤ T (55 + i) ∧ T (55 + i) ≤ 9)
def tWv (T : Int → Int) : Prop :=
  (0 ≤ T 10 ∧ T 10 ≤ 100000) ∧
  (∀ m, 0 ≤ m → m < T 5 → (0 ≤ T (11 + m) ∧ T (11 + m) < T 1) ∨ (20 ≤ T (11 + m) ∧ T (11 + m) < 20 + T 6) ∨ (30 ≤ T (11 + m) ∧ T (11 + m) < 30 + T 4) ∨ T (11 + m) = -1) ∧
  (∀ t, 0 ≤ t → t < T 6 → 0 ≤ T (17 + 2 * t) ∧ T (17 + 2 * t) < T 1 ∧ 0 ≤ T (18 + 2 * t) ∧ T (18 + 2 * t) ≤ 7) ∧
  (∀ m m', 0 ≤ m → m < T 5 → 0 ≤ m' → m' < T 5 → 20 ≤ T (11 + m) → T (11 + m) < 30 → T (11 + m) = T (11 + m') → m = m')
def tNv (T : Int → Int) : Prop := (0 ≤ T 111 ∧ T 111 ≤ 10) ∧ ∀ i, 0 ≤ i → i < T 111 → 0 ≤ T (81 + 3 * i) ∧ T (81 + 3 * i) ≤ 60 ∧ 0 ≤ T (82 + 3 * i) ∧ T (82 + 3 * i) < T 5 ∧ -1 ≤ T (83 + 3 * i) ∧ T (83 + 3 * i) < T 1
/-- the class's river r -/
def cRv (mem : jMem) (r : Int) (T : Int → Int) : Prop :=
  jrI mem 4 r 0 = T 0 ∧ jrI mem 4 r 1 = T 1 ∧ jrI mem 4 r 2 = T 2 ∧ jrI mem 4 r 3 = T 3 ∧ jrI mem 4 r 4 = T 4 ∧ jrI mem 4 r 5 = T 5 ∧ jrI mem 4 r 6 = T 6 ∧
  (∀ m, 0 ≤ m → m < T 5 → jrI mem 23 r m = T (67 + m) ∧ jrI mem 24 r m = T (33 + m) ∧ jrI mem 25 r m = T (39 + m) ∧ jrI mem 26 r m = T (45 + m)) ∧
  (∀ t, 0 ≤ t → t < T 6 → jrI mem 27 r t = T (73 + 2 * t) ∧ jrI mem 28 r t = T (25 + t) ∧ jrI mem 29 r t = T (74 + 2 * t) ∧ jrI mem 30 r t = T (29 + t)) ∧
  (∀ p, 0 ≤ p → p < T 4 → jrI mem 22 r p = T (51 + p)) ∧ (∀ i, 0 ≤ i → i < T 3 → jrI mem 21 r i = T (55 + i))
/-- the class's water w -/
def cWv (mem : jMem) (w : Int) (T : Int → Int) : Prop :=
  jrI mem 9 w 0 = T 10 ∧ (∀ m, 0 ≤ m → m < T 5 → jrI mem 38 w m = T (11 + m) ∧ jrI mem 39 w m = T (45 + m)) ∧
  (∀ t, 0 ≤ t → t < T 6 → jrI mem 40 w t = T (17 + 2 * t) ∧ jrI mem 41 w t = T (25 + t) ∧ jrI mem 42 w t = T (18 + 2 * t) ∧ jrI mem 43 w t = tIn T t)
def cNv (mem : jMem) (q : Int) (T : Int → Int) : Prop := jrI mem 3 q 0 = T 111 ∧ ∀ i, 0 ≤ i → i < T 111 → jrI mem 18 q i = T (81 + 3 * i) ∧ jrI mem 19 q i = T (82 + 3 * i) ∧ jrI mem 20 q i = T (83 + 3 * i)
/-! Rules: what the class's code answers, what the reference's signs answer -/
def cJoin (s a b : Int) : Int := if s = 1 then jb (a ≤ b) else if s = 2 then jb (b ≤ a) else if s = 4 then jland a b else if s = 5 then jlor a b else if s = 37 then (if b = 0 then 0 else a.tmod b) else if s = 42 then jw64 (a * b) else if s = 43 then jw64 (a + b) else if s = 45 then jw64 (a - b) else if s = 47 then (if b = 0 then 0 else jw64 (a.tdiv b)) else if s = 60 then jb (a < b) else if s = 61 then jb (a = b) else if s = 62 then jb (b < a) else 0
def cEv (c g env : Int → Int) : Nat → Int → List Int → Int
  | 0, _, _ => 0
  | k + 1, i, st =>
    if c i = 6 ∨ c i = 7 then cEv c g env k (i + 1) (if st.length < 64 then (if c i = 6 then g i else env (g i)) :: st else st)
    else if c i = 8 then (match st with
      | a :: _ => a
      | [] => 0)
    else if c i = 3 then cEv c g env k (i + 1) (match st with
      | a :: t => jw64 (1 - a) :: t
      | [] => [])
    else match st with
      | b :: a :: t => if c i = 9 then (if b = 0 then cEv c g env k (i + 1) t else a) else cEv c g env k (i + 1) (cJoin (c i) a b :: t)
      | st => cEv c g env k (i + 1) st
def mOne (s x y : Int) : Int := if s = 2 then jw64 (x + y) else if s = 3 then jw64 (x - y) else if s = 4 then jw64 (x * y) else if s = 5 then (if y = 0 then 0 else jw64 (x.tdiv y)) else if s = 6 then jb (x < y) else if s = 7 then jb (x ≤ y) else if s = 8 then jb (x = y) else if s = 9 then jb (y ≤ x) else if s = 10 then jb (y < x) else if s = 11 then jlor x y else if s = 12 then jland x y else if s = 13 then jlor x y else if s = 14 then (if y = 0 then 0 else x.tmod y) else jlor x y
/-- signs from i on, k of them -/
def mRk (sg env : Int → Int) : Nat → Int → List Int → Option Int
  | 0, _, st => (match st with
    | a :: _ => some a
    | [] => none)
  | k + 1, i, st =>
    if jand (sg i) 15 = 0 then (if st.length < 64 then mRk sg env k (i + 1) (jshr (sg i) 4 :: st) else none)
    else if jand (sg i) 15 = 1 then (if st.length < 64 ∧ 0 ≤ jshr (sg i) 4 ∧ jshr (sg i) 4 < 12 then mRk sg env k (i + 1) (env (jshr (sg i) 4) :: st) else none)
    else if jand (sg i) 15 = 11 then (match st with
      | a :: t => if st.length ≤ 64 then mRk sg env k (i + 1) (jw64 (1 - a) :: t) else none
      | [] => none)
    else (match st with
      | b :: a :: t => mRk sg env k (i + 1) (mOne (jand (sg i) 15) a b :: t)
      | _ => none)
/-- clauses from c on, k of them, of the rule at its place -/
def mSm (sg cl env : Int → Int) : Nat → Int → Option Int
  | 0, _ => some 0
  | k + 1, c =>
    if cl (4 * c + 2) < 0 then mRk sg env (cl (4 * c + 1) - cl (4 * c)).toNat (cl (4 * c)) []
    else match mRk sg env (cl (4 * c + 3) - cl (4 * c + 2)).toNat (cl (4 * c + 2)) [] with
      | none => none
      | some v => if v = 1 then mRk sg env (cl (4 * c + 1) - cl (4 * c)).toNat (cl (4 * c)) [] else mSm sg cl env k (c + 1)
/-- what rule r answers in the class -/
def cRl (mem : jMem) (r : Int) (env : Int → Int) : Int := cEv (jrI mem 31 r) (jrI mem 32 r) env (jrI mem 5 r 2).toNat 0 []
def mRl (mem : jMem) (r : Int) (env : Int → Int) : Option Int := mSm (fun i => jrI mem 47 0 (400 * r + i)) (fun i => jrI mem 49 0 (48 * r + i)) env (jrI mem 50 0 r).toNat 0
/-- rule r is the same in both -/
def cRu (mem : jMem) (r : Int) : Prop :=
  (0 ≤ jrI mem 5 r 2 ∧ jrI mem 5 r 2 ≤ 400) ∧ (jrI mem 5 r 3 = 0 ∨ jrI mem 5 r 3 = 1) ∧ (0 ≤ jrI mem 50 0 r ∧ jrI mem 50 0 r ≤ 12) ∧
  (∀ c, 0 ≤ c → c < jrI mem 50 0 r → 0 ≤ jrI mem 49 0 (48 * r + 4 * c) ∧ jrI mem 49 0 (48 * r + 4 * c) ≤ jrI mem 49 0 (48 * r + (4 * c + 1)) ∧ jrI mem 49 0 (48 * r + (4 * c + 1)) ≤ 400 ∧ (jrI mem 49 0 (48 * r + (4 * c + 2)) < 0 ∨ (jrI mem 49 0 (48 * r + (4 * c + 2)) ≤ jrI mem 49 0 (48 * r + (4 * c + 3)) ∧ jrI mem 49 0 (48 * r + (4 * c + 3)) ≤ 400))) ∧
  (∀ i, 0 ≤ i → i < jrI mem 5 r 2 → jrI mem 31 r i = 7 → 0 ≤ jrI mem 32 r i ∧ jrI mem 32 r i < 12) ∧
  (∀ env, (∀ j, jokI (env j)) → mRl mem r env = some (cRl mem r env)) ∧
  (jrI mem 5 r 3 = 0 → ∀ env env', (∀ j, j ≠ 8 → j ≠ 9 → j ≠ 11 → env j = env' j) → cRl mem r env = cRl mem r env')
/-! The parts of the invariant -/
def iTape (mem : jMem) : Prop := jrI mem 8 0 1 = jrI mem 11 0 1 ∧ 0 ≤ jrI mem 11 0 1 ∧ jrI mem 11 0 1 ≤ 400 ∧ ∀ i, 0 ≤ i → i < jrI mem 11 0 1 → jrI mem 37 0 i = jrI mem 46 0 i ∧ -128 ≤ jrI mem 46 0 i ∧ jrI mem 46 0 i ≤ 127
def iRule (mem : jMem) : Prop := jrI mem 10 0 2 = jrI mem 11 0 2 ∧ 0 ≤ jrI mem 11 0 2 ∧ jrI mem 11 0 2 ≤ 6 ∧ ∀ r, 0 ≤ r → r < jrI mem 11 0 2 → cRu mem r
def tOk (T : Int → Int) : Prop := tRv T ∧ tWv T ∧ tNv T
def cSc (mem : jMem) (q : Int) (T : Int → Int) : Prop := cRv mem q T ∧ cWv mem q T ∧ cNv mem q T
def iNow (mem : jMem) : Prop := tOk (jrI mem 55 0) ∧ jrI mem 55 0 10 ≤ 999 ∧ cSc mem 0 (jrI mem 55 0)
def iMis (mem : jMem) : Prop := (jrI mem 6 0 3 = jrI mem 11 0 21 ∧ -1 ≤ jrI mem 11 0 21 ∧ jrI mem 11 0 21 < jrI mem 11 0 2) ∧ (jrI mem 6 0 4 = jrI mem 11 0 22 ∧ 0 ≤ jrI mem 11 0 22) ∧ jrI mem 11 0 23 = -1
/-- what was said ahead of an act: the 15 numbers from 10 on -/
def tOv (T : Int → Int) (B : Int → Int) : Int → Int := fun k => if 10 ≤ k ∧ k < 25 then B (k - 10) else T k
def iAct (mem : jMem) : Prop := jrI mem 0 0 2 = jrI mem 11 0 26 ∧ 0 ≤ jrI mem 11 0 26 ∧ jrI mem 11 0 26 ≤ 20 ∧ 0 ≤ jrI mem 0 0 1 ∧ jrI mem 0 0 1 < 20 ∧
  ∀ j, 0 ≤ j → j < jrI mem 11 0 26 → tWv (tOv (jrI mem 55 0) fun k => jrI mem 57 0 (15 * j + k)) ∧ tOv (jrI mem 55 0) (fun k => jrI mem 57 0 (15 * j + k)) 10 ≤ 999 ∧ cWv mem (5 + (jrI mem 0 0 1 - jrI mem 11 0 26 + j) % 20) (tOv (jrI mem 55 0) fun k => jrI mem 57 0 (15 * j + k))
def iImg (mem : jMem) : Prop := ∀ k, 0 ≤ k → k < 4 → jrI mem 6 (k + 1) 5 = jrI mem 66 0 k ∧ (jrI mem 66 0 k = 0 ∨ (jrI mem 66 0 k = 1 ∧ tOk (fun i => jrI mem 63 0 (112 * k + i)) ∧ jrI mem 63 0 (112 * k + 10) ≤ 999 ∧ cSc mem (k + 1) (fun i => jrI mem 63 0 (112 * k + i)) ∧
  (jrI mem 6 (k + 1) 3 = jrI mem 64 0 k ∧ -1 ≤ jrI mem 64 0 k ∧ jrI mem 64 0 k < jrI mem 11 0 2) ∧ (jrI mem 6 (k + 1) 4 = jrI mem 65 0 k ∧ 0 ≤ jrI mem 65 0 k)))
def pInv (mem : jMem) : Prop := iTape mem ∧ iRule mem ∧ iNow mem ∧ iMis mem ∧ iAct mem ∧ iImg mem
theorem pure_0 : pInv kmem0 := by
  have hz : ∀ k, jrI kmem0 55 0 k = 0 := fun k => kmem0_arr (by decide) 0 k
  have h1 := hz 1
  have h2 := hz 2
  have h3 := hz 3
  have h4 := hz 4
  have h5 := hz 5
  have h6 := hz 6
  have h10 := hz 10
  have h111 := hz 111
  refine ⟨⟨rfl, by decide, by decide, fun i a b => ?_⟩, ⟨rfl, by decide, by decide, fun r a b => ?_⟩, ⟨⟨⟨Or.inl ⟨hz 0, h1, h2, h3, h4, h5, h6⟩, by omega, by omega, by omega, by omega, fun _ => hz 55, fun m a b => by omega, fun m a b => by omega, fun m a b => by omega, fun m a b => by omega⟩, ⟨by omega, fun m a b => by omega, fun m a b => by omega, fun m m' a b => by omega⟩, by omega, fun i a b => by omega⟩, by omega, ?_⟩, ⟨⟨rfl, by decide, by decide⟩, ⟨rfl, by decide⟩, rfl⟩, ⟨rfl, by decide, by decide, by decide, by decide, fun j a b => ?_⟩, fun k a b => ⟨?_, Or.inl ?_⟩⟩
  · have : jrI kmem0 11 0 1 = 0 := rfl
    omega
  · have : jrI kmem0 11 0 2 = 0 := rfl
    omega
  · exact ⟨⟨(hz 0).symm, h1.symm, h2.symm, h3.symm, h4.symm, h5.symm, h6.symm, fun m a b => by omega, fun m a b => by omega, fun m a b => by omega, fun m a b => by omega⟩, ⟨h10.symm, fun m a b => by omega, fun m a b => by omega⟩, h111.symm, fun m a b => by omega⟩
  · have : jrI kmem0 11 0 26 = 0 := rfl
    omega
  · rw [kmem0_arr (f := 66) (by decide)]
    rfl
  · exact kmem0_arr (by decide) 0 k
