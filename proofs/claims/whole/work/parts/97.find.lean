/-! Words: the letters that stand there, the last first -/
def wR (b : Int → Int) (i : Int) : Nat → List Int
  | 0 => []
  | k + 1 => b (i + (k : Int)) :: wR b i k
def rW (b : Int → Int) (n i : Int) : List Int := wR b i (rPw b n i - i).toNat
theorem wR_s (b : Int → Int) (i : Int) : ∀ k : Nat, wR b i (k + 1) = wR b (i + 1) k ++ [b i] := by
  intro k
  induction k with
  | zero =>
    show [b (i + ((0 : Nat) : Int))] = [] ++ [b i]
    rw [show i + ((0 : Nat) : Int) = i by omega]
    rfl
  | succ k ih =>
    show b (i + ((k + 1 : Nat) : Int)) :: wR b i (k + 1) = (b (i + 1 + (k : Int)) :: wR b (i + 1) k) ++ [b i]
    rw [ih, show i + ((k + 1 : Nat) : Int) = i + 1 + (k : Int) by omega]
    rfl
theorem rW_y {b : Int → Int} {n i : Int} (h0 : 0 ≤ i) (h : i < n) (hl : 97 ≤ b i ∧ b i ≤ 122) : rW b n i = rW b n (i + 1) ++ [b i] := by
  have e : rPw b n i = rPw b n (i + 1) := rTo_n h0 h (fun w => w hl)
  have h2 := rPw_in (b := b) (n := n) (i := i + 1) (by omega) (by omega)
  unfold rW
  rw [e, show (rPw b n (i + 1) - i).toNat = (rPw b n (i + 1) - (i + 1)).toNat + 1 by omega, wR_s]
theorem rW_n {b : Int → Int} {n i : Int} (h0 : 0 ≤ i) (h : i ≤ n) (hl : ¬ (i < n ∧ 97 ≤ b i ∧ b i ≤ 122)) : rW b n i = [] := by
  have e : rPw b n i = i := by
    by_cases hi : i < n
    · exact rTo_y h0 hi (fun w => hl ⟨hi, w⟩)
    · have : i = n := by omega
      rw [this]
      exact rTo_e _ n
  unfold rW
  rw [e, show (i - i).toNat = 0 by omega]
  rfl
def rMt (b : Int → Int) (n : Int) : List Int → Int → Prop
  | [], i => ¬ (i < n ∧ 97 ≤ b i ∧ b i ≤ 122)
  | c :: cs, i => i < n ∧ b i = c ∧ rMt b n cs (i + 1)
theorem rMt_iff {b : Int → Int} {n : Int} : ∀ (cs : List Int) (i : Int), 0 ≤ i → i ≤ n → (∀ c ∈ cs, 97 ≤ c ∧ c ≤ 122) → (rMt b n cs i ↔ rW b n i = cs.reverse) := by
  intro cs
  induction cs with
  | nil =>
    intro i h0 h1 hc
    constructor
    · intro h
      exact rW_n h0 h1 h
    · intro h hl
      rw [rW_y h0 hl.1 hl.2] at h
      simp at h
  | cons c cs ih =>
    intro i h0 h1 hc
    have hcc := hc c List.mem_cons_self
    have ih' := fun hi : i < n => ih (i + 1) (by omega) (by omega) (fun x hx => hc x (List.mem_cons_of_mem _ hx))
    rw [List.reverse_cons]
    constructor
    · intro ⟨a1, a2, a3⟩
      rw [rW_y h0 a1 (by rw [a2]; exact hcc), (ih' a1).mp a3, a2]
    · intro h
      by_cases hl : i < n ∧ 97 ≤ b i ∧ b i ≤ 122
      · rw [rW_y h0 hl.1 hl.2] at h
        have h2 := List.append_inj' h rfl
        exact ⟨hl.1, (List.cons.inj h2.2).1, (ih' hl.1).mpr h2.1⟩
      · rw [rW_n h0 h1 hl] at h
        have := congrArg List.length h
        simp at this
/-! The class's way to find a word -/
def rNx (b : Int → Int) (n j : Int) : Int := if j < n then b j else -1
def rFd (b : Int → Int) (n a : Int) : List Int → Int → Int → Int → Int
  | [], w, j, x => if x ≠ 0 ∧ ¬ (97 ≤ rNx b n j ∧ rNx b n j ≤ 122) then w else -1
  | c :: cs, w, j, x => if c = 32 then (if x ≠ 0 ∧ ¬ (97 ≤ rNx b n j ∧ rNx b n j ≤ 122) then w else rFd b n a cs (w + 1) a 1) else rFd b n a cs w (j + 1) (if x = 0 then 0 else if rNx b n j = c then 1 else 0)
theorem p248 (d : Nat) (r : Int) (mem : jMem) : jSem (d + 1) 248 [vR 100 (some r)] mem = some (vI ((jtext jtexts r).length : Int), mem) := rfl
theorem jchar_drop (c : Int) (cs : List Int) : ∀ (t : List Int) (p : Nat), t.drop p = c :: cs → jchar t (p : Int) = some c := by
  intro t
  induction t with
  | nil =>
    intro p h
    simp at h
  | cons x t ih =>
    intro p h
    cases p with
    | zero =>
      have : x = c := (List.cons.inj h).1
      rw [this]
      rfl
    | succ p =>
      show (if ((p + 1 : Nat) : Int) = 0 then some x else jchar t (((p + 1 : Nat) : Int) - 1)) = some c
      rw [if_neg (by omega), show ((p + 1 : Nat) : Int) - 1 = (p : Int) by omega]
      exact ih p h
theorem p249 (d : Nat) (r : Int) (c : Int) (cs : List Int) (p : Nat) (mem : jMem) (h : (jtext jtexts r).drop p = c :: cs) : jSem (d + 1) 249 [vR 100 (some r), vI (p : Int)] mem = some (vI c, mem) := by
  have e : jSem (d + 1) 249 [vR 100 (some r), vI (p : Int)] mem = (match jchar (jtext jtexts r) (p : Int) with
    | some c => some (vI c, mem)
    | none => none) := rfl
  rw [e, jchar_drop c cs _ p h]
theorem s_find (d : Nat) (r : Int) {b : Int → Int} {n a : Int} {mem : jMem} (h : rC b n a mem) : ∀ (cs : List Int) (p : Nat) (w j x : Int), (jtext jtexts r).drop p = cs → p + cs.length = (jtext jtexts r).length → (jtext jtexts r).length < 1000 → 0 ≤ w → w ≤ (p : Int) → 0 ≤ j → j ≤ (p : Int) + 1000 → x = 0 ∨ x = 1 → Ta_find_13 (d + 1) r w j x (p : Int) mem = some (vI (rFd b n a cs w j x), mem) := by
  obtain ⟨h1, h2, h3, h4, h5⟩ := id h
  have step : ∀ (w j x : Int) (p : Nat), 0 ≤ j → p ≤ (jtext jtexts r).length → Ta_find_13 (d + 1) r w j x (p : Int) mem = Ta_find_40 (d + 1) r w j x (p : Int) (rNx b n j) mem := by
    intro w j x p j0 hp
    rw [q_Ta_find_13, p248]
    simp only [jbnd_s, jasI_v]
    rw [if_neg (by omega), h2]
    unfold rNx
    by_cases hj : j < n
    · rw [if_pos hj, if_pos hj, jix_in j0 (by omega), h1 j j0 hj]
    · rw [if_neg hj, if_neg hj]
  have st91 : ∀ (w x p s : Int), x = 0 ∨ x = 1 → Ta_find_91 (d + 1) r w x p s mem = if x ≠ 0 ∧ ¬ (97 ≤ s ∧ s ≤ 122) then some (vI w, mem) else Ta_find_112 (d + 1) r w p mem := by
    intro w x p s hx
    rw [q_Ta_find_91]
    by_cases x0 : x = 0
    · rw [if_pos x0, if_neg (fun w => w.1 x0)]
    · rw [if_neg x0]
      by_cases s1 : s < 97
      · rw [if_pos s1, if_pos ⟨x0, by omega⟩]
      · rw [if_neg s1]
        by_cases s2 : 122 < s
        · rw [if_pos s2, if_pos ⟨x0, by omega⟩]
        · rw [if_neg s2, if_neg (by omega)]
  intro cs
  induction cs with
  | nil =>
    intro p w j x hd hl hL w0 w1 j0 j1 hx
    have hl' : p = (jtext jtexts r).length := hl
    rw [step w j x p j0 (by omega), q_Ta_find_40, p248]
    simp only [jbnd_s, jasI_v]
    rw [if_neg (by omega), st91 _ _ _ _ hx]
    show _ = some (vI (if x ≠ 0 ∧ ¬ (97 ≤ rNx b n j ∧ rNx b n j ≤ 122) then w else -1), mem)
    by_cases e : x ≠ 0 ∧ ¬ (97 ≤ rNx b n j ∧ rNx b n j ≤ 122)
    · rw [if_pos e, if_pos e]
    · rw [if_neg e, if_neg e, q_Ta_find_112, jw32_id (x := (p : Int) + 1) (by omega) (by omega), q_Ta_find_13, p248]
      simp only [jbnd_s, jasI_v]
      rw [if_pos (by omega)]
  | cons c cs ih =>
    intro p w j x hd hl hL w0 w1 j0 j1 hx
    have hl' : p + (cs.length + 1) = (jtext jtexts r).length := hl
    have hd' : (jtext jtexts r).drop (p + 1) = cs := by
      rw [← List.drop_drop, hd]
      rfl
    have e1 : (p : Int) + 1 = ((p + 1 : Nat) : Int) := by omega
    rw [step w j x p j0 (by omega), q_Ta_find_40, p248]
    simp only [jbnd_s, jasI_v]
    rw [if_pos (by omega), p249 d r c cs p mem hd]
    simp only [jbnd_s, jasI_v]
    show _ = some (vI (if c = 32 then (if x ≠ 0 ∧ ¬ (97 ≤ rNx b n j ∧ rNx b n j ≤ 122) then w else rFd b n a cs (w + 1) a 1) else rFd b n a cs w (j + 1) (if x = 0 then 0 else if rNx b n j = c then 1 else 0)), mem)
    rw [jw32_id (x := (p : Int) + 1) (by omega) (by omega), jw32_id (x := j + 1) (by omega) (by omega), e1]
    by_cases c32 : c = 32
    · rw [if_pos c32, if_pos c32, st91 _ _ _ _ hx]
      by_cases e : x ≠ 0 ∧ ¬ (97 ≤ rNx b n j ∧ rNx b n j ≤ 122)
      · rw [if_pos e, if_pos e]
      · rw [if_neg e, if_neg e, q_Ta_find_112, jw32_id (x := (p : Int) + 1) (by omega) (by omega), jw32_id (x := w + 1) (by omega) (by omega), h3, e1]
        exact ih (p + 1) (w + 1) a 1 hd' (by omega) hL (by omega) (by omega) h5.1 (by omega) (Or.inr rfl)
    · rw [if_neg c32, if_neg c32]
      by_cases x0 : x = 0
      · rw [if_pos x0, if_pos x0]
        exact ih (p + 1) w (j + 1) 0 hd' (by omega) hL w0 (by omega) (by omega) (by omega) (Or.inl rfl)
      · rw [if_neg x0, if_neg x0, p249 d r c cs p mem hd]
        simp only [jbnd_s, jasI_v]
        by_cases hc : rNx b n j = c
        · rw [if_pos hc, if_pos hc]
          exact ih (p + 1) w (j + 1) 1 hd' (by omega) hL w0 (by omega) (by omega) (by omega) (Or.inr rfl)
        · rw [if_neg hc, if_neg hc]
          exact ih (p + 1) w (j + 1) 0 hd' (by omega) hL w0 (by omega) (by omega) (by omega) (Or.inl rfl)
/-- which of the words it is -/
def rIx (W : List Int) : List (List Int) → Int → Int
  | [], _ => -1
  | cs :: l, w => if W = cs.reverse then w else rIx W l (w + 1)
def rJn : List (List Int) → List Int
  | [] => []
  | [cs] => cs
  | cs :: l => cs ++ 32 :: rJn l
theorem rNx_m {b : Int → Int} {n j c : Int} (hc : 97 ≤ c) : rNx b n j = c ↔ j < n ∧ b j = c := by
  unfold rNx
  by_cases h : j < n
  · rw [if_pos h]
    exact ⟨fun w => ⟨h, w⟩, fun w => w.2⟩
  · rw [if_neg h]
    exact ⟨fun w => by omega, fun w => absurd w.1 h⟩
theorem rNx_l {b : Int → Int} {n j : Int} : (97 ≤ rNx b n j ∧ rNx b n j ≤ 122) ↔ (j < n ∧ 97 ≤ b j ∧ b j ≤ 122) := by
  unfold rNx
  by_cases h : j < n
  · rw [if_pos h]
    exact ⟨fun w => ⟨h, w⟩, fun w => w.2⟩
  · rw [if_neg h]
    omega
theorem rFd_1 {b : Int → Int} {n a : Int} (tl : List Int) (Z : Int) (w : Int) (htl : (tl = [] ∧ Z = -1) ∨ ∃ l, tl = 32 :: l ∧ Z = rFd b n a l (w + 1) a 1) : ∀ (cs : List Int) (j : Int), (∀ c ∈ cs, 97 ≤ c ∧ c ≤ 122) → rFd b n a (cs ++ tl) w j 0 = Z ∧ (rMt b n cs j → rFd b n a (cs ++ tl) w j 1 = w) ∧ (¬ rMt b n cs j → rFd b n a (cs ++ tl) w j 1 = Z) := by
  intro cs
  induction cs with
  | nil =>
    intro j hc
    rcases htl with ⟨e, z⟩ | ⟨l, e, z⟩
    · rw [e, z]
      show (if (0 : Int) ≠ 0 ∧ ¬ (97 ≤ rNx b n j ∧ rNx b n j ≤ 122) then w else -1) = -1 ∧ (rMt b n [] j → (if (1 : Int) ≠ 0 ∧ ¬ (97 ≤ rNx b n j ∧ rNx b n j ≤ 122) then w else -1) = w) ∧ (¬ rMt b n [] j → (if (1 : Int) ≠ 0 ∧ ¬ (97 ≤ rNx b n j ∧ rNx b n j ≤ 122) then w else -1) = -1)
      refine ⟨if_neg (by omega), fun h => if_pos ⟨by decide, fun q => h (rNx_l.mp q)⟩, fun h => if_neg (fun q => h (fun q2 => q.2 (rNx_l.mpr q2)))⟩
    · rw [e, z]
      show (if (0 : Int) ≠ 0 ∧ ¬ (97 ≤ rNx b n j ∧ rNx b n j ≤ 122) then w else rFd b n a l (w + 1) a 1) = rFd b n a l (w + 1) a 1 ∧ (rMt b n [] j → (if (1 : Int) ≠ 0 ∧ ¬ (97 ≤ rNx b n j ∧ rNx b n j ≤ 122) then w else rFd b n a l (w + 1) a 1) = w) ∧ (¬ rMt b n [] j → (if (1 : Int) ≠ 0 ∧ ¬ (97 ≤ rNx b n j ∧ rNx b n j ≤ 122) then w else rFd b n a l (w + 1) a 1) = rFd b n a l (w + 1) a 1)
      refine ⟨if_neg (by omega), fun h => if_pos ⟨by decide, fun q => h (rNx_l.mp q)⟩, fun h => if_neg (fun q => h (fun q2 => q.2 (rNx_l.mpr q2)))⟩
  | cons c cs ih =>
    intro j hc
    have hcc := hc c List.mem_cons_self
    obtain ⟨i1, i2, i3⟩ := ih (j + 1) (fun x hx => hc x (List.mem_cons_of_mem _ hx))
    have e0 : ∀ x, rFd b n a (c :: cs ++ tl) w j x = rFd b n a (cs ++ tl) w (j + 1) (if x = 0 then 0 else if rNx b n j = c then 1 else 0) := fun x => by
      show (if c = 32 then _ else _) = _
      rw [if_neg (by omega)]
      rfl
    refine ⟨by rw [e0, if_pos rfl]; exact i1, fun h => ?_, fun h => ?_⟩
    · rw [e0, if_neg (by decide), if_pos ((rNx_m hcc.1).mpr ⟨h.1, h.2.1⟩)]
      exact i2 h.2.2
    · rw [e0, if_neg (by decide)]
      by_cases q : rNx b n j = c
      · rw [if_pos q]
        have := (rNx_m hcc.1).mp q
        exact i3 (fun w => h ⟨this.1, this.2, w⟩)
      · rw [if_neg q]
        exact i1
theorem rFd_ix {b : Int → Int} {n a : Int} (h0 : 0 ≤ a) (h1 : a ≤ n) : ∀ (l : List (List Int)) (w : Int), l ≠ [] → (∀ cs ∈ l, ∀ c ∈ cs, 97 ≤ c ∧ c ≤ 122) → rFd b n a (rJn l) w a 1 = rIx (rW b n a) l w := by
  intro l
  induction l with
  | nil => intro w h; exact absurd rfl h
  | cons cs l ih =>
    intro w _ hl
    have hcs := hl cs List.mem_cons_self
    have hm := rMt_iff (b := b) cs a h0 h1 hcs
    show _ = if rW b n a = cs.reverse then w else rIx (rW b n a) l (w + 1)
    cases l with
    | nil =>
      obtain ⟨i1, i2, i3⟩ := rFd_1 (b := b) (n := n) (a := a) [] (-1) w (Or.inl ⟨rfl, rfl⟩) cs a hcs
      rw [List.append_nil] at i2 i3
      show rFd b n a cs w a 1 = _
      by_cases q : rW b n a = cs.reverse
      · rw [if_pos q]
        exact i2 (hm.mpr q)
      · rw [if_neg q]
        exact i3 (fun w => q (hm.mp w))
    | cons c2 l2 =>
      have ih' := ih (w + 1) (by simp) (fun cs hc => hl cs (List.mem_cons_of_mem _ hc))
      obtain ⟨i1, i2, i3⟩ := rFd_1 (b := b) (n := n) (a := a) (32 :: rJn (c2 :: l2)) (rFd b n a (rJn (c2 :: l2)) (w + 1) a 1) w (Or.inr ⟨_, rfl, rfl⟩) cs a hcs
      show rFd b n a (cs ++ 32 :: rJn (c2 :: l2)) w a 1 = _
      by_cases q : rW b n a = cs.reverse
      · rw [if_pos q]
        exact i2 (hm.mpr q)
      · rw [if_neg q, i3 (fun w => q (hm.mp w))]
        exact ih'
def nRv : List (List Int) := [[114, 105, 118, 101, 114], [109, 111, 111, 110], [112, 101, 114, 115, 111, 110], [109, 101, 109, 111, 114, 121], [116, 114, 97, 112]]
def nWd : List (List Int) := [[109, 101, 109, 111, 114, 121], [112, 111, 111, 108], [102, 114, 111, 109], [115, 105, 122, 101], [115, 109, 101, 108, 108], [98, 97, 105, 116], [116, 114, 97, 112, 115], [119, 105, 116, 104], [108, 105, 103, 104, 116], [110, 101, 120, 116], [119, 104, 111, 115, 101], [110, 105, 103, 104, 116]]
theorem c_find (d : Nat) (r : Int) (l : List (List Int)) {b : Int → Int} {n i : Int} {m : jMem} (h : rC b n i m) (ht : jtext jtexts r = rJn l) (hl : l ≠ []) (hc : ∀ cs ∈ l, ∀ c ∈ cs, 97 ≤ c ∧ c ≤ 122) (hL : (rJn l).length < 1000) : Ta_find (d + 2) r m = some (vI (rIx (rW b n i) l 0), m) := by
  have h5 := h.2.2.2.2
  rw [q_Ta_find, h.2.2.1]
  have := s_find d r h (rJn l) 0 0 i 1 (by rw [ht]; rfl) (by rw [ht]; omega) (by rw [ht]; exact hL) (by decide) (by decide) h5.1 (by omega) (Or.inr rfl)
  rw [rFd_ix h5.1 h5.2.1 l 0 hl hc] at this
  exact this
