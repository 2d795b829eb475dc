/-! A river's clauses, told as numbers on the tape -/
def rSt (T : Int → Int) (k v : Int) : Int → Int := fun j => if j = k then v else T j
theorem rSt_s (T : Int → Int) (k v : Int) : rSt T k v k = v := if_pos rfl
theorem rSt_o {T : Int → Int} {k v j : Int} (h : j ≠ k) : rSt T k v j = T j := if_neg h
def rN1 (b : Int → Int) (n lo hi F i : Int) : Int × (Int × Int) := if F = 0 then (if 0 < rDg b n (rSk b n i) - rSk b n i ∧ rDg b n (rSk b n i) - rSk b n i ≤ 5 ∧ lo ≤ rVl b (rSk b n i) (rDg b n (rSk b n i)) ∧ rVl b (rSk b n i) (rDg b n (rSk b n i)) ≤ hi then (0, rDg b n (rSk b n i), rVl b (rSk b n i) (rDg b n (rSk b n i))) else (rFt b n (rSk b n i), rDg b n (rSk b n i), -1)) else (F, i, -1)
theorem rN1_ok {b : Int → Int} {n lo hi i : Int} (h : rOk b (rSk b n i) (rDg b n (rSk b n i)) lo hi) : rN1 b n lo hi 0 i = (0, rDg b n (rSk b n i), rVl b (rSk b n i) (rDg b n (rSk b n i))) := by
  unfold rN1
  rw [if_pos rfl, if_pos ⟨h.1, h.2.1, h.2.2.1, h.2.2.2⟩]
theorem rN1_no {b : Int → Int} {n lo hi i : Int} (h : ¬ rOk b (rSk b n i) (rDg b n (rSk b n i)) lo hi) : rN1 b n lo hi 0 i = (rFt b n (rSk b n i), rDg b n (rSk b n i), -1) := by
  unfold rN1
  rw [if_pos rfl, if_neg (fun w => h ⟨w.1, w.2.1, w.2.2.1, w.2.2.2⟩)]
theorem rN1_f {b : Int → Int} {n lo hi F i : Int} (h : F ≠ 0) : rN1 b n lo hi F i = (F, i, -1) := by
  unfold rN1
  rw [if_neg h]
theorem rN1_in {b : Int → Int} {n lo hi F i : Int} (h : (rN1 b n lo hi F i).1 = 0) : F = 0 ∧ lo ≤ (rN1 b n lo hi F i).2.2 ∧ (rN1 b n lo hi F i).2.2 ≤ hi := by
  by_cases hF : F = 0
  · subst hF
    by_cases ok : 0 < rDg b n (rSk b n i) - rSk b n i ∧ rDg b n (rSk b n i) - rSk b n i ≤ 5 ∧ lo ≤ rVl b (rSk b n i) (rDg b n (rSk b n i)) ∧ rVl b (rSk b n i) (rDg b n (rSk b n i)) ≤ hi
    · rw [rN1_ok (b := b) (lo := lo) (hi := hi) ok]
      exact ⟨rfl, ok.2.2.1, ok.2.2.2⟩
    · rw [rN1_no (b := b) (lo := lo) (hi := hi) ok] at h
      have h' : rFt b n (rSk b n i) = 0 := h
      unfold rFt at h'
      by_cases e : rDg b n (rSk b n i) = rSk b n i
      · rw [if_pos e] at h'; omega
      · rw [if_neg e] at h'; omega
  · rw [rN1_f hF] at h
    exact absurd h hF
/-- a class's reader, behind a fault or not -/
def rCf (b : Int → Int) (n F i : Int) (m : jMem) : Prop := (F = 0 ∧ rC b n i m) ∨ (F ≠ 0 ∧ jrI m 8 0 3 = F)
theorem rCf_fr {b : Int → Int} {n F i : Int} {m m' : jMem} (hr : ∀ f k, f = 37 ∨ (f = 8 ∧ (k = 1 ∨ k = 2 ∨ k = 3)) → jrI m' f 0 k = jrI m f 0 k) (h : rCf b n F i m) : rCf b n F i m' := by
  rcases h with ⟨h1, h2⟩ | ⟨h1, h2⟩
  · exact Or.inl ⟨h1, rC_fr hr h2⟩
  · exact Or.inr ⟨h1, by rw [hr 8 3 (by omega)]; exact h2⟩
theorem c_num (d : Nat) (lo hi : Int) {b : Int → Int} {n F i : Int} {m : jMem} (h : rCf b n F i m) : ∃ m', Ta_number (d + 2) lo hi m = some (vI (rN1 b n lo hi F i).2.2, m') ∧ rCf b n (rN1 b n lo hi F i).1 (rN1 b n lo hi F i).2.1 m' ∧ puR aC m m' := by
  rcases h with ⟨h1, h2⟩ | ⟨h1, h2⟩
  · subst h1
    obtain ⟨e1, e2⟩ := c_number d lo hi h2
    have h5 := h2.2.2.2.2
    by_cases ok : 0 < rDg b n (rSk b n i) - rSk b n i ∧ rDg b n (rSk b n i) - rSk b n i ≤ 5 ∧ lo ≤ rVl b (rSk b n i) (rDg b n (rSk b n i)) ∧ rVl b (rSk b n i) (rDg b n (rSk b n i)) ≤ hi
    · rw [rN1_ok (b := b) (lo := lo) (hi := hi) ok]
      obtain ⟨m', a1, a2, a3⟩ := e1 ok
      exact ⟨m', a1, Or.inl ⟨rfl, a2⟩, a3⟩
    · rw [rN1_no (b := b) (lo := lo) (hi := hi) ok]
      obtain ⟨m', a1, a2, a3⟩ := e2 ok
      have := rSk_in (b := b) h5.1 h5.2.1
      exact ⟨m', a1, Or.inr ⟨rFt_n (by omega), a2⟩, a3⟩
  · rw [rN1_f h1]
    exact ⟨m, c_none (d + 1) lo hi m (by rw [h2]; exact h1), Or.inr ⟨h1, h2⟩, puR_rf _ m⟩
/-- a clause of a kind, its numbers from i on -/
def rCl (b : Int → Int) (n k i : Int) (T : Int → Int) : Int × (Int × (Int → Int)) :=
  if k = 0 then ((rN1 b n 1 9 (rN1 b n 2 12 0 i).1 (rN1 b n 2 12 0 i).2.1).1, (rN1 b n 1 9 (rN1 b n 2 12 0 i).1 (rN1 b n 2 12 0 i).2.1).2.1, rSt (rSt (rSt T 1 (rN1 b n 2 12 0 i).2.2) 2 (rN1 b n 1 9 (rN1 b n 2 12 0 i).1 (rN1 b n 2 12 0 i).2.1).2.2) 0 1)
  else if k = 1 then ((rN1 b n 0 9 0 i).1, (rN1 b n 0 9 0 i).2.1, rSt (rSt T (55 + T 3) (rN1 b n 0 9 0 i).2.2) 3 (T 3 + 1))
  else if k = 2 then ((rN1 b n 1 9 0 i).1, (rN1 b n 1 9 0 i).2.1, rSt (rSt T (51 + T 4) (rN1 b n 1 9 0 i).2.2) 4 (T 4 + 1))
  else
    (fun (q1 : Int × (Int × Int)) => (fun (q2 : Int × (Int × Int)) => (fun (q3 : Int × (Int × Int)) => (fun (q4 : Int × (Int × Int)) =>
      (q4.1, q4.2.1, if k = 3 then rSt (rSt (rSt (rSt (rSt T (67 + T 5) q1.2.2) (33 + T 5) q2.2.2) (39 + T 5) q3.2.2) (45 + T 5) q4.2.2) 5 (T 5 + 1) else rSt (rSt (rSt (rSt (rSt T (73 + 2 * T 6) q1.2.2) (25 + T 6) q2.2.2) (74 + 2 * T 6) q3.2.2) (29 + T 6) q4.2.2) 6 (T 6 + 1)))
      (rN1 b n 0 (T 4 - 1) q3.1 q3.2.1)) (rN1 b n 0 7 q2.1 q2.2.1)) (rN1 b n 1 9 q1.1 q1.2.1)) (rN1 b n 0 (T 1 - 1) 0 i)
/-- the class's draft -/
def cRd (m : jMem) (T : Int → Int) : Prop :=
  (T 0 = 1 → jrI m 4 5 1 = T 1 ∧ jrI m 4 5 2 = T 2) ∧ (jrI m 4 5 3 = T 3 ∧ jrI m 4 5 4 = T 4 ∧ jrI m 4 5 5 = T 5 ∧ jrI m 4 5 6 = T 6) ∧
  (∀ q, 0 ≤ q → q < T 5 → jrI m 23 5 q = T (67 + q) ∧ jrI m 24 5 q = T (33 + q) ∧ jrI m 25 5 q = T (39 + q) ∧ jrI m 26 5 q = T (45 + q)) ∧
  (∀ t, 0 ≤ t → t < T 6 → jrI m 27 5 t = T (73 + 2 * t) ∧ jrI m 28 5 t = T (25 + t) ∧ jrI m 29 5 t = T (74 + 2 * t) ∧ jrI m 30 5 t = T (29 + t)) ∧
  (∀ p, 0 ≤ p → p < T 4 → jrI m 22 5 p = T (51 + p)) ∧ (∀ i, 0 ≤ i → i < T 3 → jrI m 21 5 i = T (55 + i))
abbrev rRm (T : Int → Int) (k : Int) : Prop := (k = 0 ∧ T 0 = 0) ∨ (T 0 = 1 ∧ ((k = 1 ∧ T 3 < 12) ∨ (k = 2 ∧ T 4 < 4) ∨ (k = 3 ∧ T 5 < 6) ∨ (k = 4 ∧ T 6 < 4)))
def aR (f : Nat) (i k : Int) : Prop := (f = 8 ∧ i = 0 ∧ (k = 2 ∨ k = 3)) ∨ ((f = 4 ∨ (21 ≤ f ∧ f ≤ 30)) ∧ i = 5)
theorem cRd_fr {m m' : jMem} {T : Int → Int} (h : ∀ f k, f = 4 ∨ (21 ≤ f ∧ f ≤ 30) → jrI m' f 5 k = jrI m f 5 k) (hc : cRd m T) : cRd m' T := by
  obtain ⟨c1, c2, c7, c8, c9, c10⟩ := hc
  have h4 : ∀ k, jrI m' 4 5 k = jrI m 4 5 k := fun k => h 4 k (Or.inl rfl)
  have hh : ∀ f k, 21 ≤ f → f ≤ 30 → jrI m' f 5 k = jrI m f 5 k := fun f k a b => h f k (Or.inr ⟨a, b⟩)
  refine ⟨fun w => by rw [h4, h4]; exact c1 w, by rw [h4, h4, h4, h4]; exact c2, fun m a b => ?_, fun m a b => ?_, fun m a b => ?_, fun m a b => ?_⟩
  · rw [hh 23 m (by decide) (by decide), hh 24 m (by decide) (by decide), hh 25 m (by decide) (by decide), hh 26 m (by decide) (by decide)]
    exact c7 m a b
  · rw [hh 27 m (by decide) (by decide), hh 28 m (by decide) (by decide), hh 29 m (by decide) (by decide), hh 30 m (by decide) (by decide)]
    exact c8 m a b
  · rw [hh 22 m (by decide) (by decide)]
    exact c9 m a b
  · rw [hh 21 m (by decide) (by decide)]
    exact c10 m a b
theorem aC_R {m m' : jMem} (h : puR aC m m') : puR aR m m' := puR_mono h (fun f i k w => by unfold aC at w; unfold aR; omega)
/-- the tables within their bounds: what a clause may have -/
def rBd (T : Int → Int) : Prop := (0 ≤ T 3 ∧ T 3 ≤ 12) ∧ (0 ≤ T 4 ∧ T 4 ≤ 4) ∧ (0 ≤ T 5 ∧ T 5 ≤ 6) ∧ (0 ≤ T 6 ∧ T 6 ≤ 4) ∧ (0 ≤ T 1 ∧ T 1 ≤ 12)
theorem c_cl0 (d : Nat) {b : Int → Int} {n i : Int} {T : Int → Int} {m : jMem} (h : rC b n i m) (hd : cRd m T) (hB : rBd T) : ∃ m', Ri_readClause (d + 3) 5 0 m = some (vU, m') ∧ rCf b n (rCl b n 0 i T).1 (rCl b n 0 i T).2.1 m' ∧ cRd m' (rCl b n 0 i T).2.2 ∧ puR aR m m' := by
  unfold rCl
  rw [if_pos rfl]
  obtain ⟨m1, a1, a2, a3⟩ := c_num d 2 12 (Or.inl ⟨rfl, h⟩ : rCf b n 0 i m)
  generalize rN1 b n 2 12 0 i = q1 at *
  obtain ⟨m2, b1, b2, b3⟩ := c_num d 1 9 (rCf_fr (m' := jwI m1 4 5 1 q1.2.2) (fun f k w => by rw [jrI_w, if_neg (by omega)]) a2)
  generalize rN1 b n 1 9 q1.1 q1.2.1 = q2 at *
  refine ⟨jwI m2 4 5 2 q2.2.2, ?_, rCf_fr (fun f k w => by rw [jrI_w, if_neg (by omega)]) b2, (show cRd (jwI m2 4 5 2 q2.2.2) (rSt (rSt (rSt T 1 q1.2.2) 2 q2.2.2) 0 1) from ?_), ?_⟩
  · rw [q_Ri_readClause, if_pos rfl, a1]
    simp only [jbnd_s, jasI_v]
    rw [b1]
    simp only [jbnd_s, jasI_v]
  · have fr : ∀ f k, (f = 4 ∧ k ≠ 1 ∧ k ≠ 2) ∨ (21 ≤ f ∧ f ≤ 30) → jrI (jwI m2 4 5 2 q2.2.2) f 5 k = jrI m f 5 k := fun f k w => by
      rw [jrI_w, if_neg (by omega), b3 f 5 k (by unfold aC; omega), jrI_w, if_neg (by omega), a3 f 5 k (by unfold aC; omega)]
    have hT : ∀ j, 3 ≤ j → rSt (rSt (rSt T 1 q1.2.2) 2 q2.2.2) 0 1 j = T j := fun j hj => by rw [rSt_o (by omega), rSt_o (by omega), rSt_o (by omega)]
    obtain ⟨c1, c2, c7, c8, c9, c10⟩ := hd
    refine ⟨fun _ => ⟨?_, ?_⟩, ?_, fun q q0 q1' => ?_, fun q q0 q1' => ?_, fun q q0 q1' => ?_, fun q q0 q1' => ?_⟩
    · rw [jrI_wk (by decide), b3 4 5 1 (by unfold aC; omega), jrI_ws, rSt_o (by decide), rSt_o (by decide), rSt_s]
    · rw [jrI_ws, rSt_o (by decide), rSt_s]
    · rw [fr 4 3 (by omega), fr 4 4 (by omega), fr 4 5 (by omega), fr 4 6 (by omega), hT 3 (by omega), hT 4 (by omega), hT 5 (by omega), hT 6 (by omega)]
      exact c2
    · rw [hT 5 (by omega)] at q1'
      rw [fr 23 q (by omega), fr 24 q (by omega), fr 25 q (by omega), fr 26 q (by omega), hT _ (by omega), hT _ (by omega), hT _ (by omega), hT _ (by omega)]
      exact c7 q q0 q1'
    · rw [hT 6 (by omega)] at q1'
      rw [fr 27 q (by omega), fr 28 q (by omega), fr 29 q (by omega), fr 30 q (by omega), hT _ (by omega), hT _ (by omega), hT _ (by omega), hT _ (by omega)]
      exact c8 q q0 q1'
    · rw [hT 4 (by omega)] at q1'
      rw [fr 22 q (by omega), hT _ (by omega)]
      exact c9 q q0 q1'
    · rw [hT 3 (by omega)] at q1'
      rw [fr 21 q (by omega), hT _ (by omega)]
      exact c10 q q0 q1'
  · refine puR_w (puR_tr (puR_w (aC_R a3) ?_) (aC_R b3)) ?_
    · unfold aR; omega
    · unfold aR; omega
theorem c_cl1 (d : Nat) {b : Int → Int} {n i : Int} {T : Int → Int} {m : jMem} (h : rC b n i m) (hd : cRd m T) (hB : rBd T) (hr : T 3 < 12) : ∃ m', Ri_readClause (d + 3) 5 1 m = some (vU, m') ∧ rCf b n (rCl b n 1 i T).1 (rCl b n 1 i T).2.1 m' ∧ cRd m' (rCl b n 1 i T).2.2 ∧ puR aR m m' := by
  unfold rCl
  rw [if_neg (show ¬ (1 : Int) = 0 by decide), if_pos rfl]
  obtain ⟨b3', b4', b5', b6', b1'⟩ := id hB
  obtain ⟨c1, ⟨c3, c4, c5, c6⟩, c7, c8, c9, c10⟩ := id hd
  obtain ⟨m1, a1, a2, a3⟩ := c_num d 0 9 (Or.inl ⟨rfl, h⟩ : rCf b n 0 i m)
  generalize rN1 b n 0 9 0 i = q1 at *
  have fr : ∀ f k, (f = 4 ∧ k ≠ 3) ∨ (21 ≤ f ∧ f ≤ 30 ∧ f ≠ 21) → jrI (jwI (jwI m1 21 5 (T 3) q1.2.2) 4 5 3 (T 3 + 1)) f 5 k = jrI m f 5 k := fun f k w => by
    rw [jrI_w, if_neg (by omega), jrI_w, if_neg (by omega), a3 f 5 k (by unfold aC; omega)]
  have hT : ∀ j, j ≠ 3 → j ≠ 55 + T 3 → rSt (rSt T (55 + T 3) q1.2.2) 3 (T 3 + 1) j = T j := fun j h1 h2 => by rw [rSt_o h1, rSt_o h2]
  refine ⟨jwI (jwI m1 21 5 (T 3) q1.2.2) 4 5 3 (T 3 + 1), ?_, rCf_fr (fun f k w => by rw [jrI_w, if_neg (by omega), jrI_w, if_neg (by omega)]) a2, (show cRd (jwI (jwI m1 21 5 (T 3) q1.2.2) 4 5 3 (T 3 + 1)) (rSt (rSt T (55 + T 3) q1.2.2) 3 (T 3 + 1)) from ⟨fun w => ?_, ?_, fun q q0 q1' => ?_, fun q q0 q1' => ?_, fun q q0 q1' => ?_, fun q q0 q1' => ?_⟩), ?_⟩
  · rw [q_Ri_readClause, if_neg (show ¬ (1 : Int) = 0 by decide), if_pos rfl, a1]
    simp only [jbnd_s, jasI_v]
    rw [a3 4 5 3 (by unfold aC; omega), c3, jix_in (by omega) (by omega), jw32_id (x := T 3 + 1) (by omega) (by omega)]
  · rw [hT 0 (by omega) (by omega)] at w
    rw [fr 4 1 (by omega), fr 4 2 (by omega), hT 1 (by omega) (by omega), hT 2 (by omega) (by omega)]
    exact c1 w
  · refine ⟨?_, ?_, ?_, ?_⟩
    · rw [jrI_ws, rSt_s]
    · rw [fr 4 4 (by omega), hT 4 (by omega) (by omega)]; exact c4
    · rw [fr 4 5 (by omega), hT 5 (by omega) (by omega)]; exact c5
    · rw [fr 4 6 (by omega), hT 6 (by omega) (by omega)]; exact c6
  · rw [hT 5 (by omega) (by omega)] at q1'
    rw [fr 23 q (by omega), fr 24 q (by omega), fr 25 q (by omega), fr 26 q (by omega), hT _ (by omega) (by omega), hT _ (by omega) (by omega), hT _ (by omega) (by omega), hT _ (by omega) (by omega)]
    exact c7 q q0 q1'
  · rw [hT 6 (by omega) (by omega)] at q1'
    rw [fr 27 q (by omega), fr 28 q (by omega), fr 29 q (by omega), fr 30 q (by omega), hT _ (by omega) (by omega), hT _ (by omega) (by omega), hT _ (by omega) (by omega), hT _ (by omega) (by omega)]
    exact c8 q q0 q1'
  · rw [hT 4 (by omega) (by omega)] at q1'
    rw [fr 22 q (by omega), hT _ (by omega) (by omega)]
    exact c9 q q0 q1'
  · rw [rSt_s] at q1'
    rw [jrI_wf (by decide)]
    by_cases e : q = T 3
    · rw [e, jrI_ws, rSt_o (by omega), rSt_s]
    · rw [jrI_wk e, a3 21 5 q (by unfold aC; omega), hT _ (by omega) (by omega)]
      exact c10 q q0 (by omega)
  · refine puR_w (puR_w (aC_R a3) ?_) ?_
    · unfold aR; omega
    · unfold aR; omega
theorem c_cl2 (d : Nat) {b : Int → Int} {n i : Int} {T : Int → Int} {m : jMem} (h : rC b n i m) (hd : cRd m T) (hB : rBd T) (hr : T 4 < 4) : ∃ m', Ri_readClause (d + 3) 5 2 m = some (vU, m') ∧ rCf b n (rCl b n 2 i T).1 (rCl b n 2 i T).2.1 m' ∧ cRd m' (rCl b n 2 i T).2.2 ∧ puR aR m m' := by
  unfold rCl
  rw [if_neg (show ¬ (2 : Int) = 0 by decide), if_neg (show ¬ (2 : Int) = 1 by decide), if_pos rfl]
  obtain ⟨b3', b4', b5', b6', b1'⟩ := id hB
  obtain ⟨c1, ⟨c3, c4, c5, c6⟩, c7, c8, c9, c10⟩ := id hd
  obtain ⟨m1, a1, a2, a3⟩ := c_num d 1 9 (Or.inl ⟨rfl, h⟩ : rCf b n 0 i m)
  generalize rN1 b n 1 9 0 i = q1 at *
  have fr : ∀ f k, (f = 4 ∧ k ≠ 4) ∨ (21 ≤ f ∧ f ≤ 30 ∧ f ≠ 22) → jrI (jwI (jwI m1 22 5 (T 4) q1.2.2) 4 5 4 (T 4 + 1)) f 5 k = jrI m f 5 k := fun f k w => by
    rw [jrI_w, if_neg (by omega), jrI_w, if_neg (by omega), a3 f 5 k (by unfold aC; omega)]
  have hT : ∀ j, j ≠ 4 → j ≠ 51 + T 4 → rSt (rSt T (51 + T 4) q1.2.2) 4 (T 4 + 1) j = T j := fun j h1 h2 => by rw [rSt_o h1, rSt_o h2]
  refine ⟨jwI (jwI m1 22 5 (T 4) q1.2.2) 4 5 4 (T 4 + 1), ?_, rCf_fr (fun f k w => by rw [jrI_w, if_neg (by omega), jrI_w, if_neg (by omega)]) a2, (show cRd (jwI (jwI m1 22 5 (T 4) q1.2.2) 4 5 4 (T 4 + 1)) (rSt (rSt T (51 + T 4) q1.2.2) 4 (T 4 + 1)) from ⟨fun w => ?_, ?_, fun q q0 q1' => ?_, fun q q0 q1' => ?_, fun q q0 q1' => ?_, fun q q0 q1' => ?_⟩), ?_⟩
  · rw [q_Ri_readClause, if_neg (show ¬ (2 : Int) = 0 by decide), if_neg (show ¬ (2 : Int) = 1 by decide), if_pos rfl, a1]
    simp only [jbnd_s, jasI_v]
    rw [a3 4 5 4 (by unfold aC; omega), c4, jix_in (by omega) (by omega), jw32_id (x := T 4 + 1) (by omega) (by omega)]
  · rw [hT 0 (by omega) (by omega)] at w
    rw [fr 4 1 (by omega), fr 4 2 (by omega), hT 1 (by omega) (by omega), hT 2 (by omega) (by omega)]
    exact c1 w
  · refine ⟨?_, ?_, ?_, ?_⟩
    · rw [fr 4 3 (by omega), hT 3 (by omega) (by omega)]; exact c3
    · rw [jrI_ws, rSt_s]
    · rw [fr 4 5 (by omega), hT 5 (by omega) (by omega)]; exact c5
    · rw [fr 4 6 (by omega), hT 6 (by omega) (by omega)]; exact c6
  · rw [hT 5 (by omega) (by omega)] at q1'
    rw [fr 23 q (by omega), fr 24 q (by omega), fr 25 q (by omega), fr 26 q (by omega), hT _ (by omega) (by omega), hT _ (by omega) (by omega), hT _ (by omega) (by omega), hT _ (by omega) (by omega)]
    exact c7 q q0 q1'
  · rw [hT 6 (by omega) (by omega)] at q1'
    rw [fr 27 q (by omega), fr 28 q (by omega), fr 29 q (by omega), fr 30 q (by omega), hT _ (by omega) (by omega), hT _ (by omega) (by omega), hT _ (by omega) (by omega), hT _ (by omega) (by omega)]
    exact c8 q q0 q1'
  · rw [rSt_s] at q1'
    rw [jrI_wf (by decide)]
    by_cases e : q = T 4
    · rw [e, jrI_ws, rSt_o (by omega), rSt_s]
    · rw [jrI_wk e, a3 22 5 q (by unfold aC; omega), hT _ (by omega) (by omega)]
      exact c9 q q0 (by omega)
  · rw [hT 3 (by omega) (by omega)] at q1'
    rw [fr 21 q (by omega), hT _ (by omega) (by omega)]
    exact c10 q q0 q1'
  · refine puR_w (puR_w (aC_R a3) ?_) ?_
    · unfold aR; omega
    · unfold aR; omega
theorem c_cl3 (d : Nat) {b : Int → Int} {n i : Int} {T : Int → Int} {m : jMem} (h : rC b n i m) (hd : cRd m T) (hB : rBd T) (h0 : T 0 = 1) (hr : T 5 < 6) : ∃ m', Ri_readClause (d + 3) 5 3 m = some (vU, m') ∧ rCf b n (rCl b n 3 i T).1 (rCl b n 3 i T).2.1 m' ∧ cRd m' (rCl b n 3 i T).2.2 ∧ puR aR m m' := by
  unfold rCl
  rw [if_neg (show ¬ (3 : Int) = 0 by decide), if_neg (show ¬ (3 : Int) = 1 by decide), if_neg (show ¬ (3 : Int) = 2 by decide)]
  simp only []
  try rw [if_pos rfl]
  obtain ⟨b3', b4', b5', b6', b1'⟩ := id hB
  obtain ⟨c1, ⟨c3, c4, c5, c6⟩, c7, c8, c9, c10⟩ := id hd
  obtain ⟨c1, c2⟩ := c1 h0
  obtain ⟨m1, n1, n2, n3⟩ := c_num d 0 (T 1 - 1) (Or.inl ⟨rfl, h⟩ : rCf b n 0 i m)
  generalize rN1 b n 0 (T 1 - 1) 0 i = q1 at *
  obtain ⟨m2, n4, n5, n6⟩ := c_num d 1 9 (rCf_fr (m' := (jwI m1 23 5 (T 5) q1.2.2)) (fun f k w => by rw [jrI_w, if_neg (by omega)]) n2)
  generalize rN1 b n 1 9 q1.1 q1.2.1 = q2 at *
  obtain ⟨m3, n7, n8, n9⟩ := c_num d 0 7 (rCf_fr (m' := (jwI m2 24 5 (T 5) q2.2.2)) (fun f k w => by rw [jrI_w, if_neg (by omega)]) n5)
  generalize rN1 b n 0 7 q2.1 q2.2.1 = q3 at *
  obtain ⟨m4, n10, n11, n12⟩ := c_num d 0 (T 4 - 1) (rCf_fr (m' := (jwI m3 25 5 (T 5) q3.2.2)) (fun f k w => by rw [jrI_w, if_neg (by omega)]) n8)
  generalize rN1 b n 0 (T 4 - 1) q3.1 q3.2.1 = q4 at *
  have e1 : ∀ f k, f ≠ 8 → jrI m1 f 5 k = jrI m f 5 k := fun f k w => n3 f 5 k (by unfold aC; omega)
  have e2 : ∀ f k, f ≠ 8 → f ≠ 23 → jrI m2 f 5 k = jrI m f 5 k := fun f k w w1 => by rw [n6 f 5 k (by unfold aC; omega), jrI_wf w1, e1 f k w]
  have e3 : ∀ f k, f ≠ 8 → f ≠ 23 → f ≠ 24 → jrI m3 f 5 k = jrI m f 5 k := fun f k w w1 w2 => by rw [n9 f 5 k (by unfold aC; omega), jrI_wf w2, e2 f k w w1]
  have e4 : ∀ f k, f ≠ 8 → f ≠ 23 → f ≠ 24 → f ≠ 25 → jrI m4 f 5 k = jrI m f 5 k := fun f k w w1 w2 w3 => by rw [n12 f 5 k (by unfold aC; omega), jrI_wf w3, e3 f k w w1 w2]
  have fr : ∀ f k, (f = 4 ∧ k ≠ 5) ∨ (21 ≤ f ∧ f ≤ 30 ∧ f ≠ 23 ∧ f ≠ 24 ∧ f ≠ 25 ∧ f ≠ 26) → jrI (jwI (jwI m4 26 5 (T 5) q4.2.2) 4 5 5 (T 5 + 1)) f 5 k = jrI m f 5 k := fun f k w => by
    rw [jrI_w, if_neg (by omega), jrI_w, if_neg (by omega), e4 f k (by omega) (by omega) (by omega) (by omega)]
  have hT : ∀ j, j ≠ 5 → j ≠ 67 + T 5 → j ≠ 33 + T 5 → j ≠ 39 + T 5 → j ≠ 45 + T 5 → (rSt (rSt (rSt (rSt (rSt T (67 + T 5) q1.2.2) (33 + T 5) q2.2.2) (39 + T 5) q3.2.2) (45 + T 5) q4.2.2) 5 (T 5 + 1)) j = T j := fun j h1 h2 h3 h4 h5 => by rw [rSt_o h1, rSt_o h5, rSt_o h4, rSt_o h3, rSt_o h2]
  refine ⟨(jwI (jwI m4 26 5 (T 5) q4.2.2) 4 5 5 (T 5 + 1)), ?_, rCf_fr (fun f k w => by rw [jrI_w, if_neg (by omega), jrI_w, if_neg (by omega)]) n11, (show cRd (jwI (jwI m4 26 5 (T 5) q4.2.2) 4 5 5 (T 5 + 1)) (rSt (rSt (rSt (rSt (rSt T (67 + T 5) q1.2.2) (33 + T 5) q2.2.2) (39 + T 5) q3.2.2) (45 + T 5) q4.2.2) 5 (T 5 + 1)) from ⟨fun w => ?_, ?_, fun q q0 q1' => ?_, fun q q0 q1' => ?_, fun q q0 q1' => ?_, fun q q0 q1' => ?_⟩), ?_⟩
  · rw [q_Ri_readClause, if_neg (show ¬ (3 : Int) = 0 by decide), if_neg (show ¬ (3 : Int) = 1 by decide), if_neg (show ¬ (3 : Int) = 2 by decide), if_pos rfl, c1, jw32_id (x := T 1 - 1) (by omega) (by omega), n1]
    simp only [jbnd_s, jasI_v]
    rw [c5, jix_in (by omega) (by omega), n4]
    simp only [jbnd_s, jasI_v]
    rw [e1 4 5 (by decide), c5, jix_in (by omega) (by omega), n7]
    simp only [jbnd_s, jasI_v]
    rw [e2 4 5 (by decide) (by decide), c5, jix_in (by omega) (by omega), e3 4 4 (by decide) (by decide) (by decide), c4, jw32_id (x := T 4 - 1) (by omega) (by omega), n10]
    simp only [jbnd_s, jasI_v]
    rw [e3 4 5 (by decide) (by decide) (by decide), c5, jix_in (by omega) (by omega), e4 4 5 (by decide) (by decide) (by decide) (by decide), c5, jw32_id (x := T 5 + 1) (by omega) (by omega)]
  · rw [fr 4 1 (by omega), fr 4 2 (by omega), hT 1 (by omega) (by omega) (by omega) (by omega) (by omega), hT 2 (by omega) (by omega) (by omega) (by omega) (by omega)]
    exact ⟨c1, c2⟩
  · refine ⟨?_, ?_, ?_, ?_⟩
    · rw [fr 4 3 (by omega), hT 3 (by omega) (by omega) (by omega) (by omega) (by omega)]; exact c3
    · rw [fr 4 4 (by omega), hT 4 (by omega) (by omega) (by omega) (by omega) (by omega)]; exact c4
    · rw [jrI_ws, rSt_s]
    · rw [fr 4 6 (by omega), hT 6 (by omega) (by omega) (by omega) (by omega) (by omega)]; exact c6
  · rw [rSt_s] at q1'
    have r1 : jrI (jwI (jwI m4 26 5 (T 5) q4.2.2) 4 5 5 (T 5 + 1)) 23 5 q = jrI (jwI m1 23 5 (T 5) q1.2.2) 23 5 q := by rw [jrI_wf (by decide), jrI_wf (by decide), n12 23 5 q (by unfold aC; omega), jrI_wf (by decide), n9 23 5 q (by unfold aC; omega), jrI_wf (by decide), n6 23 5 q (by unfold aC; omega)]
    have r2 : jrI (jwI (jwI m4 26 5 (T 5) q4.2.2) 4 5 5 (T 5 + 1)) 24 5 q = jrI (jwI m2 24 5 (T 5) q2.2.2) 24 5 q := by rw [jrI_wf (by decide), jrI_wf (by decide), n12 24 5 q (by unfold aC; omega), jrI_wf (by decide), n9 24 5 q (by unfold aC; omega)]
    have r3 : jrI (jwI (jwI m4 26 5 (T 5) q4.2.2) 4 5 5 (T 5 + 1)) 25 5 q = jrI (jwI m3 25 5 (T 5) q3.2.2) 25 5 q := by rw [jrI_wf (by decide), jrI_wf (by decide), n12 25 5 q (by unfold aC; omega)]
    have r4 : jrI (jwI (jwI m4 26 5 (T 5) q4.2.2) 4 5 5 (T 5 + 1)) 26 5 q = jrI (jwI m4 26 5 (T 5) q4.2.2) 26 5 q := by rw [jrI_wf (by decide)]
    rw [r1, r2, r3, r4]
    by_cases e : q = T 5
    · subst e
      rw [jrI_ws, jrI_ws, jrI_ws, jrI_ws]
      refine ⟨?_, ?_, ?_, ?_⟩
      · rw [rSt_o (by omega), rSt_o (by omega), rSt_o (by omega), rSt_o (by omega), rSt_s]
      · rw [rSt_o (by omega), rSt_o (by omega), rSt_o (by omega), rSt_s]
      · rw [rSt_o (by omega), rSt_o (by omega), rSt_s]
      · rw [rSt_o (by omega), rSt_s]
    · rw [jrI_wk e, jrI_wk e, jrI_wk e, jrI_wk e, e1 23 q (by decide), e2 24 q (by decide) (by decide), e3 25 q (by decide) (by decide) (by decide), e4 26 q (by decide) (by decide) (by decide) (by decide), hT (67 + q) (by omega) (by omega) (by omega) (by omega) (by omega), hT (33 + q) (by omega) (by omega) (by omega) (by omega) (by omega), hT (39 + q) (by omega) (by omega) (by omega) (by omega) (by omega), hT (45 + q) (by omega) (by omega) (by omega) (by omega) (by omega)]
      exact c7 q q0 (by omega)
  · rw [hT 6 (by omega) (by omega) (by omega) (by omega) (by omega)] at q1'
    rw [fr 27 q (by omega), fr 28 q (by omega), fr 29 q (by omega), fr 30 q (by omega), hT _ (by omega) (by omega) (by omega) (by omega) (by omega), hT _ (by omega) (by omega) (by omega) (by omega) (by omega), hT _ (by omega) (by omega) (by omega) (by omega) (by omega), hT _ (by omega) (by omega) (by omega) (by omega) (by omega)]
    exact c8 q q0 q1'
  · rw [hT 4 (by omega) (by omega) (by omega) (by omega) (by omega)] at q1'
    rw [fr 22 q (by omega), hT _ (by omega) (by omega) (by omega) (by omega) (by omega)]
    exact c9 q q0 q1'
  · rw [hT 3 (by omega) (by omega) (by omega) (by omega) (by omega)] at q1'
    rw [fr 21 q (by omega), hT _ (by omega) (by omega) (by omega) (by omega) (by omega)]
    exact c10 q q0 q1'
  · refine puR_w (puR_w (puR_tr (puR_w (puR_tr (puR_w (puR_tr (puR_w (aC_R n3) ?_) (aC_R n6)) ?_) (aC_R n9)) ?_) (aC_R n12)) ?_) ?_
    all_goals (unfold aR; omega)
theorem c_cl4 (d : Nat) {b : Int → Int} {n i : Int} {T : Int → Int} {m : jMem} (h : rC b n i m) (hd : cRd m T) (hB : rBd T) (h0 : T 0 = 1) (hr : T 6 < 4) : ∃ m', Ri_readClause (d + 3) 5 4 m = some (vU, m') ∧ rCf b n (rCl b n 4 i T).1 (rCl b n 4 i T).2.1 m' ∧ cRd m' (rCl b n 4 i T).2.2 ∧ puR aR m m' := by
  unfold rCl
  rw [if_neg (show ¬ (4 : Int) = 0 by decide), if_neg (show ¬ (4 : Int) = 1 by decide), if_neg (show ¬ (4 : Int) = 2 by decide)]
  simp only []
  try rw [if_neg (show ¬ (4 : Int) = 3 by decide)]
  obtain ⟨b3', b4', b5', b6', b1'⟩ := id hB
  obtain ⟨c1, ⟨c3, c4, c5, c6⟩, c7, c8, c9, c10⟩ := id hd
  obtain ⟨c1, c2⟩ := c1 h0
  obtain ⟨m1, n1, n2, n3⟩ := c_num d 0 (T 1 - 1) (Or.inl ⟨rfl, h⟩ : rCf b n 0 i m)
  generalize rN1 b n 0 (T 1 - 1) 0 i = q1 at *
  obtain ⟨m2, n4, n5, n6⟩ := c_num d 1 9 (rCf_fr (m' := (jwI m1 27 5 (T 6) q1.2.2)) (fun f k w => by rw [jrI_w, if_neg (by omega)]) n2)
  generalize rN1 b n 1 9 q1.1 q1.2.1 = q2 at *
  obtain ⟨m3, n7, n8, n9⟩ := c_num d 0 7 (rCf_fr (m' := (jwI m2 28 5 (T 6) q2.2.2)) (fun f k w => by rw [jrI_w, if_neg (by omega)]) n5)
  generalize rN1 b n 0 7 q2.1 q2.2.1 = q3 at *
  obtain ⟨m4, n10, n11, n12⟩ := c_num d 0 (T 4 - 1) (rCf_fr (m' := (jwI m3 29 5 (T 6) q3.2.2)) (fun f k w => by rw [jrI_w, if_neg (by omega)]) n8)
  generalize rN1 b n 0 (T 4 - 1) q3.1 q3.2.1 = q4 at *
  have e1 : ∀ f k, f ≠ 8 → jrI m1 f 5 k = jrI m f 5 k := fun f k w => n3 f 5 k (by unfold aC; omega)
  have e2 : ∀ f k, f ≠ 8 → f ≠ 27 → jrI m2 f 5 k = jrI m f 5 k := fun f k w w1 => by rw [n6 f 5 k (by unfold aC; omega), jrI_wf w1, e1 f k w]
  have e3 : ∀ f k, f ≠ 8 → f ≠ 27 → f ≠ 28 → jrI m3 f 5 k = jrI m f 5 k := fun f k w w1 w2 => by rw [n9 f 5 k (by unfold aC; omega), jrI_wf w2, e2 f k w w1]
  have e4 : ∀ f k, f ≠ 8 → f ≠ 27 → f ≠ 28 → f ≠ 29 → jrI m4 f 5 k = jrI m f 5 k := fun f k w w1 w2 w3 => by rw [n12 f 5 k (by unfold aC; omega), jrI_wf w3, e3 f k w w1 w2]
  have fr : ∀ f k, (f = 4 ∧ k ≠ 6) ∨ (21 ≤ f ∧ f ≤ 30 ∧ f ≠ 27 ∧ f ≠ 28 ∧ f ≠ 29 ∧ f ≠ 30) → jrI (jwI (jwI m4 30 5 (T 6) q4.2.2) 4 5 6 (T 6 + 1)) f 5 k = jrI m f 5 k := fun f k w => by
    rw [jrI_w, if_neg (by omega), jrI_w, if_neg (by omega), e4 f k (by omega) (by omega) (by omega) (by omega)]
  have hT : ∀ j, j ≠ 6 → j ≠ 73 + 2 * T 6 → j ≠ 25 + T 6 → j ≠ 74 + 2 * T 6 → j ≠ 29 + T 6 → (rSt (rSt (rSt (rSt (rSt T (73 + 2 * T 6) q1.2.2) (25 + T 6) q2.2.2) (74 + 2 * T 6) q3.2.2) (29 + T 6) q4.2.2) 6 (T 6 + 1)) j = T j := fun j h1 h2 h3 h4 h5 => by rw [rSt_o h1, rSt_o h5, rSt_o h4, rSt_o h3, rSt_o h2]
  refine ⟨(jwI (jwI m4 30 5 (T 6) q4.2.2) 4 5 6 (T 6 + 1)), ?_, rCf_fr (fun f k w => by rw [jrI_w, if_neg (by omega), jrI_w, if_neg (by omega)]) n11, (show cRd (jwI (jwI m4 30 5 (T 6) q4.2.2) 4 5 6 (T 6 + 1)) (rSt (rSt (rSt (rSt (rSt T (73 + 2 * T 6) q1.2.2) (25 + T 6) q2.2.2) (74 + 2 * T 6) q3.2.2) (29 + T 6) q4.2.2) 6 (T 6 + 1)) from ⟨fun w => ?_, ?_, fun q q0 q1' => ?_, fun q q0 q1' => ?_, fun q q0 q1' => ?_, fun q q0 q1' => ?_⟩), ?_⟩
  · rw [q_Ri_readClause, if_neg (show ¬ (4 : Int) = 0 by decide), if_neg (show ¬ (4 : Int) = 1 by decide), if_neg (show ¬ (4 : Int) = 2 by decide), if_neg (show ¬ (4 : Int) = 3 by decide), c1, jw32_id (x := T 1 - 1) (by omega) (by omega), n1]
    simp only [jbnd_s, jasI_v]
    rw [c6, jix_in (by omega) (by omega), n4]
    simp only [jbnd_s, jasI_v]
    rw [e1 4 6 (by decide), c6, jix_in (by omega) (by omega), n7]
    simp only [jbnd_s, jasI_v]
    rw [e2 4 6 (by decide) (by decide), c6, jix_in (by omega) (by omega), e3 4 4 (by decide) (by decide) (by decide), c4, jw32_id (x := T 4 - 1) (by omega) (by omega), n10]
    simp only [jbnd_s, jasI_v]
    rw [e3 4 6 (by decide) (by decide) (by decide), c6, jix_in (by omega) (by omega), e4 4 6 (by decide) (by decide) (by decide) (by decide), c6, jw32_id (x := T 6 + 1) (by omega) (by omega)]
  · rw [fr 4 1 (by omega), fr 4 2 (by omega), hT 1 (by omega) (by omega) (by omega) (by omega) (by omega), hT 2 (by omega) (by omega) (by omega) (by omega) (by omega)]
    exact ⟨c1, c2⟩
  · refine ⟨?_, ?_, ?_, ?_⟩
    · rw [fr 4 3 (by omega), hT 3 (by omega) (by omega) (by omega) (by omega) (by omega)]; exact c3
    · rw [fr 4 4 (by omega), hT 4 (by omega) (by omega) (by omega) (by omega) (by omega)]; exact c4
    · rw [fr 4 5 (by omega), hT 5 (by omega) (by omega) (by omega) (by omega) (by omega)]; exact c5
    · rw [jrI_ws, rSt_s]
  · rw [hT 5 (by omega) (by omega) (by omega) (by omega) (by omega)] at q1'
    rw [fr 23 q (by omega), fr 24 q (by omega), fr 25 q (by omega), fr 26 q (by omega), hT _ (by omega) (by omega) (by omega) (by omega) (by omega), hT _ (by omega) (by omega) (by omega) (by omega) (by omega), hT _ (by omega) (by omega) (by omega) (by omega) (by omega), hT _ (by omega) (by omega) (by omega) (by omega) (by omega)]
    exact c7 q q0 q1'
  · rw [rSt_s] at q1'
    have r1 : jrI (jwI (jwI m4 30 5 (T 6) q4.2.2) 4 5 6 (T 6 + 1)) 27 5 q = jrI (jwI m1 27 5 (T 6) q1.2.2) 27 5 q := by rw [jrI_wf (by decide), jrI_wf (by decide), n12 27 5 q (by unfold aC; omega), jrI_wf (by decide), n9 27 5 q (by unfold aC; omega), jrI_wf (by decide), n6 27 5 q (by unfold aC; omega)]
    have r2 : jrI (jwI (jwI m4 30 5 (T 6) q4.2.2) 4 5 6 (T 6 + 1)) 28 5 q = jrI (jwI m2 28 5 (T 6) q2.2.2) 28 5 q := by rw [jrI_wf (by decide), jrI_wf (by decide), n12 28 5 q (by unfold aC; omega), jrI_wf (by decide), n9 28 5 q (by unfold aC; omega)]
    have r3 : jrI (jwI (jwI m4 30 5 (T 6) q4.2.2) 4 5 6 (T 6 + 1)) 29 5 q = jrI (jwI m3 29 5 (T 6) q3.2.2) 29 5 q := by rw [jrI_wf (by decide), jrI_wf (by decide), n12 29 5 q (by unfold aC; omega)]
    have r4 : jrI (jwI (jwI m4 30 5 (T 6) q4.2.2) 4 5 6 (T 6 + 1)) 30 5 q = jrI (jwI m4 30 5 (T 6) q4.2.2) 30 5 q := by rw [jrI_wf (by decide)]
    rw [r1, r2, r3, r4]
    by_cases e : q = T 6
    · subst e
      rw [jrI_ws, jrI_ws, jrI_ws, jrI_ws]
      refine ⟨?_, ?_, ?_, ?_⟩
      · rw [rSt_o (by omega), rSt_o (by omega), rSt_o (by omega), rSt_o (by omega), rSt_s]
      · rw [rSt_o (by omega), rSt_o (by omega), rSt_o (by omega), rSt_s]
      · rw [rSt_o (by omega), rSt_o (by omega), rSt_s]
      · rw [rSt_o (by omega), rSt_s]
    · rw [jrI_wk e, jrI_wk e, jrI_wk e, jrI_wk e, e1 27 q (by decide), e2 28 q (by decide) (by decide), e3 29 q (by decide) (by decide) (by decide), e4 30 q (by decide) (by decide) (by decide) (by decide), hT (73 + 2 * q) (by omega) (by omega) (by omega) (by omega) (by omega), hT (25 + q) (by omega) (by omega) (by omega) (by omega) (by omega), hT (74 + 2 * q) (by omega) (by omega) (by omega) (by omega) (by omega), hT (29 + q) (by omega) (by omega) (by omega) (by omega) (by omega)]
      exact c8 q q0 (by omega)
  · rw [hT 4 (by omega) (by omega) (by omega) (by omega) (by omega)] at q1'
    rw [fr 22 q (by omega), hT _ (by omega) (by omega) (by omega) (by omega) (by omega)]
    exact c9 q q0 q1'
  · rw [hT 3 (by omega) (by omega) (by omega) (by omega) (by omega)] at q1'
    rw [fr 21 q (by omega), hT _ (by omega) (by omega) (by omega) (by omega) (by omega)]
    exact c10 q q0 q1'
  · refine puR_w (puR_w (puR_tr (puR_w (puR_tr (puR_w (puR_tr (puR_w (aC_R n3) ?_) (aC_R n6)) ?_) (aC_R n9)) ?_) (aC_R n12)) ?_) ?_
    all_goals (unfold aR; omega)
