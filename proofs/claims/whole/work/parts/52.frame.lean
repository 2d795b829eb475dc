/-! The invariant is kept where nothing changes that it speaks of -/
theorem cRv_fr {mem mem' : jMem} {r : Int} {T : Int → Int} (h : ∀ f k, f = 4 ∨ (21 ≤ f ∧ f ≤ 30) → jrI mem' f r k = jrI mem f r k) (hc : cRv mem r T) : cRv mem' r T := by
  obtain ⟨c0, c1, c2, c3, c4, c5, c6, c7, c8, c9, c10⟩ := hc
  have h4 : ∀ k, jrI mem' 4 r k = jrI mem 4 r k := fun k => h 4 k (Or.inl rfl)
  have hh : ∀ f k, 21 ≤ f → f ≤ 30 → jrI mem' f r k = jrI mem f r k := fun f k a b => h f k (Or.inr ⟨a, b⟩)
  refine ⟨by rw [h4]; exact c0, by rw [h4]; exact c1, by rw [h4]; exact c2, by rw [h4]; exact c3, by rw [h4]; exact c4, by rw [h4]; exact c5, by rw [h4]; exact c6, fun m a b => ?_, fun m a b => ?_, fun m a b => ?_, fun m a b => ?_⟩
  · rw [hh 23 m (by decide) (by decide), hh 24 m (by decide) (by decide), hh 25 m (by decide) (by decide), hh 26 m (by decide) (by decide)]
    exact c7 m a b
  · rw [hh 27 m (by decide) (by decide), hh 28 m (by decide) (by decide), hh 29 m (by decide) (by decide), hh 30 m (by decide) (by decide)]
    exact c8 m a b
  · rw [hh 22 m (by decide) (by decide)]
    exact c9 m a b
  · rw [hh 21 m (by decide) (by decide)]
    exact c10 m a b
theorem cWv_fr {mem mem' : jMem} {w : Int} {T : Int → Int} (h : ∀ f k, (f = 9 ∧ k = 0) ∨ (38 ≤ f ∧ f ≤ 43) → jrI mem' f w k = jrI mem f w k) (hc : cWv mem w T) : cWv mem' w T := by
  obtain ⟨c0, c1, c2⟩ := hc
  have hh : ∀ f k, 38 ≤ f → f ≤ 43 → jrI mem' f w k = jrI mem f w k := fun f k a b => h f k (Or.inr ⟨a, b⟩)
  refine ⟨by rw [h 9 0 (Or.inl ⟨rfl, rfl⟩)]; exact c0, fun m a b => ?_, fun m a b => ?_⟩
  · rw [hh 38 m (by decide) (by decide), hh 39 m (by decide) (by decide)]
    exact c1 m a b
  · rw [hh 40 m (by decide) (by decide), hh 41 m (by decide) (by decide), hh 42 m (by decide) (by decide), hh 43 m (by decide) (by decide)]
    exact c2 m a b
theorem cNv_fr {mem mem' : jMem} {q : Int} {T : Int → Int} (h : ∀ f k, (f = 3 ∧ k = 0) ∨ (18 ≤ f ∧ f ≤ 20) → jrI mem' f q k = jrI mem f q k) (hc : cNv mem q T) : cNv mem' q T := by
  obtain ⟨c0, c1⟩ := hc
  have hh : ∀ f k, 18 ≤ f → f ≤ 20 → jrI mem' f q k = jrI mem f q k := fun f k a b => h f k (Or.inr ⟨a, b⟩)
  refine ⟨by rw [h 3 0 (Or.inl ⟨rfl, rfl⟩)]; exact c0, fun m a b => ?_⟩
  rw [hh 18 m (by decide) (by decide), hh 19 m (by decide) (by decide), hh 20 m (by decide) (by decide)]
  exact c1 m a b
/-- the cells of a scene -/
def dSc (f : Nat) (k : Int) : Prop := f = 4 ∨ (21 ≤ f ∧ f ≤ 30) ∨ (f = 9 ∧ k = 0) ∨ (38 ≤ f ∧ f ≤ 43) ∨ (f = 3 ∧ k = 0) ∨ (18 ≤ f ∧ f ≤ 20)
theorem cSc_fr {mem mem' : jMem} {q : Int} {T : Int → Int} (h : ∀ f k, dSc f k → jrI mem' f q k = jrI mem f q k) (hc : cSc mem q T) : cSc mem' q T :=
  ⟨cRv_fr (fun f k hf => h f k (by unfold dSc; omega)) hc.1, cWv_fr (fun f k hf => h f k (by unfold dSc; omega)) hc.2.1, cNv_fr (fun f k hf => h f k (by unfold dSc; omega)) hc.2.2⟩
theorem cRu_fr {mem mem' : jMem} {r : Int} (h : ∀ f k, (f = 5 ∧ (k = 2 ∨ k = 3)) ∨ f = 31 ∨ f = 32 → jrI mem' f r k = jrI mem f r k) (h2 : ∀ f k, f = 47 ∨ f = 49 ∨ f = 50 → jrI mem' f 0 k = jrI mem f 0 k) (hc : cRu mem r) : cRu mem' r := by
  have e1 : jrI mem' 31 r = jrI mem 31 r := funext fun k => h 31 k (by omega)
  have e2 : jrI mem' 32 r = jrI mem 32 r := funext fun k => h 32 k (by omega)
  have e3 : jrI mem' 47 0 = jrI mem 47 0 := funext fun k => h2 47 k (by omega)
  have e4 : jrI mem' 49 0 = jrI mem 49 0 := funext fun k => h2 49 k (by omega)
  have e5 : jrI mem' 50 0 = jrI mem 50 0 := funext fun k => h2 50 k (by omega)
  have e6 : jrI mem' 5 r 2 = jrI mem 5 r 2 := h 5 2 (by omega)
  have e7 : jrI mem' 5 r 3 = jrI mem 5 r 3 := h 5 3 (by omega)
  unfold cRu mRl cRl at hc ⊢
  rw [e1, e2, e3, e4, e5, e6, e7]
  exact hc
theorem iTape_fr {mem mem' : jMem} (h : ∀ f k, ((f = 8 ∨ f = 11) ∧ k = 1) ∨ f = 37 ∨ f = 46 → jrI mem' f 0 k = jrI mem f 0 k) (hc : iTape mem) : iTape mem' := by
  have e1 : jrI mem' 37 0 = jrI mem 37 0 := funext fun k => h 37 k (by omega)
  have e2 : jrI mem' 46 0 = jrI mem 46 0 := funext fun k => h 46 k (by omega)
  unfold iTape at hc ⊢
  rw [e1, e2, h 8 1 (by omega), h 11 1 (by omega)]
  exact hc
theorem iRule_fr {mem mem' : jMem} (h : ∀ f i k, ((f = 10 ∨ f = 11) ∧ k = 2 ∧ i = 0) ∨ (f = 5 ∧ (k = 2 ∨ k = 3) ∧ 0 ≤ i ∧ i < jrI mem 11 0 2) ∨ ((f = 31 ∨ f = 32) ∧ 0 ≤ i ∧ i < jrI mem 11 0 2) ∨ ((f = 47 ∨ f = 49 ∨ f = 50) ∧ i = 0) → jrI mem' f i k = jrI mem f i k) (hc : iRule mem) : iRule mem' := by
  obtain ⟨c1, c2, c3, c4⟩ := hc
  have e1 := h 10 0 2 (by omega)
  have e2 := h 11 0 2 (by omega)
  refine ⟨by rw [e1, e2]; exact c1, by rw [e2]; exact c2, by rw [e2]; exact c3, fun r a b => ?_⟩
  rw [e2] at b
  exact cRu_fr (fun f k hf => h f r k (by omega)) (fun f k hf => h f 0 k (by omega)) (c4 r a b)
theorem iNow_fr {mem mem' : jMem} (h : ∀ f k, f = 55 ∨ dSc f k → jrI mem' f 0 k = jrI mem f 0 k) (hc : iNow mem) : iNow mem' := by
  have e1 : jrI mem' 55 0 = jrI mem 55 0 := funext fun k => h 55 k (Or.inl rfl)
  unfold iNow at hc ⊢
  rw [e1]
  exact ⟨hc.1, hc.2.1, cSc_fr (fun f k hf => h f k (Or.inr hf)) hc.2.2⟩
theorem iMis_fr {mem mem' : jMem} (h : ∀ f k, (f = 6 ∧ (k = 3 ∨ k = 4)) ∨ (f = 11 ∧ (k = 2 ∨ k = 21 ∨ k = 22 ∨ k = 23)) → jrI mem' f 0 k = jrI mem f 0 k) (hc : iMis mem) : iMis mem' := by
  unfold iMis at hc ⊢
  rw [h 6 3 (by omega), h 6 4 (by omega), h 11 2 (by omega), h 11 21 (by omega), h 11 22 (by omega), h 11 23 (by omega)]
  exact hc
theorem iAct_fr {mem mem' : jMem} (h : ∀ f i k, (f = 0 ∧ i = 0 ∧ (k = 1 ∨ k = 2)) ∨ (f = 11 ∧ i = 0 ∧ k = 26) ∨ ((f = 55 ∨ f = 57) ∧ i = 0) ∨ (((f = 9 ∧ k = 0) ∨ (38 ≤ f ∧ f ≤ 43)) ∧ 5 ≤ i ∧ i < 25) → jrI mem' f i k = jrI mem f i k) (hc : iAct mem) : iAct mem' := by
  have e1 : jrI mem' 55 0 = jrI mem 55 0 := funext fun k => h 55 0 k (by omega)
  have e2 : jrI mem' 57 0 = jrI mem 57 0 := funext fun k => h 57 0 k (by omega)
  obtain ⟨c1, c2, c3, c4, c5, c6⟩ := hc
  have q1 := h 0 0 1 (by omega)
  have q2 := h 0 0 2 (by omega)
  have q3 := h 11 0 26 (by omega)
  unfold iAct
  rw [e1, e2, q1, q2, q3]
  refine ⟨c1, c2, c3, c4, c5, fun j a b => ?_⟩
  obtain ⟨w1, w2, w3⟩ := c6 j a b
  exact ⟨w1, w2, cWv_fr (fun f k hf => h f _ k (by omega)) w3⟩
theorem iImg_fr {mem mem' : jMem} (h : ∀ f i k, (f = 6 ∧ 1 ≤ i ∧ i < 5) ∨ ((63 ≤ f ∧ f ≤ 66) ∧ i = 0) ∨ (f = 11 ∧ i = 0 ∧ k = 2) ∨ (dSc f k ∧ 1 ≤ i ∧ i < 5) → jrI mem' f i k = jrI mem f i k) (hc : iImg mem) : iImg mem' := by
  have e1 : jrI mem' 63 0 = jrI mem 63 0 := funext fun k => h 63 0 k (by omega)
  have e2 : jrI mem' 64 0 = jrI mem 64 0 := funext fun k => h 64 0 k (by omega)
  have e3 : jrI mem' 65 0 = jrI mem 65 0 := funext fun k => h 65 0 k (by omega)
  have e4 : jrI mem' 66 0 = jrI mem 66 0 := funext fun k => h 66 0 k (by omega)
  have e5 := h 11 0 2 (by omega)
  unfold iImg
  rw [e1, e2, e3, e4, e5]
  intro k a b
  obtain ⟨c1, c2⟩ := hc k a b
  rw [h 6 (k + 1) 3 (by omega), h 6 (k + 1) 4 (by omega), h 6 (k + 1) 5 (by omega)]
  refine ⟨c1, ?_⟩
  rcases c2 with c2 | ⟨d1, d2, d3, d4, d5⟩
  · exact Or.inl c2
  · exact Or.inr ⟨d1, d2, d3, cSc_fr (fun f k9 hf => h f _ k9 (Or.inr (Or.inr (Or.inr ⟨hf, by omega, by omega⟩)))) d4, d5⟩
/-- what the invariant doesn't speak of -/
def aX (f : Nat) (i k : Int) : Prop := f = 1 ∨ f = 2 ∨ f = 7 ∨ (f = 8 ∧ k ≠ 1) ∨ (12 ≤ f ∧ f ≤ 17) ∨ (33 ≤ f ∧ f ≤ 36) ∨ (((f = 9 ∧ k = 0) ∨ (38 ≤ f ∧ f ≤ 43)) ∧ 25 ≤ i) ∨ (f = 11 ∧ k ≠ 1 ∧ k ≠ 2 ∧ k ≠ 21 ∧ k ≠ 22 ∧ k ≠ 23 ∧ k ≠ 26) ∨ f = 48 ∨ (51 ≤ f ∧ f ≤ 54) ∨ f = 56 ∨ (58 ≤ f ∧ f ≤ 62) ∨ ((f = 4 ∨ (21 ≤ f ∧ f ≤ 30)) ∧ i = 5)
theorem pInv_fr {mem mem' : jMem} (h : puR aX mem mem') (hc : pInv mem) : pInv mem' := by
  obtain ⟨c1, c2, c3, c4, c5, c6⟩ := hc
  exact ⟨iTape_fr (fun f k hf => h f 0 k (by unfold aX; omega)) c1, iRule_fr (fun f i k hf => h f i k (by unfold aX; omega)) c2, iNow_fr (fun f k hf => h f 0 k (by unfold dSc at hf; unfold aX; omega)) c3, iMis_fr (fun f k hf => h f 0 k (by unfold aX; omega)) c4, iAct_fr (fun f i k hf => h f i k (by unfold aX; omega)) c5, iImg_fr (fun f i k hf => h f i k (by unfold dSc at hf; unfold aX; omega)) c6⟩
