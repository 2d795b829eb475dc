/-! Acts kept and undone -/
def cH (mem : jMem) (u : Int) (blk : Int → Int → Int) (T : Int → Int) : Prop := jrI mem 0 0 2 = u ∧ 0 ≤ jrI mem 0 0 1 ∧ jrI mem 0 0 1 < 20 ∧ ∀ j, 0 ≤ j → j < u → cWv mem (5 + (jrI mem 0 0 1 - u + j) % 20) (tOv T (blk j))
def mH (mem : jMem) (u : Int) (blk : Int → Int → Int) : Prop := jrI mem 11 0 26 = u ∧ ∀ j k, 0 ≤ j → j < u → 0 ≤ k → k < 15 → jrI mem 57 0 (15 * j + k) = blk j k
def vH (u : Int) (blk : Int → Int → Int) (T : Int → Int) : Prop := 0 ≤ u ∧ u ≤ 20 ∧ ∀ j, 0 ≤ j → j < u → tWv (tOv T (blk j)) ∧ blk j 0 ≤ 999
def hU (u : Int) : Int := if u < 20 then u + 1 else 20
def hB (u : Int) (blk : Int → Int → Int) (cur : Int → Int) : Int → Int → Int := fun j => if u < 20 then (if j = u then cur else blk j) else (if j = 19 then cur else blk (j + 1))
theorem tOv_self {T B : Int → Int} (h : ∀ k, 0 ≤ k → k < 15 → B k = T (10 + k)) : tOv T B = T := by
  funext k
  unfold tOv
  by_cases hk : 10 ≤ k ∧ k < 25
  · rw [if_pos hk, h (k - 10) (by omega) (by omega), show 10 + (k - 10) = k by omega]
  · rw [if_neg hk]
theorem tOv_cong {T T' B B' : Int → Int} (hT : ∀ k, (k < 10 ∨ 25 ≤ k) → T' k = T k) (hB : ∀ k, 0 ≤ k → k < 15 → B' k = B k) : tOv T' B' = tOv T B := by
  funext k
  unfold tOv
  by_cases hk : 10 ≤ k ∧ k < 25
  · rw [if_pos hk, if_pos hk, hB (k - 10) (by omega) (by omega)]
  · rw [if_neg hk, if_neg hk, hT k (by omega)]
theorem iAct_of {mem : jMem} {u : Int} {blk : Int → Int → Int} (hc : cH mem u blk (jrI mem 55 0)) (hm : mH mem u blk) (hv : vH u blk (jrI mem 55 0)) : iAct mem := by
  obtain ⟨c1, c2, c3, c4⟩ := hc
  obtain ⟨m1, m2⟩ := hm
  obtain ⟨v1, v2, v3⟩ := hv
  unfold iAct
  rw [m1, c1]
  refine ⟨rfl, v1, v2, c2, c3, fun j a b => ?_⟩
  have e : tOv (jrI mem 55 0) (fun k => jrI mem 57 0 (15 * j + k)) = tOv (jrI mem 55 0) (blk j) := tOv_cong (fun _ _ => rfl) (fun k k0 k1 => m2 j k a b k0 k1)
  rw [e]
  obtain ⟨w1, w2⟩ := v3 j a b
  refine ⟨w1, ?_, c4 j a b⟩
  show (if 10 ≤ (10 : Int) ∧ (10 : Int) < 25 then blk j (10 - 10) else _) ≤ 999
  rw [if_pos (by decide)]
  exact w2
theorem iAct_to {mem : jMem} (h : iAct mem) : cH mem (jrI mem 11 0 26) (fun j k => jrI mem 57 0 (15 * j + k)) (jrI mem 55 0) ∧ mH mem (jrI mem 11 0 26) (fun j k => jrI mem 57 0 (15 * j + k)) ∧ vH (jrI mem 11 0 26) (fun j k => jrI mem 57 0 (15 * j + k)) (jrI mem 55 0) := by
  obtain ⟨a1, a2, a3, a4, a5, a6⟩ := h
  refine ⟨⟨a1, a4, a5, fun j x y => (a6 j x y).2.2⟩, ⟨rfl, fun _ _ _ _ _ _ => rfl⟩, a2, a3, fun j x y => ⟨(a6 j x y).1, ?_⟩⟩
  have h2 := (a6 j x y).2.1
  unfold tOv at h2
  rw [if_pos (by decide)] at h2
  exact h2
/-- what keeping changes in the class -/
def aK (f : Nat) (i k : Int) : Prop := (f = 0 ∧ i = 0 ∧ (k = 1 ∨ k = 2)) ∨ (((f = 9 ∧ k = 0) ∨ (38 ≤ f ∧ f ≤ 43)) ∧ 5 ≤ i ∧ i < 25)
theorem s_Ac_keep (d : Nat) (T : Int → Int) (u : Int) (blk : Int → Int → Int) (cur : Int → Int) (mem : jMem) (hR : tRv T) (cw : cWv mem 0 T) (hu : 0 ≤ u ∧ u ≤ 20) (hc : cH mem u blk T) (hcur : ∀ k, 0 ≤ k → k < 15 → cur k = T (10 + k)) : ∃ mem', Ac_keep (d + 2) 0 mem = some (vU, mem') ∧ cH mem' (hU u) (hB u blk cur) T ∧ puR aK mem mem' := by
  obtain ⟨c1, c2, c3, c4⟩ := hc
  rw [q_Ac_keep, jix_in c2 c3]
  generalize hnx : jrI mem 0 0 1 = nx at c2 c3 c4 ⊢
  obtain ⟨m1, a1, a2, a3, -⟩ := s_Wa_copy d (nx + 5) 0 T mem (by omega) hR.2.2.2.1.2 hR.2.2.2.2.1.2 cw
  rw [a1]
  simp only [jbnd_s]
  have e1 : jrI m1 0 0 1 = nx := by rw [a3 0 0 1 (by omega)]; exact hnx
  have e2 : jrI m1 0 0 2 = u := by rw [a3 0 0 2 (by omega)]; exact c1
  rw [s_J_min, e1, e2, jw32_id (x := nx + 1) (by omega) (by omega), jw32_id (x := u + 1) (by omega) (by omega)]
  simp only [jbnd_s, jasI_v]
  have eU : (if (20 : Int) < u + 1 then 20 else u + 1) = hU u := by
    unfold hU
    by_cases h : u < 20
    · rw [if_neg (by omega), if_pos h]
    · rw [if_pos (by omega), if_neg h]
  rw [eU]
  have et : (nx + 1).tmod 20 = (nx + 1) % 20 := Int.tmod_eq_emod_of_nonneg (by omega)
  rw [et]
  have hfr : puR aK mem (jwI (jwI m1 0 0 1 ((nx + 1) % 20)) 0 0 2 (hU u)) := puR_w (puR_w (puR_mono a3 (fun f i k hf => by unfold aK; omega)) (by unfold aK; omega)) (by unfold aK; omega)
  refine ⟨_, rfl, ?_, hfr⟩
  have n1 : jrI (jwI (jwI m1 0 0 1 ((nx + 1) % 20)) 0 0 2 (hU u)) 0 0 1 = (nx + 1) % 20 := by rw [jrI_wk (by decide), jrI_ws]
  have wat : ∀ w S, cWv m1 w S → cWv (jwI (jwI m1 0 0 1 ((nx + 1) % 20)) 0 0 2 (hU u)) w S := fun w S hc => cWv_fr (fun f k hf => by rw [jrI_wf (by omega), jrI_wf (by omega)]) hc
  unfold cH
  rw [n1, jrI_ws]
  refine ⟨rfl, by omega, by omega, fun j j0 j1 => ?_⟩
  have hold : ∀ w S, w ≠ nx + 5 → cWv mem w S → cWv m1 w S := fun w S hw hc => cWv_fr (fun f k hf => a3 f w k (by omega)) hc
  have hnew : tOv T cur = T := tOv_self hcur
  unfold hU hB at *
  by_cases h20 : u < 20
  · rw [if_pos h20] at j1 ⊢
    simp only [if_pos h20]
    by_cases ej : j = u
    · rw [if_pos ej, hnew, show 5 + ((nx + 1) % 20 - (u + 1) + j) % 20 = nx + 5 by omega]
      exact wat _ _ a2
    · rw [if_neg ej]
      have h9 := c4 j j0 (by omega)
      rw [show 5 + ((nx + 1) % 20 - (u + 1) + j) % 20 = 5 + (nx - u + j) % 20 by omega]
      exact wat _ _ (hold _ _ (by omega) h9)
  · rw [if_neg h20] at j1 ⊢
    simp only [if_neg h20]
    have hu20 : u = 20 := by omega
    subst hu20
    by_cases ej : j = 19
    · rw [if_pos ej, hnew, show 5 + ((nx + 1) % 20 - 20 + j) % 20 = nx + 5 by omega]
      exact wat _ _ a2
    · rw [if_neg ej]
      have h9 := c4 (j + 1) (by omega) (by omega)
      rw [show 5 + ((nx + 1) % 20 - 20 + j) % 20 = 5 + (nx - 20 + (j + 1)) % 20 by omega]
      exact wat _ _ (hold _ _ (by omega) h9)
theorem s_M_keepsAct (d : Nat) (u : Int) (blk : Int → Int → Int) (mem : jMem) (hu : 0 ≤ u ∧ u ≤ 20) (hm : mH mem u blk) : ∃ mem', M_keepsAct (d + 1) mem = some (vU, mem') ∧ mH mem' (hU u) (hB u blk (fun k => jrI mem 55 0 (10 + k))) ∧ puR (fun f i k => f = 57 ∨ (f = 11 ∧ i = 0 ∧ k = 26)) mem mem' := by
  obtain ⟨m1, m2⟩ := hm
  -- the block behind the last
  have wr : ∀ (v : Int) (mA : jMem), 0 ≤ v → v < 20 → jrI mA 11 0 26 = v → ∃ mB, M_keepsAct_52 d 0 mA = some (vU, mB) ∧ jrI mB 11 0 26 = v + 1 ∧ (∀ q, jrI mB 57 0 q = if 15 * v ≤ q ∧ q < 15 * v + 15 then jrI mA 55 0 (10 + (q - 15 * v)) else jrI mA 57 0 q) ∧ puR (fun f i k => f = 57 ∨ (f = 11 ∧ i = 0 ∧ k = 26)) mA mB := fun v mA v0 v1 hv => by
    obtain ⟨mB, b1, b2, b3, b4⟩ := puUpE (P := fun i mB => (∀ q, jrI mB 57 0 q = if 15 * v ≤ q ∧ q < 15 * v + i then jrI mA 55 0 (10 + (q - 15 * v)) else jrI mA 57 0 q) ∧ puR (fun f _ _ => f = 57) mA mB ∧ True) (L := fun i mB => M_keepsAct_52 d i mB) (n := 15) (by decide) (fun i mB i0 i1 hP => by
      obtain ⟨p1, p2, -⟩ := hP
      rw [q_M_keepsAct_52, if_pos i1, p2 11 0 26 (show ¬ (11 : Nat) = 57 by decide), hv, jw32_id (x := 10 + i) (by omega) (by omega), jix_in (by omega) (by omega), jw32_id (x := 15 * v) (by omega) (by omega), jw32_id (x := 15 * v + i) (by omega) (by omega), jix_in (by omega) (by omega), jw32_id (x := i + 1) (by omega) (by omega), p2 55 0 _ (show ¬ (55 : Nat) = 57 by decide)]
      refine ⟨_, rfl, fun q => ?_, puR_w p2 rfl, trivial⟩
      by_cases e : q = 15 * v + i
      · rw [e, jrI_ws, if_pos (by omega), show 15 * v + i - 15 * v = i by omega]
      · rw [jrI_wk e, p1 q]
        by_cases hq : 15 * v ≤ q ∧ q < 15 * v + i
        · rw [if_pos hq, if_pos (by omega)]
        · rw [if_neg hq, if_neg (by omega)]) mA ⟨fun q => by rw [if_neg (by omega)], puR_rf _ mA, trivial⟩
    rw [b1, q_M_keepsAct_52, if_neg (by decide), b3 11 0 26 (show ¬ (11 : Nat) = 57 by decide), hv, jw32_id (x := v + 1) (by omega) (by omega)]
    refine ⟨_, rfl, jrI_ws _ _ _ _ _, fun q => ?_, puR_w (puR_mono b3 (fun f i k hf => Or.inl hf)) (Or.inr ⟨rfl, rfl, rfl⟩)⟩
    rw [jrI_wf (by decide)]
    exact b2 q
  rw [q_M_keepsAct, m1]
  unfold hU hB
  by_cases h20 : u < 20
  · rw [if_neg (by omega), if_pos h20]
    obtain ⟨mB, b1, b2, b3, b4⟩ := wr u mem hu.1 h20 m1
    refine ⟨mB, b1, ⟨b2, fun j k j0 j1 k0 k1 => ?_⟩, b4⟩
    rw [b3]
    simp only [if_pos h20]
    by_cases ej : j = u
    · rw [if_pos ej, if_pos (by omega)]
      congr 1
      omega
    · rw [if_neg ej, if_neg (by omega)]
      exact m2 j k j0 (by omega) k0 k1
  · have hu20 : u = 20 := by omega
    subst hu20
    rw [if_pos rfl, if_neg h20]
    obtain ⟨mA, a1, a2, a3⟩ : ∃ mA, M_keepsAct_12 d 15 mem = M_keepsAct_52 d 0 (jwI mA 11 0 26 19) ∧ (∀ q, 0 ≤ q → q < 300 → jrI mA 57 0 q = if q < 285 then jrI mem 57 0 (q + 15) else jrI mem 57 0 q) ∧ puR (fun f _ _ => f = 57) mem mA := by
      obtain ⟨mA, a1, a2, a3⟩ := puUpE (P := fun i mA => (∀ q, 0 ≤ q → q < 300 → jrI mA 57 0 q = if q < i then jrI mem 57 0 (q + 15) else jrI mem 57 0 q) ∧ puR (fun f _ _ => f = 57) mem mA) (L := fun i mA => M_keepsAct_12 d (i + 15) mA) (n := 285) (by decide) (fun i mA i0 i1 hP => by
        obtain ⟨p1, p2⟩ := hP
        rw [q_M_keepsAct_12, if_pos (by omega), jix_in (by omega) (by omega), jw32_id (x := i + 15 - 15) (by omega) (by omega), jix_in (by omega) (by omega), jw32_id (x := i + 15 + 1) (by omega) (by omega), show i + 15 - 15 = i by omega, show i + 15 + 1 = i + 1 + 15 by omega]
        refine ⟨_, rfl, fun q q0 q1 => ?_, puR_w p2 rfl⟩
        by_cases e : q = i
        · rw [e, jrI_ws, if_pos (by omega), p1 (i + 15) (by omega) (by omega), if_neg (by omega)]
        · rw [jrI_wk e, p1 q q0 q1]
          by_cases hq : q < i
          · rw [if_pos hq, if_pos (by omega)]
          · rw [if_neg hq, if_neg (by omega)]) mem ⟨fun q q0 q1 => by rw [if_neg (by omega)], puR_rf _ mem⟩
      refine ⟨mA, ?_, a2, a3⟩
      have a1' : M_keepsAct_12 d 15 mem = M_keepsAct_12 d (285 + 15) mA := a1
      rw [a1', q_M_keepsAct_12, if_neg (by decide), a3 11 0 26 (show ¬ (11 : Nat) = 57 by decide), m1]
      rfl
    rw [a1]
    obtain ⟨mB, b1, b2, b3, b4⟩ := wr 19 (jwI mA 11 0 26 19) (by decide) (by decide) (jrI_ws _ _ _ _ _)
    refine ⟨mB, b1, ⟨b2, fun j k j0 j1 k0 k1 => ?_⟩, puR_tr (puR_w (puR_mono a3 (fun f i k hf => Or.inl hf)) (Or.inr ⟨rfl, rfl, rfl⟩)) b4⟩
    rw [b3]
    simp only [if_neg h20]
    by_cases ej : j = 19
    · rw [if_pos ej, if_pos (by omega), jrI_wf (by decide), a3 55 0 _ (show ¬ (55 : Nat) = 57 by decide)]
      congr 1
      omega
    · rw [if_neg ej, if_neg (by omega), jrI_wf (by decide), a2 _ (by omega) (by omega), if_pos (by omega), show 15 * j + k + 15 = 15 * (j + 1) + k by omega]
      exact m2 (j + 1) k (by omega) (by omega) k0 k1
theorem vH_push {u : Int} {blk : Int → Int → Int} {T cur : Int → Int} (hv : vH u blk T) (hW : tWv T) (h999 : T 10 ≤ 999) (hcur : ∀ k, 0 ≤ k → k < 15 → cur k = T (10 + k)) : vH (hU u) (hB u blk cur) T := by
  obtain ⟨v1, v2, v3⟩ := hv
  have hc0 := hcur 0 (by decide) (by decide)
  unfold vH hU hB
  by_cases h20 : u < 20
  · simp only [if_pos h20]
    refine ⟨by omega, by omega, fun j j0 j1 => ?_⟩
    by_cases ej : j = u
    · rw [if_pos ej, tOv_self hcur]
      exact ⟨hW, by rw [hc0]; exact h999⟩
    · rw [if_neg ej]
      exact v3 j j0 (by omega)
  · simp only [if_neg h20]
    refine ⟨by decide, by decide, fun j j0 j1 => ?_⟩
    by_cases ej : j = 19
    · rw [if_pos ej, tOv_self hcur]
      exact ⟨hW, by rw [hc0]; exact h999⟩
    · rw [if_neg ej]
      exact v3 (j + 1) (by omega) (by omega)
