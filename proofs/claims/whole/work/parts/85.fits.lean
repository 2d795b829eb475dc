/-! Whether notes are so -/
def tFr (T : Int → Int) (m : Int) : Int := if 0 ≤ T (11 + m) ∧ T (11 + m) < 12 then T (11 + m) else -1
/-- the first note of the night that begins, that isn't so; -1 -/
def tHo (T : Int → Int) : Int := puG (fun i => T (81 + 3 * i) = T 10 ∧ tFr T (T (82 + 3 * i)) ≠ T (83 + 3 * i)) (T 111).toNat 0
theorem s_No_poolOrNone (d : Nat) (x : Int) (mem : jMem) : No_poolOrNone (d + 3) x mem = some (vI (if 0 ≤ x ∧ x < 12 then x else -1), mem) := by
  rw [q_No_poolOrNone, s_E_isFreePlace]
  simp only [jbnd_s, jasI_v]
  by_cases h : 0 ≤ x ∧ x < 12
  · rw [jb_1 h, if_neg (by decide), if_pos h]
  · rw [jb_n h, if_pos rfl, if_neg h]
theorem s_No_hold (d : Nat) (T : Int → Int) (w : Int) (mem : jMem) (hR : tRv T) (hN : tNv T) (cn : cNv mem 0 T) (cw : cWv mem w T) : No_hold (d + 4) 0 w mem = some (vI (jb (tHo T = -1)), mem) := by
  have t5 := hR.2.2.2.1
  obtain ⟨n1, n2⟩ := hN
  obtain ⟨c0, c1⟩ := cn
  rw [q_No_hold]
  have key : ∀ (k : Nat) (i : Int), 0 ≤ i → i + (k : Int) = T 111 → No_hold_2 (d + 3) 0 w i mem = some (vI (jb (puG (fun i => T (81 + 3 * i) = T 10 ∧ tFr T (T (82 + 3 * i)) ≠ T (83 + 3 * i)) k i = -1)), mem) := by
    intro k
    induction k with
    | zero =>
      intro i i0 i1
      rw [q_No_hold_2, c0, if_neg (by omega)]
      rfl
    | succ k ih =>
      intro i i0 i1
      obtain ⟨a1, a2, a3⟩ := c1 i i0 (by omega)
      have hb := n2 i i0 (by omega)
      rw [q_No_hold_2, c0, if_pos (by omega), if_pos (by omega), jix_in i0 (by omega), a1, cw.1, jix_in i0 (by omega), a2, jix_in (by omega) (by omega), (cw.2.1 (T (82 + 3 * i)) (by omega) (by omega)).1, s_No_poolOrNone, jw32_id (x := i + 1) (by omega) (by omega), puG_s]
      simp only [jbnd_s, jasI_v]
      rw [jix_in i0 (by omega), a3]
      have hfr : (if 0 ≤ T (11 + T (82 + 3 * i)) ∧ T (11 + T (82 + 3 * i)) < 12 then T (11 + T (82 + 3 * i)) else -1) = tFr T (T (82 + 3 * i)) := rfl
      rw [hfr]
      by_cases h1 : T (81 + 3 * i) = T 10
      · rw [if_pos h1]
        by_cases h2 : tFr T (T (82 + 3 * i)) = T (83 + 3 * i)
        · rw [if_pos h2, if_neg (fun w => w.2 h2)]
          exact ih (i + 1) (by omega) (by omega)
        · rw [if_neg h2, if_pos ⟨h1, h2⟩, jb_n (by omega)]
      · rw [if_neg h1, if_neg (fun w => h1 w.1)]
        exact ih (i + 1) (by omega) (by omega)
  exact key (T 111).toNat 0 (Int.le_refl 0) (by omega)
theorem s_M_freeIn (d : Nat) (m : Int) (T : Int → Int) (mem : jMem) (hR : tRv T) (hW : tWv T) (hT : jrI mem 55 0 = T) (h0 : 0 ≤ m) (h1 : m < T 5) : M_freeIn (d + 3) m mem = some (vI (tFr T m), mem) := by
  have t5 := hR.2.2.2.1
  rw [q_M_freeIn, s_M_isFree2 d m T mem hR hW hT]
  simp only [jbnd_s, jasI_v]
  unfold tFr
  by_cases h : 0 ≤ T (11 + m) ∧ T (11 + m) < 12
  · rw [jb_1 ⟨⟨h0, h1⟩, h⟩, if_neg (by decide), if_pos h, jw32_id (x := 11 + m) (by omega) (by omega), jix_in (by omega) (by omega), hT]
  · rw [jb_n (fun w => h w.2), if_pos rfl, if_neg h]
theorem s_M_areNotesSo (d : Nat) (T : Int → Int) (mem : jMem) (hR : tRv T) (hW : tWv T) (hN : tNv T) (hT : jrI mem 55 0 = T) : M_areNotesSo (d + 4) (T 10) mem = some (vI (jb (tHo T = -1)), mem) := by
  have t5 := hR.2.2.2.1
  obtain ⟨n1, n2⟩ := hN
  rw [q_M_areNotesSo]
  have key : ∀ (k : Nat) (i : Int), 0 ≤ i → i + (k : Int) = T 111 → M_areNotesSo_2 (d + 3) (T 10) (3 * i) mem = some (vI (jb (puG (fun i => T (81 + 3 * i) = T 10 ∧ tFr T (T (82 + 3 * i)) ≠ T (83 + 3 * i)) k i = -1)), mem) := by
    intro k
    induction k with
    | zero =>
      intro i i0 i1
      rw [q_M_areNotesSo_2, hT, jw32_id (x := 3 * T 111) (by omega) (by omega), if_neg (by omega)]
      rfl
    | succ k ih =>
      intro i i0 i1
      have hb := n2 i i0 (by omega)
      rw [q_M_areNotesSo_2, hT, jw32_id (x := 3 * T 111) (by omega) (by omega), if_pos (by omega), jw32_id (x := 81 + 3 * i) (by omega) (by omega), jix_in (by omega) (by omega), jw32_id (x := 81 + 3 * i + 1) (by omega) (by omega), jix_in (by omega) (by omega), show 81 + 3 * i + 1 = 82 + 3 * i by omega, s_M_freeIn d (T (82 + 3 * i)) T mem hR hW hT (by omega) (by omega), jw32_id (x := 3 * i + 3) (by omega) (by omega), show 3 * i + 3 = 3 * (i + 1) by omega, puG_s]
      simp only [jbnd_s, jasI_v]
      rw [jw32_id (x := 81 + 3 * i + 2) (by omega) (by omega), jix_in (by omega) (by omega), show 81 + 3 * i + 2 = 83 + 3 * i by omega, hT]
      by_cases h1 : T (81 + 3 * i) = T 10
      · rw [if_pos h1]
        by_cases h2 : tFr T (T (82 + 3 * i)) = T (83 + 3 * i)
        · rw [if_pos h2, if_neg (fun w => w.2 h2)]
          exact ih (i + 1) (by omega) (by omega)
        · rw [if_neg h2, if_pos ⟨h1, h2⟩, jb_n (by omega)]
      · rw [if_neg h1, if_neg (fun w => h1 w.1)]
        exact ih (i + 1) (by omega) (by omega)
  exact key (T 111).toNat 0 (Int.le_refl 0) (by omega)
theorem s_No_lastNight (d : Nat) (T : Int → Int) (mem : jMem) (hN : tNv T) (cn : cNv mem 0 T) : ∃ L, No_lastNight (d + 2) 0 mem = some (vI L, mem) ∧ 0 ≤ L ∧ L ≤ 60 ∧ ∀ i, 0 ≤ i → i < T 111 → T (81 + 3 * i) ≤ L := by
  obtain ⟨n1, n2⟩ := hN
  obtain ⟨c0, c1⟩ := cn
  rw [q_No_lastNight]
  obtain ⟨L, a1, a2, a3, a4⟩ := puUpE (P := fun i (L : Int) => 0 ≤ L ∧ L ≤ 60 ∧ ∀ j, 0 ≤ j → j < i → T (81 + 3 * j) ≤ L) (L := fun i L => No_lastNight_4 (d + 1) 0 L i mem) (n := T 111) n1.1 (fun i L i0 i1 hP => by
    obtain ⟨p1, p2, p3⟩ := hP
    have hb := n2 i i0 i1
    rw [q_No_lastNight_4, c0, if_pos i1, if_pos (by omega), jix_in i0 (by omega), s_J_max, (c1 i i0 i1).1, jw32_id (x := i + 1) (by omega) (by omega)]
    simp only [jbnd_s, jasI_v]
    refine ⟨_, rfl, ?_⟩
    by_cases h : L < T (81 + 3 * i)
    · rw [if_pos h]
      refine ⟨by omega, by omega, fun j j0 j1 => ?_⟩
      by_cases e : j = i
      · rw [e]; exact Int.le_refl _
      · have := p3 j j0 (by omega); omega
    · rw [if_neg h]
      refine ⟨p1, p2, fun j j0 j1 => ?_⟩
      by_cases e : j = i
      · rw [e]; omega
      · exact p3 j j0 (by omega)) 0 ⟨by decide, by decide, fun j j0 j1 => by omega⟩
  have a1' : No_lastNight_4 (d + 1) 0 0 0 mem = No_lastNight_4 (d + 1) 0 L (T 111) mem := a1
  exact ⟨L, by rw [a1', q_No_lastNight_4, c0, if_neg (by omega)], a2, a3, a4⟩
/-- the first night whose notes aren't so; -1 -/
def tFt (ev : tEvT) (Z : Int → Int) : Int := puG (fun i => tHo (tIt ev i.toNat Z) ≠ -1) 61 0
/-- nights from the begin on -/
theorem tZ_ok {Z : Int → Int} (ev : tEvT) (hR : tRv Z) (hW : tWv Z) (hN : tNv Z) (h1 : Z 0 = 1) (h10 : Z 10 = 0) (i : Int) (i0 : 0 ≤ i) (i1 : i ≤ 61) : tRv (tIt ev i.toNat Z) ∧ tWv (tIt ev i.toNat Z) ∧ tNv (tIt ev i.toNat Z) ∧ tEq Z (tIt ev i.toNat Z) ∧ tIt ev i.toNat Z 10 = i := by
  obtain ⟨q1, q2, q3⟩ := tIt_ok ev hR hW h1 i.toNat (by omega)
  exact ⟨tRv_eq q1 hR, q2, tNv_eq q1 hN, q1, by rw [q3]; omega⟩
theorem s_Gu_fits (d : Nat) (o : Option Int) (ev : tEvT) (Z : Int → Int) (n row : Int) (mem m : jMem) (hR : tRv Z) (hW : tWv Z) (hN : tNv Z) (h1 : Z 0 = 1) (h10 : Z 10 = 0) (hn : 0 ≤ n ∧ n ≤ 60) (hrow : 0 ≤ row ∧ row < 7) (cr : cRw mem 0 Z) (cn : cNv mem 0 Z) (hev : cEvt mem o ev) (hr : puR aX mem m) (cw : cWv m 26 Z) : ∃ m', Gu_fits (d + 8) 0 o n row m = some (vI (jb (tFt ev Z = -1)), m') ∧ puR aX mem m' ∧ (tFt ev Z = -1 → ∀ k, 0 ≤ k → k < Z 5 → jrI m' 17 0 (6 * row + k) = tFr (tIt ev n.toNat Z) k) ∧ puR (fun f i k => f = 7 ∨ (34 ≤ f ∧ f ≤ 36) ∨ (((f = 9 ∧ k = 0) ∨ (38 ≤ f ∧ f ≤ 43)) ∧ i = 26) ∨ (f = 17 ∧ i = 0 ∧ 6 * row ≤ k ∧ k < 6 * row + 6)) m m' := by
  have t5 := hR.2.2.2.1
  have cnm : ∀ mm, puR aX mem mm → cNv mm 0 Z := fun mm h => cNv_fr (fun f k hf => h f 0 k (by unfold aX; omega)) cn
  obtain ⟨L, l1, l2, l3, l4⟩ := s_No_lastNight (d + 5) Z m hN (cnm m hr)
  rw [q_Gu_fits, l1]
  simp only [jbnd_s, jasI_v]
  rw [s_J_max]
  simp only [jbnd_s, jasI_v]
  have hla : ∃ la, (if n < L then L else n) = la ∧ 0 ≤ la ∧ la ≤ 60 ∧ n ≤ la ∧ L ≤ la := by
    by_cases h : n < L
    · exact ⟨L, if_pos h, by omega, by omega, by omega, by omega⟩
    · exact ⟨n, if_neg h, by omega, by omega, by omega, by omega⟩
  obtain ⟨la, hla, la0, la1, la2, la3⟩ := hla
  rw [hla]
  -- behind the last night there are no notes
  have beyond : ∀ i : Int, la < i → i ≤ 60 → tHo (tIt ev i.toNat Z) = -1 := fun i h0 h1' => by
    obtain ⟨-, -, -, q4, q5⟩ := tZ_ok ev hR hW hN h1 h10 i (by omega) (by omega)
    unfold tHo
    refine puG_none _ 0 (Int.le_refl 0) (fun j j0 j1 w => ?_)
    rw [q4 111 (by omega)] at j1
    have hw := w.1
    rw [q4 (81 + 3 * j) (by omega), q5] at hw
    have := l4 j j0 (by omega)
    omega
  have key : ∀ (k : Nat) (i : Int) (m1 : jMem), 0 ≤ i → i + (k : Int) = la + 1 → puR aX mem m1 → cWv m1 26 (tIt ev (if i ≤ la then i else la).toNat Z) → (n < i → ∀ k, 0 ≤ k → k < Z 5 → jrI m1 17 0 (6 * row + k) = tFr (tIt ev n.toNat Z) k) → puR (fun f i k => f = 7 ∨ (34 ≤ f ∧ f ≤ 36) ∨ (((f = 9 ∧ k = 0) ∨ (38 ≤ f ∧ f ≤ 43)) ∧ i = 26) ∨ (f = 17 ∧ i = 0 ∧ 6 * row ≤ k ∧ k < 6 * row + 6)) m m1 → ∃ m', Gu_fits_16 (d + 7) 0 o n row la i m1 = some (vI (jb (puG (fun i => tHo (tIt ev i.toNat Z) ≠ -1) k i = -1)), m') ∧ puR aX mem m' ∧ (puG (fun i => tHo (tIt ev i.toNat Z) ≠ -1) k i = -1 → ∀ k, 0 ≤ k → k < Z 5 → jrI m' 17 0 (6 * row + k) = tFr (tIt ev n.toNat Z) k) ∧ puR (fun f i k => f = 7 ∨ (34 ≤ f ∧ f ≤ 36) ∨ (((f = 9 ∧ k = 0) ∨ (38 ≤ f ∧ f ≤ 43)) ∧ i = 26) ∨ (f = 17 ∧ i = 0 ∧ 6 * row ≤ k ∧ k < 6 * row + 6)) m m' := by
    intro k
    induction k with
    | zero =>
      intro i m1 i0 i1 hr1 hc hsn hf
      rw [q_Gu_fits_16, if_pos (by omega)]
      exact ⟨m1, rfl, hr1, fun _ => hsn (by omega), hf⟩
    | succ k ih =>
      intro i m1 i0 i1 hr1 hc hsn hf
      rw [if_pos (show i ≤ la by omega)] at hc
      obtain ⟨q1, q2, q3, q4, q5⟩ := tZ_ok ev hR hW hN h1 h10 i i0 (by omega)
      rw [q_Gu_fits_16, if_neg (by omega), s_No_hold (d + 3) (tIt ev i.toNat Z) 26 m1 q1 q3 (cNv_S (tS_E q4) (cnm m1 hr1)) hc, puG_s]
      simp only [jbnd_s, jasI_v]
      by_cases ho : tHo (tIt ev i.toNat Z) = -1
      case neg =>
        rw [jb_n ho, if_pos rfl, if_pos ho, jb_n (by omega)]
        exact ⟨m1, rfl, hr1, fun w => by omega, hf⟩
      rw [jb_1 ho, if_neg (by decide), if_neg (show ¬ tHo (tIt ev i.toNat Z) ≠ -1 from fun w => w ho)]
      -- the night behind
      have go : ∀ m2 : jMem, puR aX mem m2 → cWv m2 26 (tIt ev i.toNat Z) → (n < i + 1 → ∀ k, 0 ≤ k → k < Z 5 → jrI m2 17 0 (6 * row + k) = tFr (tIt ev n.toNat Z) k) → puR (fun f i k => f = 7 ∨ (34 ≤ f ∧ f ≤ 36) ∨ (((f = 9 ∧ k = 0) ∨ (38 ≤ f ∧ f ≤ 43)) ∧ i = 26) ∨ (f = 17 ∧ i = 0 ∧ 6 * row ≤ k ∧ k < 6 * row + 6)) m m2 → ∃ m', Gu_fits_87 (d + 7) 0 o n row la i m2 = some (vI (jb (puG (fun i => tHo (tIt ev i.toNat Z) ≠ -1) k (i + 1) = -1)), m') ∧ puR aX mem m' ∧ (puG (fun i => tHo (tIt ev i.toNat Z) ≠ -1) k (i + 1) = -1 → ∀ k, 0 ≤ k → k < Z 5 → jrI m' 17 0 (6 * row + k) = tFr (tIt ev n.toNat Z) k) ∧ puR (fun f i k => f = 7 ∨ (34 ≤ f ∧ f ≤ 36) ∨ (((f = 9 ∧ k = 0) ∨ (38 ≤ f ∧ f ≤ 43)) ∧ i = 26) ∨ (f = 17 ∧ i = 0 ∧ 6 * row ≤ k ∧ k < 6 * row + 6)) m m' := fun m2 r2 c2 s2 f2 => by
        rw [q_Gu_fits_87, jw32_id (x := i + 1) (by omega) (by omega)]
        by_cases hl : i < la
        · rw [if_pos hl]
          have crm : cRw m2 0 (tIt ev i.toNat Z) := cRw_cong hR (fun k k0 k1 k2 k3 => q4 k (by omega)) (cRw_fr (fun f k hf => r2 f 0 k (by unfold aX; omega)) cr)
          obtain ⟨m3, b1, b2, b3, -⟩ := s_Sm_pass d 2 0 26 o ev (tIt ev i.toNat Z) 1 m2 q1 q2 (by rw [q4 0 (by omega)]; exact h1) (by rw [q5]; omega) crm c2 (cEvt_X r2 hev) (fun _ => trivial)
          have b1' : Sm_pass (d + 7) 2 0 26 o 1 m2 = some (vU, m3) := b1
          rw [b1']
          simp only [jbnd_s]
          refine ih (i + 1) m3 (by omega) (by omega) (puR_tr r2 (X_N (by decide) b3)) (by rw [if_pos (by omega), tIt_s ev i i0 Z]; exact b2) (fun h k k0 k1 => ?_) (puR_tr f2 (puR_mono b3 (fun f i k hf => by unfold aN at hf; omega)))
          rw [b3 17 0 _ (by unfold aN; omega)]
          exact s2 h k k0 k1
        · rw [if_neg hl]
          exact ih (i + 1) m2 (by omega) (by omega) r2 (by rw [if_neg (by omega), show la = i by omega]; exact c2) s2 f2
      by_cases hin : i = n
      · rw [if_pos hin]
        obtain ⟨m2, u1, u2, u3⟩ := puUpE (P := fun j (m2 : jMem) => puR (fun f i k => f = 17 ∧ i = 0 ∧ 6 * row ≤ k ∧ k < 6 * row + 6) m1 m2 ∧ ∀ k, 0 ≤ k → k < j → k < Z 5 → jrI m2 17 0 (6 * row + k) = tFr (tIt ev n.toNat Z) k) (L := fun j m2 => Gu_fits_48 (d + 7) 0 o n row la i j m2) (n := 6) (by decide) (fun j m2 j0 j1 hP => by
          obtain ⟨p1, p2⟩ := hP
          rw [q_Gu_fits_48, if_pos j1, jix_in j0 j1, s_No_poolOrNone, jw32_id (x := j + 1) (by omega) (by omega)]
          simp only [jbnd_s, jasI_v]
          rw [jw32_id (x := row * 6) (by omega) (by omega), jw32_id (x := row * 6 + j) (by omega) (by omega), jix_in (by omega) (by omega)]
          refine ⟨_, rfl, puR_w p1 ⟨rfl, rfl, by omega, by omega⟩, fun k k0 k1 k2 => ?_⟩
          by_cases e : k = j
          · rw [e, show 6 * row + j = row * 6 + j by omega, jrI_ws, p1 38 26 j (by omega), (hc.2.1 j j0 (by rw [q4 5 (by omega)]; omega)).1, hin]
            rfl
          · rw [jrI_wk (by omega)]
            exact p2 k k0 (by omega) k2) m1 ⟨puR_rf _ m1, fun k k0 k1 => by omega⟩
        have u1' : Gu_fits_48 (d + 7) 0 o n row la i 0 m1 = Gu_fits_48 (d + 7) 0 o n row la i 6 m2 := u1
        rw [u1', q_Gu_fits_48, if_neg (by decide)]
        exact go m2 (puR_tr hr1 (puR_mono u2 (fun f i k hf => by unfold aX; omega))) (cWv_fr (fun f k hf => u2 f 26 k (by omega)) hc) (fun _ k k0 k1 => u3 k k0 (by omega) k1) (puR_tr hf (puR_mono u2 (fun f i k hf => by omega)))
      · rw [if_neg hin]
        exact go m1 hr1 hc (fun h => hsn (by omega)) hf
  obtain ⟨m', a1, a2, a3, a4⟩ := key (la + 1).toNat 0 m (Int.le_refl 0) (by omega) hr (by rw [if_pos la0]; exact cw) (fun h => by omega) (puR_rf _ m)
  have hsame : (puG (fun i => tHo (tIt ev i.toNat Z) ≠ -1) (la + 1).toNat 0 = -1) ↔ tFt ev Z = -1 := by
    unfold tFt
    constructor
    · intro h
      refine puG_none _ 0 (Int.le_refl 0) (fun j j0 j1 w => ?_)
      by_cases hj : j ≤ la
      · rcases puG_spec (fun i => tHo (tIt ev i.toNat Z) ≠ -1) (la + 1).toNat 0 (Int.le_refl 0) with ⟨_, b⟩ | ⟨b, _⟩
        · exact b j j0 (by omega) w
        · omega
      · exact w (beyond j (by omega) (by omega))
    · intro h
      refine puG_none _ 0 (Int.le_refl 0) (fun j j0 j1 w => ?_)
      rcases puG_spec (fun i => tHo (tIt ev i.toNat Z) ≠ -1) 61 0 (Int.le_refl 0) with ⟨_, b⟩ | ⟨b, _⟩
      · exact b j j0 (by omega) w
      · omega
  exact ⟨m', by rw [a1, jb_cong hsame], a2, fun h => a3 (hsame.mpr h), a4⟩
