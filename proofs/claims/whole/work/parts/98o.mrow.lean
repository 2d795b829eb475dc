/-! The reference reads tests: signs that wait lie on a row -/
theorem jbnd_as (A : jR) (f g : jV → jMem → jR) : jbnd (jbnd A f) g = jbnd A fun v m => jbnd (f v m) g := by
  cases A with
  | none => rfl
  | some q => rfl
def stS (f : Int → Int) : List Int → Prop
  | [] => True
  | x :: t => f (t.length : Int) = x ∧ stS f t
theorem stS_fr {f g : Int → Int} : ∀ S : List Int, (∀ j, 0 ≤ j → j < (S.length : Int) → g j = f j) → stS f S → stS g S := by
  intro S
  induction S with
  | nil => intro _ _; trivial
  | cons x t ih =>
    intro h hs
    have hl : ((x :: t).length : Int) = (t.length : Int) + 1 := by
      rw [List.length_cons]; omega
    exact ⟨by rw [h _ (by omega) (by omega)]; exact hs.1, ih (fun j j0 j1 => h j j0 (by omega)) hs.2⟩
def yQ (b : Int → Int) (n r i u : Int) (L : List (Int × Int)) (S : List Int) (dp : Int) (m : jMem) : Prop := mQ b n r i u L m ∧ jrI m 11 0 16 = (S.length : Int) ∧ stS (jrI m 52 0) S ∧ jrI m 11 0 13 = dp
def aW (r : Int) (f : Nat) (i k : Int) : Prop := i = 0 ∧ ((f = 11 ∧ (k = 8 ∨ k = 9 ∨ k = 10 ∨ k = 12 ∨ k = 13 ∨ k = 16)) ∨ (f = 47 ∧ 400 * r ≤ k) ∨ f = 48 ∨ f = 52)
theorem aS_W (r : Int) {m m' : jMem} (h : puR (aS r) m m') : puR (aW r) m m' := puR_mono h (fun f i k w => by unfold aS at w; unfold aW; omega)
theorem aM_W (r : Int) {m m' : jMem} (h : puR aM m m') : puR (aW r) m m' := aS_W r (aM_S r h)
theorem yQ_s {b : Int → Int} {n r i i' u u' : Int} {L L' : List (Int × Int)} {S : List Int} {dp : Int} {m m' : jMem} (h : yQ b n r i u L S dp m) (hf : puR (aS r) m m') (hq : mQ b n r i' u' L' m') : yQ b n r i' u' L' S dp m' := by
  obtain ⟨h1, h2, h3, h4⟩ := h
  have e52 : jrI m' 52 0 = jrI m 52 0 := funext fun k => hf 52 0 k (by unfold aS; omega)
  refine ⟨hq, by rw [hf 11 0 16 (by unfold aS; omega)]; exact h2, by rw [e52]; exact h3, by rw [hf 11 0 13 (by unfold aS; omega)]; exact h4⟩
theorem yQ_mv {b : Int → Int} {n r i i' u : Int} {L : List (Int × Int)} {S : List Int} {dp : Int} {m m' : jMem} (h : yQ b n r i u L S dp m) (hf : puR aM m m') (hr : rM b n i' m') : yQ b n r i' u L S dp m' := yQ_s h (aM_S r hf) (mQ_mv h.1 hf hr)
/-- a sign comes upon the row -/
theorem yQ_push {b : Int → Int} {n r i u : Int} {L : List (Int × Int)} {S : List Int} {dp : Int} {m : jMem} (x dp' : Int) (h : yQ b n r i u L S dp m) : yQ b n r i u L (x :: S) dp' (jwI (jwI (jwI m 11 0 13 dp') 52 0 (S.length : Int) x) 11 0 16 ((S.length : Int) + 1)) ∧ puR (aW r) m (jwI (jwI (jwI m 11 0 13 dp') 52 0 (S.length : Int) x) 11 0 16 ((S.length : Int) + 1)) := by
  obtain ⟨⟨g1, g2, g3, g4, g5, g6⟩, h2, h3, h4⟩ := h
  refine ⟨⟨⟨rM_fr (fun f k w => by rw [jrI_w, if_neg (by omega), jrI_w, if_neg (by omega), jrI_w, if_neg (by omega)]) g1, by rw [jrI_wk (by decide), jrI_wf (by decide), jrI_wk (by decide)]; exact g2, by rw [jrI_wf (by decide), jrI_wf (by decide), jrI_wf (by decide)]; exact g3, by rw [jrI_wf (by decide), jrI_wf (by decide), jrI_wf (by decide)]; exact g4, by rw [jrI_wk (by decide), jrI_wf (by decide), jrI_wk (by decide)]; exact g5, g6⟩, by rw [jrI_ws, List.length_cons]; omega, ⟨by rw [jrI_wf (by decide), jrI_ws], stS_fr S (fun j j0 j1 => by rw [jrI_wf (by decide), jrI_wk (by omega), jrI_wf (by decide)]) h3⟩, by rw [jrI_wk (by decide), jrI_wf (by decide), jrI_ws]⟩, puR_w (puR_w (puR_w (puR_rf _ m) ?_) ?_) ?_⟩
  · unfold aW; omega
  · unfold aW; omega
  · unfold aW; omega
def str (x : Int) : Int := if x = 13 then 1 else if x = 12 then 2 else if x = 11 then 3 else 0
theorem m_strength (d : Nat) (x : Int) (m : jMem) : M_strength (d + 1) x m = some (vI (str x), m) := by
  rw [q_M_strength]
  unfold str
  by_cases h1 : x = 13
  · rw [if_pos h1, if_pos h1]
  rw [if_neg h1, if_neg h1]
  by_cases h2 : x = 12
  · rw [if_pos h2, if_pos h2]
  rw [if_neg h2, if_neg h2]
  by_cases h3 : x = 11
  · rw [if_pos h3, if_pos h3]
  rw [if_neg h3, if_neg h3]
def lowS (S : List Int) (lv : Int) : Prop := match S with
  | [] => True
  | x :: _ => str x < lv
theorem ld_stop (d : Nat) (lv : Int) {b : Int → Int} {n r i u : Int} {L : List (Int × Int)} {S : List Int} {dp : Int} {m : jMem} (h : yQ b n r i u L S dp m) (hl : (S.length : Int) ≤ 400) (hs : lowS S lv) : M_layDown_0 (d + 1) lv m = some (vU, m) := by
  obtain ⟨-, h2, h3, -⟩ := h
  rw [q_M_layDown_0, h2]
  cases S with
  | nil => rw [if_neg (by decide)]
  | cons x t =>
    have hl2 : ((x :: t).length : Int) = (t.length : Int) + 1 := by
      rw [List.length_cons]; omega
    rw [if_pos (by omega), hl2, jw32_id (x := (t.length : Int) + 1 - 1) (by omega) (by omega), show (t.length : Int) + 1 - 1 = (t.length : Int) by omega, jix_in (by omega) (by omega), h3.1, m_strength]
    simp only [jbnd_s, jasI_v]
    rw [if_pos (show str x < lv from hs)]
theorem ld_pop (d : Nat) (lv x : Int) {b : Int → Int} {n r i u : Int} {L : List (Int × Int)} {S : List Int} {dp : Int} {m : jMem} (h : yQ b n r i u L (x :: S) dp m) (hl : (L.length : Int) + (S.length : Int) < 400) (hx : x = 11 ∨ x = 12 ∨ x = 13) (hs : lv ≤ str x) (hdp : 0 ≤ dp ∧ dp ≤ 100) : ∃ m', M_layDown_0 (d + 1) lv m = M_layDown_0 (d + 1) lv m' ∧ yQ b n r i u (L ++ [(x - 8, 0)]) S (if x = 11 then dp - 1 else dp) m' ∧ puR (aW r) m m' := by
  obtain ⟨h1, h2, h3, h4⟩ := id h
  have hl2 : ((x :: S).length : Int) = (S.length : Int) + 1 := by
    rw [List.length_cons]; omega
  have q1 : mQ b n r i u L (jwI m 11 0 16 (S.length : Int)) := by
    obtain ⟨g1, g2, g3, g4, g5, g6⟩ := h1
    exact ⟨rM_fr (fun f k w => by rw [jrI_w, if_neg (by omega)]) g1, by rw [jrI_wk (by decide)]; exact g2, by rw [jrI_wf (by decide)]; exact g3, by rw [jrI_wf (by decide)]; exact g4, by rw [jrI_wk (by decide)]; exact g5, g6⟩
  obtain ⟨m1, a1, a2, a3⟩ := m_puts d x 0 (x := (x - 8, 0)) q1 (by omega) (by rcases hx with rfl | rfl | rfl <;> rfl) (by omega) (by decide)
  have fr1 : puR (aW r) m m1 := puR_tr (puR_w (puR_rf _ m) (by unfold aW; omega)) (aS_W r a3)
  have e16 : jrI m1 11 0 16 = (S.length : Int) := by rw [a3 11 0 16 (by unfold aS; omega), jrI_ws]
  have e13 : jrI m1 11 0 13 = dp := by rw [a3 11 0 13 (by unfold aS; omega), jrI_wk (by decide)]; exact h4
  have e52 : jrI m1 52 0 = jrI m 52 0 := funext fun k => by rw [a3 52 0 k (by unfold aS; omega), jrI_wf (by decide)]
  have st : M_layDown_0 (d + 1) lv m = if x = 11 then M_layDown_0 (d + 1) lv (jwI m1 11 0 13 (dp - 1)) else M_layDown_0 (d + 1) lv m1 := by
    rw [q_M_layDown_0 (d + 1) lv m, h2, hl2, if_pos (by omega), jw32_id (x := (S.length : Int) + 1 - 1) (by omega) (by omega), show (S.length : Int) + 1 - 1 = (S.length : Int) by omega, jix_in (by omega) (by omega), h3.1, m_strength]
    simp only [jbnd_s, jasI_v]
    rw [if_neg (by omega), h2, hl2, jw32_id (x := (S.length : Int) + 1 - 1) (by omega) (by omega), show (S.length : Int) + 1 - 1 = (S.length : Int) by omega, jix_in (by omega) (by omega), h3.1, a1]
    simp only [jbnd_s]
    rw [e16, jix_in (by omega) (by omega), e52, h3.1, e13, jw32_id (x := dp - 1) (by omega) (by omega)]
  rw [st]
  by_cases x11 : x = 11
  · rw [if_pos x11, if_pos x11]
    refine ⟨_, rfl, ⟨?_, by rw [jrI_wk (by decide)]; exact e16, by rw [jrI_wf (by decide), e52]; exact h3.2, jrI_ws _ _ _ _ _⟩, puR_w fr1 (by unfold aW; omega)⟩
    obtain ⟨g1, g2, g3, g4, g5, g6⟩ := a2
    exact ⟨rM_fr (fun f k w => by rw [jrI_w, if_neg (by omega)]) g1, by rw [jrI_wk (by decide)]; exact g2, by rw [jrI_wf (by decide)]; exact g3, by rw [jrI_wf (by decide)]; exact g4, by rw [jrI_wk (by decide)]; exact g5, g6⟩
  · rw [if_neg x11, if_neg x11]
    exact ⟨m1, rfl, ⟨a2, e16, by rw [e52]; exact h3.2, e13⟩, fr1⟩
def flS (P : List Int) : List (Int × Int) := P.map fun x => (x - 8, (0 : Int))
theorem ld_all (d : Nat) (lv : Int) {b : Int → Int} {n r i u dp : Int} {S : List Int} (hS : lowS S lv) (hdp : 0 ≤ dp ∧ dp ≤ 100) : ∀ (P : List Int) (L : List (Int × Int)) (m : jMem), yQ b n r i u L (P ++ S) dp m → (L.length : Int) + ((P ++ S).length : Int) ≤ 400 → (∀ x ∈ P, (x = 12 ∨ x = 13) ∧ lv ≤ str x) → ∃ m', M_layDown (d + 2) lv m = some (vU, m') ∧ yQ b n r i u (L ++ flS P) S dp m' ∧ puR (aW r) m m' := by
  intro P
  induction P with
  | nil =>
    intro L m h hl _
    have hl' : (L.length : Int) + (S.length : Int) ≤ 400 := hl
    refine ⟨m, ?_, ?_, puR_rf _ m⟩
    · rw [q_M_layDown]
      exact ld_stop d lv h (by show (S.length : Int) ≤ 400; omega) hS
    · show yQ b n r i u (L ++ []) S dp m
      rw [List.append_nil]
      exact h
  | cons x P ih =>
    intro L m h hl hP
    have hx := hP x List.mem_cons_self
    have hl2 : ((x :: P ++ S).length : Int) = ((P ++ S).length : Int) + 1 := by
      rw [List.cons_append, List.length_cons]; omega
    obtain ⟨m1, a1, a2, a3⟩ := ld_pop d lv x (S := P ++ S) h (by omega) (by omega) hx.2 hdp
    rw [if_neg (show ¬ x = 11 by omega)] at a2
    obtain ⟨m2, b1, b2, b3⟩ := ih (L ++ [(x - 8, 0)]) m1 a2 (by rw [List.length_append, show [(x - 8, (0 : Int))].length = 1 from rfl]; omega) (fun y hy => hP y (List.mem_cons_of_mem _ hy))
    refine ⟨m2, ?_, ?_, puR_tr a3 b3⟩
    · rw [q_M_layDown, a1]
      rw [q_M_layDown] at b1
      exact b1
    · rw [List.append_assoc] at b2
      exact b2
theorem m_inside (d : Nat) {S : List Int} {m : jMem} (h1 : jrI m 11 0 16 = (S.length : Int)) (h2 : stS (jrI m 52 0) S) (hl : (S.length : Int) ≤ 400) : M_isInside (d + 1) m = some (vI (jb (91 ∈ S)), m) := by
  rw [q_M_isInside]
  have mem : ∀ S : List Int, stS (jrI m 52 0) S → (91 ∈ S ↔ ∃ j, 0 ≤ j ∧ j < (S.length : Int) ∧ jrI m 52 0 j = 91) := by
    intro S
    induction S with
    | nil =>
      intro _
      refine ⟨fun h => (by cases h), fun ⟨j, j0, j1, _⟩ => ?_⟩
      have : j < ((0 : Nat) : Int) := j1
      omega
    | cons x t ih =>
      intro hs
      have hl2 : ((x :: t).length : Int) = (t.length : Int) + 1 := by
        rw [List.length_cons]; omega
      constructor
      · intro hm
        rcases List.mem_cons.mp hm with e | e
        · exact ⟨(t.length : Int), by omega, by omega, by rw [hs.1, ← e]⟩
        · obtain ⟨j, j0, j1, j2⟩ := (ih hs.2).mp e
          exact ⟨j, j0, by omega, j2⟩
      · intro ⟨j, j0, j1, j2⟩
        by_cases e : j = (t.length : Int)
        · rw [e, hs.1] at j2
          rw [j2]
          exact List.mem_cons_self
        · exact List.mem_cons_of_mem _ ((ih hs.2).mpr ⟨j, j0, by omega, j2⟩)
  have key : ∀ (k : Nat) (j : Int), 0 ≤ j → j + (k : Int) = (S.length : Int) → (∀ q, 0 ≤ q → q < j → jrI m 52 0 q ≠ 91) → M_isInside_2 d j m = some (vI (jb (91 ∈ S)), m) := by
    intro k
    induction k with
    | zero =>
      intro j j0 j1 hn
      rw [q_M_isInside_2, h1, if_neg (by omega), jb_n]
      intro w
      obtain ⟨q, q0, q1, q2⟩ := (mem S h2).mp w
      exact hn q q0 (by omega) q2
    | succ k ih =>
      intro j j0 j1 hn
      rw [q_M_isInside_2, h1, if_pos (by omega), jix_in j0 (by omega)]
      by_cases e : jrI m 52 0 j = 91
      · rw [if_pos e, jb_1 ((mem S h2).mpr ⟨j, j0, by omega, e⟩)]
      · rw [if_neg e, jw32_id (x := j + 1) (by omega) (by omega)]
        refine ih (j + 1) (by omega) (by omega) (fun q q0 q1 => ?_)
        by_cases eq : q = j
        · rw [eq]; exact e
        · exact hn q q0 (by omega)
  exact key S.length 0 (by decide) (by omega) (fun q q0 q1 => by omega)
/-! Where the reference stands in a test -/
noncomputable def TC (d : Nat) (m : jMem) : jR := jbnd (M_isWord (d + 8) 6385252 m) fun v13 mem14 => if (jasI v13) = 0 then jbnd (M_isWord (d + 8) 28530 mem14) fun v15 mem16 => if (jasI v15) = 0 then M_tested_54 (d + 8) 0 mem16 else M_tested_54 (d + 8) 1 mem16 else M_tested_54 (d + 8) 1 mem14
noncomputable def KF (d : Nat) (v : jV) (m : jMem) : jR := if (jasI v) = 0 then some (vI 0, m) else jbnd (M_closes (d + 8) m) fun _ mem12 => TC d mem12
noncomputable def HH (d : Nat) (m : jMem) : jR := jbnd (M_fact_2 (d + 7) 1 m) (KF d)
noncomputable def KW (d : Nat) (m : jMem) : jR := jbnd (M_closes_5 (d + 7) m) fun _ mem12 => TC d mem12
noncomputable def KK (d : Nat) (m : jMem) : jR := jbnd (M_layDown (d + 7) 3 m) fun _ m2 => KW d m2
theorem e_HH (d : Nat) (m : jMem) : M_tested_12 (d + 8) 1 m = HH d m := by
  rw [q_M_tested_12, if_neg (by decide), q_M_fact]
  rfl
theorem e_KF (d : Nat) (m : jMem) : KF d (vI 1) m = KK d m := by
  unfold KF KK KW
  rw [jasI_v, if_neg (by decide), q_M_closes, jbnd_as]
theorem e_KW (d : Nat) {b : Int → Int} {n r i u : Int} {L : List (Int × Int)} {S : List Int} {dp : Int} {m : jMem} (h : yQ b n r i u L S dp m) (hl : (S.length : Int) ≤ 400) (hs : lowS S 3) : KK d m = KW d m := by
  unfold KK
  rw [q_M_layDown, ld_stop (d + 5) 3 h hl hs]
  rfl
/-- a word ahead: no bracket ends there -/
theorem rW_93 {b : Int → Int} {n s : Int} (hby : ∀ j, 0 ≤ j → j < n → -128 ≤ b j ∧ b j ≤ 127) (h0 : 0 ≤ s) (h1 : s ≤ n) {cs : List Int} (hc : cs ≠ []) (h : rW b n s = cs) {x : Int} (hx : 0 ≤ x ∧ x < 97) : rCh b n s ≠ x := by
  intro w
  have hb := (rCh_b hby h0 (show 0 ≤ x ∧ x < 128 by omega)).mp w
  apply hc
  rw [← h]
  exact rW_n h0 h1 (by omega)
/-- and, or: the signs that are stronger are laid down, and it waits itself -/
theorem m_op (d : Nat) (op : Int) (hop : op = 12 ∨ op = 13) {b : Int → Int} {n r i0 u dp : Int} {L : List (Int × Int)} {P S : List Int} {m : jMem} (hby : ∀ j, 0 ≤ j → j < n → -128 ≤ b j ∧ b j ≤ 127) (h : yQ b n r i0 u L (P ++ S) dp m) (hl : (L.length : Int) + ((P ++ S).length : Int) ≤ i0) (hdp : 0 ≤ dp ∧ dp ≤ 100) (hP : ∀ x ∈ P, (x = 12 ∨ x = 13) ∧ str op ≤ str x) (hS : lowS S (str op)) (hw : rW b n (rSk b n i0) = (if op = 12 then [100, 110, 97] else [114, 111])) : ∃ m', KW d m = HH d m' ∧ yQ b n r (rPw b n (rSk b n i0)) u (L ++ flS P) (op :: S) dp m' ∧ puR (aW r) m m' := by
  have h5 := h.1.1.2.2.2.2
  have hs := rSk_in (b := b) h5.1 h5.2.1
  have hid := rSk_id (b := b) h5.1 h5.2.1
  have hne : (if op = 12 then [100, 110, 97] else [114, 111] : List Int) ≠ [] := by
    split <;> decide
  have h93 : rCh b n (rSk b n i0) ≠ 93 := rW_93 hby (by omega) hs.2 hne hw (by decide)
  obtain ⟨m1, a1, a2, a3⟩ := m_see (d + 6) h.1.1
  have q1 := yQ_mv h a3 a2
  have e1 : KW d m = TC d m1 := by
    unfold KW
    rw [q_M_closes_5, a1]
    simp only [jbnd_s, jasI_v]
    rw [if_neg h93]
    rfl
  obtain ⟨m2, b1, b2, b3⟩ := m_isW (d + 6) [100, 110, 97] (by decide) (by decide) (by decide) (y := 6385252) rfl a2 hid
  obtain ⟨m3, b4, b5, b6⟩ := m_isW (d + 6) [114, 111] (by decide) (by decide) (by decide) (y := 28530) rfl b2 hid
  obtain ⟨m4, b7, b8, b9⟩ := m_isW (d + 6) [100, 110, 97] (by decide) (by decide) (by decide) (y := 6385252) rfl b2 hid
  obtain ⟨m5, c1, c2, c3⟩ := m_isW (d + 6) [100, 110, 97] (by decide) (by decide) (by decide) (y := 6385252) rfl b5 hid
  -- which memory it is then
  have e2 : ∃ m6, TC d m1 = M_tested_76 (d + 8) 1 op m6 ∧ yQ b n r (rSk b n i0) u L (P ++ S) dp m6 ∧ puR (aW r) m m6 := by
    unfold TC
    rw [b1]
    simp only [jbnd_s, jasI_v]
    rcases hop with rfl | rfl
    · rw [if_pos rfl] at hw
      rw [jb_1 hw, if_neg (by decide), q_M_tested_54, if_neg (by decide), b7]
      simp only [jbnd_s, jasI_v]
      rw [jb_1 hw, if_neg (by decide)]
      exact ⟨m4, rfl, yQ_mv (yQ_mv q1 b3 b2) b9 b8, puR_tr (aM_W r a3) (puR_tr (aM_W r b3) (aM_W r b9))⟩
    · rw [if_neg (by decide)] at hw
      have hna : ¬ rW b n (rSk b n i0) = [100, 110, 97] := by rw [hw]; decide
      rw [jb_n hna]
      first | rw [if_pos (show (0 : Int) = 0 from rfl)] | rw [if_pos trivial]
      rw [b4]
      simp only [jbnd_s, jasI_v]
      rw [jb_1 hw, if_neg (by decide), q_M_tested_54, if_neg (by decide), c1]
      simp only [jbnd_s, jasI_v]
      rw [jb_n hna]
      first | rw [if_pos (show (0 : Int) = 0 from rfl)] | rw [if_pos trivial]
      exact ⟨m5, rfl, yQ_mv (yQ_mv (yQ_mv q1 b3 b2) b6 b5) c3 c2, puR_tr (aM_W r a3) (puR_tr (aM_W r b3) (puR_tr (aM_W r b6) (aM_W r c3)))⟩
  obtain ⟨m6, e2, q6, f6⟩ := e2
  obtain ⟨m7, x1, x2, x3⟩ := m_pass (d + 6) q6.1.1
  have q7 := yQ_mv q6 x3 x2
  obtain ⟨m8, y1, y2, y3⟩ := ld_all (d + 6) (str op) hS hdp P L m7 q7 (by omega) hP
  have hlen : (S.length : Int) < 400 := by
    have : ((P ++ S).length : Int) = (P.length : Int) + (S.length : Int) := by
      rw [List.length_append]; omega
    have hp1 := rW_ne (b := b) (by omega) hs.2 hne hw
    have hp2 := (rPw_in (b := b) (n := n) (i := rSk b n i0) (by omega) hs.2).2
    omega
  obtain ⟨⟨g1, g2, g3, g4, g5, g6⟩, k2, k3, k4⟩ := id y2
  refine ⟨jwI (jwI m8 52 0 (S.length : Int) op) 11 0 16 ((S.length : Int) + 1), ?_, ?_, ?_⟩
  · rw [e1, e2, q_M_tested_76, x1]
    simp only [jbnd_s]
    rw [m_strength]
    simp only [jbnd_s, jasI_v]
    rw [y1]
    simp only [jbnd_s]
    rw [k2, jix_in (by omega) (by omega), jw32_id (x := (S.length : Int) + 1) (by omega) (by omega), e_HH]
  · refine ⟨⟨rM_fr (fun f k w => by rw [jrI_w, if_neg (by omega), jrI_w, if_neg (by omega)]) g1, by rw [jrI_wk (by decide), jrI_wf (by decide)]; exact g2, by rw [jrI_wf (by decide), jrI_wf (by decide)]; exact g3, by rw [jrI_wf (by decide), jrI_wf (by decide)]; exact g4, by rw [jrI_wk (by decide), jrI_wf (by decide)]; exact g5, g6⟩, by rw [jrI_ws, List.length_cons]; omega, ⟨by rw [jrI_wf (by decide), jrI_ws], stS_fr S (fun j j0 j1 => by rw [jrI_wf (by decide), jrI_wk (by omega)]) k3⟩, by rw [jrI_wk (by decide), jrI_wf (by decide)]; exact k4⟩
  · refine puR_w (puR_w (puR_tr f6 (puR_tr (aM_W r x3) y3)) ?_) ?_
    · unfold aW; omega
    · unfold aW; omega
