/-! bestSink -/
theorem tWv_sk {T : Int → Int} {x v : Int} (hW : tWv T) (h5 : T 5 ≤ 6) (h6 : T 6 ≤ 4) (hx : 0 ≤ x ∧ x < T 6) (hv : 0 ≤ v ∧ v < T 1) : tWv (tUp T (17 + 2 * x) v) := by
  obtain ⟨w1, w2, w3, w4⟩ := hW
  unfold tWv
  rw [tUp_n (j := 10) (by omega), tUp_n (j := 1) (by omega), tUp_n (j := 4) (by omega), tUp_n (j := 5) (by omega), tUp_n (j := 6) (by omega)]
  refine ⟨w1, fun m a b => ?_, fun t a b => ?_, fun m m' a b c d => ?_⟩
  · rw [tUp_n (by omega)]
    exact w2 m a b
  · rw [tUp_n (j := 18 + 2 * t) (by omega)]
    have := w3 t a b
    by_cases e : t = x
    · rw [e, tUp_s]
      rw [e] at this
      omega
    · rw [tUp_n (by omega)]
      exact this
  · rw [tUp_n (by omega), tUp_n (by omega)]
    exact w4 m m' a b c d
theorem cWv_sk {mem : jMem} {w x v : Int} {T : Int → Int} (h5 : T 5 ≤ 6) (h6 : T 6 ≤ 4) (hx : 0 ≤ x ∧ x < T 6) (hc : cWv mem w T) : cWv (jwI mem 40 w x v) w (tUp T (17 + 2 * x) v) := by
  obtain ⟨c0, c1, c2⟩ := hc
  unfold cWv
  rw [tUp_n (j := 10) (by omega), tUp_n (j := 5) (by omega), tUp_n (j := 6) (by omega), jrI_wf (g := 9) (by decide)]
  refine ⟨c0, fun m a b => ?_, fun t a b => ?_⟩
  · rw [jrI_wf (g := 38) (by decide), jrI_wf (g := 39) (by decide), tUp_n (j := 11 + m) (by omega), tUp_n (j := 45 + m) (by omega)]
    exact c1 m a b
  · rw [jrI_wf (g := 42) (by decide), jrI_wf (g := 41) (by decide), jrI_wf (g := 43) (by decide), tUp_n (j := 18 + 2 * t) (by omega), tUp_n (j := 25 + t) (by omega), tIn_cong (T' := tUp T (17 + 2 * x) v) (T := T) (tUp_n (by omega)) (fun m a b => by rw [tUp_n (by omega)])]
    by_cases e : t = x
    · rw [e, jrI_ws, tUp_s]
      exact ⟨rfl, (c2 x hx.1 hx.2).2⟩
    · rw [jrI_wk e, tUp_n (by omega)]
      exact c2 t a b
theorem s_As_smells (d : Nat) (T : Int → Int) (mem : jMem) (hR : tRv T) (cr : cRv mem 0 T) (cw : cWv mem 0 T) : ∃ S, As_smellsOfFree (d + 3) 0 mem = some (vI S, mem) ∧ ∀ q, 0 ≤ q → q < 8 → (tBit S q = 0 ↔ tVn T q) := by
  have t5 := hR.2.2.2.1
  have r5 := cr.2.2.2.2.2.1
  rw [q_As_smellsOfFree]
  obtain ⟨S, a1, a2, a3, a4⟩ := puUpE (P := fun i (S : Int) => 0 ≤ S ∧ S < 256 ∧ ∀ q, 0 ≤ q → q < 8 → (tBit S q = 1 ↔ ∃ m, 0 ≤ m ∧ m < i ∧ (0 ≤ T (11 + m) ∧ T (11 + m) < 12) ∧ T (39 + m) = q)) (L := fun i S => As_smellsOfFree_4 (d + 2) 0 S i mem) (n := T 5) t5.1 (fun i S i0 i1 hP => by
    obtain ⟨p1, p2, p3⟩ := hP
    have hm := hR.2.2.2.2.2.2.1 i i0 i1
    rw [q_As_smellsOfFree_4, r5, if_pos i1, jix_in i0 (by omega), (cw.2.1 i i0 i1).1, s_E_isFreePlace, jw32_id (x := i + 1) (by omega) (by omega)]
    simp only [jbnd_s, jasI_v]
    by_cases hf : 0 ≤ T (11 + i) ∧ T (11 + i) < 12
    · rw [jb_1 hf, if_neg (by decide), jix_in i0 (by omega), (cr.2.2.2.2.2.2.2.1 i i0 i1).2.2.1]
      obtain ⟨u1, u2, -, u3⟩ := bit_or (a := S) (p := T (39 + i)) p1 p2 (by omega) (by omega)
      refine ⟨_, rfl, u1, u2, fun q q0 q1 => ?_⟩
      rw [u3 q q0 q1]
      by_cases e : q = T (39 + i)
      · rw [if_pos e]
        exact ⟨fun _ => ⟨i, i0, by omega, hf, e.symm⟩, fun _ => rfl⟩
      · rw [if_neg e]
        refine (p3 q q0 q1).trans ⟨fun ⟨m, b1, b2, b3⟩ => ⟨m, b1, by omega, b3⟩, fun ⟨m, b1, b2, b3, b4⟩ => ⟨m, b1, ?_, b3, b4⟩⟩
        by_cases em : m = i
        · rw [em] at b4; exact absurd b4.symm e
        · omega
    · rw [jb_n hf, if_pos rfl]
      refine ⟨S, rfl, p1, p2, fun q q0 q1 => (p3 q q0 q1).trans ⟨fun ⟨m, b1, b2, b3⟩ => ⟨m, b1, by omega, b3⟩, fun ⟨m, b1, b2, b3, b4⟩ => ⟨m, b1, ?_, b3, b4⟩⟩⟩
      by_cases em : m = i
      · rw [em] at b3; exact absurd b3 hf
      · omega) 0 ⟨by decide, by decide, fun q q0 q1 => ⟨fun w => by
      obtain ⟨z, rfl⟩ := Int.eq_ofNat_of_zero_le q0
      have := tBit_0 z (by omega)
      omega, fun ⟨m, b1, b2, _⟩ => by omega⟩⟩
  have a1' : As_smellsOfFree_4 (d + 2) 0 0 0 mem = As_smellsOfFree_4 (d + 2) 0 S (T 5) mem := a1
  refine ⟨S, by rw [a1', q_As_smellsOfFree_4, r5, if_neg (by omega)], fun q q0 q1 => ?_⟩
  have hq := a4 q q0 q1
  have h01 := bit01 a2 a3 q0 q1
  constructor
  · intro h m m0 m1 f0 f1 e
    have := hq.mpr ⟨m, m0, m1, ⟨f0, f1⟩, e⟩
    omega
  · intro h
    rcases h01 with h0 | h1
    · exact h0
    · obtain ⟨m, b1, b2, b3, b4⟩ := hq.mp h1
      exact absurd b4 (h m b1 b2 b3.1 b3.2)
/-- the best so far, of codes below i -/
def tBs (G : Int → Int) (m0 i : Int) : Int × Int := puF (fun c a => if a.1 < G c then (G c, c) else a) i.toNat 0 (m0, -1)
theorem tBs_s (G : Int → Int) (m0 : Int) {i : Int} (h : 0 ≤ i) : tBs G m0 (i + 1) = if (tBs G m0 i).1 < G i then (G i, i) else tBs G m0 i := by
  unfold tBs
  rw [puF_s _ h]
theorem tBs_ok (G : Int → Int) (m0 : Int) : ∀ k : Nat, -1 ≤ (tBs G m0 (k : Int)).2 ∧ (tBs G m0 (k : Int)).2 < (k : Int) ∧ ∀ c, 0 ≤ c → c < (k : Int) → G c ≤ (tBs G m0 (k : Int)).1 := by
  intro k
  induction k with
  | zero => exact ⟨by show (-1 : Int) ≤ -1; decide, by show (-1 : Int) < 0; decide, fun c a b => by omega⟩
  | succ k ih =>
    obtain ⟨a, b, c⟩ := ih
    rw [show ((k + 1 : Nat) : Int) = (k : Int) + 1 by omega, tBs_s G m0 (by omega)]
    by_cases h : (tBs G m0 (k : Int)).1 < G (k : Int)
    · rw [if_pos h]
      refine ⟨by dsimp only; omega, by dsimp only; omega, fun d d0 d1 => ?_⟩
      dsimp only
      by_cases e : d = (k : Int)
      · rw [e]; exact Int.le_refl _
      · have := c d d0 (by omega); omega
    · rw [if_neg h]
      refine ⟨a, by omega, fun d d0 d1 => ?_⟩
      by_cases e : d = (k : Int)
      · rw [e]; omega
      · exact c d d0 (by omega)
def tBp (b : Int) : Int := if b = -1 then -1 else b / 8
def tBb (b : Int) : Int := if b = -1 then -1 else b % 8
theorem s_M_trappedIn (d : Nat) (ev : tEvT) (T' : Int → Int) (n : Nat) (mem m : jMem) (hR : tRv T') (hW : tWv T') (h1 : T' 0 = 1) (hn : T' 10 + (n : Int) < 100000) (hev : mEv mem ev) (hk : mKept mem m) (hs : jrI m 55 0 = T') (hl : jrI m 11 0 23 = -1) (hl1 : jrI mem 11 0 23 = -1) : ∃ m', M_trappedIn (d + 9) (n : Int) m = some (vI (tFul (tIt ev n T')), m') ∧ jrI m' 55 0 = jrI mem 55 0 ∧ mKept mem m' ∧ jrI m' 11 0 23 = -1 ∧ puR aX mem m' := by
  obtain ⟨m2, a1, a2, a3, a4⟩ := s_mtry d ev T' n mem m hR hW h1 hn hev hk hs hl
  obtain ⟨q1, q2, q3⟩ := tIt_ok ev hR hW h1 n (by omega)
  obtain ⟨m3, b1, b2, b3, b4, b5, -⟩ := s_back (d + 7) mem m2 a3 (by rw [a4, hl1])
  rw [q_M_trappedIn, a1]
  simp only [jbnd_s]
  rw [s_M_trapped (d + 5) _ m2 (tRv_eq q1 hR) q2 a2]
  simp only [jbnd_s, jasI_v]
  rw [b1]
  exact ⟨m3, rfl, b2, b4, by rw [b5]; exact hl1, b3⟩
theorem p_bestSink (x n y : Int) : pCase (E_bestSink 60 x n y) (M_bestSink 60 x n y) := fun mem hi hm => by
  obtain ⟨hR, hW, hN, h999, cr, cw, cn, hl⟩ := pNow hi
  have t5 := hR.2.2.2.1
  have t6 := hR.2.2.2.2.1
  have h10 := hW.1
  have t1 : 0 ≤ jrI mem 55 0 1 ∧ jrI mem 55 0 1 ≤ 12 := by have := hR.1; omega
  have r1 := cr.2.1
  have r6 := cr.2.2.2.2.2.2.1
  generalize hT : jrI mem 55 0 = T at *
  have ms : ∀ m, jrI m 55 0 = T → M_bestSink 60 x n y m = if jb (0 ≤ x ∧ x < T 6 ∧ tIn T x = -1) = 0 then some (vI (-2), m) else if jb (1 ≤ n ∧ n ≤ 40) = 0 then some (vI (-2), m) else if jb (0 ≤ y ∧ y ≤ 2) = 0 then some (vI (-2), m) else jbnd (M_keeps 59 m) fun _ mem8 => jbnd (M_trappedIn 59 n mem8) fun v9 mem10 => M_bestSink_52 59 x n y (-1) (jasI v9) 0 mem10 := fun m h9 => by
    rw [q_M_bestSink 59, s_M_isEmptyTrap 57 x T m hR h9]
    simp only [jbnd_s, jasI_v, s_M_in]
  rw [q_E_bestSink 59, s_E_isEmptyTrap 56 x T mem hR cr cw]
  simp only [jbnd_s, jasI_v, s_E_within]
  by_cases hx : 0 ≤ x ∧ x < T 6 ∧ tIn T x = -1
  case neg =>
    rw [jb_n hx, if_pos rfl]
    refine ⟨-2, mem, rfl, fun _ => ⟨mem, ?_, hi⟩⟩
    rw [ms mem hT, jb_n hx, if_pos rfl]
  rw [jb_1 hx, if_neg (by decide)]
  by_cases hn : 1 ≤ n ∧ n ≤ 40
  case neg =>
    rw [jb_n hn, if_pos rfl]
    refine ⟨-2, mem, rfl, fun _ => ⟨mem, ?_, hi⟩⟩
    rw [ms mem hT, jb_1 hx, if_neg (by decide), jb_n hn, if_pos rfl]
  rw [jb_1 hn, if_neg (by decide)]
  by_cases hy : 0 ≤ y ∧ y ≤ 2
  case neg =>
    rw [jb_n hy, if_pos rfl]
    refine ⟨-2, mem, rfl, fun _ => ⟨mem, ?_, hi⟩⟩
    rw [ms mem hT, jb_1 hx, if_neg (by decide), jb_1 hn, if_neg (by decide), jb_n hy, if_pos rfl]
  rw [jb_1 hy, if_neg (by decide)]
  have hx2 := hx
  obtain ⟨x0, x1, hin⟩ := hx
  have h1 := told1 hR (by omega)
  obtain ⟨o, ev, e1, e2, e3⟩ := pEv hi 57
  obtain ⟨k, rfl⟩ := Int.eq_ofNat_of_zero_le (show 0 ≤ n by omega)
  rw [e1]
  simp only [jbnd_s, jasR_v]
  rw [q_As_bestPlace]
  obtain ⟨m0, a1, a2, a3⟩ := s_As_after 50 o ev T k mem hR hW h1 (by omega) cr cw e2
  obtain ⟨q1, q2, q3⟩ := tIt_ok ev hR hW h1 k (by omega)
  rw [a1]
  simp only [jbnd_s, jasR_v, jsm_s]
  have hri : jSem 58 76 [vR 9 (some 25), vI (jrI m0 4 0 6)] m0 = Wa_fullTraps 58 25 (jrI m0 4 0 6) m0 := rfl
  have hf0 := s_Wa_fullTraps 57 25 (tIt ev k T) m0 (tRv_eq q1 hR) a2
  rw [q1 6 (by omega)] at hf0
  rw [hri, a3 4 0 6 (by unfold aX; omega), r6, hf0]
  simp only [jbnd_s, jasI_v]
  obtain ⟨S, sm1, sm2⟩ := s_As_smells 55 T m0 hR (X_now a3 cr cw).1 (X_now a3 cr cw).2
  rw [sm1]
  simp only [jbnd_s, jasI_v]
  -- of each pool and bait
  generalize hM0 : tFul (tIt ev k T) = M0
  have hV : ∀ p b, 0 ≤ p → p < T 1 → 0 ≤ b → b < 8 → tS T (tUp (tUp T (17 + 2 * x) p) (18 + 2 * x) b) ∧ tRv (tUp (tUp T (17 + 2 * x) p) (18 + 2 * x) b) ∧ tWv (tUp (tUp T (17 + 2 * x) p) (18 + 2 * x) b) ∧ tUp (tUp T (17 + 2 * x) p) (18 + 2 * x) b 0 = 1 ∧ tUp (tUp T (17 + 2 * x) p) (18 + 2 * x) b 10 = T 10 := fun p b p0 p1 b0 b1 => by
    have hS : tS T (tUp (tUp T (17 + 2 * x) p) (18 + 2 * x) b) := fun j hj => by rw [tUp_n (by omega), tUp_n (by omega)]
    exact ⟨hS, tRv_S hS hR, tWv_bt (tWv_sk hW t5.2 t6.2 ⟨x0, x1⟩ ⟨p0, p1⟩) (by rw [tUp_n (by omega)]; exact t5.2) (by rw [tUp_n (by omega)]; exact t6.2) (by rw [tUp_n (by omega)]; exact ⟨x0, x1⟩) (by omega), by rw [hS 0 (by omega)]; exact h1, by rw [tUp_n (by omega), tUp_n (by omega)]⟩
  have vainSame : ∀ p b c, 0 ≤ p → p < T 1 → 0 ≤ b → b < 8 → 0 ≤ c → c < 8 → tVn T b → tVn T c → tFul (tIt ev k (tUp (tUp T (17 + 2 * x) p) (18 + 2 * x) c)) = tFul (tIt ev k (tUp (tUp T (17 + 2 * x) p) (18 + 2 * x) b)) := fun p b c p0 p1 b0 b1 c0 c1 vb vc => by
    obtain ⟨s1, s2, s3, s4, s5⟩ := hV p b p0 p1 b0 b1
    have hvn : ∀ d, tVn T d → tVn (tUp (tUp T (17 + 2 * x) p) (18 + 2 * x) b) d := fun d hd m m0 m1 => by
      rw [s1 5 (by omega)] at m1
      rw [tUp_n (j := 11 + m) (by omega), tUp_n (j := 11 + m) (by omega), s1 (39 + m) (by omega)]
      exact hd m m0 m1
    have h := (tIt_v ev s2 s3 s4 (by rw [s5]; exact h999) (x := x) (b := b) (c := c) (by rw [s1 6 (by omega)]; exact ⟨x0, x1⟩) (tUp_s _ _ _) (hvn b vb) (hvn c vc) k (by omega)).1
    rw [tUp_tw] at h
    obtain ⟨w1, w2, w3⟩ := tIt_ok ev s2 s3 s4 k (by rw [s5]; omega)
    rw [h, tFul_v (by rw [w1 5 (by omega), s1 5 (by omega)]; exact t5.2) ⟨x0, by omega⟩]
  generalize hG : (fun i : Int => tFul (tIt ev k (tUp (tUp T (17 + 2 * x) (i / 8)) (18 + 2 * x) (i % 8)))) = G
  have hGi : ∀ p b, 0 ≤ b → b < 8 → G (8 * p + b) = tFul (tIt ev k (tUp (tUp T (17 + 2 * x) p) (18 + 2 * x) b)) := fun p b b0 b1 => by
    rw [← hG]
    dsimp only
    rw [show (8 * p + b) / 8 = p by omega, show (8 * p + b) % 8 = b by omega]
  -- one trial of the class
  have trial : ∀ (p b vt s0 : Int) (m : jMem), 0 ≤ p → p < T 1 → 0 ≤ b → b < 8 → puR aX mem m → ∃ m', As_bestPlace_90 58 0 o x (k : Int) y (tBs G M0 (8 * p + b)).1 (tBp (tBs G M0 (8 * p + b)).2) (tBb (tBs G M0 (8 * p + b)).2) S p vt b s0 m = As_bestPlace_53 58 0 o x (k : Int) y (tBs G M0 (8 * p + (b + 1))).1 (tBp (tBs G M0 (8 * p + (b + 1))).2) (tBb (tBs G M0 (8 * p + (b + 1))).2) S p (jor vt s0) (b + 1) m' ∧ puR aX mem m' := fun p b vt s0 m p0 p1 b0 b1 hr => by
    obtain ⟨s1, s2, s3, s4, s5⟩ := hV p b p0 p1 b0 b1
    obtain ⟨m2, d1, d2, d3⟩ := s_lay25 57 T mem m hR cw hr
    rw [q_As_bestPlace_90, d1]
    simp only [jbnd_s]
    rw [jix_in x0 (by omega), jix_in x0 (by omega)]
    have cwq : cWv (jwI (jwI m2 40 25 x p) 42 25 x b) 25 (tUp (tUp T (17 + 2 * x) p) (18 + 2 * x) b) := cWv_bt (by rw [tUp_n (by omega)]; exact t5.2) (by rw [tUp_n (by omega)]; exact t6.2) (by rw [tUp_n (by omega)]; exact ⟨x0, x1⟩) (cWv_sk t5.2 t6.2 ⟨x0, x1⟩ d2)
    obtain ⟨m3, f1, f2, f3⟩ := s_try 51 o ev _ k mem (jwI (jwI m2 40 25 x p) 42 25 x b) s2 s3 s4 (by rw [s5]; omega) (cRw_cong hR (fun j j0 j1 j2 j3 => s1 j (by omega)) (cRw_of cr)) e2 (puR_w (puR_w d3 (by unfold aX; omega)) (by unfold aX; omega)) cwq
    obtain ⟨w1, w2, w3⟩ := tIt_ok ev s2 s3 s4 k (by rw [s5]; omega)
    have hf := s_Wa_fullTraps 57 25 _ m3 (tRv_eq w1 s2) f2
    rw [w1 6 (by omega), s1 6 (by omega)] at hf
    rw [f1]
    simp only [jbnd_s]
    rw [f3 4 0 6 (by unfold aX; omega), r6, hf, jw32_id (x := b + 1) (by omega) (by omega)]
    simp only [jbnd_s, jasI_v]
    rw [show 8 * p + (b + 1) = 8 * p + b + 1 by omega, tBs_s G M0 (show 0 ≤ 8 * p + b by omega), hGi p b b0 b1]
    by_cases hgt : (tBs G M0 (8 * p + b)).1 < tFul (tIt ev k (tUp (tUp T (17 + 2 * x) p) (18 + 2 * x) b))
    · rw [if_pos hgt, if_pos hgt]
      refine ⟨m3, ?_, f3⟩
      dsimp only
      rw [show tBp (8 * p + b) = p by unfold tBp; rw [if_neg (by omega)]; omega, show tBb (8 * p + b) = b by unfold tBb; rw [if_neg (by omega)]; omega]
    · rw [if_neg hgt, if_neg hgt]
      exact ⟨m3, rfl, f3⟩
  obtain ⟨m1, c1, c2⟩ := puUpE (P := fun p (m : jMem) => puR aX mem m) (L := fun p m => As_bestPlace_35 58 0 o x (k : Int) y (tBs G M0 (8 * p)).1 (tBp (tBs G M0 (8 * p)).2) (tBb (tBs G M0 (8 * p)).2) S p m) (n := T 1) t1.1 (fun p m p0 p1 hP => by
    rw [q_As_bestPlace_35, hP 4 0 1 (by unfold aX; omega), r1, if_pos p1]
    obtain ⟨⟨vt, m2⟩, g1, g2, -⟩ := puUpE (P := fun b (z : Int × jMem) => puR aX mem z.2 ∧ (z.1 = 0 ∨ z.1 = 1) ∧ (z.1 = 1 → ∃ b0, 0 ≤ b0 ∧ b0 < b ∧ tVn T b0)) (L := fun b z => As_bestPlace_53 58 0 o x (k : Int) y (tBs G M0 (8 * p + b)).1 (tBp (tBs G M0 (8 * p + b)).2) (tBb (tBs G M0 (8 * p + b)).2) S p z.1 b z.2) (n := 8) (by decide) (fun b z b0 b1 hQ => by
      obtain ⟨vt, m⟩ := z
      obtain ⟨w1, w2, w3⟩ := hQ
      dsimp only at w1 w2 w3
      show ∃ z' : Int × jMem, As_bestPlace_53 58 0 o x (k : Int) y (tBs G M0 (8 * p + b)).1 (tBp (tBs G M0 (8 * p + b)).2) (tBb (tBs G M0 (8 * p + b)).2) S p vt b m = As_bestPlace_53 58 0 o x (k : Int) y (tBs G M0 (8 * p + (b + 1))).1 (tBp (tBs G M0 (8 * p + (b + 1))).2) (tBb (tBs G M0 (8 * p + (b + 1))).2) S p z'.1 (b + 1) z'.2 ∧ _
      have hbit := sm2 b b0 b1
      unfold tBit at hbit
      rw [q_As_bestPlace_53, if_pos b1]
      by_cases hv : tVn T b
      · rw [if_pos (hbit.mpr hv), q_As_bestPlace_75, if_neg (by decide)]
        by_cases hvt : vt = 0
        · rw [if_pos hvt]
          obtain ⟨m', u1, u2⟩ := trial p b vt 1 m p0 p1 b0 b1 w1
          refine ⟨(jor vt 1, m'), u1, u2, ?_, fun _ => ⟨b, b0, by omega, hv⟩⟩
          rw [hvt]
          exact Or.inr (show jor 0 1 = 1 by decide)
        · rw [if_neg hvt]
          obtain ⟨b9, y1, y2, y3⟩ := w3 (w2.resolve_left hvt)
          refine ⟨(vt, m), ?_, w1, w2, fun h => ⟨b9, y1, by omega, y3⟩⟩
          have hsame := vainSame p b9 b p0 p1 y1 (by omega) b0 b1 y3 hv
          rw [← hGi p b b0 b1, ← hGi p b9 y1 (by omega)] at hsame
          obtain ⟨c, hc⟩ := Int.eq_ofNat_of_zero_le (show 0 ≤ 8 * p + b by omega)
          have hle := (tBs_ok G M0 c).2.2 (8 * p + b9) (by omega) (by omega)
          rw [← hc] at hle
          rw [jw32_id (x := b + 1) (by omega) (by omega), show 8 * p + (b + 1) = 8 * p + b + 1 by omega, tBs_s G M0 (show 0 ≤ 8 * p + b by omega), if_neg (by omega)]
      · rw [if_neg (fun w => hv (hbit.mp w)), q_As_bestPlace_75, if_pos rfl]
        obtain ⟨m', u1, u2⟩ := trial p b vt 0 m p0 p1 b0 b1 w1
        have hj : jor vt 0 = vt := jor_0 (by rcases w2 with h | h <;> rw [h] <;> exact ⟨by decide, by decide⟩)
        rw [hj] at u1
        exact ⟨(vt, m'), u1, u2, w2, fun h => by
          obtain ⟨b9, y1, y2, y3⟩ := w3 h
          exact ⟨b9, y1, by omega, y3⟩⟩) (0, m) ⟨hP, Or.inl rfl, fun h => by simp only at h; omega⟩
    have g1' : As_bestPlace_53 58 0 o x (k : Int) y (tBs G M0 (8 * p + 0)).1 (tBp (tBs G M0 (8 * p + 0)).2) (tBb (tBs G M0 (8 * p + 0)).2) S p 0 0 m = As_bestPlace_53 58 0 o x (k : Int) y (tBs G M0 (8 * p + 8)).1 (tBp (tBs G M0 (8 * p + 8)).2) (tBb (tBs G M0 (8 * p + 8)).2) S p vt 8 m2 := g1
    rw [show 8 * p + 0 = 8 * p by omega] at g1'
    rw [g1', q_As_bestPlace_53, if_neg (by decide), jw32_id (x := p + 1) (by omega) (by omega), show 8 * p + 8 = 8 * (p + 1) by omega]
    exact ⟨m2, rfl, g2⟩) m0 a3
  have c1' : As_bestPlace_35 58 0 o x (k : Int) y M0 (-1) (-1) S 0 m0 = As_bestPlace_35 58 0 o x (k : Int) y (tBs G M0 (8 * T 1)).1 (tBp (tBs G M0 (8 * T 1)).2) (tBb (tBs G M0 (8 * T 1)).2) S (T 1) m1 := c1
  rw [c1', q_As_bestPlace_35, c2 4 0 1 (by unfold aX; omega), r1, if_neg (by omega)]
  -- the reference
  have hs : jrI m1 55 0 = T := by rw [X_said c2]; exact hT
  have hl1 : jrI m1 11 0 23 = -1 := by rw [X_23 c2]; exact hl
  obtain ⟨m2, b1, b2, b3, b4, -⟩ := s_keep 58 m1
  obtain ⟨m3, d1, d2, d3, d4, d5⟩ := s_M_trappedIn 50 ev T k m1 m2 hR hW h1 (by omega) (mEv_X c2 e3) b2 (by rw [b3]; exact hs) (by rw [X_23 b4]; exact hl1) hl1
  rw [hM0] at d1
  obtain ⟨m9, g1, g2, g3, g4, g5⟩ := puUpE (P := fun i (m : jMem) => mKept m1 m ∧ jrI m 55 0 = T ∧ jrI m 11 0 23 = -1 ∧ puR aX m1 m) (L := fun i m => M_bestSink_52 59 x (k : Int) y (tBs G M0 i).2 (tBs G M0 i).1 i m) (n := 8 * T 1) (by omega) (fun i m i0 i1 hP => by
    obtain ⟨p1, p2, p3, p4⟩ := hP
    obtain ⟨s1, s2, s3, s4, s5⟩ := hV (i / 8) (i % 8) (by omega) (by omega) (by omega) (by omega)
    rw [q_M_bestSink_52, p2, jw32_id (x := 8 * T 1) (by omega) (by omega), if_pos i1, jw32_id (x := 2 * x) (by omega) (by omega), jw32_id (x := 17 + 2 * x) (by omega) (by omega), jw32_id (x := 17 + 2 * x + 1) (by omega) (by omega), jix_in (by omega) (by omega), jix_in (by omega) (by omega), Int.tdiv_eq_ediv_of_nonneg i0, Int.tmod_eq_emod_of_nonneg i0, jw32_id (x := i / 8) (by omega) (by omega), show 17 + 2 * x + 1 = 18 + 2 * x by omega]
    obtain ⟨m4, f1, f2, f3, f4, f5⟩ := s_M_trappedIn 50 ev _ k m1 (jwI (jwI m 55 0 (17 + 2 * x) (i / 8)) 55 0 (18 + 2 * x) (i % 8)) s2 s3 s4 (by rw [s5]; omega) (mEv_X c2 e3) (mKept_w (mKept_w p1 (by omega) (by omega)) (by omega) (by omega)) (said_w _ _ (said_w _ _ p2)) (by rw [jrI_wf (by decide), jrI_wf (by decide)]; exact p3) hl1
    rw [f1, jw32_id (x := i + 1) (by omega) (by omega)]
    simp only [jbnd_s, jasI_v]
    have hgi : G i = tFul (tIt ev k (tUp (tUp T (17 + 2 * x) (i / 8)) (18 + 2 * x) (i % 8))) := by rw [← hG]
    rw [tBs_s G M0 i0, ← hgi]
    by_cases hgt : (tBs G M0 i).1 < G i
    · rw [if_pos hgt, if_pos hgt]
      exact ⟨m4, rfl, f3, by rw [f2]; exact hs, f4, f5⟩
    · rw [if_neg hgt, if_neg hgt]
      exact ⟨m4, rfl, f3, by rw [f2]; exact hs, f4, f5⟩) m3 ⟨d3, by rw [d2]; exact hs, d4, d5⟩
  have g1' : M_bestSink_52 59 x (k : Int) y (-1) M0 0 m3 = M_bestSink_52 59 x (k : Int) y (tBs G M0 (8 * T 1)).2 (tBs G M0 (8 * T 1)).1 (8 * T 1) m9 := g1
  have hend : M_bestSink 60 x (k : Int) y m1 = M_bestSink_52 59 x (k : Int) y (tBs G M0 (8 * T 1)).2 (tBs G M0 (8 * T 1)).1 (8 * T 1) m9 := by
    rw [ms m1 hs, jb_1 hx2, if_neg (by decide), jb_1 hn, if_neg (by decide), jb_1 hy, if_neg (by decide), b1]
    simp only [jbnd_s]
    rw [d1]
    simp only [jbnd_s, jasI_v]
    exact g1'
  obtain ⟨c, hc⟩ := Int.eq_ofNat_of_zero_le (show 0 ≤ 8 * T 1 by omega)
  obtain ⟨z1, z2, -⟩ := tBs_ok G M0 c
  rw [← hc] at z1 z2
  have hfin : pInv m9 := pInv_fr g5 (pInv_fr c2 hi)
  rw [q_M_bestSink_52, g3, jw32_id (x := 8 * T 1) (by omega) (by omega), if_neg (by omega)] at hend
  generalize tBs G M0 (8 * T 1) = B at z1 z2 hend ⊢
  by_cases y0 : y = 0
  · rw [if_pos y0]
    rw [if_pos y0] at hend
    simp only [jbnd_s, jasI_v]
    exact ⟨_, m1, rfl, fun _ => ⟨m9, hend, hfin⟩⟩
  rw [if_neg y0]
  rw [if_neg y0] at hend
  by_cases hb : B.2 = -1
  · rw [if_pos (show B.2 < 0 by omega)] at hend
    have e1 : tBp B.2 = -1 := if_pos hb
    have e2 : tBb B.2 = -1 := if_pos hb
    rw [e1, e2]
    by_cases y1 : y = 1
    · rw [if_pos y1]
      simp only [jbnd_s, jasI_v]
      exact ⟨_, m1, rfl, fun _ => ⟨m9, hend, hfin⟩⟩
    · rw [if_neg y1]
      simp only [jbnd_s, jasI_v]
      exact ⟨_, m1, rfl, fun _ => ⟨m9, hend, hfin⟩⟩
  · rw [if_neg (show ¬ B.2 < 0 by omega), Int.tdiv_eq_ediv_of_nonneg (by omega), Int.tmod_eq_emod_of_nonneg (by omega), jw32_id (x := B.2 / 8) (by omega) (by omega)] at hend
    have e1 : tBp B.2 = B.2 / 8 := if_neg hb
    have e2 : tBb B.2 = B.2 % 8 := if_neg hb
    rw [e1, e2]
    by_cases y1 : y = 1
    · rw [if_pos y1]
      rw [if_pos y1] at hend
      simp only [jbnd_s, jasI_v]
      exact ⟨_, m1, rfl, fun _ => ⟨m9, hend, hfin⟩⟩
    · rw [if_neg y1]
      rw [if_neg y1] at hend
      simp only [jbnd_s, jasI_v]
      exact ⟨_, m1, rfl, fun _ => ⟨m9, hend, hfin⟩⟩
