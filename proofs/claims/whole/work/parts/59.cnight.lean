/-! A night in the class: words, goals -/
/-- what a night reads of a river: whose memories are and throats lie in the water -/
def cRw (mem : jMem) (r : Int) (T : Int → Int) : Prop :=
  jrI mem 4 r 0 = T 0 ∧ jrI mem 4 r 1 = T 1 ∧ jrI mem 4 r 2 = T 2 ∧ jrI mem 4 r 3 = T 3 ∧ jrI mem 4 r 4 = T 4 ∧ jrI mem 4 r 5 = T 5 ∧ jrI mem 4 r 6 = T 6 ∧
  (∀ m, 0 ≤ m → m < T 5 → jrI mem 23 r m = T (67 + m) ∧ jrI mem 24 r m = T (33 + m) ∧ jrI mem 25 r m = T (39 + m) ∧ True) ∧
  (∀ t, 0 ≤ t → t < T 6 → jrI mem 27 r t = T (73 + 2 * t) ∧ True ∧ jrI mem 29 r t = T (74 + 2 * t) ∧ jrI mem 30 r t = T (29 + t)) ∧
  (∀ p, 0 ≤ p → p < T 4 → jrI mem 22 r p = T (51 + p)) ∧ (∀ i, 0 ≤ i → i < T 3 → jrI mem 21 r i = T (55 + i))
theorem cRw_of {mem : jMem} {r : Int} {T : Int → Int} (h : cRv mem r T) : cRw mem r T := by
  obtain ⟨c0, c1, c2, c3, c4, c5, c6, c7, c8, c9, c10⟩ := h
  exact ⟨c0, c1, c2, c3, c4, c5, c6, fun m a b => ⟨(c7 m a b).1, (c7 m a b).2.1, (c7 m a b).2.2.1, trivial⟩, fun t a b => ⟨(c8 t a b).1, trivial, (c8 t a b).2.2.1, (c8 t a b).2.2.2⟩, c9, c10⟩
theorem cRw_fr {mem mem' : jMem} {r : Int} {T : Int → Int} (h : ∀ f k, f = 4 ∨ (21 ≤ f ∧ f ≤ 30) → jrI mem' f r k = jrI mem f r k) (hc : cRw mem r T) : cRw mem' r T := by
  obtain ⟨c0, c1, c2, c3, c4, c5, c6, c7, c8, c9, c10⟩ := hc
  have h4 : ∀ k, jrI mem' 4 r k = jrI mem 4 r k := fun k => h 4 k (Or.inl rfl)
  have hh : ∀ f k, 21 ≤ f → f ≤ 30 → jrI mem' f r k = jrI mem f r k := fun f k a b => h f k (Or.inr ⟨a, b⟩)
  refine ⟨by rw [h4]; exact c0, by rw [h4]; exact c1, by rw [h4]; exact c2, by rw [h4]; exact c3, by rw [h4]; exact c4, by rw [h4]; exact c5, by rw [h4]; exact c6, fun m a b => ?_, fun m a b => ?_, fun m a b => ?_, fun m a b => ?_⟩
  · rw [hh 23 m (by decide) (by decide), hh 24 m (by decide) (by decide), hh 25 m (by decide) (by decide)]
    exact c7 m a b
  · rw [hh 27 m (by decide) (by decide), hh 29 m (by decide) (by decide), hh 30 m (by decide) (by decide)]
    exact c8 m a b
  · rw [hh 22 m (by decide) (by decide)]
    exact c9 m a b
  · rw [hh 21 m (by decide) (by decide)]
    exact c10 m a b
/-- another telling that a night reads alike -/
theorem cRw_cong {mem : jMem} {r : Int} {T T' : Int → Int} (hR : tRv T) (h : ∀ k, 0 ≤ k → k < 81 → ¬ (10 ≤ k ∧ k < 29) → ¬ (45 ≤ k ∧ k < 51) → T' k = T k) (hc : cRw mem r T) : cRw mem r T' := by
  obtain ⟨t0, t3, t4, t5, t6, -⟩ := hR
  obtain ⟨c0, c1, c2, c3, c4, c5, c6, c7, c8, c9, c10⟩ := hc
  unfold cRw
  rw [h 0 (by omega) (by omega) (by omega) (by omega), h 1 (by omega) (by omega) (by omega) (by omega), h 2 (by omega) (by omega) (by omega) (by omega), h 3 (by omega) (by omega) (by omega) (by omega), h 4 (by omega) (by omega) (by omega) (by omega), h 5 (by omega) (by omega) (by omega) (by omega), h 6 (by omega) (by omega) (by omega) (by omega)]
  refine ⟨c0, c1, c2, c3, c4, c5, c6, fun m a b => ?_, fun m a b => ?_, fun m a b => ?_, fun m a b => ?_⟩
  · rw [h (67 + m) (by omega) (by omega) (by omega) (by omega), h (33 + m) (by omega) (by omega) (by omega) (by omega), h (39 + m) (by omega) (by omega) (by omega) (by omega)]
    exact c7 m a b
  · rw [h (73 + 2 * m) (by omega) (by omega) (by omega) (by omega), h (74 + 2 * m) (by omega) (by omega) (by omega) (by omega), h (29 + m) (by omega) (by omega) (by omega) (by omega)]
    exact c8 m a b
  · rw [h (51 + m) (by omega) (by omega) (by omega) (by omega)]
    exact c9 m a b
  · rw [h (55 + m) (by omega) (by omega) (by omega) (by omega)]
    exact c10 m a b
theorem s_Ri_lightOw (d : Nat) (r n : Int) (T : Int → Int) (mem : jMem) (h : cRw mem r T) (hT : tRv T) (hn : 0 ≤ n) : Ri_lightOf (d + 1) r n mem = some (vI (tLi T n), mem) := by
  obtain ⟨t0, t3, -⟩ := hT
  obtain ⟨-, -, -, r3, -, -, -, -, -, -, rl⟩ := h
  rw [q_Ri_lightOf, r3]
  unfold tLi
  by_cases h3 : T 3 = 0
  · rw [if_neg (by omega), if_pos h3]
  · obtain ⟨a, b⟩ := tmod_in hn (show 0 < T 3 by omega)
    rw [if_pos (by omega), if_neg (by omega), jnz_in h3, jix_in (by omega) (by omega), if_neg h3, rl _ a b]
/-- what a stream sees -/
def cC (mem : jMem) (s r w : Int) (o : Option Int) (T : Int → Int) (lt : Int) : Prop := jrS mem 7 s 4 = some r ∧ jrS mem 7 s 5 = some w ∧ jrS mem 7 s 6 = o ∧ cRw mem r T ∧ cWv mem w T ∧ jrI mem 7 s 7 = lt ∧ jrI mem 7 s 8 = tLi T (T 10 + 1)
/-- how many are in each pool -/
def cP (mem : jMem) (s : Int) (T : Int → Int) : Prop := ∀ p, 0 ≤ p → p < 12 → jrI mem 35 s p = tCnt (fun o => T (11 + o) = p) (T 5) ∧ jrI mem 36 s p = tTrp T p
theorem tWith_eq (T : Int → Int) (m p : Int) : ∀ k : Nat, (0 ≤ m → m < (k : Int) → tCnt (fun o => T (11 + o) = p) (k : Int) = tCnt (fun o => o ≠ m ∧ T (11 + o) = p) (k : Int) + (if T (11 + m) = p then 1 else 0)) ∧ ((k : Int) ≤ m → tCnt (fun o => T (11 + o) = p) (k : Int) = tCnt (fun o => o ≠ m ∧ T (11 + o) = p) (k : Int))
  | 0 => ⟨fun a b => by omega, fun _ => rfl⟩
  | k + 1 => by
    obtain ⟨h1, h2⟩ := tWith_eq T m p k
    rw [show (((k + 1 : Nat)) : Int) = (k : Int) + 1 by omega, tCnt_s _ (by omega), tCnt_s _ (by omega)]
    constructor
    · intro a b
      by_cases e : (k : Int) = m
      · have h3 := h2 (by omega)
        rw [if_neg (c := (k : Int) ≠ m ∧ T (11 + (k : Int)) = p) (fun w => w.1 e), e]
        rw [e] at h3
        rw [h3]
        split <;> omega
      · have h3 := h1 a (by omega)
        rw [h3]
        generalize (if T (11 + m) = p then (1 : Int) else 0) = z
        by_cases hp : T (11 + (k : Int)) = p
        · rw [if_pos hp, if_pos ⟨e, hp⟩]
          omega
        · rw [if_neg hp, if_neg (fun w => hp w.2)]
    · intro a
      have h3 := h2 (by omega)
      rw [h3]
      by_cases hp : T (11 + (k : Int)) = p
      · rw [if_pos hp, if_pos ⟨by omega, hp⟩]
      · rw [if_neg hp, if_neg (fun w => hp w.2)]
theorem s_Sm_word (d : Nat) (s r w m p lt : Int) (o : Option Int) (T : Int → Int) (mem : jMem) (hR : tRv T) (hW : tWv T) (hC : cC mem s r w o T lt) (hP : cP mem s T) (h9 : jrI mem 7 s 9 = m) (h10 : jrI mem 7 s 10 = p) (hm : 0 ≤ m ∧ m < T 5) (hp : 0 ≤ p ∧ p < 12) (j : Int) : Sm_wordValue (d + 1) s j mem = some (vI (tEnv T lt m p j), mem) := by
  obtain ⟨S4, S5, S6, cr, cw, hlt, hnx⟩ := hC
  obtain ⟨t0, t3, t4, t5, t6, -⟩ := id hR
  obtain ⟨r0, r1, r2, r3, r4, r5, r6, rm, rt, rp, rl⟩ := id cr
  obtain ⟨w0, wm, wt⟩ := id cw
  obtain ⟨rm1, rm2, rm3, rm4⟩ := rm m hm.1 hm.2
  obtain ⟨wm1, wm2⟩ := wm m hm.1 hm.2
  obtain ⟨P1, P2⟩ := hP p hp.1 hp.2
  rw [q_Sm_wordValue, S4, S5]
  simp only [jsm_s]
  rw [h9, h10]
  simp only [jix_in (n := 6) (x := m) hm.1 (by omega), jix_in (n := 12) (x := p) hp.1 (by omega)]
  rw [wm1, rm2, rm3, P1, P2, hlt, hnx, wm2, w0]
  unfold tEnv
  have h5 : Sm_wordValue_113 d s 0 0 mem = some (vI (tBait T m p), mem) := by
    have l1 : Sm_wordValue_113 d s 0 0 mem = Sm_wordValue_113 d s (tBait T m p) (T 6) mem := by
      refine puUp (L := fun i => Sm_wordValue_113 d s (tCnt (fun t => T (17 + 2 * t) = p ∧ tIn T t = -1 ∧ T (18 + 2 * t) = T (39 + m)) i) i mem) t6.1 (fun i i0 i1 => ?_)
      have b1 := tCnt_in (fun t => T (17 + 2 * t) = p ∧ tIn T t = -1 ∧ T (18 + 2 * t) = T (39 + m)) i0
      rw [tCnt_s _ i0]
      generalize tCnt (fun t => T (17 + 2 * t) = p ∧ tIn T t = -1 ∧ T (18 + 2 * t) = T (39 + m)) i = x at b1 ⊢
      obtain ⟨v1, v2, v3, v4⟩ := wt i i0 i1
      rw [q_Sm_wordValue_113, S4, S5]
      simp only [jsm_s]
      rw [r6, if_pos i1, h9, h10]
      simp only [jix_in (n := 6) (x := m) hm.1 (by omega), jix_in (n := 4) (x := i) i0 (by omega)]
      rw [v1, v3, v4, rm3, jw32_id (x := i + 1) (by omega) (by omega), jw32_id (x := x + 1) (by omega) (by omega)]
      by_cases c1 : T (17 + 2 * i) = p
      · by_cases c2 : tIn T i = -1
        · by_cases c3 : T (18 + 2 * i) = T (39 + m)
          · rw [if_pos c1, if_pos c2, if_pos c3, if_pos ⟨c1, c2, c3⟩]
          · rw [if_pos c1, if_pos c2, if_neg c3, if_neg (fun w => c3 w.2.2)]
        · rw [if_pos c1, if_neg c2, if_neg (fun w => c2 w.2.1)]
      · rw [if_neg c1, if_neg (fun w => c1 w.1)]
    rw [l1, q_Sm_wordValue_113, S4]
    simp only [jsm_s]
    rw [r6, if_neg (by omega)]
  have h7 : tCnt (fun o => T (11 + o) = p) (T 5) = tWith T m p + (if T (11 + m) = p then 1 else 0) := by
    have := (tWith_eq T m p (T 5).toNat).1 hm.1 (by omega)
    rw [show (((T 5).toNat : Nat) : Int) = T 5 by omega] at this
    exact this
  have b7 : 0 ≤ tWith T m p ∧ tWith T m p ≤ T 5 := tCnt_in _ t5.1
  rw [h5, h7]
  by_cases j0 : j = 0
  · rw [if_pos j0, if_pos j0]
  rw [if_neg j0, if_neg j0]
  by_cases j1 : j = 1
  · rw [if_pos j1, if_pos j1]
  rw [if_neg j1, if_neg j1]
  by_cases j2 : j = 2
  · rw [if_pos j2, if_pos j2]
  rw [if_neg j2, if_neg j2]
  by_cases j3 : j = 3
  · rw [if_pos j3, if_pos j3]
  rw [if_neg j3, if_neg j3]
  by_cases j4 : j = 4
  · rw [if_pos j4, if_pos j4]
  rw [if_neg j4, if_neg j4]
  by_cases j5 : j = 5
  · rw [if_pos j5, if_pos j5]
  rw [if_neg j5, if_neg j5]
  by_cases j6 : j = 6
  · rw [if_pos j6, if_pos j6]
  rw [if_neg j6, if_neg j6]
  by_cases j7 : j = 7
  · rw [if_pos j7, if_pos j7]
    by_cases hq : T (11 + m) = p
    · rw [if_pos hq, if_pos hq, jw32_id (by omega) (by omega)]
      congr 3
      omega
    · rw [if_neg hq, if_neg hq, jw32_id (by omega) (by omega)]
      congr 3
      omega
  rw [if_neg j7, if_neg j7]
  by_cases j8 : j = 8
  · rw [if_pos j8, if_pos j8]
  rw [if_neg j8, if_neg j8]
  by_cases j9 : j = 9
  · rw [if_pos j9, if_pos j9]
  rw [if_neg j9, if_neg j9]
  by_cases j10 : j = 10
  · rw [if_pos j10, if_pos j10]
  rw [if_neg j10, if_neg j10]
/-- what finding a goal may change -/
def aG (f : Nat) (_ k : Int) : Prop := f = 7 ∧ (k = 9 ∨ k = 10)
def uG (m m' : jMem) : Prop := puR aG m m' ∧ (∀ f, f ≠ 33 → jrJ m' f = jrJ m f) ∧ m'.2.2 = m.2.2
theorem uG_rf (m : jMem) : uG m m := ⟨puR_rf aG m, fun _ _ => rfl, rfl⟩
theorem uG_tr {a b c : jMem} (h1 : uG a b) (h2 : uG b c) : uG a c := ⟨puR_tr h1.1 h2.1, fun f hf => (h2.2.1 f hf).trans (h1.2.1 f hf), h2.2.2.trans h1.2.2⟩
theorem uG_I {a b : jMem} {i k v : Int} (h : uG a b) (hk : k = 9 ∨ k = 10) : uG a (jwI b 7 i k v) := ⟨puR_w h.1 ⟨rfl, hk⟩, h.2.1, h.2.2⟩
theorem uG_33 {a b : jMem} (h : uSame 33 aNo a b) : uG a b := ⟨puR_mono h.1 (fun _ _ _ w => absurd w id), h.2.1, h.2.2⟩
theorem cC_fr {a b : jMem} (hS : b.2.2 = a.2.2) {s r w lt : Int} {o : Option Int} {T : Int → Int} (h : ∀ f i k, (i = r ∧ (f = 4 ∨ (21 ≤ f ∧ f ≤ 30))) ∨ (i = w ∧ ((f = 9 ∧ k = 0) ∨ (38 ≤ f ∧ f ≤ 43))) ∨ (f = 7 ∧ i = s ∧ (k = 7 ∨ k = 8)) → jrI b f i k = jrI a f i k) (hc : cC a s r w o T lt) : cC b s r w o T lt := by
  obtain ⟨S4, S5, S6, cr, cw, hlt, hnx⟩ := hc
  have e : ∀ f i k, jrS b f i k = jrS a f i k := fun f i k => by show b.2.2 f i k = a.2.2 f i k; rw [hS]
  exact ⟨by rw [e]; exact S4, by rw [e]; exact S5, by rw [e]; exact S6, cRw_fr (fun f k hf => h f r k (by omega)) cr, cWv_fr (fun f k hf => h f w k (by omega)) cw, by rw [h 7 s 7 (by omega)]; exact hlt, by rw [h 7 s 8 (by omega)]; exact hnx⟩
theorem cC_G {a b : jMem} (hg : uG a b) {s r w lt : Int} {o : Option Int} {T : Int → Int} (hc : cC a s r w o T lt) : cC b s r w o T lt := cC_fr hg.2.2 (fun f i k hf => hg.1 f i k (by unfold aG; omega)) hc
theorem cP_G {a b : jMem} (hg : uG a b) {s : Int} {T : Int → Int} (hc : cP a s T) : cP b s T := fun p p0 p1 => by
  rw [hg.1 35 s p (by unfold aG; omega), hg.1 36 s p (by unfold aG; omega)]
  exact hc p p0 p1
theorem cRu_G {a b : jMem} (h : uG a b) {r : Int} (hc : cRu a r) : cRu b r := cRu_fr (fun f k hf => h.1 f r k (by unfold aG; omega)) (fun f k hf => h.1 f 0 k (by unfold aG; omega)) hc
theorem cRl_G {a b : jMem} (h : uG a b) (r : Int) : cRl b r = cRl a r := by
  have e1 : jrI b 31 r = jrI a 31 r := funext fun k => h.1 31 r k (by unfold aG; omega)
  have e2 : jrI b 32 r = jrI a 32 r := funext fun k => h.1 32 r k (by unfold aG; omega)
  have e3 : jrI b 5 r 2 = jrI a 5 r 2 := h.1 5 r 2 (by unfold aG; omega)
  funext env
  unfold cRl
  rw [e1, e2, e3]
theorem s_Sm_goal55 (d : Nat) (s r w m lt q own last b y p : Int) (T : Int → Int) (mem : jMem) (hR : tRv T) (hW : tWv T) (hC : cC mem s r w (some q) T lt) (hP : cP mem s T) (hu : cRu mem q) (h9 : jrI mem 7 s 9 = m) (hm : 0 ≤ m ∧ m < T 5) (hl : last = T 1 - 1) (ho : 0 ≤ own ∧ own ≤ last) (hp : 0 ≤ p ∧ p ≤ own + 1 ∧ p ≤ last) : ∃ mem', Sm_goalOf_55 (d + 4) s own last b y p mem = Sm_goalOf_55 (d + 4) s own last (tGs (fun p => cRl mem q (tEnv T lt m p)) (T 1) p (b, y)).1 (tGs (fun p => cRl mem q (tEnv T lt m p)) (T 1) p (b, y)).2 (p + 1) mem' ∧ uG mem mem' ∧ jrI mem' 7 s 9 = m := by
  have h12 : T 1 ≤ 12 := by have := hR.1; omega
  have hmin : ¬ (if last < own + 1 then last else own + 1) < p := by split <;> omega
  rw [q_Sm_goalOf_55, jw32_id (x := own + 1) (by omega) (by omega), s_J_min]
  simp only [jbnd_s, jasI_v]
  rw [if_neg hmin]
  have g1 : uG mem (jwI mem 7 s 10 p) := uG_I (uG_rf mem) (Or.inr rfl)
  have hC1 := cC_G g1 hC
  have hP1 := cP_G g1 hP
  have e9 : jrI (jwI mem 7 s 10 p) 7 s 9 = m := by rw [jrI_wk (by decide)]; exact h9
  obtain ⟨mem2, f1, f2⟩ := s_Sm_worth (d + 1) s q (tEnv T lt m p) (jwI mem 7 s 10 p) (cRu_G g1 hu) hC1.2.2.1 (fun m9 a1 a2 j _ _ => by
    have gI : ∀ f i k, jrI m9 f i k = jrI (jwI mem 7 s 10 p) f i k := fun f i k => by show m9.1 f i k = _; rw [a1]; rfl
    refine s_Sm_word (d + 2) s r w m p lt (some q) T m9 hR hW (cC_fr a2 (fun f i k _ => gI f i k) hC1) (fun p9 p0 p1 => by rw [gI, gI]; exact hP1 p9 p0 p1) (by rw [gI]; exact e9) (by rw [gI, jrI_ws]) hm (by omega) j)
  rw [f1]
  simp only [jbnd_s, jasJ_v, jlcmp_gt]
  rw [cRl_G g1, jw32_id (x := p + 1) (by omega) (by omega)]
  have g2 := uG_tr g1 (uG_33 f2)
  have e92 : jrI mem2 7 s 9 = m := by rw [f2.1 7 s 9 (fun w => w)]; exact e9
  unfold tGs
  by_cases hy : y < cRl mem q (tEnv T lt m p)
  · rw [if_pos hy, if_pos ⟨hp.1, by omega, hy⟩]
    exact ⟨mem2, rfl, g2, e92⟩
  · rw [if_neg hy, if_neg (fun w => hy w.2.2)]
    exact ⟨mem2, rfl, g2, e92⟩
/-- the rule, as a stream has it -/
def cEvt (mem : jMem) (o : Option Int) (ev : tEvT) : Prop := (o = none ∧ ev = none) ∨ ∃ q, o = some q ∧ cRu mem q ∧ ev = some (cRl mem q)
theorem cEvt_G {a b : jMem} (h : uG a b) {o : Option Int} {ev : tEvT} (hc : cEvt a o ev) : cEvt b o ev := by
  rcases hc with hc | ⟨q, h1, h2, h3⟩
  · exact Or.inl hc
  · exact Or.inr ⟨q, h1, cRu_G h h2, by rw [cRl_G h]; exact h3⟩
theorem s_Sm_goalOf (d : Nat) (s r w m lt : Int) (o : Option Int) (ev : tEvT) (T : Int → Int) (mem : jMem) (hR : tRv T) (hW : tWv T) (hC : cC mem s r w o T lt) (hP : o ≠ none → cP mem s T) (hev : cEvt mem o ev) (hm : 0 ≤ m ∧ m < T 5) (hp : 0 ≤ T (11 + m) ∧ T (11 + m) < T 1) : ∃ mem', Sm_goalOf (d + 5) s m mem = some (vI (tGo T ev lt m), mem') ∧ uG mem mem' := by
  obtain ⟨S4, S5, S6, cr, cw, hlt, hnx⟩ := id hC
  have h12 : T 1 ≤ 12 := by have := hR.1; omega
  have h5 := hR.2.2.2.1
  rw [q_Sm_goalOf, S4, S5, S6]
  simp only [jsm_s]
  rw [jix_in hm.1 (by omega), (cw.2.1 m hm.1 hm.2).1, cr.2.1]
  rcases hev with ⟨v1, v2⟩ | ⟨q, v1, v2, v3⟩
  · rw [v1, v2]
    show ∃ mem', (jbnd (J_min (d + 4) (jw32 (T (11 + m) + 1)) (jw32 (T 1 - 1)) mem) fun v3 mem4 => some (vI (jasI v3), mem4)) = _ ∧ _
    rw [s_J_min, jw32_id (x := T (11 + m) + 1) (by omega) (by omega), jw32_id (x := T 1 - 1) (by omega) (by omega)]
    simp only [jbnd_s, jasI_v, tGo]
    refine ⟨mem, ?_, uG_rf mem⟩
    by_cases hq : T (11 + m) + 1 < T 1
    · rw [if_neg (by omega), if_pos hq]
    · rw [if_neg hq]
      by_cases hq2 : T 1 - 1 < T (11 + m) + 1
      · rw [if_pos hq2]
        congr 3
        omega
      · omega
  · rw [v1, v3]
    show ∃ mem', (jbnd (J_max (d + 4) (jw32 (T (11 + m) - 1)) 0 (jwI mem 7 s 9 m)) fun v5 mem6 => Sm_goalOf_55 (d + 4) s (T (11 + m)) (jw32 (T 1 - 1)) (T (11 + m)) 0 (jasI v5) mem6) = _ ∧ _
    rw [s_J_max, jw32_id (x := T (11 + m) - 1) (by omega) (by omega), jw32_id (x := T 1 - 1) (by omega) (by omega)]
    simp only [jbnd_s, jasI_v, tGo, tBest]
    have hC' := hC
    rw [v1] at hC'
    have g0 : uG mem (jwI mem 7 s 9 m) := uG_I (uG_rf mem) (Or.inl rfl)
    have e9 : jrI (jwI mem 7 s 9 m) 7 s 9 = m := jrI_ws _ _ _ _ _
    have hP' := hP (by rw [v1]; exact fun w => by cases w)
    have step : ∀ (b y p : Int) (m1 : jMem), uG mem m1 → jrI m1 7 s 9 = m → (0 ≤ p ∧ p ≤ T (11 + m) + 1 ∧ p ≤ T 1 - 1) → ∃ m2, Sm_goalOf_55 (d + 4) s (T (11 + m)) (T 1 - 1) b y p m1 = Sm_goalOf_55 (d + 4) s (T (11 + m)) (T 1 - 1) (tGs (fun p => cRl mem q (tEnv T lt m p)) (T 1) p (b, y)).1 (tGs (fun p => cRl mem q (tEnv T lt m p)) (T 1) p (b, y)).2 (p + 1) m2 ∧ uG mem m2 ∧ jrI m2 7 s 9 = m := fun b y p m1 a1 a2 a3 => by
      obtain ⟨m2, w1, w2, w3⟩ := s_Sm_goal55 d s r w m lt q (T (11 + m)) (T 1 - 1) b y p T m1 hR hW (cC_G a1 hC') (cP_G a1 hP') (cRu_G a1 v2) a2 hm rfl (by omega) a3
      rw [cRl_G a1] at w1
      exact ⟨m2, w1, uG_tr a1 w2, w3⟩
    have fin : ∀ (b y p : Int) (m1 : jMem), p = (if T 1 - 1 < T (11 + m) + 1 then T 1 - 1 else T (11 + m) + 1) + 1 → Sm_goalOf_55 (d + 4) s (T (11 + m)) (T 1 - 1) b y p m1 = some (vI b, m1) := fun b y p m1 hp9 => by
      rw [q_Sm_goalOf_55, jw32_id (x := T (11 + m) + 1) (by omega) (by omega), s_J_min]
      simp only [jbnd_s, jasI_v]
      rw [if_pos (by omega)]
    have skip : ∀ (p : Int) (a : Int × Int), ¬ (0 ≤ p ∧ p < T 1) → tGs (fun p => cRl mem q (tEnv T lt m p)) (T 1) p a = a := fun p a h => by
      unfold tGs
      rw [if_neg (fun w => h ⟨w.1, w.2.1⟩)]
    -- the pool ahead
    obtain ⟨m1, a1, a2, a3⟩ : ∃ m1, Sm_goalOf_55 (d + 4) s (T (11 + m)) (T 1 - 1) (T (11 + m)) 0 (if T (11 + m) - 1 < 0 then 0 else T (11 + m) - 1) (jwI mem 7 s 9 m) = Sm_goalOf_55 (d + 4) s (T (11 + m)) (T 1 - 1) (tGs (fun p => cRl mem q (tEnv T lt m p)) (T 1) (T (11 + m) - 1) (T (11 + m), 0)).1 (tGs (fun p => cRl mem q (tEnv T lt m p)) (T 1) (T (11 + m) - 1) (T (11 + m), 0)).2 (T (11 + m)) m1 ∧ uG mem m1 ∧ jrI m1 7 s 9 = m := by
      by_cases hz : T (11 + m) - 1 < 0
      · rw [if_pos hz, skip _ _ (by omega)]
        refine ⟨jwI mem 7 s 9 m, ?_, g0, e9⟩
        rw [show T (11 + m) = 0 by omega]
      · rw [if_neg hz]
        obtain ⟨m1, w1, w2, w3⟩ := step (T (11 + m)) 0 (T (11 + m) - 1) (jwI mem 7 s 9 m) g0 e9 (by omega)
        rw [show T (11 + m) - 1 + 1 = T (11 + m) by omega] at w1
        exact ⟨m1, w1, w2, w3⟩
    rw [a1]
    generalize tGs (fun p => cRl mem q (tEnv T lt m p)) (T 1) (T (11 + m) - 1) (T (11 + m), 0) = x1
    obtain ⟨m2, b1, b2, b3⟩ := step x1.1 x1.2 (T (11 + m)) m1 a2 a3 (by omega)
    rw [b1]
    rw [show (x1.1, x1.2) = x1 from rfl]
    generalize tGs (fun p => cRl mem q (tEnv T lt m p)) (T 1) (T (11 + m)) x1 = x2
    by_cases hz : T (11 + m) + 1 ≤ T 1 - 1
    · obtain ⟨m3, c1, c2, c3⟩ := step x2.1 x2.2 (T (11 + m) + 1) m2 b2 b3 (by omega)
      rw [c1, fin _ _ _ _ (by rw [if_neg (by omega)])]
      exact ⟨m3, rfl, c2⟩
    · rw [fin _ _ _ _ (by rw [if_pos (by omega)]; omega), skip _ _ (by omega)]
      exact ⟨m2, rfl, b2⟩
