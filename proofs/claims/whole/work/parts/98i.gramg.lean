/-! What the grammar's functions give, together -/
theorem gB_z {r : gR} {k : Int → Int → gR} (h : (gB r k).1 = 0) : r.1 = 0 ∧ (k r.2.1 r.2.2.1).1 = 0 := by
  by_cases e : r.1 = 0
  · rw [gB_0 e] at h
    exact ⟨e, h⟩
  · rw [gB_n e] at h
    exact absurd h e
theorem gB_i {r : gR} {k : Int → Int → gR} (h : r.1 = 0) : (gB r k).2.1 = (k r.2.1 r.2.2.1).2.1 := by rw [gB_0 h]
theorem gB_u {r : gR} {k : Int → Int → gR} (h : r.1 = 0) : (gB r k).2.2.1 = (k r.2.1 r.2.2.1).2.2.1 := by rw [gB_0 h]
theorem gB_x {r : gR} {k : Int → Int → gR} (h : r.1 = 0) : (gB r k).2.2.2 = r.2.2.2 ++ (k r.2.1 r.2.2.1).2.2.2 := by rw [gB_0 h]
def gwn (w : Int) : Int := if w = 0 then 0 else 1
def gS (A : List (Int × Int)) (w q : Int) : Prop := (w = 0 ∧ gd A q False) ∨ ((w = 43 ∨ w = 45) ∧ ∃ A1 A2 q1 q2, A = A1 ++ A2 ∧ gd A1 q1 False ∧ gd A2 q2 False ∧ q = q1 + q2)
theorem gW_l (w : Int) : ((gW w).length : Int) = gwn w := by
  unfold gW gwn
  by_cases e : w = 0
  · rw [if_pos e, if_pos e]; rfl
  · rw [if_neg e, if_neg e]; rfl
theorem gS_e {A : List (Int × Int)} {w q : Int} (h : gS A w q) : gd (A ++ gW w) q False := by
  rcases h with ⟨h1, h2⟩ | ⟨h1, A1, A2, q1, q2, rfl, h3, h4, rfl⟩
  · subst h1
    rw [show gW 0 = [] from rfl, List.append_nil]
    exact h2
  · unfold gW
    rw [if_neg (by omega)]
    exact gd_bin h3 h4 (Or.inr (Or.inr ⟨rfl, by show w = 43 ∨ w = 45 ∨ _; omega⟩)) ⟨by show w ≠ 6; omega, by show w ≠ 7; omega, by show w ≠ 3; omega⟩ (fun w => w.elim)
theorem gS_m {A B : List (Int × Int)} {w q qb c : Int} (h : gS A w q) (hB : gd B qb False) (hc : c = 42 ∨ c = 47 ∨ c = 37) : gS (A ++ (B ++ [(c, 0)])) w (q + qb) := by
  have ok : okT (c, 0) := Or.inr (Or.inr ⟨rfl, by show c = 43 ∨ c = 45 ∨ c = 42 ∨ c = 47 ∨ c = 37 ∨ _; omega⟩)
  have n67 : (c, (0 : Int)).1 ≠ 6 ∧ (c, (0 : Int)).1 ≠ 7 ∧ (c, (0 : Int)).1 ≠ 3 := ⟨by show c ≠ 6; omega, by show c ≠ 7; omega, by show c ≠ 3; omega⟩
  rcases h with ⟨h1, h2⟩ | ⟨h1, A1, A2, q1, q2, rfl, h3, h4, rfl⟩
  · left
    refine ⟨h1, ?_⟩
    rw [← List.append_assoc]
    exact gd_bin h2 hB ok n67 (fun w => w.elim)
  · right
    refine ⟨h1, A1, A2 ++ B ++ [(c, 0)], q1, q2 + qb, ?_, h3, gd_bin h4 hB ok n67 (fun w => w.elim), by omega⟩
    simp only [List.append_assoc]
theorem gSl_g {b : Int → Int} {n : Int} : ∀ (k : Nat) (w i u : Int) (A : List (Int × Int)) (q : Int), 0 ≤ i → i ≤ n → u ≤ 60 → gS A w q → (gSl b n k w i u).1 = 0 → ((gSl b n k w i u).2.1 ≤ n ∧ i ≤ (gSl b n k w i u).2.1 ∧ ((gSl b n k w i u).2.2.2.length : Int) + i ≤ (gSl b n k w i u).2.1 + gwn w) ∧ (u ≤ (gSl b n k w i u).2.2.1 ∧ (gSl b n k w i u).2.2.1 ≤ 60) ∧ gd (A ++ (gSl b n k w i u).2.2.2) (q + ((gSl b n k w i u).2.2.1 - u)) False := by
  intro k
  induction k with
  | zero =>
    intro w i u A q h0 h1 hu hA _
    show (i ≤ n ∧ i ≤ i ∧ ((gW w).length : Int) + i ≤ i + gwn w) ∧ (u ≤ u ∧ u ≤ 60) ∧ gd (A ++ gW w) (q + (u - u)) False
    rw [gW_l]
    exact ⟨⟨h1, Int.le_refl i, by omega⟩, ⟨Int.le_refl u, hu⟩, gd_mono (gS_e hA) (by omega) id⟩
  | succ k ih =>
    intro w i u A q h0 h1 hu hA
    have hs := rSk_in (b := b) h0 h1
    unfold gSl
    by_cases c1 : rCh b n (rSk b n i) = 42 ∨ rCh b n (rSk b n i) = 47 ∨ rCh b n (rSk b n i) = 37
    · rw [if_pos c1]
      have hlt : rSk b n i < n := by
        rcases c1 with c | c | c
        · exact rCh_lt c (by decide)
        · exact rCh_lt c (by decide)
        · exact rCh_lt c (by decide)
      intro hz
      obtain ⟨z1, z2⟩ := gB_z hz
      obtain ⟨z3, -⟩ := gB_z z1
      obtain ⟨⟨v1, v2⟩, ⟨v3, v4⟩, v5⟩ := gVal_g (b := b) (n := n) (i := rSk b n i + 1) (u := u) (by omega) (by omega) z3
      rw [gB_i z1, gB_u z1, gB_x z1]
      rw [gB_i z3, gB_u z3] at z2 ⊢
      rw [gB_x z3]
      generalize gVal b n (rSk b n i + 1) u = V at *
      obtain ⟨⟨y1, y2, y3⟩, ⟨y4, y5⟩, y6⟩ := ih w V.2.1 V.2.2.1 (A ++ (V.2.2.2 ++ [(rCh b n (rSk b n i), 0)])) (q + (V.2.2.1 - u)) (by omega) v1 v4 (gS_m hA v5 c1) z2
      generalize gSl b n k w V.2.1 V.2.2.1 = Y at *
      refine ⟨⟨y1, by omega, ?_⟩, ⟨by omega, y5⟩, ?_⟩
      · rw [List.length_append, List.length_append, show [(rCh b n (rSk b n i), (0 : Int))].length = 1 from rfl]
        omega
      · rw [← List.append_assoc]
        exact gd_mono y6 (by omega) id
    rw [if_neg c1]
    by_cases c2 : rCh b n (rSk b n i) = 43 ∨ rCh b n (rSk b n i) = 45
    · rw [if_pos c2]
      have hlt : rSk b n i < n := by
        rcases c2 with c | c
        · exact rCh_lt c (by decide)
        · exact rCh_lt c (by decide)
      intro hz
      obtain ⟨-, z2⟩ := gB_z hz
      rw [gB_i rfl, gB_u rfl, gB_x rfl]
      have z2' : (gB (gVal b n (rSk b n i + 1) u) fun i'' u'' => gSl b n k (rCh b n (rSk b n i)) i'' u'').1 = 0 := z2
      show ((gB (gVal b n (rSk b n i + 1) u) fun i'' u'' => gSl b n k (rCh b n (rSk b n i)) i'' u'').2.1 ≤ n ∧ i ≤ (gB (gVal b n (rSk b n i + 1) u) fun i'' u'' => gSl b n k (rCh b n (rSk b n i)) i'' u'').2.1 ∧ ((gW w ++ (gB (gVal b n (rSk b n i + 1) u) fun i'' u'' => gSl b n k (rCh b n (rSk b n i)) i'' u'').2.2.2).length : Int) + i ≤ (gB (gVal b n (rSk b n i + 1) u) fun i'' u'' => gSl b n k (rCh b n (rSk b n i)) i'' u'').2.1 + gwn w) ∧ (u ≤ (gB (gVal b n (rSk b n i + 1) u) fun i'' u'' => gSl b n k (rCh b n (rSk b n i)) i'' u'').2.2.1 ∧ (gB (gVal b n (rSk b n i + 1) u) fun i'' u'' => gSl b n k (rCh b n (rSk b n i)) i'' u'').2.2.1 ≤ 60) ∧ gd (A ++ (gW w ++ (gB (gVal b n (rSk b n i + 1) u) fun i'' u'' => gSl b n k (rCh b n (rSk b n i)) i'' u'').2.2.2)) (q + ((gB (gVal b n (rSk b n i + 1) u) fun i'' u'' => gSl b n k (rCh b n (rSk b n i)) i'' u'').2.2.1 - u)) False
      obtain ⟨z3, z4⟩ := gB_z z2'
      obtain ⟨⟨v1, v2⟩, ⟨v3, v4⟩, v5⟩ := gVal_g (b := b) (n := n) (i := rSk b n i + 1) (u := u) (by omega) (by omega) z3
      rw [gB_i z3, gB_u z3, gB_x z3]
      generalize gVal b n (rSk b n i + 1) u = V at *
      obtain ⟨⟨y1, y2, y3⟩, ⟨y4, y5⟩, y6⟩ := ih (rCh b n (rSk b n i)) V.2.1 V.2.2.1 (A ++ gW w ++ V.2.2.2) (q + (V.2.2.1 - u)) (by omega) v1 v4 (Or.inr ⟨c2, A ++ gW w, V.2.2.2, q, V.2.2.1 - u, rfl, gS_e hA, v5, rfl⟩) z4
      have hg : gwn (rCh b n (rSk b n i)) = 1 := if_neg (by omega)
      rw [hg] at y3
      have hgl := gW_l w
      generalize gSl b n k (rCh b n (rSk b n i)) V.2.1 V.2.2.1 = Y at *
      refine ⟨⟨y1, by omega, ?_⟩, ⟨by omega, y5⟩, ?_⟩
      · rw [List.length_append, List.length_append]
        omega
      · rw [← List.append_assoc, ← List.append_assoc]
        exact gd_mono y6 (by omega) id
    · rw [if_neg c2]
      intro _
      show (rSk b n i ≤ n ∧ i ≤ rSk b n i ∧ ((gW w).length : Int) + i ≤ rSk b n i + gwn w) ∧ (u ≤ u ∧ u ≤ 60) ∧ gd (A ++ gW w) (q + (u - u)) False
      rw [gW_l]
      exact ⟨⟨hs.2, hs.1, by omega⟩, ⟨Int.le_refl u, hu⟩, gd_mono (gS_e hA) (by omega) id⟩
theorem gSum_g {b : Int → Int} {n i u : Int} (h0 : 0 ≤ i) (h1 : i ≤ n) : gG n i u False (gSum b n i u) := by
  intro hz
  unfold gSum at hz ⊢
  obtain ⟨z1, z2⟩ := gB_z hz
  obtain ⟨⟨v1, v2⟩, ⟨v3, v4⟩, v5⟩ := gVal_g (b := b) (n := n) (i := i) (u := u) h0 h1 z1
  rw [gB_i z1, gB_u z1, gB_x z1]
  generalize gVal b n i u = V at *
  obtain ⟨⟨y1, y2, y3⟩, ⟨y4, y5⟩, y6⟩ := gSl_g (b := b) (n := n) 61 0 V.2.1 V.2.2.1 V.2.2.2 (V.2.2.1 - u) (by omega) v1 v4 (Or.inl ⟨rfl, v5⟩) z2
  have hg : gwn 0 = 0 := rfl
  rw [hg] at y3
  refine ⟨⟨y1, ?_⟩, ⟨by omega, y5⟩, gd_mono y6 (by omega) id⟩
  rw [List.length_append]
  omega
theorem gSg_in {b : Int → Int} {n s : Int} (h : gSg b n s ≠ -1) : (gSg b n s = 60 ∨ gSg b n s = 1 ∨ gSg b n s = 61 ∨ gSg b n s = 2 ∨ gSg b n s = 62) ∧ s < n ∧ s + 1 ≤ gSe b n s ∧ gSe b n s ≤ n := by
  unfold gSe
  unfold gSg at h ⊢
  by_cases c1 : rCh b n s = 61
  · have hlt := rCh_lt c1 (by decide)
    rw [if_pos c1]
    rw [if_neg (by decide)]
    omega
  rw [if_neg c1] at h ⊢
  by_cases c2 : rCh b n s = 60
  · have hlt := rCh_lt c2 (by decide)
    rw [if_pos c2]
    by_cases c3 : rCh b n (s + 1) = 61
    · have hlt2 := rCh_lt c3 (by decide)
      rw [if_pos c3, if_pos (by decide)]
      omega
    · rw [if_neg c3, if_neg (by decide)]
      omega
  rw [if_neg c2] at h ⊢
  by_cases c4 : rCh b n s = 62
  · have hlt := rCh_lt c4 (by decide)
    rw [if_pos c4]
    by_cases c3 : rCh b n (s + 1) = 61
    · have hlt2 := rCh_lt c3 (by decide)
      rw [if_pos c3, if_pos (by decide)]
      omega
    · rw [if_neg c3, if_neg (by decide)]
      omega
  rw [if_neg c4] at h
  exact absurd rfl h
theorem gCmp_g {b : Int → Int} {n i u : Int} (h0 : 0 ≤ i) (h1 : i ≤ n) : gG n i u True (gCmp b n i u) := by
  intro hz
  unfold gCmp at hz ⊢
  obtain ⟨z1, z2⟩ := gB_z hz
  obtain ⟨⟨v1, v2⟩, ⟨v3, v4⟩, v5⟩ := gSum_g (b := b) (n := n) (i := i) (u := u) h0 h1 z1
  rw [gB_i z1, gB_u z1, gB_x z1]
  generalize gSum b n i u = V at *
  have hs := rSk_in (b := b) (n := n) (i := V.2.1) (by omega) v1
  by_cases c1 : gSg b n (rSk b n V.2.1) = -1
  · rw [if_pos c1] at z2
    have z2' : 1 + 8 * rSk b n V.2.1 = 0 := z2
    omega
  obtain ⟨s1, s2, s3, s4⟩ := gSg_in c1
  rw [if_neg c1] at z2 ⊢
  by_cases c2 : V.2.2.1 < 60
  · rw [if_pos c2] at z2 ⊢
    obtain ⟨z3, -⟩ := gB_z z2
    obtain ⟨⟨x1, x2⟩, ⟨x3, x4⟩, x5⟩ := gSum_g (b := b) (n := n) (i := gSe b n (rSk b n V.2.1)) (u := V.2.2.1 + 1) (by omega) s4 z3
    rw [gB_i z3, gB_u z3, gB_x z3]
    generalize gSum b n (gSe b n (rSk b n V.2.1)) (V.2.2.1 + 1) = X at *
    refine ⟨⟨x1, ?_⟩, ⟨?_, x4⟩, ?_⟩
    · show ((V.2.2.2 ++ (X.2.2.2 ++ [(gSg b n (rSk b n V.2.1), (0 : Int))])).length : Int) + i ≤ X.2.1
      rw [List.length_append, List.length_append, show [(gSg b n (rSk b n V.2.1), (0 : Int))].length = 1 from rfl]
      omega
    · show u < X.2.2.1
      omega
    · show gd (V.2.2.2 ++ (X.2.2.2 ++ [(gSg b n (rSk b n V.2.1), (0 : Int))])) (X.2.2.1 - u) True
      rw [← List.append_assoc]
      refine gd_mono (gd_bin v5 x5 (Or.inr (Or.inr ⟨rfl, ?_⟩)) ⟨?_, ?_, ?_⟩ (fun _ => Or.inr (fun a c => cJ_cmp a c s1))) (by omega) id
      · show gSg b n (rSk b n V.2.1) = 43 ∨ _
        omega
      · show gSg b n (rSk b n V.2.1) ≠ 6
        omega
      · show gSg b n (rSk b n V.2.1) ≠ 7
        omega
      · show gSg b n (rSk b n V.2.1) ≠ 3
        omega
  · rw [if_neg c2] at z2
    have z2' : 1 + 8 * rSk b n V.2.1 + 3 = 0 := z2
    omega
theorem gLp_g {b : Int → Int} {n op : Int} {wd : List Int} {F : Int → Int → gR} (hF : ∀ i u, 0 ≤ i → i ≤ n → gG n i u True (F i u)) (hop : op = 4 ∨ op = 5) (hwd : wd ≠ []) : ∀ (k : Nat) (i u : Int) (A : List (Int × Int)) (q : Int), 0 ≤ i → i ≤ n → u ≤ 60 → gd A q True → (gLp b n wd op F k i u).1 = 0 → ((gLp b n wd op F k i u).2.1 ≤ n ∧ ((gLp b n wd op F k i u).2.2.2.length : Int) + i ≤ (gLp b n wd op F k i u).2.1) ∧ (u ≤ (gLp b n wd op F k i u).2.2.1 ∧ (gLp b n wd op F k i u).2.2.1 ≤ 60) ∧ gd (A ++ (gLp b n wd op F k i u).2.2.2) (q + ((gLp b n wd op F k i u).2.2.1 - u)) True := by
  intro k
  induction k with
  | zero =>
    intro i u A q h0 h1 hu hA _
    show (i ≤ n ∧ ((0 : Nat) : Int) + i ≤ i) ∧ (u ≤ u ∧ u ≤ 60) ∧ gd (A ++ []) (q + (u - u)) True
    rw [List.append_nil]
    exact ⟨⟨h1, by omega⟩, ⟨Int.le_refl u, hu⟩, gd_mono hA (by omega) id⟩
  | succ k ih =>
    intro i u A q h0 h1 hu hA
    have hs := rSk_in (b := b) h0 h1
    unfold gLp
    by_cases c1 : rW b n (rSk b n i) = wd
    · rw [if_pos c1]
      have hp := rW_ne (b := b) (by omega) hs.2 hwd c1
      have hp2 := (rPw_in (b := b) (n := n) (i := rSk b n i) (by omega) hs.2).2
      intro hz
      obtain ⟨z1, z2⟩ := gB_z hz
      obtain ⟨z3, -⟩ := gB_z z1
      obtain ⟨⟨v1, v2⟩, ⟨v3, v4⟩, v5⟩ := hF (rPw b n (rSk b n i)) u (by omega) hp2 z3
      rw [gB_i z1, gB_u z1, gB_x z1]
      rw [gB_i z3, gB_u z3] at z2 ⊢
      rw [gB_x z3]
      generalize F (rPw b n (rSk b n i)) u = V at *
      have hb : gd (A ++ (V.2.2.2 ++ [(op, 0)])) (q + (V.2.2.1 - u)) True := by
        rw [← List.append_assoc]
        refine gd_bin hA v5 (Or.inr (Or.inr ⟨rfl, ?_⟩)) ⟨?_, ?_, ?_⟩ (fun _ => Or.inl ⟨trivial, trivial, fun a c ha hc => cJ_ao a c hop ha hc⟩)
        · show op = 43 ∨ _
          omega
        · show op ≠ 6
          omega
        · show op ≠ 7
          omega
        · show op ≠ 3
          omega
      obtain ⟨⟨y1, y2⟩, ⟨y4, y5⟩, y6⟩ := ih V.2.1 V.2.2.1 (A ++ (V.2.2.2 ++ [(op, 0)])) (q + (V.2.2.1 - u)) (by omega) v1 v4 hb z2
      generalize gLp b n wd op F k V.2.1 V.2.2.1 = Y at *
      refine ⟨⟨y1, ?_⟩, ⟨by omega, y5⟩, ?_⟩
      · rw [List.length_append, List.length_append, show [(op, (0 : Int))].length = 1 from rfl]
        omega
      · rw [← List.append_assoc]
        exact gd_mono y6 (by omega) id
    · rw [if_neg c1]
      intro _
      show (rSk b n i ≤ n ∧ ((0 : Nat) : Int) + i ≤ rSk b n i) ∧ (u ≤ u ∧ u ≤ 60) ∧ gd (A ++ []) (q + (u - u)) True
      rw [List.append_nil]
      exact ⟨⟨hs.2, by omega⟩, ⟨Int.le_refl u, hu⟩, gd_mono hA (by omega) id⟩
theorem gPt_g {b : Int → Int} {n : Int} {F : Int → Int → gR} (hF : ∀ i u, 0 ≤ i → i ≤ n → gG n i u True (F i u)) : ∀ i u, 0 ≤ i → i ≤ n → gG n i u True (gPt b n F i u) := by
  intro i u h0 h1 hz
  unfold gPt at hz ⊢
  obtain ⟨z1, z2⟩ := gB_z hz
  obtain ⟨⟨v1, v2⟩, ⟨v3, v4⟩, v5⟩ := hF i u h0 h1 z1
  rw [gB_i z1, gB_u z1, gB_x z1]
  generalize F i u = V at *
  obtain ⟨⟨y1, y2⟩, ⟨y4, y5⟩, y6⟩ := gLp_g (b := b) hF (Or.inl rfl) (by decide) 61 V.2.1 V.2.2.1 V.2.2.2 (V.2.2.1 - u) (by omega) v1 v4 v5 z2
  refine ⟨⟨y1, ?_⟩, ⟨by omega, y5⟩, gd_mono y6 (by omega) id⟩
  rw [List.length_append]
  omega
theorem gTs_g {b : Int → Int} {n : Int} {F : Int → Int → gR} (hF : ∀ i u, 0 ≤ i → i ≤ n → gG n i u True (F i u)) : ∀ i u, 0 ≤ i → i ≤ n → gG n i u True (gTs b n F i u) := by
  intro i u h0 h1 hz
  unfold gTs at hz ⊢
  obtain ⟨z1, z2⟩ := gB_z hz
  obtain ⟨⟨v1, v2⟩, ⟨v3, v4⟩, v5⟩ := gPt_g (b := b) hF i u h0 h1 z1
  rw [gB_i z1, gB_u z1, gB_x z1]
  generalize gPt b n F i u = V at *
  obtain ⟨⟨y1, y2⟩, ⟨y4, y5⟩, y6⟩ := gLp_g (b := b) (gPt_g (b := b) hF) (Or.inr rfl) (by decide) 61 V.2.1 V.2.2.1 V.2.2.2 (V.2.2.1 - u) (by omega) v1 v4 v5 z2
  refine ⟨⟨y1, ?_⟩, ⟨by omega, y5⟩, gd_mono y6 (by omega) id⟩
  rw [List.length_append]
  omega
theorem gFc_g {b : Int → Int} {n : Int} : ∀ (q : Nat) (i u : Int), 0 ≤ i → i ≤ n → gG n i u True (gFc b n q i u) := by
  intro q
  induction q with
  | zero =>
    intro i u h0 h1 hz
    have hs := rSk_in (b := b) h0 h1
    unfold gFc at hz ⊢
    by_cases c1 : rW b n (rSk b n i) = [116, 111, 110] ∨ rCh b n (rSk b n i) = 91
    · rw [if_pos c1] at hz
      have hz' : 1 + 8 * rSk b n i + 2 = 0 := hz
      omega
    · rw [if_neg c1] at hz ⊢
      obtain ⟨⟨y1, y2⟩, y3, y4⟩ := gCmp_g (b := b) (n := n) (i := rSk b n i) (u := u) (by omega) hs.2 hz
      exact ⟨⟨y1, by omega⟩, y3, y4⟩
  | succ q ih =>
    intro i u h0 h1 hz
    have hs := rSk_in (b := b) h0 h1
    unfold gFc at hz ⊢
    by_cases c1 : rW b n (rSk b n i) = [116, 111, 110]
    · rw [if_pos c1] at hz ⊢
      have hp := rW_ne (b := b) (by omega) hs.2 (by decide) c1
      have hp2 := (rPw_in (b := b) (n := n) (i := rSk b n i) (by omega) hs.2).2
      obtain ⟨z1, -⟩ := gB_z hz
      obtain ⟨⟨v1, v2⟩, ⟨v3, v4⟩, v5⟩ := ih (rPw b n (rSk b n i)) u (by omega) hp2 z1
      rw [gB_i z1, gB_u z1, gB_x z1]
      generalize gFc b n q (rPw b n (rSk b n i)) u = V at *
      refine ⟨⟨v1, ?_⟩, ⟨v3, v4⟩, gd_not v5⟩
      show ((V.2.2.2 ++ [((3 : Int), (0 : Int))]).length : Int) + i ≤ V.2.1
      rw [List.length_append, show [((3 : Int), (0 : Int))].length = 1 from rfl]
      omega
    rw [if_neg c1] at hz ⊢
    by_cases c2 : rCh b n (rSk b n i) = 91
    · have hlt := rCh_lt c2 (by decide)
      rw [if_pos c2] at hz ⊢
      obtain ⟨z1, z2⟩ := gB_z hz
      obtain ⟨⟨v1, v2⟩, ⟨v3, v4⟩, v5⟩ := gTs_g (b := b) ih (rSk b n i + 1) u (by omega) (by omega) z1
      rw [gB_i z1, gB_u z1, gB_x z1]
      generalize gTs b n (gFc b n q) (rSk b n i + 1) u = V at *
      have hs2 := rSk_in (b := b) (n := n) (i := V.2.1) (by omega) v1
      by_cases c3 : rCh b n (rSk b n V.2.1) = 93
      · have hlt2 := rCh_lt c3 (by decide)
        rw [if_pos c3]
        show (rSk b n V.2.1 + 1 ≤ n ∧ ((V.2.2.2 ++ []).length : Int) + i ≤ rSk b n V.2.1 + 1) ∧ (u < V.2.2.1 ∧ V.2.2.1 ≤ 60) ∧ gd (V.2.2.2 ++ []) (V.2.2.1 - u) True
        rw [List.append_nil]
        exact ⟨⟨by omega, by omega⟩, ⟨v3, v4⟩, v5⟩
      · rw [if_neg c3] at z2
        have z2' : 1 + 8 * rSk b n V.2.1 = 0 := z2
        omega
    · rw [if_neg c2] at hz ⊢
      obtain ⟨⟨y1, y2⟩, y3, y4⟩ := gCmp_g (b := b) (n := n) (i := rSk b n i) (u := u) (by omega) hs.2 hz
      exact ⟨⟨y1, by omega⟩, y3, y4⟩
