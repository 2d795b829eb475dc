/-! The rules that are so -/
def tEr (mem : jMem) (r : Int) : tEvT := if r < 0 then none else some (cRl mem r)
theorem tEr_c {mem : jMem} (h : iRule mem) {r : Int} (h0 : -1 ≤ r) (h1 : r < jrI mem 11 0 2) : cEvt mem (if r = -1 then none else some r) (tEr mem r) := by
  unfold tEr
  by_cases e : r = -1
  · rw [if_pos e, if_pos (by omega)]
    exact Or.inl ⟨rfl, rfl⟩
  · rw [if_neg e, if_neg (by omega)]
    exact Or.inr ⟨r, rfl, h.2.2.2 r (by omega) h1, rfl⟩
theorem tCnt_mono (p : Int → Prop) [DecidablePred p] : ∀ (k : Nat) (i : Int), 0 ≤ i → tCnt p i ≤ tCnt p (i + (k : Int))
  | 0, i, _ => by rw [show i + ((0 : Nat) : Int) = i by omega]; exact Int.le_refl _
  | k + 1, i, h => by
    have ih := tCnt_mono p k i h
    rw [show i + ((k + 1 : Nat) : Int) = i + (k : Int) + 1 by omega, tCnt_s p (by omega)]
    split <;> omega
theorem tCnt_lt (p : Int → Prop) [DecidablePred p] {j i : Int} (h0 : 0 ≤ j) (h1 : j < i) (hp : p j) : tCnt p j < tCnt p i := by
  have h := tCnt_mono p (i - (j + 1)).toNat (j + 1) (by omega)
  rw [show j + 1 + (((i - (j + 1)).toNat : Nat) : Int) = i by omega, tCnt_s p h0, if_pos hp] at h
  omega
/-- the class's sieve -/
theorem s_Gu_sieve (d : Nat) (T : Int → Int) (n R : Int) (mem : jMem) (hR : tRv T) (hN : tNv T) (h1 : T 0 = 1) (hn : 0 ≤ n ∧ n ≤ 60) (hRl : iRule mem) (hRn : jrI mem 11 0 2 = R) (cr : cRv mem 0 T) (cn : cNv mem 0 T) : ∃ m', Gu_sieve (d + 9) 0 R n mem = some (vI (tCnt (fun j => tFt (tEr mem (j - 1)) (tBg T) = -1) (R + 1)), m') ∧ puR aX mem m' ∧ ∀ j, 0 ≤ j → j < R + 1 → tFt (tEr mem (j - 1)) (tBg T) = -1 → jrI m' 16 0 (tCnt (fun j => tFt (tEr mem (j - 1)) (tBg T) = -1) j) = j - 1 ∧ ∀ k, 0 ≤ k → k < T 5 → jrI m' 17 0 (6 * tCnt (fun j => tFt (tEr mem (j - 1)) (tBg T) = -1) j + k) = tFr (tIt (tEr mem (j - 1)) n.toNat (tBg T)) k := by
  have t5 := hR.2.2.2.1
  obtain ⟨bR, bW, -⟩ := tBg_ok hR
  have bS := tBg_S T
  have bN := tNv_S bS hN
  have hR6 : 0 ≤ R ∧ R ≤ 6 := by rw [← hRn]; exact ⟨hRl.2.1, hRl.2.2.1⟩
  have crZ : cRw mem 0 (tBg T) := cRw_cong hR (fun j j0 j1 j2 j3 => bS j (by omega)) (cRw_of cr)
  have cnZ : cNv mem 0 (tBg T) := cNv_S bS cn
  rw [q_Gu_sieve]
  obtain ⟨m', a1, a2, a3⟩ := puUpE (P := fun i (m : jMem) => puR aX mem m ∧ ∀ j, 0 ≤ j → j < i → tFt (tEr mem (j - 1)) (tBg T) = -1 → jrI m 16 0 (tCnt (fun j => tFt (tEr mem (j - 1)) (tBg T) = -1) j) = j - 1 ∧ ∀ k, 0 ≤ k → k < T 5 → jrI m 17 0 (6 * tCnt (fun j => tFt (tEr mem (j - 1)) (tBg T) = -1) j + k) = tFr (tIt (tEr mem (j - 1)) n.toNat (tBg T)) k) (L := fun i m => Gu_sieve_6 (d + 8) 0 R n (tCnt (fun j => tFt (tEr mem (j - 1)) (tBg T) = -1) i) (i - 1) m) (n := R + 1) (by omega) (fun i m i0 i1 hP => by
    obtain ⟨p1, p2⟩ := hP
    have hci := tCnt_in (fun j => tFt (tEr mem (j - 1)) (tBg T) = -1) i0
    obtain ⟨m2, d1, d2, d3⟩ := s_Wa_begin (d + 7) 26 0 T m hR (cRv_fr (fun f k hf => p1 f 0 k (by unfold aX; omega)) cr)
    have r2 : puR aX mem m2 := puR_tr p1 (puR_mono d3 (fun f i k hf => by unfold aX; omega))
    obtain ⟨m3, f1, f2, f3, f4⟩ := s_Gu_fits d (if i - 1 = -1 then none else some (i - 1)) (tEr mem (i - 1)) (tBg T) n (tCnt (fun j => tFt (tEr mem (j - 1)) (tBg T) = -1) i) mem m2 bR bW bN (by rw [bS 0 (by omega)]; exact h1) (tBg_10 T) hn ⟨hci.1, by omega⟩ crZ cnZ (tEr_c hRl (by omega) (by omega)) r2 d2
    have e46 : Gu_sieve_6 (d + 8) 0 R n (tCnt (fun j => tFt (tEr mem (j - 1)) (tBg T) = -1) i) (i - 1) m = Gu_sieve_46 (d + 8) 0 R n (tCnt (fun j => tFt (tEr mem (j - 1)) (tBg T) = -1) i) (i - 1) 0 (if i - 1 = -1 then none else some (i - 1)) m2 := by
      rw [q_Gu_sieve_6, if_pos (by omega), if_pos (by omega), d1]
      simp only [jbnd_s]
      by_cases e : i - 1 = -1
      · rw [if_pos e, if_pos e]
      · rw [if_neg e, if_neg e, jix_in (by omega) (by omega)]
    have old : ∀ j, 0 ≤ j → j < i → tFt (tEr mem (j - 1)) (tBg T) = -1 → jrI m3 16 0 (tCnt (fun j => tFt (tEr mem (j - 1)) (tBg T) = -1) j) = j - 1 ∧ ∀ k, 0 ≤ k → k < T 5 → jrI m3 17 0 (6 * tCnt (fun j => tFt (tEr mem (j - 1)) (tBg T) = -1) j + k) = tFr (tIt (tEr mem (j - 1)) n.toNat (tBg T)) k := fun j j0 j1 hj => by
      have hlt := tCnt_lt (fun j => tFt (tEr mem (j - 1)) (tBg T) = -1) j0 j1 hj
      obtain ⟨o1, o2⟩ := p2 j j0 j1 hj
      refine ⟨by rw [f4 16 0 _ (by omega), d3 16 0 _ (by omega)]; exact o1, fun k k0 k1 => ?_⟩
      rw [f4 17 0 _ (by omega), d3 17 0 _ (by omega)]
      exact o2 k k0 k1
    show ∃ a', Gu_sieve_6 (d + 8) 0 R n (tCnt (fun j => tFt (tEr mem (j - 1)) (tBg T) = -1) i) (i - 1) m = Gu_sieve_6 (d + 8) 0 R n (tCnt (fun j => tFt (tEr mem (j - 1)) (tBg T) = -1) (i + 1)) (i + 1 - 1) a' ∧ _
    rw [e46, q_Gu_sieve_46, f1, jw32_id (x := i - 1 + 1) (by omega) (by omega), tCnt_s _ i0, show i - 1 + 1 = i + 1 - 1 by omega]
    simp only [jbnd_s, jasI_v]
    by_cases hq : tFt (tEr mem (i - 1)) (tBg T) = -1
    · rw [jb_1 hq, if_neg (by decide), if_pos hq, jix_in hci.1 (by omega), jw32_id (x := tCnt (fun j => tFt (tEr mem (j - 1)) (tBg T) = -1) i + 1) (by omega) (by omega)]
      refine ⟨_, rfl, puR_w f2 (by unfold aX; omega), fun j j0 j1 hj => ?_⟩
      rw [jrI_wf (g := 17) (by decide)]
      by_cases e : j = i
      · subst e
        rw [jrI_ws]
        exact ⟨rfl, fun k k0 k1 => f3 hq k k0 (by rw [bS 5 (by omega)]; exact k1)⟩
      · have hlt := tCnt_lt (fun j => tFt (tEr mem (j - 1)) (tBg T) = -1) j0 (show j < i by omega) hj
        rw [jrI_wk (by omega)]
        exact old j j0 (by omega) hj
    · rw [jb_n hq, if_pos rfl, if_neg hq]
      refine ⟨m3, rfl, f2, fun j j0 j1 hj => ?_⟩
      by_cases e : j = i
      · rw [e] at hj; exact absurd hj hq
      · exact old j j0 (by omega) hj) mem ⟨puR_rf _ mem, fun j j0 j1 => by omega⟩
  have a1' : Gu_sieve_6 (d + 8) 0 R n 0 (-1) mem = Gu_sieve_6 (d + 8) 0 R n (tCnt (fun j => tFt (tEr mem (j - 1)) (tBg T) = -1) (R + 1)) (R + 1 - 1) m' := a1
  refine ⟨m', ?_, a2, a3⟩
  rw [a1', q_Gu_sieve_6, if_neg (by omega)]
