/-! Constructors: their end is memory at its start -/
def kHE : kH := kE1 ++ kM1
def kidx (f : Nat) (i : Int) : Nat := (klay.getD f []).getD i.toNat 0
def kmem0 : jMem := (fun f _ k => bif (Nat.beq f 6 && jieq k 3) || (Nat.beq f 11 && (jieq k 21 || jieq k 23)) then -1 else 0, fun _ _ _ => 0, fun _ _ _ => none)
def kad2 (as : List Nat) (tx : Nat → Nat) : Nat → Int → Nat := fun f i => bif Nat.beq f 100 then tx i.toNat else kad as (kidx f i)
def kfv1 (f : Nat) (i : Int) (k : Nat) (q : Nat × Nat × Nat) (v : kV) : Bool := match q.1, v with
  | 0, .inl x => decide (x = jrI kmem0 f i (k : Int))
  | 1, .inl x => decide (x = 0)
  | 2, .inr (some a) => Nat.blt q.2.1 67 && Nat.beq a (kidx q.2.1 i)
  | 3, .inr none => true
  | _ + 4, .inr (some a) => Nat.blt q.2.1 67 && Nat.beq a (kidx q.2.1 (q.2.2 : Int))
  | _, _ => false
def kfv (f : Nat) (i : Int) : Nat → List (Nat × Nat × Nat) → List kV → Bool
  | _, [], [] => true
  | k, q :: l, v :: t => kfv1 f i k q v && kfv f i (k + 1) l t
  | _, _, _ => false
def kcv (f : Nat) (i : Int) (c : kC) : Bool := match c with
  | .inl o => Nat.blt f 12 && Nat.beq o.1 f && kfv f i 0 (jfds.getD f []) o.2
  | .inr r => Nat.ble 12 f && Nat.blt f 67 && Nat.beq (jarrs.getD (f - 12) (0, 0, 0, 0)).1 r.1 && Nat.beq (jarrs.getD (f - 12) (0, 0, 0, 0)).2.1 r.2.1 && Nat.ble r.1 6 && (Nat.blt r.1 4 || (Nat.blt (jarrs.getD (f - 12) (0, 0, 0, 0)).2.2.1 67 && decide (r.2.2 = (List.range r.2.1).map fun (j : Nat) => some (kidx (jarrs.getD (f - 12) (0, 0, 0, 0)).2.2.1 ((j : Int) + ((jarrs.getD (f - 12) (0, 0, 0, 0)).2.2.2 : Int))))))
set_option maxRecDepth 100000 in
theorem kcv_all : jall.all (fun q => match kHE[kidx q.1 q.2]? with
    | some c => kcv q.1 q.2 c
    | none => false) = true := by decide +kernel
set_option maxRecDepth 100000 in
theorem kidx_nd : (jall.map fun q => kidx q.1 q.2).Nodup := by decide +kernel
theorem jall_lt {q : Nat × Int} (h : q ∈ jall) : q.1 < 67 := by
  obtain ⟨f, hf, h2⟩ := List.mem_flatMap.mp h
  obtain ⟨i, hi, rfl⟩ := List.mem_map.mp h2
  exact List.mem_range.mp hf
theorem kad2_f {as : List Nat} {tx : Nat → Nat} {f : Nat} {i : Int} (h : f < 67) : kad2 as tx f i = kad as (kidx f i) := by
  unfold kad2
  have : Nat.beq f 100 = false := by
    cases e : Nat.beq f 100 with
    | false => rfl
    | true => have := Nat.eq_of_beq_eq_true e; omega
  rw [this]
  rfl
theorem kfv1_eq {as : List Nat} {tx : Nat → Nat} {f : Nat} {i : Int} {k : Nat} {q : Nat × Nat × Nat} {v : kV} (h : kfv1 f i k q v = true) : kval as q.1 v = jfv (kad2 as tx) kmem0 f i k q := by
  obtain ⟨a, b, c⟩ := q
  match a, v, h with
  | 0, .inl x, h =>
    have e : x = jrI kmem0 f i (k : Int) := of_decide_eq_true h
    rw [e]
    rfl
  | 1, .inl x, h =>
    have e : x = 0 := of_decide_eq_true h
    rw [e]
    rfl
  | 2, .inr (some a), h =>
    have w := Bool.and_eq_true_iff.mp h
    have e : a = kidx b i := Nat.eq_of_beq_eq_true w.2
    have hb : b < 67 := Nat.le_of_ble_eq_true w.1
    show va_rf (some (kad as a)) = .ref (kad2 as tx b i)
    rw [kad2_f hb, e]
    rfl
  | 3, .inr none, _ => rfl
  | n + 4, .inr (some a), h =>
    have w := Bool.and_eq_true_iff.mp h
    have e : a = kidx b (c : Int) := Nat.eq_of_beq_eq_true w.2
    have hb : b < 67 := Nat.le_of_ble_eq_true w.1
    show va_rf (some (kad as a)) = .ref (kad2 as tx b (c : Int))
    rw [kad2_f hb, e]
    rfl
theorem kfv_eq {as : List Nat} {tx : Nat → Nat} {f : Nat} {i : Int} : ∀ (k : Nat) (l : List (Nat × Nat × Nat)) (fs : List kV), kfv f i k l fs = true → kvals as l fs = jfvs (kad2 as tx) kmem0 f i k l
  | _, [], [], _ => rfl
  | k, q :: l, v :: t, h => by
    have w := Bool.and_eq_true_iff.mp h
    rw [kvals, jfvs, kfv1_eq w.1, kfv_eq (k + 1) l t w.2]
  | _, [], _ :: _, h => by cases h
  | _, _ :: _, [], h => by cases h
theorem va_RA_one {U : State} {c c' : ClassId} {ty : FieldType} (h : va_RA U c ty) (h' : va_RA U c' ty) : c = c' := by
  cases ty with
  | object C =>
    obtain ⟨_, _, _, _, _, h4⟩ := h
    obtain ⟨_, _, _, _, _, h4'⟩ := h'
    exact Option.some.inj (h4.symm.trans h4')
  | _ => exact Option.some.inj (Eq.trans (Eq.symm h) h')
def ktr : List Nat := [6, 182, 2, 343, 3, 27, 40]
theorem ktr_ok : ktr.zipIdx.all (fun q => match kHE[q.1]? with
    | some (.inr r) => Nat.beq r.1 q.2
    | _ => false) = true := by decide +kernel
theorem arrV_cong {c : ClassId} {n : Nat} {f g : Nat → Value} (h : ∀ j, j < n → f j = g j) : arrV c n f = arrV c n g := by
  unfold arrV
  congr 1
  apply Array.ext
  · simp
  · intro i h1 h2
    simp at h1 ⊢
    exact h i h1
theorem kmem0_arr {f : Nat} (h : 12 ≤ f) (i k : Int) : jrI kmem0 f i k = 0 := by
  have e1 : Nat.beq f 6 = false := by
    cases e : Nat.beq f 6 with
    | false => rfl
    | true => have := Nat.eq_of_beq_eq_true e; omega
  have e2 : Nat.beq f 11 = false := by
    cases e : Nat.beq f 11 with
    | false => rfl
    | true => have := Nat.eq_of_beq_eq_true e; omega
  unfold jrI kmem0
  simp [e1, e2]
theorem kend {D : va_G} {lo : Nat} {as : List Nat} {cs : List ClassId} {tys : List (ClassId × FieldType)} {H : Heap} {s : State} (hR : kRep D lo kHE as cs tys H) (hK : va_K D vwCl tys s) (tx : Nat → Nat) : ∃ cA : Nat → ClassId, jInj (kad2 as tx) ∧ va_P D vwCl (jws (kad2 as tx) cA kmem0) H ∧ va_K D vwCl (jtys cA) s ∧ ∀ a, jA (kad2 as tx) a → lo ≤ a := by
  obtain ⟨r1, r2, r3, r4, r5⟩ := hR
  have hrow : ∀ t, t < 7 → ∃ x : Nat, tys[x]? = some (cs.getD (ktr.getD t 0) 0, karr t) := fun t ht => by
    have hz : (ktr.getD t 0, t) ∈ ktr.zipIdx := by
      refine List.mem_of_getElem? (i := t) ?_
      rw [List.getElem?_zipIdx, List.getD_eq_getElem?_getD]
      have : ktr[t]? = some (ktr[t]'(by exact ht)) := List.getElem?_eq_getElem _
      rw [this]
      simp
    have w := List.all_eq_true.mp ktr_ok _ hz
    dsimp only at w
    split at w
    · rename_i r hr
      obtain ⟨rt, rn, rr⟩ := r
      have e : rt = t := Nat.eq_of_beq_eq_true w
      rw [e] at hr
      exact r5 _ _ _ _ hr
    · cases w
  have hone : ∀ k t n rs, t < 7 → kHE[k]? = some (.inr (t, n, rs)) → cs.getD k 0 = cs.getD (ktr.getD t 0) 0 := fun k t n rs ht hk => by
    obtain ⟨x1, h1⟩ := r5 k t n rs hk
    obtain ⟨x2, h2⟩ := hrow t ht
    exact va_RA_one (hK.2 _ _ h1).2 (hK.2 _ _ h2).2
  have hcell : ∀ q ∈ jall, ∃ c, kHE[kidx q.1 q.2]? = some c ∧ kcv q.1 q.2 c = true := fun q hq => by
    have w := List.all_eq_true.mp kcv_all q hq
    split at w
    · rename_i c hc
      exact ⟨c, hc, w⟩
    · cases w
  have hkws : ∀ q ∈ jall, ∃ c, kHE[kidx q.1 q.2]? = some c ∧ kcv q.1 q.2 c = true ∧ (kws as cs kHE)[kidx q.1 q.2]? = some (kad as (kidx q.1 q.2), kcell as cs (kidx q.1 q.2) c) := fun q hq => by
    obtain ⟨c, h1, h2⟩ := hcell q hq
    exact ⟨c, h1, h2, by rw [kws_get, h1]; rfl⟩
  refine ⟨fun t => cs.getD (ktr.getD t 0) 0, fun p hp q hq e => ?_, fun k w hk => ?_, ⟨hK.1, fun k w hk => ?_⟩, fun a ha => ?_⟩
  · rw [kad2_f (jall_lt hp), kad2_f (jall_lt hq)] at e
    obtain ⟨c1, -, -, h1⟩ := hkws p hp
    obtain ⟨c2, -, -, h2⟩ := hkws q hq
    have hi : kidx p.1 p.2 = kidx q.1 q.2 := r4.1 _ _ _ _ h1 h2 e
    obtain ⟨a, ha⟩ := List.getElem?_of_mem hp
    obtain ⟨b, hb⟩ := List.getElem?_of_mem hq
    have ea : (jall.map fun q => kidx q.1 q.2)[a]? = some (kidx p.1 p.2) := by rw [List.getElem?_map, ha]; rfl
    have eb : (jall.map fun q => kidx q.1 q.2)[b]? = some (kidx q.1 q.2) := by rw [List.getElem?_map, hb]; rfl
    have hab : a = b := (List.getElem?_inj (List.getElem?_eq_some_iff.mp ea).1 kidx_nd).mp (by rw [ea, eb, hi])
    rw [hab] at ha
    exact Option.some.inj (ha.symm.trans hb)
  · rw [jws_get] at hk
    cases hq : jall[k]? with
    | none => rw [hq] at hk; cases hk
    | some q =>
      rw [hq] at hk
      cases hk
      have hm := List.mem_of_getElem? hq
      obtain ⟨f, i⟩ := q
      have hf := jall_lt hm
      dsimp only at hf
      obtain ⟨c, h1, h2, h3⟩ := hkws _ hm
      dsimp only at h1 h2 h3
      have w := r3 _ _ h3
      dsimp only
      rw [kad2_f hf]
      match c, h1, h2, w with
      | .inl o, h1, h2, w =>
        have g := Bool.and_eq_true_iff.mp h2
        have g1 := Bool.and_eq_true_iff.mp g.1
        have e1 : o.1 = f := Nat.eq_of_beq_eq_true g1.2
        have e2 : Nat.blt f 12 = true := g1.1
        have e3 := kfv_eq (as := as) (tx := tx) _ _ _ g.2
        unfold jcell
        rw [e2, cond_true, ← e3]
        have e4 : kcell as cs (kidx f i) (.inl o) = .inr (f, kvals as (jfds.getD f []) o.2) := by
          unfold kcell
          dsimp only
          rw [e1]
        rw [e4] at w
        exact w
      | .inr (t, n, rs), h1, h2, w =>
        simp only [kcv, Bool.and_eq_true] at h2
        obtain ⟨⟨⟨⟨⟨g1, g2⟩, g3⟩, g4⟩, g5⟩, g6⟩ := h2
        have f12 : 12 ≤ f := Nat.le_of_ble_eq_true g1
        have e2 : Nat.blt f 12 = false := by
          cases e : Nat.blt f 12 with
          | false => rfl
          | true => have : f < 12 := Nat.le_of_ble_eq_true e; omega
        have t7 : t < 7 := Nat.lt_succ_of_le (Nat.le_of_ble_eq_true g5)
        have ec := hone _ _ _ _ t7 h1
        unfold jcell
        rw [e2, cond_false]
        generalize jarrs.getD (f - 12) (0, 0, 0, 0) = y at g3 g4 g6 ⊢
        obtain ⟨y1, y2, y3, y4⟩ := y
        have e3 : y1 = t := Nat.eq_of_beq_eq_true g3
        have e4 : y2 = n := Nat.eq_of_beq_eq_true g4
        subst e3 e4
        have w2 : va_at D vwCl (kad as (kidx f i), krow as (cs.getD (kidx f i) 0) y1 y2 rs) H := w
        rw [ec] at w2
        have z32 : ∀ j : Nat, Int32.ofInt (jrI kmem0 f i (j : Int)) = 0 := fun j => by rw [kmem0_arr f12]; rfl
        match y1, t7, w2, g6 with
        | 0, _, w2, _ =>
          show H[kad as (kidx f i)]? = some (arrV _ y2 fun j => .int (Int32.ofInt (jrI kmem0 f i (j : Int))))
          rw [arrV_cong (g := fun _ => .int 0) (fun j _ => by rw [z32 j])]
          exact w2
        | 1, _, w2, _ => exact w2
        | 2, _, w2, _ =>
          show H[kad as (kidx f i)]? = some (arrV _ y2 fun j => .int (Int32.ofInt (jrI kmem0 f i (j : Int))))
          rw [arrV_cong (g := fun _ => .int 0) (fun j _ => by rw [z32 j])]
          exact w2
        | 3, _, w2, _ =>
          show H[kad as (kidx f i)]? = some (arrV _ y2 fun j => .int (Int32.ofInt (jrI kmem0 f i (j : Int))))
          rw [arrV_cong (g := fun _ => .int 0) (fun j _ => by rw [z32 j])]
          exact w2
        | u + 4, _, w2, g6 =>
          rcases Bool.or_eq_true_iff.mp g6 with g7 | g7
          · have : u + 4 < 4 := Nat.le_of_ble_eq_true g7
            omega
          · have g8 := Bool.and_eq_true_iff.mp g7
            have hy3 : y3 < 67 := Nat.le_of_ble_eq_true g8.1
            have hrs := of_decide_eq_true g8.2
            show H[kad as (kidx f i)]? = some (arrV _ y2 fun j => va_rf (some (kad2 as tx y3 ((j : Int) + (y4 : Int)))))
            rw [arrV_cong (g := fun j => va_rf ((rs.getD j none).map (kad as))) (fun j hj => by
              rw [kad2_f hy3, hrs, List.getD_eq_getElem?_getD, List.getElem?_map, List.getElem?_range hj]
              rfl)]
            exact w2
  · have key : ∀ t, t < 7 → ArrOfT s (cs.getD (ktr.getD t 0) 0) (karr t) ∧ va_RA s (cs.getD (ktr.getD t 0) 0) (karr t) := fun t ht => by
      obtain ⟨x, hx⟩ := hrow t ht
      exact hK.2 _ _ hx
    match k, hk with
    | 0, hk => cases hk; exact key 0 (by omega)
    | 1, hk => cases hk; exact key 1 (by omega)
    | 2, hk => cases hk; exact key 2 (by omega)
    | 3, hk => cases hk; exact key 3 (by omega)
    | 4, hk => cases hk; exact key 4 (by omega)
    | 5, hk => cases hk; exact key 5 (by omega)
    | 6, hk => cases hk; exact key 6 (by omega)
    | n + 7, hk => cases hk
  · obtain ⟨q, hq, rfl⟩ := ha
    obtain ⟨c, -, -, h3⟩ := hkws q hq
    rw [kad2_f (jall_lt hq)]
    exact r4.2 _ _ h3
theorem kmem0_ok : jokM kmem0 := by
  refine ⟨fun f i k => ?_, fun f i k => ⟨by show (-9223372036854775808 : Int) ≤ 0; decide, by show (0 : Int) < 9223372036854775808; decide⟩, fun f i k f' mp j _ h => by cases h⟩
  unfold jrI kmem0 jokI
  dsimp only
  cases ((Nat.beq f 6 && jieq k 3) || (Nat.beq f 11 && (jieq k 21 || jieq k 23))) <;> simp
