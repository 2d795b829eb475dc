/-! The simulation, whole: what a method means at a depth, the real method does -/
section SIMF
variable {p : Program} {l : Launch} {e : Env} {s : State} {m : MethodId} {args : Array Value} {below : List Frame} {meth : Method} {c : Code} {d : Nat} {D : va_G} {cA : Nat → ClassId} {ad : Nat → Int → Nat} {EV : State → Prop} {q : jMI} {r : jV × jMem}
set_option maxHeartbeats 4000000 in
theorem js_step {pc npc : Nat} {ins : Instr} {aux : List Nat} {L st : List jV} {mem : jMem} {kf : jKf} {kj : Nat → jKf} {call : jCall} (C : jC p s m args meth c q D cA ad EV) (hmet : jMet l EV D cA ad d call) (hmm : jMMs call) (hd : decode q.2.1 pc = .ok (ins, npc - pc)) (hc : jchk1 q pc ins npc aux = true) (h : jstep ins aux L st mem call kf kj = some r) (hL : jokL L) (hs : jokL st) (hM : jokM mem) (hn : L.length = jMl q) (hF : jKF p l e s m args below meth c d D cA ad q r npc kf) (hJ : ∀ t, jKF p l e s m args below meth c d D cA ad q r t (kj t)) : jG p l e s m args below meth c d D cA ad q r pc L st mem := by
  cases ins
  case iadd => exact js_iadd C hd hc h hL hs hM hn hF hJ
  case isub => exact js_isub C hd hc h hL hs hM hn hF hJ
  case imul => exact js_imul C hd hc h hL hs hM hn hF hJ
  case ladd => exact js_ladd C hd hc h hL hs hM hn hF hJ
  case lsub => exact js_lsub C hd hc h hL hs hM hn hF hJ
  case lmul => exact js_lmul C hd hc h hL hs hM hn hF hJ
  case idiv => exact js_idiv C hd hc h hL hs hM hn hF hJ
  case irem => exact js_irem C hd hc h hL hs hM hn hF hJ
  case ldiv => exact js_ldiv C hd hc h hL hs hM hn hF hJ
  case lrem => exact js_lrem C hd hc h hL hs hM hn hF hJ
  case ishl => exact js_ishl C hd hc h hL hs hM hn hF hJ
  case ishr => exact js_ishr C hd hc h hL hs hM hn hF hJ
  case iand => exact js_iand C hd hc h hL hs hM hn hF hJ
  case ior => exact js_ior C hd hc h hL hs hM hn hF hJ
  case land => exact js_land C hd hc h hL hs hM hn hF hJ
  case lor => exact js_lor C hd hc h hL hs hM hn hF hJ
  case iushr => exact js_iushr C hd hc h hL hs hM hn hF hJ
  case lshl => exact js_lshl C hd hc h hL hs hM hn hF hJ
  case lcmp => exact js_lcmp C hd hc h hL hs hM hn hF hJ
  case i2l => exact js_i2l C hd hc h hL hs hM hn hF hJ
  case l2i => exact js_l2i C hd hc h hL hs hM hn hF hJ
  case i2b => exact js_i2b C hd hc h hL hs hM hn hF hJ
  case iconst _ => exact js_iconst C hd hc h hL hs hM hn hF hJ
  case bipush _ => exact js_bipush C hd hc h hL hs hM hn hF hJ
  case sipush _ => exact js_sipush C hd hc h hL hs hM hn hF hJ
  case lconst _ => exact js_lconst C hd hc h hL hs hM hn hF hJ
  case iload _ => exact js_iload C hd hc h hL hs hM hn hF hJ
  case iload_n _ => exact js_iload_n C hd hc h hL hs hM hn hF hJ
  case lload _ => exact js_lload C hd hc h hL hs hM hn hF hJ
  case lload_n _ => exact js_lload_n C hd hc h hL hs hM hn hF hJ
  case aload _ => exact js_aload C hd hc h hL hs hM hn hF hJ
  case aload_n _ => exact js_aload_n C hd hc h hL hs hM hn hF hJ
  case istore _ => exact js_istore C hd hc h hL hs hM hn hF hJ
  case istore_n _ => exact js_istore_n C hd hc h hL hs hM hn hF hJ
  case lstore _ => exact js_lstore C hd hc h hL hs hM hn hF hJ
  case lstore_n _ => exact js_lstore_n C hd hc h hL hs hM hn hF hJ
  case iinc _ _ => exact js_iinc C hd hc h hL hs hM hn hF hJ
  case pop => exact js_pop C hd hc h hL hs hM hn hF hJ
  case dup => exact js_dup C hd hc h hL hs hM hn hF hJ
  case dup2 => exact js_dup2 C hd hc h hL hs hM hn hF hJ
  case goto _ => exact js_goto C hd hc h hL hs hM hn hF hJ
  case ifCond _ _ => exact js_ifCond C hd hc h hL hs hM hn hF hJ
  case ifnull _ => exact js_ifnull C hd hc h hL hs hM hn hF hJ
  case ifnonnull _ => exact js_ifnonnull C hd hc h hL hs hM hn hF hJ
  case tableswitch _ _ _ _ => exact js_tableswitch C hd hc h hL hs hM hn hF hJ
  case lookupswitch _ _ => exact js_lookupswitch C hd hc h hL hs hM hn hF hJ
  case ldc _ => exact js_ldc C hd hc h hL hs hM hn hF hJ
  case ldc_w _ => exact js_ldc_w C hd hc h hL hs hM hn hF hJ
  case ldc2_w _ => exact js_ldc2_w C hd hc h hL hs hM hn hF hJ
  case ireturn => exact js_ireturn C hd hc h hL hs hM hn hF hJ
  case lreturn => exact js_lreturn C hd hc h hL hs hM hn hF hJ
  case areturn => exact js_areturn C hd hc h hL hs hM hn hF hJ
  case return_ => exact js_return_ C hd hc h hL hs hM hn hF hJ
  case getfield _ => exact js_getfield C hd hc h hL hs hM hn hF hJ
  case putfield _ => exact js_putfield C hd hc h hL hs hM hn hF hJ
  case iaload => exact js_iaload C hd hc h hL hs hM hn hF hJ
  case laload => exact js_laload C hd hc h hL hs hM hn hF hJ
  case baload => exact js_baload C hd hc h hL hs hM hn hF hJ
  case aaload => exact js_aaload C hd hc h hL hs hM hn hF hJ
  case iastore => exact js_iastore C hd hc h hL hs hM hn hF hJ
  case lastore => exact js_lastore C hd hc h hL hs hM hn hF hJ
  case bastore => exact js_bastore C hd hc h hL hs hM hn hF hJ
  case if_icmp _ _ => exact js_icmp C hd hc h hL hs hM hn hF hJ
  case aconst_null => exact js_null C hd hc h hL hs hM hn hF hJ
  case arraylength => exact js_alen C hd hc h hL hs hM hn hF hJ
  case invokevirtual _ => exact js_virtual C hmet hmm hd hc h hL hs hM hn hF
  case invokestatic _ => exact js_static C hmet hmm hd hc h hL hs hM hn hF
  all_goals
    have h9 : (none : jR) = some r := h
    cases h9
theorem jget_mem : ∀ {cd : jCode} {pc : Nat} {en : jE}, jget cd pc = some en → (pc, en) ∈ cd
  | [], _, _, h => by cases h
  | (x, y) :: t, pc, en, h => by
    unfold jget at h
    cases hb : Nat.beq x pc with
    | true =>
      rw [hb] at h
      cases h
      cases Nat.eq_of_beq_eq_true hb
      exact List.mem_cons_self
    | false =>
      rw [hb] at h
      exact List.mem_cons_of_mem _ (jget_mem (cd := t) h)
theorem jsim_run {cd : jCode} {call : jCall} (C : jC p s m args meth c q D cA ad EV) (hmet : jMet l EV D cA ad d call) (hmm : jMMs call) (hck : cd.all (fun x => jchk q x.1 x.2) = true) : ∀ (n pc : Nat) (L st : List jV) (mem : jMem), jrun cd call n pc L st mem = some r → jokL L → jokL st → jokM mem → L.length = jMl q → jG p l e s m args below meth c d D cA ad q r pc L st mem
  | 0, _, _, _, _, h, _, _, _, _ => by cases h
  | n + 1, pc, L, st, mem, h, hL, hs, hM, hn => by
    rw [jrun_s] at h
    cases he : jget cd pc with
    | none => rw [he] at h; cases h
    | some en =>
      rw [he] at h
      dsimp only at h
      have hk := List.all_eq_true.mp hck _ (jget_mem he)
      unfold jchk at hk
      simp only [Bool.and_eq_true] at hk
      obtain ⟨⟨k1, k2⟩, k3⟩ := hk
      refine js_step C hmet hmm (of_decide_eq_true k1) k3 h hL hs hM hn (fun L' st' mem' h' hL' hs' hM' hn' => ?_) (fun t L' st' mem' h' hL' hs' hM' hn' => ?_)
      · rw [jkillK_eq] at h'
        have g := jsim_run C hmet hmm hck n _ _ _ _ h' (jokL_kill _ hL') hs' hM' (by rw [jkill_len]; exact hn')
        exact fun H locs ls hP hS hl => g H locs ls hP hS (jL_kill _ hl)
      · rw [jkillK_eq] at h'
        have g := jsim_run C hmet hmm hck n _ _ _ _ h' (jokL_kill _ hL') hs' hM' (by rw [jkill_len]; exact hn')
        exact fun H locs ls hP hS hl => g H locs ls hP hS (jL_kill _ hl)
end SIMF
theorem jpad_len : ∀ (n : Nat) (t : List jV), (jpadto n t).length = n
  | 0, _ => rfl
  | n + 1, [] => by simp [jpadto, jpad_len n []]
  | n + 1, v :: t => by simp [jpadto, jpad_len n t]
theorem jpad_get : ∀ (n : Nat) (t : List jV) (i : Nat) (v : jV), (jpadto n t)[i]? = some v → v ≠ vU → t[i]? = some v
  | 0, _, i, v, h, _ => by simp [jpadto] at h
  | n + 1, [], 0, v, h, hv => by simp [jpadto] at h; exact absurd h.symm hv
  | n + 1, [], i + 1, v, h, hv => by
    simp only [jpadto, List.getElem?_cons_succ] at h
    have := jpad_get n [] i v h hv
    simp at this
  | n + 1, w :: t, 0, v, h, hv => by simpa [jpadto] using h
  | n + 1, w :: t, i + 1, v, h, hv => by
    simp only [jpadto, List.getElem?_cons_succ] at h ⊢
    exact jpad_get n t i v h hv
theorem jexp_cons (v : jV) (t : List jV) : jexp (v :: t) = (if jcat v = 2 then [v, vU] else [v]) ++ jexp t := by
  match v with
  | .inl x => rfl
  | .inr (.inl x) => rfl
  | .inr (.inr (.inl w)) => rfl
  | .inr (.inr (.inr u)) => rfl
theorem jexp_sl (ad : Nat → Int → Nat) : ∀ as : List jV, (lg_sl (as.map (jcv ad))).length = (jexp as).length
  | [] => rfl
  | v :: t => by
    have ih := jexp_sl ad t
    rw [jexp_cons]
    unfold lg_sl at ih ⊢
    rw [List.map_cons, List.flatMap_cons, List.length_append, List.length_append, ih, jcat_cv]
    split <;> rfl
theorem jexp_mem {as : List jV} {v : jV} (h : v ∈ jexp as) : v ∈ as ∨ v = vU := by
  induction as with
  | nil => cases h
  | cons a t ih =>
    rw [jexp_cons] at h
    rcases List.mem_append.mp h with h | h
    · split at h
      · rcases List.mem_cons.mp h with h | h
        · exact Or.inl (by rw [h]; exact List.mem_cons_self)
        · exact Or.inr (List.mem_singleton.mp h)
      · exact Or.inl (by rw [List.mem_singleton.mp h]; exact List.mem_cons_self)
    · rcases ih h with h | h
      · exact Or.inl (List.mem_cons_of_mem _ h)
      · exact Or.inr h
theorem jlocs_ok {n : Nat} {as : List jV} (h : jokL as) : jokL (jlocs n as) := fun v hv => by
  by_cases hu : v = vU
  · rw [hu]; exact trivial
  · obtain ⟨i, hi⟩ := List.getElem?_of_mem hv
    rcases jexp_mem (List.mem_of_getElem? (jpad_get n _ i v hi hu)) with h2 | h2
    · exact h v h2
    · exact absurd h2 hu
theorem jargs (ad : Nat → Int → Nat) : ∀ (as : List jV) (k i : Nat) (v : jV), (jexp as)[i]? = some v → v ≠ vU → (k + i, jcv ad v) ∈ lv_args k (as.map (jcv ad))
  | [], _, _, _, h, _ => by simp [jexp] at h
  | a :: t, k, i, v, h, hv => by
    rw [jexp_cons] at h
    rw [List.map_cons]
    unfold lv_args
    rw [jcat_cv]
    by_cases h2 : jcat a = 2
    · rw [if_pos h2] at h
      match i, h with
      | 0, h => cases h; exact List.mem_cons_self
      | 1, h => cases h; exact absurd rfl hv
      | i + 2, h =>
        have h3 : (jexp t)[i]? = some v := h
        have h4 := jargs ad t (k + 2) i v h3 hv
        rw [if_pos h2, show k + (i + 2) = k + 2 + i by omega]
        exact List.mem_cons_of_mem _ h4
    · rw [if_neg h2] at h
      match i, h with
      | 0, h => cases h; exact List.mem_cons_self
      | i + 1, h =>
        have h3 : (jexp t)[i]? = some v := h
        have h4 := jargs ad t (k + 1) i v h3 hv
        rw [if_neg h2, show k + (i + 1) = k + 1 + i by omega]
        exact List.mem_cons_of_mem _ h4
