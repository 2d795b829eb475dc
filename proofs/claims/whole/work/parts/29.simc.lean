/-! The simulation: calls -/
theorem jinfo_len : jinfo.length = 250 := by decide +kernel
theorem jposM_len : jposM.length = 250 := by decide +kernel
theorem jmi_get {z : Nat} (h : z < 250) : jinfo[z]? = some (jmi z) := by
  have e : jinfo[z]? = some (jinfo[z]'(by rw [jinfo_len]; exact h)) := List.getElem?_eq_getElem _
  unfold jmi
  rw [e]
theorem jok_z {a z : Nat} (h : (((jinfo.drop a).take 50).zip ((jposM.drop a).take 50)).all (fun q => jokM1 q.1 q.2) = true) (h1 : a ≤ z) (h2 : z < a + 50) (hz : z < 250) : ∃ p, jokM1 (jmi z) p = true := by
  have e2 : jposM[z]? = some (jposM[z]'(by rw [jposM_len]; exact hz)) := List.getElem?_eq_getElem _
  refine ⟨jposM[z]'(by rw [jposM_len]; exact hz), ?_⟩
  refine List.all_eq_true.mp h (jmi z, jposM[z]'(by rw [jposM_len]; exact hz)) (List.mem_of_getElem? (i := z - a) (List.getElem?_zip_eq_some.mpr ⟨?_, ?_⟩))
  · rw [List.getElem?_take_of_lt (by omega), List.getElem?_drop, show a + (z - a) = z by omega]
    exact jmi_get hz
  · rw [List.getElem?_take_of_lt (by omega), List.getElem?_drop, show a + (z - a) = z by omega]
    exact e2
theorem jok_all {z : Nat} (hz : z < 250) : ∃ p, jokM1 (jmi z) p = true := by
  by_cases a1 : z < 50
  · exact jok_z jinfo_ok0 (by omega) (by omega) hz
  by_cases a2 : z < 100
  · exact jok_z jinfo_ok1 (by omega) (by omega) hz
  by_cases a3 : z < 150
  · exact jok_z jinfo_ok2 (by omega) (by omega) hz
  by_cases a4 : z < 200
  · exact jok_z jinfo_ok3 (by omega) (by omega) hz
  · exact jok_z jinfo_ok4 (by omega) (by omega) hz
theorem jcons {P : jMI → Prop} {a : jMI} {l : List jMI} (h : P a) (t : ∀ q ∈ l, P q) : ∀ q ∈ a :: l, P q := List.forall_mem_cons.mpr ⟨h, t⟩
def jcwP (q : jMI) : Prop := Cond.code q.1 q.2.1 q.2.2.1 q.2.2.2.1 ∈ lw_tbl
set_option maxRecDepth 100000 in
theorem jcw_all : ∀ q ∈ jinfo, jcwP q := jcons (P := jcwP) jcw0 (jcons (P := jcwP) jcw1 (jcons (P := jcwP) jcw2 (jcons (P := jcwP) jcw3 (jcons (P := jcwP) jcw4 (jcons (P := jcwP) jcw5 (jcons (P := jcwP) jcw6 (jcons (P := jcwP) jcw7 (jcons (P := jcwP) jcw8 (jcons (P := jcwP) jcw9 (jcons (P := jcwP) jcw10 (jcons (P := jcwP) jcw11 (jcons (P := jcwP) jcw12 (jcons (P := jcwP) jcw13 (jcons (P := jcwP) jcw14 (jcons (P := jcwP) jcw15 (jcons (P := jcwP) jcw16 (jcons (P := jcwP) jcw17 (jcons (P := jcwP) jcw18 (jcons (P := jcwP) jcw19 (jcons (P := jcwP) jcw20 (jcons (P := jcwP) jcw21 (jcons (P := jcwP) jcw22 (jcons (P := jcwP) jcw23 (jcons (P := jcwP) jcw24 (jcons (P := jcwP) jcw25 (jcons (P := jcwP) jcw26 (jcons (P := jcwP) jcw27 (jcons (P := jcwP) jcw28 (jcons (P := jcwP) jcw29 (jcons (P := jcwP) jcw30 (jcons (P := jcwP) jcw31 (jcons (P := jcwP) jcw32 (jcons (P := jcwP) jcw33 (jcons (P := jcwP) jcw34 (jcons (P := jcwP) jcw35 (jcons (P := jcwP) jcw36 (jcons (P := jcwP) jcw37 (jcons (P := jcwP) jcw38 (jcons (P := jcwP) jcw39 (jcons (P := jcwP) jcw40 (jcons (P := jcwP) jcw41 (jcons (P := jcwP) jcw42 (jcons (P := jcwP) jcw43 (jcons (P := jcwP) jcw44 (jcons (P := jcwP) jcw45 (jcons (P := jcwP) jcw46 (jcons (P := jcwP) jcw47 (jcons (P := jcwP) jcw48 (jcons (P := jcwP) jcw49 (jcons (P := jcwP) jcw50 (jcons (P := jcwP) jcw51 (jcons (P := jcwP) jcw52 (jcons (P := jcwP) jcw53 (jcons (P := jcwP) jcw54 (jcons (P := jcwP) jcw55 (jcons (P := jcwP) jcw56 (jcons (P := jcwP) jcw57 (jcons (P := jcwP) jcw58 (jcons (P := jcwP) jcw59 (jcons (P := jcwP) jcw60 (jcons (P := jcwP) jcw61 (jcons (P := jcwP) jcw62 (jcons (P := jcwP) jcw63 (jcons (P := jcwP) jcw64 (jcons (P := jcwP) jcw65 (jcons (P := jcwP) jcw66 (jcons (P := jcwP) jcw67 (jcons (P := jcwP) jcw68 (jcons (P := jcwP) jcw69 (jcons (P := jcwP) jcw70 (jcons (P := jcwP) jcw71 (jcons (P := jcwP) jcw72 (jcons (P := jcwP) jcw73 (jcons (P := jcwP) jcw74 (jcons (P := jcwP) jcw75 (jcons (P := jcwP) jcw76 (jcons (P := jcwP) jcw77 (jcons (P := jcwP) jcw78 (jcons (P := jcwP) jcw79 (jcons (P := jcwP) jcw80 (jcons (P := jcwP) jcw81 (jcons (P := jcwP) jcw82 (jcons (P := jcwP) jcw83 (jcons (P := jcwP) jcw84 (jcons (P := jcwP) jcw85 (jcons (P := jcwP) jcw86 (jcons (P := jcwP) jcw87 (jcons (P := jcwP) jcw88 (jcons (P := jcwP) jcw89 (jcons (P := jcwP) jcw90 (jcons (P := jcwP) jcw91 (jcons (P := jcwP) jcw92 (jcons (P := jcwP) jcw93 (jcons (P := jcwP) jcw94 (jcons (P := jcwP) jcw95 (jcons (P := jcwP) jcw96 (jcons (P := jcwP) jcw97 (jcons (P := jcwP) jcw98 (jcons (P := jcwP) jcw99 (jcons (P := jcwP) jcw100 (jcons (P := jcwP) jcw101 (jcons (P := jcwP) jcw102 (jcons (P := jcwP) jcw103 (jcons (P := jcwP) jcw104 (jcons (P := jcwP) jcw105 (jcons (P := jcwP) jcw106 (jcons (P := jcwP) jcw107 (jcons (P := jcwP) jcw108 (jcons (P := jcwP) jcw109 (jcons (P := jcwP) jcw110 (jcons (P := jcwP) jcw111 (jcons (P := jcwP) jcw112 (jcons (P := jcwP) jcw113 (jcons (P := jcwP) jcw114 (jcons (P := jcwP) jcw115 (jcons (P := jcwP) jcw116 (jcons (P := jcwP) jcw117 (jcons (P := jcwP) jcw118 (jcons (P := jcwP) jcw119 (jcons (P := jcwP) jcw120 (jcons (P := jcwP) jcw121 (jcons (P := jcwP) jcw122 (jcons (P := jcwP) jcw123 (jcons (P := jcwP) jcw124 (jcons (P := jcwP) jcw125 (jcons (P := jcwP) jcw126 (jcons (P := jcwP) jcw127 (jcons (P := jcwP) jcw128 (jcons (P := jcwP) jcw129 (jcons (P := jcwP) jcw130 (jcons (P := jcwP) jcw131 (jcons (P := jcwP) jcw132 (jcons (P := jcwP) jcw133 (jcons (P := jcwP) jcw134 (jcons (P := jcwP) jcw135 (jcons (P := jcwP) jcw136 (jcons (P := jcwP) jcw137 (jcons (P := jcwP) jcw138 (jcons (P := jcwP) jcw139 (jcons (P := jcwP) jcw140 (jcons (P := jcwP) jcw141 (jcons (P := jcwP) jcw142 (jcons (P := jcwP) jcw143 (jcons (P := jcwP) jcw144 (jcons (P := jcwP) jcw145 (jcons (P := jcwP) jcw146 (jcons (P := jcwP) jcw147 (jcons (P := jcwP) jcw148 (jcons (P := jcwP) jcw149 (jcons (P := jcwP) jcw150 (jcons (P := jcwP) jcw151 (jcons (P := jcwP) jcw152 (jcons (P := jcwP) jcw153 (jcons (P := jcwP) jcw154 (jcons (P := jcwP) jcw155 (jcons (P := jcwP) jcw156 (jcons (P := jcwP) jcw157 (jcons (P := jcwP) jcw158 (jcons (P := jcwP) jcw159 (jcons (P := jcwP) jcw160 (jcons (P := jcwP) jcw161 (jcons (P := jcwP) jcw162 (jcons (P := jcwP) jcw163 (jcons (P := jcwP) jcw164 (jcons (P := jcwP) jcw165 (jcons (P := jcwP) jcw166 (jcons (P := jcwP) jcw167 (jcons (P := jcwP) jcw168 (jcons (P := jcwP) jcw169 (jcons (P := jcwP) jcw170 (jcons (P := jcwP) jcw171 (jcons (P := jcwP) jcw172 (jcons (P := jcwP) jcw173 (jcons (P := jcwP) jcw174 (jcons (P := jcwP) jcw175 (jcons (P := jcwP) jcw176 (jcons (P := jcwP) jcw177 (jcons (P := jcwP) jcw178 (jcons (P := jcwP) jcw179 (jcons (P := jcwP) jcw180 (jcons (P := jcwP) jcw181 (jcons (P := jcwP) jcw182 (jcons (P := jcwP) jcw183 (jcons (P := jcwP) jcw184 (jcons (P := jcwP) jcw185 (jcons (P := jcwP) jcw186 (jcons (P := jcwP) jcw187 (jcons (P := jcwP) jcw188 (jcons (P := jcwP) jcw189 (jcons (P := jcwP) jcw190 (jcons (P := jcwP) jcw191 (jcons (P := jcwP) jcw192 (jcons (P := jcwP) jcw193 (jcons (P := jcwP) jcw194 (jcons (P := jcwP) jcw195 (jcons (P := jcwP) jcw196 (jcons (P := jcwP) jcw197 (jcons (P := jcwP) jcw198 (jcons (P := jcwP) jcw199 (jcons (P := jcwP) jcw200 (jcons (P := jcwP) jcw201 (jcons (P := jcwP) jcw202 (jcons (P := jcwP) jcw203 (jcons (P := jcwP) jcw204 (jcons (P := jcwP) jcw205 (jcons (P := jcwP) jcw206 (jcons (P := jcwP) jcw207 (jcons (P := jcwP) jcw208 (jcons (P := jcwP) jcw209 (jcons (P := jcwP) jcw210 (jcons (P := jcwP) jcw211 (jcons (P := jcwP) jcw212 (jcons (P := jcwP) jcw213 (jcons (P := jcwP) jcw214 (jcons (P := jcwP) jcw215 (jcons (P := jcwP) jcw216 (jcons (P := jcwP) jcw217 (jcons (P := jcwP) jcw218 (jcons (P := jcwP) jcw219 (jcons (P := jcwP) jcw220 (jcons (P := jcwP) jcw221 (jcons (P := jcwP) jcw222 (jcons (P := jcwP) jcw223 (jcons (P := jcwP) jcw224 (jcons (P := jcwP) jcw225 (jcons (P := jcwP) jcw226 (jcons (P := jcwP) jcw227 (jcons (P := jcwP) jcw228 (jcons (P := jcwP) jcw229 (jcons (P := jcwP) jcw230 (jcons (P := jcwP) jcw231 (jcons (P := jcwP) jcw232 (jcons (P := jcwP) jcw233 (jcons (P := jcwP) jcw234 (jcons (P := jcwP) jcw235 (jcons (P := jcwP) jcw236 (jcons (P := jcwP) jcw237 (jcons (P := jcwP) jcw238 (jcons (P := jcwP) jcw239 (jcons (P := jcwP) jcw240 (jcons (P := jcwP) jcw241 (jcons (P := jcwP) jcw242 (jcons (P := jcwP) jcw243 (jcons (P := jcwP) jcw244 (jcons (P := jcwP) jcw245 (jcons (P := jcwP) jcw246 (jcons (P := jcwP) jcw247 (jcons (P := jcwP) jcw248 (jcons (P := jcwP) jcw249 ((fun q h => absurd h List.not_mem_nil)))))))))))))))))))))))))))))))))))))))))))))))))))))))))))))))))))))))))))))))))))))))))))))))))))))))))))))))))))))))))))))))))))))))))))))))))))))))))))))))))))))))))))))))))))))))))))))))))))))))))))))))))))))))))))))))))))))))))))))))))))))))))))
theorem jM_spec {z : Nat} (hz : z < 250) : Cond.code (jmi z).1 (jmi z).2.1 (jMl (jmi z)) (jRet (jmi z)) ∈ jTBL ∧ Cond.initialized (jmi z).1.cls ∈ jTBL ∧ (jSt (jmi z) = true → Cond.static (jmi z).1 ∈ jTBL) ∧ (jSt (jmi z) = false → Cond.instanceMethod (jmi z).1 ∈ jTBL ∧ Cond.selects (jmi z).1.cls (jmi z).1 (jmi z).1 ∈ jTBL ∧ 0 < jNa (jmi z)) ∧ (jmi z).1.cls ≠ "java/lang/invoke/MethodHandle" ∧ (jmi z).1.cls ≠ "java/lang/invoke/VarHandle" ∧ (parseMethodDescriptor (jmi z).1.desc).map (fun d => d.parameters.length) = some (bif jSt (jmi z) then jNa (jmi z) else jNa (jmi z) - 1) ∧ jMl (jmi z) ≤ 60 := by
  have hc : jcwP (jmi z) := jcw_all _ (List.mem_of_getElem? (jmi_get hz))
  obtain ⟨p, h⟩ := jok_all hz
  unfold jokM1 at h
  simp only [Bool.and_eq_true, decide_eq_true_eq] at h
  obtain ⟨⟨⟨⟨⟨⟨h1, h2⟩, h3⟩, h4⟩, h5⟩, h6⟩, h7⟩ := h
  refine ⟨jT_of hc rfl, jT_of (List.mem_of_getElem? h1) rfl, fun hs => ?_, fun hs => ?_, h3, h4, h5, h6⟩
  · have hs : (jmi z).2.2.2.2.2.1 = true := hs
    rw [hs] at h2
    exact jT_of (List.mem_of_getElem? (of_decide_eq_true h2)) rfl
  · have hs : (jmi z).2.2.2.2.2.1 = false := hs
    rw [hs] at h2 h7
    have z2 := Bool.and_eq_true_iff.mp h2
    exact ⟨jT_of (List.mem_of_getElem? (of_decide_eq_true z2.1)) rfl, jT_of (List.mem_of_getElem? (of_decide_eq_true z2.2)) rfl, of_decide_eq_true h7⟩
theorem jhM_in {o i z : Nat} (h : jhM o i z = true) : Cond.methodLink (jown.getD o "") i (jmi z).1 ∈ jTBL := by
  obtain ⟨⟨q1, q2, q3, q4⟩, hm, hq⟩ := List.any_eq_true.mp h
  simp only [Bool.and_eq_true] at hq
  obtain ⟨⟨h1, h2⟩, h3⟩ := hq
  cases Nat.eq_of_beq_eq_true h1
  cases Nat.eq_of_beq_eq_true h2
  cases Nat.eq_of_beq_eq_true h3
  have w := List.all_eq_true.mp jlM_ok _ hm
  have e : jnm z = (jmi z).1 := by
    unfold jnm jmi
    cases jinfo[z]? <;> rfl
  have w2 := of_decide_eq_true w
  rw [e] at w2
  exact jT_of (List.mem_of_getElem? w2) rfl
theorem jhN_in {o i z : Nat} (h : jhN o i z = true) : ∃ n, (o, i, z, n) ∈ jlN := by
  obtain ⟨⟨q1, q2, q3, q4⟩, hm, hq⟩ := List.any_eq_true.mp h
  simp only [Bool.and_eq_true] at hq
  obtain ⟨⟨h1, h2⟩, h3⟩ := hq
  cases Nat.eq_of_beq_eq_true h1
  cases Nat.eq_of_beq_eq_true h2
  cases Nat.eq_of_beq_eq_true h3
  exact ⟨q4, hm⟩
theorem jhC_in {o i : Nat} (h : jhC o i = true) : Cond.methodLink (jown.getD o "") i arraycopyName ∈ jTBL := by
  obtain ⟨⟨q1, q2, q3⟩, hm, hq⟩ := List.any_eq_true.mp h
  have hq := Bool.and_eq_true_iff.mp hq
  cases Nat.eq_of_beq_eq_true hq.1
  cases Nat.eq_of_beq_eq_true hq.2
  have w := List.all_eq_true.mp jlC_ok _ hm
  exact jT_of (List.mem_of_getElem? (of_decide_eq_true w)) rfl
theorem jcp_in : Cond.native arraycopyName ∈ jTBL ∧ Cond.static arraycopyName ∈ jTBL ∧ Cond.initialized "java/lang/System" ∈ jTBL := by
  have h := jcopy_ok
  simp only [Bool.and_eq_true, decide_eq_true_eq] at h
  exact ⟨jT_of (List.mem_of_getElem? h.1.1) rfl, jT_of (List.mem_of_getElem? h.1.2) rfl, jT_of (List.mem_of_getElem? h.2) rfl⟩
theorem jgood {w : Cond} (h : w ∈ jTBL) : GoodIn jTBL (w :: jTBL) := fun u hu => by
  have hu2 : u ∈ jTBL := by
    rcases List.mem_cons.mp hu with e | e
    · rw [e]; exact h
    · exact e
  exact ⟨hu2, good_of_word (jT_good hu2).2⟩
def jMMs (call : jCall) : Prop := (∀ as mem r, as.length = 2 → call 246 as mem = some r → ∃ x y, as = [vI x, vI y] ∧ r = (vI (if x < y then y else x), mem)) ∧ (∀ as mem r, as.length = 2 → call 247 as mem = some r → ∃ x y, as = [vI x, vI y] ∧ r = (vI (if y < x then y else x), mem))
theorem jpush_rv {ad : Nat → Int → Nat} {rk rf : Nat} {v : jV} {rest : List jV} (h : jty rk rf v) : (jpush rk rf v rest).map (jcv ad) = (jrv ad v).toList ++ rest.map (jcv ad) := by
  match rk, h with
  | 0, h => cases h; rfl
  | 1, ⟨x, h⟩ => cases h; rfl
  | 2, ⟨x, h⟩ => cases h; rfl
  | n + 3, ⟨o, h⟩ => cases h; rfl
theorem jpush_ok {rk rf : Nat} {v : jV} {rest : List jV} (h : jty rk rf v) (hv : jokV v) (hr : jokL rest) : jokL (jpush rk rf v rest) := by
  match rk, h with
  | 0, h => exact hr
  | 1, ⟨x, h⟩ => cases h; exact jokL_k hv hr
  | 2, ⟨x, h⟩ => cases h; exact jokL_k hv hr
  | n + 3, ⟨o, h⟩ => cases h; exact jokL_k hv hr
section SIMS
variable {p : Program} {l : Launch} {e : Env} {s : State} {m : MethodId} {args : Array Value} {below : List Frame} {meth : Method} {c : Code} {d : Nat} {D : va_G} {cA : Nat → ClassId} {ad : Nat → Int → Nat} {EV : State → Prop} {q : jMI} {r : jV × jMem}
variable {pc npc : Nat} {aux : List Nat} {L st : List jV} {mem : jMem} {kf : jKf} {kj : Nat → jKf} {call : jCall}
theorem jcall_go {R : Room} {H : Heap} {locs : List Loc} {ls : Array Slot} {rest st0 : List Value} {Q : State → Prop} {rk rf : Nat} {v : jV} {mem' : jMem} {a : Array Value} (hr : va_Run p l e R s m args below meth c H locs 0 0 0 0 (F0 m pc ls st0) rest (jQ D cA ad rk rf v mem' a) (jA ad)) (hS : va_S (jA ad) s.heap H locs) (kk : ∀ (H1 : Heap) (locs1 : List Loc), va_P D vwCl (jws ad cA mem') H1 → va_S (jA ad) s.heap H1 locs1 → jty rk rf v → jokV v → jokM mem' → W p l e R s m args below meth c H1 locs1 0 0 Q (F0 m (pc + 3) ls ((jrv ad v).toList ++ rest))) : W p l e R s m args below meth c H locs 0 0 Q (F0 m pc ls st0) := by
  intro T hT X
  obtain ⟨v', st₀, t, T', L', h0, X', hL, e1, e2, ⟨hoc, hP', ⟨hz, hk⟩, hy1, hy2, hy3⟩, st⟩ := hr T hT X
  cases hoc
  rw [h0] at hz hk
  obtain ⟨t2, a1, b1⟩ := kk T'.heap (locs ++ L') (by rw [e1]; exact hP')
    ⟨Nat.le_trans hS.1 (by rw [e1]; exact hz), fun q h1 h2 => by rw [e1, hk q (Nat.lt_of_lt_of_le h1 hS.1) h2]; exact hS.2.1 q h1 h2, fun q hq => by
      rcases List.mem_append.mp hq with h | h
      · exact hS.2.2 q h
      · exact hL q h⟩ hy1 hy2 hy3 T' rfl X'
  exact ⟨t2, st t2 a1, b1⟩
theorem jblind (hev : jEVok EV ad) (as : List jV) (mem : jMem) : FrameBlind (va_Pc (as.map (jcv ad)) (jI EV D cA ad mem)) := fun a U g mk w => by
  obtain ⟨w0, w1, w2, w3⟩ := w
  exact ⟨w0, w1, va_K.moved (u := U) (U := U.calling g mk a) (Vm.Alike.refl U.vm) w2, hev.1 U g mk a w3⟩
theorem jpre (hev : jEVok EV ad) (hEV : EV s) (hK : va_K D vwCl (jtys cA) s) {as : List jV} {mem : jMem} {H : Heap} {locs : List Loc} (hP : va_P D vwCl (jws ad cA mem) H) (hS : va_S (jA ad) s.heap H locs) : ∀ U : State, U.heap = H → s.WarmedH U.vm → va_Pc (as.map (jcv ad)) (jI EV D cA ad mem) (as.map (jcv ad)).toArray U := fun U hU hW => ⟨rfl, by rw [hU]; exact hP, va_K.moved hW.alike hK, hev.2.1 s U hEV hW (hS.F hU)⟩
theorem js_virtual {ix : Nat} (C : jC p s m args meth c q D cA ad EV) (hmet : jMet l EV D cA ad d call) (hmm : jMMs call) (hd : decode q.2.1 pc = .ok (.invokevirtual ix, npc - pc)) (hc : jchk1 q pc (.invokevirtual ix) npc aux = true) (h : jstep (.invokevirtual ix) aux L st mem call kf kj = some r) (hL : jokL L) (hs : jokL st) (hM : jokM mem) (hn : L.length = jMl q) (hF : jKF p l e s m args below meth c d D cA ad q r npc kf) : jG p l e s m args below meth c d D cA ad q r pc L st mem := by
  obtain ⟨hx, hb, hml, hown, hts, hK, hr, hlk, hin, hev, hEV⟩ := C
  dsimp only [jchk1] at hc
  have hcs := Bool.and_eq_true_iff.mp hc
  have e1 : npc = pc + 3 := Nat.eq_of_beq_eq_true hcs.1
  subst e1
  rw [Nat.add_sub_cancel_left] at hd
  change jinvoke aux L st mem call kf = some r at h
  have hc2 := hcs.2
  split at hc2
  rotate_left
  · cases hc2
  rename_i z n rk rf f
  have hc3 := Bool.and_eq_true_iff.mp hc2
  have hc4 := Bool.and_eq_true_iff.mp hc3.1
  have hci := hc4.1
  have hst0 : jSt (jmi z) = false := by
    have w := hc4.2
    cases hb2 : jSt (jmi z) with
    | false => rfl
    | true => rw [hb2] at w; cases w
  simp only [jchI, Bool.and_eq_true] at hci
  obtain ⟨⟨⟨⟨i1, i2⟩, i3⟩, i4⟩, i5⟩ := hci
  have hz : z < 250 := Nat.le_of_ble_eq_true i1
  cases Nat.eq_of_beq_eq_true i2
  cases Nat.eq_of_beq_eq_true i3
  cases Nat.eq_of_beq_eq_true i4
  obtain ⟨m1, m2, m3, m4, m5, m6, m7, m8⟩ := jM_spec hz
  unfold jinvoke at h
  dsimp only at h
  cases htk : jtake (jNa (jmi z)) st [] with
  | none => rw [htk] at h; cases h
  | some w =>
  obtain ⟨as, rest⟩ := w
  rw [htk] at h
  dsimp only at h
  obtain ⟨hst, hlen⟩ := jtake_some _ _ _ _ _ htk
  simp only [List.reverse_nil, List.nil_append, List.length_nil, Nat.add_zero] at hst hlen
  cases hble : Nat.ble (jsum rest) 8 with
  | false => rw [hble] at h; cases h
  | true =>
  rw [hble] at h
  have hsum : jsum rest ≤ 8 := Nat.le_of_ble_eq_true hble
  simp only [cond_true] at h
  obtain ⟨hbn, hrv⟩ := jrecv_some h
  obtain ⟨v, mem', hcl, hk⟩ := jbnd_some hbn
  subst hst
  have oks : jokL as := fun v hv => hs v (List.mem_append_left _ (List.mem_reverse.mpr hv))
  have okr : jokL rest := fun v hv => hs v (List.mem_append_right _ hv)
  obtain ⟨m4a, m4b, m4c⟩ := m4 hst0
  obtain ⟨i, as', rfl⟩ := hrv f rfl
  rw [hst0] at m7
  have n1 : z ≠ 246 := fun e => by rw [e] at hst0; exact absurd hst0 (by decide +kernel)
  have n2 : z ≠ 247 := fun e => by rw [e] at hst0; exact absurd hst0 (by decide +kernel)
  have hMt := hmet z (vR f (some i) :: as') mem v mem' hcl n1 n2 hz oks hM
  refine fun H locs ls hP hS hl => ?_
  have g1 : ∀ (H1 : Heap) (locs1 : List Loc), va_P D vwCl (jws ad cA mem') H1 → va_S (jA ad) s.heap H1 locs1 → jty (jRk (jmi z)) (jRf (jmi z)) v → jokV v → jokM mem' → W p l e (jroom (d + 1)) s m args below meth c H1 locs1 0 0 (MQ below (jQ D cA ad (jRk q) (jRf q) r.1 r.2) args s 0 0 (jA ad)) (F0 m (pc + 3) ls ((jrv ad v).toList ++ rest.map (jcv ad))) := fun H1 locs1 hP1 hS1 hty hokv hokm => by
    have g2 := hF L _ mem' hk hL (jpush_ok hty hokv okr) hokm hn H1 locs1 ls hP1 hS1 hl
    rw [jpush_rv hty] at g2
    exact g2
  have hroom : 2 * (F0 m pc ls ((List.reverse (vR f (some i) :: as') ++ rest).map (jcv ad))).monitorRoom + ((rest.map (jcv ad)).map fun v => v.category).sum ≤ 8 := lv_room (by rw [jsum_cv]; exact hsum)
  have hR : (jroom d).frames + 1 ≤ (jroom (d + 1)).frames ∧ 8 + (jMl (jmi z) + 11) + (jroom d).locals ≤ (jroom (d + 1)).locals := ⟨Nat.le_refl _, by show 8 + (jMl (jmi z) + 11) + 100 * d ≤ 100 * (d + 1); omega⟩
  have hlen2 : (as'.map (jcv ad)).length = jNa (jmi z) - 1 := by
    rw [List.length_map]
    simp only [List.length_cons] at hlen
    omega
  have hstack : ((vR f (some i) :: as').reverse ++ rest).map (jcv ad) = (as'.map (jcv ad)).reverse ++ .ref (ad f i) :: rest.map (jcv ad) := by
    rw [List.map_append, List.map_reverse, List.map_cons, List.reverse_cons, List.append_assoc]
    rfl
  have hrecv : ∃ cellB : Cell, H[ad f i]? = some cellB ∧ cellB.vm.isStatics = false ∧ s.vm.findClass (jmi z).1.cls = some cellB.cls := by
    have hvi : jval f i := (jokL_c oks).1 i rfl
    have w := hc3.2
    cases hbf : Nat.beq f 100 with
    | true =>
      rw [hbf] at w
      cases Nat.eq_of_beq_eq_true hbf
      rw [show (jmi z).1.cls = "java/lang/String" from of_decide_eq_true w]
      exact hev.2.2.2.2 s hEV i hvi H locs hS
    | false =>
      rw [hbf] at w
      have w2 := Bool.and_eq_true_iff.mp w
      have f1 : f < 12 := Nat.le_of_ble_eq_true w2.1
      obtain ⟨n0, hn1, hn2⟩ := jws_at ad cA mem (jall_mem (by omega) hvi)
      rw [jcell_obj f1] at hn2
      rw [show (jmi z).1.cls = (jcl f).1 from of_decide_eq_true w2.2]
      exact va_recv hK hP (jcl_get f1) hn2
  rcases Bool.or_eq_true_iff.mp i5 with hl5 | hl5
  · refine jcall_go (rest := rest.map (jcv ad)) (va_runV (As := as'.map (jcv ad)) (C := (jmi z).1.cls) ⟨hx, hb, hml, hown, hts⟩ hMt ⟨callB_of (jNa (jmi z) - 1) hts (jgood m1) rfl rfl rfl (hts _ m2) (hts _ (jhM_in hl5)) ⟨m5, m6, m7⟩ hR, hts _ m4a, hts _ m4b⟩ ⟨jblind hev _ mem, hrecv, jpre hev hEV hK hP hS⟩ rfl hlen2 (hl.1.trans hn) hstack hroom hd ⟨Nat.le_refl _, Nat.le_refl _⟩) hS g1
  · obtain ⟨nn, hnn⟩ := jhN_in (Bool.and_eq_true_iff.mp hl5).1
    have hN := hev.2.2.2.1 s hEV _ hnn
    have e9 : jnm z = (jmi z).1 := by
      unfold jnm jmi
      cases jinfo[z]? <;> rfl
    dsimp only at hN
    rw [e9] at hN
    exact jcall_go (rest := rest.map (jcv ad)) (va_runVN (As := as'.map (jcv ad)) (C := (jmi z).1.cls) ⟨hx, hb, hml, hown, hts⟩ hMt ⟨va_cnB (jNa (jmi z) - 1) hts (jgood m1) rfl rfl rfl hN (hts _ m2) ⟨m5, m6, m7⟩ hR, hts _ m4a, hts _ m4b⟩ ⟨jblind hev _ mem, hrecv, jpre hev hEV hK hP hS⟩ rfl hlen2 (hl.1.trans hn) hstack hroom hd ⟨Nat.le_refl _, Nat.le_refl _⟩) hS g1
theorem js_static {ix : Nat} (C : jC p s m args meth c q D cA ad EV) (hmet : jMet l EV D cA ad d call) (hmm : jMMs call) (hd : decode q.2.1 pc = .ok (.invokestatic ix, npc - pc)) (hc : jchk1 q pc (.invokestatic ix) npc aux = true) (h : jstep (.invokestatic ix) aux L st mem call kf kj = some r) (hL : jokL L) (hs : jokL st) (hM : jokM mem) (hn : L.length = jMl q) (hF : jKF p l e s m args below meth c d D cA ad q r npc kf) : jG p l e s m args below meth c d D cA ad q r pc L st mem := by
  obtain ⟨hx, hb, hml, hown, hts, hK, hr, hlk, hin, hev, hEV⟩ := C
  dsimp only [jchk1] at hc
  have hcs := Bool.and_eq_true_iff.mp hc
  have e1 : npc = pc + 3 := Nat.eq_of_beq_eq_true hcs.1
  subst e1
  rw [Nat.add_sub_cancel_left] at hd
  have hc2 := hcs.2
  split at hc2
  · rename_i f n f' n'
    have k1 := Bool.and_eq_true_iff.mp (Bool.and_eq_true_iff.mp hc2).1
    have k2 := Bool.and_eq_true_iff.mp k1.1
    obtain ⟨a1, a2, a, a3, a4, a5⟩ := jchA_spec k2.2
    obtain ⟨b1, b2, b, b3, b4, b5⟩ := jchA_spec k1.2
    obtain ⟨aT, aN, aF, aP⟩ := a
    obtain ⟨bT, bN, bF, bP⟩ := b
    dsimp only at a4 a5 b4 b5
    subst a4 a5 b4 b5
    change jcopy [f, aN, f', bN] L st mem kf = some r at h
    unfold jcopy at h
    dsimp only at h
    obtain ⟨cc, t1, rfl, h1⟩ := jpI_some h
    obtain ⟨dp, t2, rfl, h2⟩ := jpI_some h1
    obtain ⟨i', t3, rfl, h3⟩ := jpD_some h2
    obtain ⟨sp, t4, rfl, h4⟩ := jpI_some h3
    obtain ⟨i, t5, rfl, h5⟩ := jpD_some h4
    have o1 := jokL_c hs
    have o2 := jokL_c o1.2
    have o3 := jokL_c o2.2
    have o4 := jokL_c o3.2
    have o5 := jokL_c o4.2
    by_cases hq : 0 ≤ sp ∧ 0 ≤ dp ∧ 0 ≤ cc ∧ sp + cc ≤ (aN : Int) ∧ dp + cc ≤ (bN : Int)
    rotate_left
    · rw [if_neg hq] at h5; cases h5
    rw [if_pos hq] at h5
    cases hble : Nat.ble (jsum t5) 8 with
    | false => rw [hble] at h5; cases h5
    | true =>
    rw [hble] at h5
    have hsum : jsum t5 ≤ 8 := Nat.le_of_ble_eq_true hble
    change kf L t5 _ = some r at h5
    obtain ⟨q1, q2, q3, q4, q5⟩ := hq
    have hv : jval f i := o5.1 i rfl
    have hv' : jval f' i' := o3.1 i' rfl
    obtain ⟨n0, hn1, hn2⟩ := jws_at ad cA mem (jall_mem a2 hv)
    obtain ⟨n1, hm1, hm2⟩ := jws_at ad cA mem (jall_mem b2 hv')
    have hset := jws_set ad cA mem (jwC mem f i sp f' i' dp cc) hm1 (fun g j hne => jcell_wC g j hne)
    rw [jcell_arr a1 a3] at hn2
    rw [jcell_arr b1 b3] at hm2 hset
    have csp := j_cl q1 o4.1
    have cdp := j_cl q2 o2.1
    have ccc := j_cl q3 o1.1
    have hrow : (fun j : Nat => Int32.ofInt (jrI (jwC mem f i sp f' i' dp cc) f' i' (j : Int))) = va_cpy (fun j : Nat => Int32.ofInt (jrI mem f i (j : Int))) (fun j : Nat => Int32.ofInt (jrI mem f' i' (j : Int))) (Int32.ofInt sp).toNatClampNeg (Int32.ofInt dp).toNatClampNeg (Int32.ofInt cc).toNatClampNeg := by
      funext j
      unfold va_cpy
      rw [jrI_wC]
      by_cases hj : dp ≤ (j : Int) ∧ (j : Int) < dp + cc
      · rw [if_pos ⟨rfl, rfl, hj.1, hj.2⟩, if_pos ⟨by omega, by omega⟩]
        have e9 : sp + ((j : Int) - dp) = (((Int32.ofInt sp).toNatClampNeg + (j - (Int32.ofInt dp).toNatClampNeg) : Nat) : Int) := by omega
        rw [e9]
      · rw [if_neg (fun w => hj ⟨w.2.2.1, w.2.2.2⟩), if_neg (fun w => hj ⟨by omega, by omega⟩)]
    have hset2 : (jws ad cA mem).set n1 (ad f' i', .inl (cA 0, bN, .inl (va_cpy (fun j : Nat => Int32.ofInt (jrI mem f i (j : Int))) (fun j : Nat => Int32.ofInt (jrI mem f' i' (j : Int))) (Int32.ofInt sp).toNatClampNeg (Int32.ofInt dp).toNatClampNeg (Int32.ofInt cc).toNatClampNeg))) = jws ad cA (jwC mem f i sp f' i' dp cc) := by
      rw [← hset]
      show _ = (jws ad cA mem).set n1 (ad f' i', .inl (cA 0, bN, .inl (fun j : Nat => Int32.ofInt (jrI (jwC mem f i sp f' i' dp cc) f' i' (j : Int)))))
      rw [hrow]
    have g := hF _ _ _ h5 hL o5.2 (jokM_wC hM) hn
    refine fun H locs ls hP hS hl => ?_
    have neg : ∀ {x : Int}, 0 ≤ x → jokI x → ¬ Int32.ofInt x < 0 := fun {x} h0 hx9 w => by
      have w2 : x < 0 := (j_lt hx9 jok0).mp w
      omega
    refine va_copyi hx hb (by rw [hml, ← hn]; exact hl.1.symm) hown (hts _ (jhC_in k2.1)) (hts _ jcp_in.1) (hts _ jcp_in.2.1) (hts _ jcp_in.2.2) hK hP (jws_D hin) hS n0 n1 0 0 hn2 hm2 rfl rfl rfl (neg q1 o4.1) (neg q2 o2.1) (neg q3 o1.1) (by show (Int32.ofInt sp).toNatClampNeg + (Int32.ofInt cc).toNatClampNeg ≤ aN; omega) (by show (Int32.ofInt dp).toNatClampNeg + (Int32.ofInt cc).toNatClampNeg ≤ bN; omega) (fun _ _ => rfl) (Nat.le_add_left 1 d) ?_ hd (fun H1 locs1 hP1 _ hS1 => ?_)
    · rw [jsum_cv, show nativeFrameWords "java/lang/System" "arraycopy" 5 = 7 by decide]
      show jsum t5 + (7 + 11) ≤ 100 * (d + 1)
      omega
    · rw [hset2] at hP1
      exact g H1 locs1 ls hP1 hS1 hl
  rotate_left
  · cases hc2
  rename_i z n rk rf
  have hc3 := Bool.and_eq_true_iff.mp hc2
  have hci := hc3.1
  have hst0 : jSt (jmi z) = true := hc3.2
  change jinvoke [z, n, rk, rf, 0] L st mem call kf = some r at h
  simp only [jchI, Bool.and_eq_true] at hci
  obtain ⟨⟨⟨⟨i1, i2⟩, i3⟩, i4⟩, i5⟩ := hci
  have hz : z < 250 := Nat.le_of_ble_eq_true i1
  cases Nat.eq_of_beq_eq_true i2
  cases Nat.eq_of_beq_eq_true i3
  cases Nat.eq_of_beq_eq_true i4
  obtain ⟨m1, m2, m3, m4, m5, m6, m7, m8⟩ := jM_spec hz
  unfold jinvoke at h
  dsimp only at h
  cases htk : jtake (jNa (jmi z)) st [] with
  | none => rw [htk] at h; cases h
  | some w =>
  obtain ⟨as, rest⟩ := w
  rw [htk] at h
  dsimp only at h
  obtain ⟨hst, hlen⟩ := jtake_some _ _ _ _ _ htk
  simp only [List.reverse_nil, List.nil_append, List.length_nil, Nat.add_zero] at hst hlen
  cases hble : Nat.ble (jsum rest) 8 with
  | false => rw [hble] at h; cases h
  | true =>
  rw [hble] at h
  have hsum : jsum rest ≤ 8 := Nat.le_of_ble_eq_true hble
  simp only [cond_true] at h
  obtain ⟨hbn, hrv⟩ := jrecv_some h
  obtain ⟨v, mem', hcl, hk⟩ := jbnd_some hbn
  subst hst
  have oks : jokL as := fun v hv => hs v (List.mem_append_left _ (List.mem_reverse.mpr hv))
  have okr : jokL rest := fun v hv => hs v (List.mem_append_right _ hv)
  rw [hst0] at m7
  by_cases n1 : z = 246
  · subst n1
    obtain ⟨x, y, e2, e3⟩ := hmm.1 as mem (v, mem') (by rw [hlen]; rfl) hcl
    cases e3
    subst e2
    have ox : jokI x := (jokL_c oks).1
    have oy : jokI y := (jokL_c (jokL_c oks).2).1
    have hw : jhM (jOwn q) ix 246 = true := by
      rcases Bool.or_eq_true_iff.mp i5 with w | w
      · exact w
      · exact absurd (Bool.and_eq_true_iff.mp w).1 (by
          intro w2
          obtain ⟨nn, hnn⟩ := jhN_in w2
          have hall : jlN.all (fun q => !(Nat.beq q.2.2.1 246)) = true := by decide +kernel
          have w3 := List.all_eq_true.mp hall _ hnn
          cases w3)
    have ok : jokV (vI (if x < y then y else x)) := by
      show jokI _
      split
      · exact oy
      · exact ox
    refine js_push (v := vI (if x < y then y else x)) hF hk hL ok okr hM hn (fun H locs ls Q hP hS hl k => ?_)
    have hlk2 := hts _ (jhM_in hw)
    refine va_mmax (x := Int32.ofInt x) (y := Int32.ofInt y) hx hb (by rw [hml, ← hn]; exact hl.1.symm) hown hlk2 (hts _ (m3 rfl)) (hts _ m2) (hts _ m1) (Nat.le_add_left 1 d) (by rw [jsum_cv]; show jsum rest + 13 ≤ 100 * (d + 1); omega) (Nat.le_refl _) (Nat.le_refl _) hd ?_
    have ec : (if Int32.ofInt x < Int32.ofInt y then Int32.ofInt y else Int32.ofInt x) = Int32.ofInt (if x < y then y else x) := by
      have hiff := j_lt ox oy
      by_cases hc9 : x < y
      · rw [if_pos hc9, if_pos (hiff.mpr hc9)]
      · rw [if_neg hc9, if_neg (fun w => hc9 (hiff.mp w))]
    rw [ec]
    exact k
  by_cases n2 : z = 247
  · subst n2
    obtain ⟨x, y, e2, e3⟩ := hmm.2 as mem (v, mem') (by rw [hlen]; rfl) hcl
    cases e3
    subst e2
    have ox : jokI x := (jokL_c oks).1
    have oy : jokI y := (jokL_c (jokL_c oks).2).1
    have hw : jhM (jOwn q) ix 247 = true := by
      rcases Bool.or_eq_true_iff.mp i5 with w | w
      · exact w
      · exact absurd (Bool.and_eq_true_iff.mp w).1 (by
          intro w2
          obtain ⟨nn, hnn⟩ := jhN_in w2
          have hall : jlN.all (fun q => !(Nat.beq q.2.2.1 247)) = true := by decide +kernel
          have w3 := List.all_eq_true.mp hall _ hnn
          cases w3)
    have ok : jokV (vI (if y < x then y else x)) := by
      show jokI _
      split
      · exact oy
      · exact ox
    refine js_push (v := vI (if y < x then y else x)) hF hk hL ok okr hM hn (fun H locs ls Q hP hS hl k => ?_)
    have hlk2 := hts _ (jhM_in hw)
    refine va_mmin (x := Int32.ofInt x) (y := Int32.ofInt y) hx hb (by rw [hml, ← hn]; exact hl.1.symm) hown hlk2 (hts _ (m3 rfl)) (hts _ m2) (hts _ m1) (Nat.le_add_left 1 d) (by rw [jsum_cv]; show jsum rest + 13 ≤ 100 * (d + 1); omega) (Nat.le_refl _) (Nat.le_refl _) hd ?_
    have ec : (if Int32.ofInt y < Int32.ofInt x then Int32.ofInt y else Int32.ofInt x) = Int32.ofInt (if y < x then y else x) := by
      have hiff := j_lt oy ox
      by_cases hc9 : y < x
      · rw [if_pos hc9, if_pos (hiff.mpr hc9)]
      · rw [if_neg hc9, if_neg (fun w => hc9 (hiff.mp w))]
    rw [ec]
    exact k
  have hMt := hmet z as mem v mem' hcl n1 n2 hz oks hM
  refine fun H locs ls hP hS hl => ?_
  have g1 : ∀ (H1 : Heap) (locs1 : List Loc), va_P D vwCl (jws ad cA mem') H1 → va_S (jA ad) s.heap H1 locs1 → jty (jRk (jmi z)) (jRf (jmi z)) v → jokV v → jokM mem' → W p l e (jroom (d + 1)) s m args below meth c H1 locs1 0 0 (MQ below (jQ D cA ad (jRk q) (jRf q) r.1 r.2) args s 0 0 (jA ad)) (F0 m (pc + 3) ls ((jrv ad v).toList ++ rest.map (jcv ad))) := fun H1 locs1 hP1 hS1 hty hokv hokm => by
    have g2 := hF L _ mem' hk hL (jpush_ok hty hokv okr) hokm hn H1 locs1 ls hP1 hS1 hl
    rw [jpush_rv hty] at g2
    exact g2
  have hroom : 2 * (F0 m pc ls ((List.reverse as ++ rest).map (jcv ad))).monitorRoom + ((rest.map (jcv ad)).map fun v => v.category).sum ≤ 8 := lv_room (by rw [jsum_cv]; exact hsum)
  have hR : (jroom d).frames + 1 ≤ (jroom (d + 1)).frames ∧ 8 + (jMl (jmi z) + 11) + (jroom d).locals ≤ (jroom (d + 1)).locals := ⟨Nat.le_refl _, by show 8 + (jMl (jmi z) + 11) + 100 * d ≤ 100 * (d + 1); omega⟩
  have hstack : (as.reverse ++ rest).map (jcv ad) = (as.map (jcv ad)).reverse ++ rest.map (jcv ad) := by
    rw [List.map_append, List.map_reverse]
  have hlen2 : (as.map (jcv ad)).length = jNa (jmi z) := by rw [List.length_map]; exact hlen
  rcases Bool.or_eq_true_iff.mp i5 with hl5 | hl5
  · exact jcall_go (rest := rest.map (jcv ad)) (va_runS (As := as.map (jcv ad)) ⟨hx, hb, hml, hown, hts⟩ hMt ⟨callB_of (jNa (jmi z)) hts (jgood m1) rfl rfl rfl (hts _ m2) (hts _ (jhM_in hl5)) ⟨m5, m6, m7⟩ hR, hts _ (m3 hst0)⟩ ⟨jblind hev _ mem, jpre hev hEV hK hP hS⟩ rfl hlen2 (hl.1.trans hn) hstack hroom hd ⟨Nat.le_refl _, Nat.le_refl _⟩) hS g1
  · obtain ⟨nn, hnn⟩ := jhN_in (Bool.and_eq_true_iff.mp hl5).1
    have hN := hev.2.2.2.1 s hEV _ hnn
    have e9 : jnm z = (jmi z).1 := by
      unfold jnm jmi
      cases jinfo[z]? <;> rfl
    dsimp only at hN
    rw [e9] at hN
    exact jcall_go (rest := rest.map (jcv ad)) (va_runSN (As := as.map (jcv ad)) ⟨hx, hb, hml, hown, hts⟩ hMt ⟨va_cnB (jNa (jmi z)) hts (jgood m1) rfl rfl rfl hN (hts _ m2) ⟨m5, m6, m7⟩ hR, hts _ (m3 hst0), trivial⟩ ⟨jblind hev _ mem, jpre hev hEV hK hP hS⟩ rfl hlen2 (hl.1.trans hn) hstack hroom hd ⟨Nat.le_refl _, Nat.le_refl _⟩) hS g1
end SIMS
