/-! Copies of all that is said; images -/
theorem e_Ri_copy (d : Nat) (a b : Int) (mem : jMem) (hne : b ≠ a) : Ri_copy (d + 1) a b mem = jbo (jrI mem 4 b 0) (some (vU, jwC (jwC (jwC (jwC (jwC (jwC (jwC (jwC (jwC (jwC (jwI (jwI (jwI (jwI (jwI (jwI (jwI mem 4 a 0 (jrI mem 4 b 0)) 4 a 1 (jrI mem 4 b 1)) 4 a 2 (jrI mem 4 b 2)) 4 a 3 (jrI mem 4 b 3)) 4 a 4 (jrI mem 4 b 4)) 4 a 5 (jrI mem 4 b 5)) 4 a 6 (jrI mem 4 b 6)) 21 b 0 21 a 0 12) 22 b 0 22 a 0 4) 23 b 0 23 a 0 6) 24 b 0 24 a 0 6) 25 b 0 25 a 0 6) 26 b 0 26 a 0 6) 27 b 0 27 a 0 4) 28 b 0 28 a 0 4) 29 b 0 29 a 0 4) 30 b 0 30 a 0 4)) := by
  rw [q_Ri_copy]
  simp only [jrI_wi hne]
