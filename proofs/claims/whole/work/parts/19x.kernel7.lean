theorem qk_f7_0 : qk_se qk_f1 (fun e => Nat.beq (qd_eB e) 7) = true := by decide +kernel
theorem qk_f7_1 : qk_se qk_f1 (fun e => Nat.beq (qd_eB e) 6) = true := by decide +kernel
theorem qk_f7_2 : qk_se qk_f1 (fun e => Nat.beq (qd_eB e) 5) = true := by decide +kernel
theorem qk_f7_3 : qk_se qk_f1 (fun e => Nat.blt (qd_eB e) 5) = true := by decide +kernel
theorem qk_f7 : qd_la (qk_f1 7 qk_t7) qk_t7 = true := by
  refine qd_la_iff.mpr (fun e he => ?_)
  have h0 := qd_biImp.mp (qd_la_iff.mp qk_f7_0 e he)
  have h1 := qd_biImp.mp (qd_la_iff.mp qk_f7_1 e he)
  have h2 := qd_biImp.mp (qd_la_iff.mp qk_f7_2 e he)
  have h3 := qd_biImp.mp (qd_la_iff.mp qk_f7_3 e he)
  simp only [Nat.beq_eq, Nat.blt_eq] at h0 h1 h2 h3
  have hb : qd_eB e < 8 := Nat.mod_lt _ (by decide)
  rcases (show qd_eB e = 7 ∨ qd_eB e = 6 ∨ qd_eB e = 5 ∨ qd_eB e < 5 by omega) with h | h | h | h
  · exact h0 h
  · exact h1 h
  · exact h2 h
  · exact h3 h
