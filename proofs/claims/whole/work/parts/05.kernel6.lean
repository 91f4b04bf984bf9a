theorem qk_u6 : ∀ m, m < 6 → qd_la (qk_u1 (m + 1) (qk_tb (m + 1))) (qk_tb (m + 1)) = true := by decide +kernel
theorem qk_k6 : ∀ m, m < 6 → qd_la (qk_k1 (m + 1) (qk_tb (m + 1))) (qk_tb (m + 1)) = true := by decide +kernel
theorem qk_c6 : ∀ m, m < 6 → qd_la (qk_c1 (m + 1) (qk_tb (m + 1))) (qk_tb (m + 1)) = true := by decide +kernel
theorem qk_i6 : ∀ m, m < 6 → qd_la (qk_i1 (m + 1) (qk_tb (m + 1))) (qk_tb (m + 1)) = true := by decide +kernel
noncomputable def qk_sV (n : Nat) (f : Nat → Nat) : Nat := Nat.mod (qd_sg f n) 4294967296
noncomputable def qk_s1 (n : Nat) (l : List Nat) (e : Nat) : Bool := qk_h1 (qk_sV n) (fun a b => Nat.blt b a) (fun s v => Nat.beq (Nat.mod (Nat.add s v) 4294967296) 0) n l e
noncomputable def qk_fV (n : Nat) (f : Nat → Nat) : Nat := qd_bi (qd_cb f n) (qd_ch f n) 0
noncomputable def qk_f1 (n : Nat) (l : List Nat) (e : Nat) : Bool := qk_h1 (qk_fV n) (fun a b => Nat.beq a (Nat.succ b)) (fun s v => qd_bi (Nat.beq s v) (Nat.blt 0 v) false) n l e
theorem qk_s6 : ∀ m, m < 6 → qd_la (qk_s1 (m + 1) (qk_tb (m + 1))) (qk_tb (m + 1)) = true := by decide +kernel
theorem qk_f6 : ∀ m, m < 6 → qd_la (qk_f1 (m + 1) (qk_tb (m + 1))) (qk_tb (m + 1)) = true := by decide +kernel
/-- the checks of 7 points, cut by a selector -/
noncomputable def qk_se (f : Nat → List Nat → Nat → Bool) (s : Nat → Bool) : Bool := qd_la (fun e => qd_bi (s e) (f 7 qk_t7 e) true) qk_t7
