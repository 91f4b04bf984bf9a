/-! 18w: interval by places -/
section
variable {n k : Nat}
theorem qf_i {q : Nat} (h1 : 1 ≤ n) (h7 : n ≤ 7) (hk : k < qd_N n) (hq : q < qd_N n) (hf : qd_F n k q) :
    qd_sm (fun r => qd_bi (qd_bi (qd_Fb n k r) (qd_Fb n r q) false) 1 0) (qd_N n) = qd_iv (qd_pt n (qd_t n k) (qd_t n q)) n := by
  have h8 : n < 8 := by omega
  have h := qk_i1_to (qf_ck qk_i6 qk_i7 h1 h7 hk) _ (qf_en h1 h7 hq) (by rw [(qd_en_all h8).1, (qd_en_all h8).1]; exact hf)
  rw [← qf_tb h1 h7, qd_cs_sm, (qd_en_all h8).2.2.2, (qd_en_all h8).2.2.2] at h
  rw [← h]
  refine qd_smC (fun b hb => ?_)
  show _ = qd_bi (qd_bi (Nat.beq (Nat.land (qd_eM (qd_en n (qd_t n k))) (qd_eM (qd_en n (qd_t n b)))) (qd_eM (qd_en n (qd_t n k)))) (Nat.beq (Nat.land (qd_eM (qd_en n (qd_t n b))) (qd_eM (qd_en n (qd_t n q)))) (qd_eM (qd_en n (qd_t n b)))) false) 1 0
  rw [(qd_en_all h8).1, (qd_en_all h8).1, (qd_en_all h8).1]
  rfl
end
