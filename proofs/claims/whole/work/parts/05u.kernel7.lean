theorem qk_u7 : qd_la (qk_u1 7 qk_t7) qk_t7 = true := by decide +kernel
theorem qk_k7 : qd_la (qk_k1 7 qk_t7) qk_t7 = true := by decide +kernel
theorem qk_c7 : qd_la (qk_c1 7 qk_t7) qk_t7 = true := by decide +kernel
