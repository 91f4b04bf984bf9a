/-! 18: put, code, blocks, size, crosses, rank, partition, finer, interval, uncrossed -/
theorem qp_s : ∀ n, n < 8 → ((3 * nI n &&& 31).toBitVec.smod 32).toNat = 3 * n := by decide +kernel
theorem qp_28 (n : Nat) : 2 ^ (3 * n) = 8 ^ n := by rw [Nat.pow_mul]
theorem qp_8 {n : Nat} (h7 : n ≤ 7) : 8 ^ n ≤ 2097152 := Nat.le_trans (Nat.pow_le_pow_right (by decide) h7) (by decide)
theorem qd_pk_mod (c : Nat) : ∀ n, qd_pk n (qd_g c) = c % 8 ^ n := by
  intro n
  induction n with
  | zero => rw [Nat.pow_zero, Nat.mod_one]; rfl
  | succ n ih => rw [qd_pkS, ih, qd_g_eq, Nat.mod_pow_succ, Nat.mul_comm]
theorem qd_pk_g {c n : Nat} (h : c < 8 ^ n) : qd_pk n (qd_g c) = c := by rw [qd_pk_mod, Nat.mod_eq_of_lt h]
theorem qd_ct_le (p : Nat → Bool) : ∀ n, qd_ct p n ≤ n := by
  intro n
  induction n with
  | zero => exact Nat.le_refl 0
  | succ n ih =>
    rw [qd_ctS]
    by_cases h : p n = true
    · rw [qd_bi_t h]; omega
    · rw [qd_bi_f h]; omega
section
variable {n : Nat} {P : Nat → Nat} {N L E cd pr cn cx fd el ro ot nu tw : Nat → Int32}
theorem qp_dig {post : Int32 → Prop} {u : SX} {c i : Nat} (hc : c < 2 ^ 31) (hi : i < 8) (H : post (nI (qd_g c i))) : wpX_digit post u (nI c) (nI i) := by
  obtain ⟨f, a, b, d⟩ := u
  show post ((nI c >>> ((3 * nI i) &&& 31)) &&& 7)
  have hl : c / 8 ^ i < 2 ^ 31 := Nat.lt_of_le_of_lt (Nat.div_le_self _ _) hc
  rw [pk_shrN hc _ (3 * i) (qp_s i hi), qp_28, pk_andN (Nat.lt_trans hl (by decide)) 3 (by decide)]
  exact H
theorem qp_code {post : Int32 → Prop} {c : Nat} (h7 : n ≤ 7) (hc : c < 2 ^ 31) (H1 : c < 8 ^ n → (∀ i, i < n → qd_g c i ≤ qd_bf (qd_g c) i) → post 1) (H0 : ¬ (c < 8 ^ n ∧ ∀ i, i < n → qd_g c i ≤ qd_bf (qd_g c) i) → post 0) :
    wpX_isCode post (nI n, N, L, E) (nI c) := by
  refine br_f (nI_pos hc) ?_
  have es : nI c >>> ((3 * nI n) &&& 31) = nI (c / 8 ^ n) := by rw [pk_shrN hc _ (3 * n) (qp_s n (by omega)), qp_28]
  have hp : 0 < 8 ^ n := Nat.pow_pos (by decide)
  by_cases hl : c < 8 ^ n
  · refine br_t (by rw [es, Nat.div_eq_of_lt hl]; rfl) ?_
    refine qx_L (fun m i => wX_isCode_21 post (nI c) (nI n) N L E m (nI (qd_bf (qd_g c) i)) (nI i)) (fun i => ∀ j, j < i → qd_g c j ≤ qd_bf (qd_g c) j) n 0 (Nat.zero_le _) (fun j hj => absurd hj (Nat.not_lt_zero j)) ?_ ?_
    · intro m hI
      exact br_t (qx_le (by omega)) (H1 hl hI)
    · intro m i hi hI ih
      have hb : qd_bf (qd_g c) i ≤ i := qd_bf_le
      have h8 := qd_g8 c i
      refine br_f (qx_ge hi (by omega)) (qp_dig hc (by omega) ?_)
      by_cases hle : qd_g c i ≤ qd_bf (qd_g c) i
      · have ih' := ih (lt_s hI hle)
        refine br_t (nI_le hle (by omega)) ?_
        by_cases he : qd_g c i = qd_bf (qd_g c) i
        · rw [qd_bfS, qd_bi_t (by rw [Nat.beq_eq]; exact he)] at ih'
          exact br_t (by rw [he]) (nm_r (nI_1 _) (nm_r (nI_1 i) ih'))
        · rw [qd_bfS, qd_bi_f (by rw [Nat.beq_eq]; exact he)] at ih'
          exact br_f (fun h => he ((nI_eq (by omega) (by omega)).mp h)) (nm_r (nI_1 i) ih')
      · exact br_f (nI_ge (by omega) (by omega)) (H0 (fun h => hle (h.2 i hi)))
  · refine br_f (fun h => hl ?_) (H0 (fun h => hl h.1))
    rw [es] at h
    have hz := (nI_eq (Nat.lt_of_le_of_lt (Nat.div_le_self _ _) hc) (by decide)).mp (h.trans nI_0.symm)
    rcases Nat.div_eq_zero_iff.mp hz with h1 | h1
    · omega
    · exact h1
theorem qp_Y {post : Int32 → SY → Prop} {e : Nat} {x : Int32} (R : qr_R n P N E cd pr cn cx el) (he : e < 2)
    (H1 : ∀ q, q < qd_N n → nI (qd_t n q) = x → post (nI (qd_b n (qd_t n q))) (nI n, nI (qd_N n), cd, pr, cn, cx, fd, upd el e (nI q), ro, ot, nu, tw))
    (H0 : (∀ q, q < qd_N n → ¬ nI (qd_t n q) = x) → post (-1000000) (nI n, nI (qd_N n), cd, pr, cn, cx, fd, el, ro, ot, nu, tw)) : wpY_put post (nI n, nI (qd_N n), cd, pr, cn, cx, fd, el, ro, ot, nu, tw) (nI e) x := by
  have hM := qf_N1 R.1 R.2.1
  unfold wpY_put
  refine qy_badF he (br_t rfl ?_)
  refine qx_L (fun m k => wY_put_13 post (nI e) x (nI n) (nI (qd_N n)) cd pr cn cx fd el ro ot nu tw m (nI k)) (fun k => ∀ q, q < k → ¬ nI (qd_t n q) = x) (qd_N n) 0 (Nat.zero_le _) (fun j hj => absurd hj (Nat.not_lt_zero j)) ?_ ?_
  · intro m hI
    exact br_t (nI_le (Nat.le_refl _) (by omega)) (H0 hI)
  · intro m k hk hI ih
    refine br_f (nI_ge hk (by omega)) ⟨qy_i877 (by omega), qx_bc ((qx_c cd (by omega)).trans (R.2.2.2.2.2.1.1 k hk)) rfl ?_ ?_⟩
    · intro e1
      refine ⟨vp_in_nI he (by omega), nm_r (congrArg (fun j => upd el j (nI k)) (nI_clamp (by omega))) ⟨qy_i877 (by omega), ?_⟩⟩
      rw [qu_cn R hk]
      exact H1 k hk e1
    · intro e1
      exact nm_r (nI_1 k) (ih (lt_s hI e1))
theorem qp_X {post : Int32 → SX → Prop} {e c : Nat} (R : qr_R n P N E cd pr cn cx el) (he : e < 2) (hc : c < 2 ^ 31)
    (H1 : ∀ N' s q, qm_H n P E cd pr cn cx el e N' s q → c = qd_t n q → post (nI (qd_b n (qd_t n q))) (nI n, N', s, E))
    (H0 : (∀ q, q < qd_N n → ¬ qd_t n q = c) → post (-1000000) (nI n, N, L, E)) : wpX_put post (nI n, N, L, E) (nI e) (nI c) := by
  have a1 := R.1
  have a7 := R.2.1
  unfold wpX_put
  refine qx_elT he (br_f (by decide) (qp_code a7 hc (fun hl hg => br_f (by decide) ?_) (fun hn => br_t rfl (H0 (fun q hq e1 => hn ?_)))))
  · refine pk_loop (fun m i (s : Nat → Int32) => wX_put_21 post (nI e) (nI c) (nI n) m (nI i) N s E) (fun i s => ∀ j, j < i → s j = nI (qd_g c j)) n 0 L (Nat.zero_le _) (fun j hj => absurd hj (Nat.not_lt_zero j)) ?_ ?_
    · intro m s hs
      refine br_t (qx_le (by omega)) (qm_lab R he (fun N' q h => H1 N' s q h ?_))
      have hin := qd_T_in a7 hg
      rw [qd_pk_g hl] at hin
      obtain ⟨q', hq', e1⟩ := qd_in_t hin
      have eq : q = q' := qf_minj a1 a7 h.1 hq' (by rw [qu_m hs h.2.1, e1])
      rw [eq, e1]
    · intro m i s hi hs ih
      refine br_f (qx_ge hi (by omega)) (qp_dig hc (by omega) ⟨qx_i7 (by omega), ?_⟩)
      refine nm_r (congrArg (fun j => upd s j _) (nI_clamp (by omega))) (nm_r (nI_1 i) (ih _ (fun j hj => ?_)))
      by_cases ej : j = i
      · rw [ej, pk_us]
      · rw [pk_un ej]; exact hs j (by omega)
  · rw [← e1]
    exact ⟨qf_lt a1 a7 hq, fun i hi => qf_rg a1 a7 hq hi⟩
end
theorem i_vc_put {k : Nat} {u : SX} {v : SY} (I : i_Rel k u v) (hk : k + 4 ≤ 2049) (v1 : Int32) (v2 : Int32) : wpX_put (fun r u' => wpY_put (fun r' v' => r' = r ∧ i_Rel (k + 4) u' v') v v1 v2) u v1 v2 := by
  obtain ⟨n, P, N, L, E, cd, pr, cn, cx, fd, el, ro, ot, nu, tw, rfl, rfl, R⟩ := I
  have a1 := R.1
  have a7 := R.2.1
  have h8 := qp_8 a7
  rcases qr_el v1 with ⟨e, he, rfl⟩ | ⟨h0, h1⟩
  · by_cases hneg : v2 < 0
    · unfold wpX_put
      refine qx_elT he (br_f (by decide) ?_)
      refine br_t hneg (br_t rfl ?_)
      refine qp_Y R he (fun q hq e1 => ?_) (fun _ => ⟨rfl, qr_mk R⟩)
      have := qf_lt a1 a7 hq
      rw [← e1] at hneg
      exact absurd hneg (nI_pos (by omega))
    · obtain ⟨c, hc, rfl⟩ := nI_of hneg
      refine qp_X R he hc (fun N' s q h ec => ?_) (fun hno => ?_)
      · refine qp_Y R he (fun q' hq' e1 => ?_) (fun hn => absurd (by rw [ec]) (hn q h.1))
        have l1 := qf_lt a1 a7 hq'
        have e2 : qd_t n q' = qd_t n q := by rw [← ec]; exact (nI_eq (by omega) hc).mp e1
        have e3 := qf_inj a1 a7 hq' h.1 e2
        subst e3
        exact ⟨rfl, qr_mk (h.2.2 _ pk_us (fun j hj => pk_un hj))⟩
      · refine qp_Y R he (fun q' hq' e1 => ?_) (fun hn => ⟨rfl, qr_mk R⟩)
        have l1 := qf_lt a1 a7 hq'
        exact absurd ((nI_eq (by omega) hc).mp e1) (hno q' hq')
  · unfold wpX_put
    refine qx_elF h0 h1 (br_t rfl ?_)
    show wpY_put _ _ _ _
    unfold wpY_put
    exact qy_badT h0 h1 (br_f (by decide) ⟨rfl, qr_mk R⟩)
theorem i_vc_code {k : Nat} {u : SX} {v : SY} (I : i_Rel k u v) (hk : k + 4 ≤ 2049) (v1 : Int32) : wpX_code (fun r => wpY_code (fun r' => r' = r ∧ i_Rel (k + 4) u v) v v1) u v1 := by
  obtain ⟨n, P, N, L, E, cd, pr, cn, cx, fd, el, ro, ot, nu, tw, rfl, rfl, R⟩ := I
  have a1 := R.1
  have a7 := R.2.1
  have hM := qf_N1 a1 a7
  generalize hv : i_Rel (k + 4) (nI n, N, L, E) (nI n, nI (qd_N n), cd, pr, cn, cx, fd, el, ro, ot, nu, tw) = rel
  have hrel : rel := by rw [← hv]; exact qr_mk R
  rcases qr_el v1 with ⟨e, he, rfl⟩ | ⟨h0, h1⟩
  · have hPe := R.2.2.1 e he
    have hy : ∀ r, r = nI (qd_t n (P e)) → wpY_code (fun r' => r' = r ∧ rel) (nI n, nI (qd_N n), cd, pr, cn, cx, fd, el, ro, ot, nu, tw) (nI e) := by
      intro r er
      unfold wpY_code
      refine qy_badF he (br_t rfl ⟨vp_in_nI he (by omega), ?_⟩)
      rw [qr_elc R he, qx_c cd (by omega), R.2.2.2.2.2.1.1 _ hPe]
      exact ⟨qy_i877 (by omega), er.symm, hrel⟩
    unfold wpX_code
    refine qx_elT he (br_f (by decide) ?_)
    refine qx_L (fun m i => wX_code_15 (fun r => wpY_code (fun r' => r' = r ∧ rel) (nI n, nI (qd_N n), cd, pr, cn, cx, fd, el, ro, ot, nu, tw) (nI e)) (nI e) (nI n) N L E m (nI (qd_pk i (qd_g (qd_t n (P e))))) (nI i)) (fun _ => True) n 0 (Nat.zero_le _) trivial ?_ ?_
    · intro m _
      exact br_t (qx_le (by omega)) (hy _ (by rw [qf_pk a1 a7 hPe]))
    · intro m i hi _ ih
      have h8 := qd_g8 (qd_t n (P e)) i
      have hb : qd_g (qd_t n (P e)) i * 2 ^ (3 * i) < 2 ^ 32 := by
        rw [qp_28]
        have := qp_8 (n := i) (by omega)
        exact Nat.lt_of_le_of_lt (Nat.mul_le_mul (Nat.le_of_lt h8) this) (by decide)
      refine br_f (qx_ge hi (by omega)) (qx_nu a7 R.2.2.2.1 he hi (nm_r ?_ (nm_r (nI_1 i) (ih trivial))))
      rw [pk_shlN _ (3 * i) (qp_s i (by omega)) hb, nI_add, qp_28]
      rfl
  · unfold wpX_code
    refine qx_elF h0 h1 (br_t rfl ?_)
    show wpY_code _ _ _
    unfold wpY_code
    exact qy_badT h0 h1 (br_f (by decide) ⟨rfl, hrel⟩)
theorem i_vc_blocks {k : Nat} {u : SX} {v : SY} (I : i_Rel k u v) (hk : k + 4 ≤ 2049) (v1 : Int32) : wpX_blocks (fun r => wpY_blocks (fun r' => r' = r ∧ i_Rel (k + 4) u v) v v1) u v1 := by
  obtain ⟨n, P, N, L, E, cd, pr, cn, cx, fd, el, ro, ot, nu, tw, rfl, rfl, R⟩ := I
  have a1 := R.1
  have a7 := R.2.1
  have hM := qf_N1 a1 a7
  rcases qr_el v1 with ⟨e, he, rfl⟩ | ⟨h0, h1⟩
  · have hPe := R.2.2.1 e he
    unfold wpX_blocks
    refine qx_elT he (br_f (by decide) (qx_bb a7 R.2.2.2.1 he (Nat.le_refl n) ?_))
    show wpY_blocks _ _ _
    unfold wpY_blocks
    refine qy_badF he (br_t rfl ⟨vp_in_nI he (by omega), ?_⟩)
    rw [qr_elc R he, qu_cn R hPe]
    exact ⟨qy_i877 (by omega), rfl, qr_mk R⟩
  · unfold wpX_blocks
    refine qx_elF h0 h1 (br_t rfl ?_)
    show wpY_blocks _ _ _
    unfold wpY_blocks
    exact qy_badT h0 h1 (br_f (by decide) ⟨rfl, qr_mk R⟩)
section
variable {n : Nat} {P : Nat → Nat} {N L E cd pr cn cx fd el ro ot nu tw : Nat → Int32}
theorem qs_Y {post : Int32 → SY → Prop} {e i : Nat} (R : qr_R n P N E cd pr cn cx el) (he : e < 2) (hi : i < n)
    (H : ∀ ro', post (nI (qd_pb n (qd_t n (P e)) (qd_g (qd_t n (P e)) i))) (nI n, nI (qd_N n), cd, pr, cn, cx, fd, el, ro', ot, nu, tw)) : wpY_size post (nI n, nI (qd_N n), cd, pr, cn, cx, fd, el, ro, ot, nu, tw) (nI e) (nI i) := by
  have a7 := R.2.1
  unfold wpY_size
  refine qy_badF he (br_t rfl (qy_ptF a7 hi (br_t rfl ⟨vp_in_nI he (by omega), ?_⟩)))
  refine qr_take R he (qr_elc R he) (fun r1 hr1 => ?_)
  refine qx_L (fun m k => wY_size_34 post (nI i) (nI n) (nI (qd_N n)) cd pr cn cx fd el r1 ot nu tw m (nI (qd_pb k (qd_t n (P e)) (qd_g (qd_t n (P e)) i))) (nI k)) (fun _ => True) n 0 (Nat.zero_le _) trivial ?_ ?_
  · intro m _
    exact br_t (qx_le (by omega)) (H r1)
  · intro m k hk _ ih
    have ih' := ih trivial
    have eS : qd_pb (k + 1) (qd_t n (P e)) (qd_g (qd_t n (P e)) i) = qd_bi (Nat.beq (qd_g (qd_t n (P e)) k) (qd_g (qd_t n (P e)) i)) (qd_pb k (qd_t n (P e)) (qd_g (qd_t n (P e)) i) + 1) (qd_pb k (qd_t n (P e)) (qd_g (qd_t n (P e)) i)) := rfl
    refine br_f (qx_ge hk (by omega)) ⟨qx_i7 (by omega), qx_i7 (by omega), qx_bc ((qx_c r1 (by omega)).trans (hr1 k hk)) ((qx_c r1 (by omega)).trans (hr1 i hi)) ?_ ?_⟩
    · intro e1
      rw [eS, qd_bi_t (by rw [Nat.beq_eq]; exact (qx_eq8 (qd_g8 _ _) (qd_g8 _ _)).mp e1)] at ih'
      exact nm_r (nI_1 _) (nm_r (nI_1 k) ih')
    · intro e1
      rw [eS, qd_bi_f (by rw [Nat.beq_eq]; exact fun h => e1 (by rw [h]))] at ih'
      exact nm_r (nI_1 k) ih'
end
theorem i_vc_size {k : Nat} {u : SX} {v : SY} (I : i_Rel k u v) (hk : k + 4 ≤ 2049) (v1 : Int32) (v2 : Int32) : wpX_size (fun r => wpY_size (fun r' v' => r' = r ∧ i_Rel (k + 4) u v') v v1 v2) u v1 v2 := by
  obtain ⟨n, P, N, L, E, cd, pr, cn, cx, fd, el, ro, ot, nu, tw, rfl, rfl, R⟩ := I
  have a1 := R.1
  have a7 := R.2.1
  unfold wpX_size
  rcases qr_el v1 with ⟨e, he, rfl⟩ | ⟨h0, h1⟩
  · refine qx_elT he (br_f (by decide) ?_)
    rcases qr_pt a7 v2 with ⟨i, hi, rfl⟩ | hi
    · refine qx_ptT a7 hi (br_f (by decide) (qx_nu a7 R.2.2.2.1 he hi (qx_pi a7 R.2.2.2.1 he (qd_g8 _ _) ?_)))
      exact qs_Y R he hi (fun ro' => ⟨rfl, qr_mk R⟩)
    · refine qx_ptF hi (br_t rfl ?_)
      show wpY_size _ _ _ _
      unfold wpY_size
      exact qy_badF he (br_t rfl (qy_ptT hi (br_f (by decide) ⟨rfl, qr_mk R⟩)))
  · refine qx_elF h0 h1 (br_t rfl ?_)
    show wpY_size _ _ _ _
    unfold wpY_size
    exact qy_badT h0 h1 (br_f (by decide) ⟨rfl, qr_mk R⟩)
theorem i_vc_crosses {k : Nat} {u : SX} {v : SY} (I : i_Rel k u v) (hk : k + 4 ≤ 2049) (v1 : Int32) : wpX_crosses (fun r u' => wpY_crosses (fun r' => r' = r ∧ i_Rel (k + 4) u' v) v v1) u v1 := by
  obtain ⟨n, P, N, L, E, cd, pr, cn, cx, fd, el, ro, ot, nu, tw, rfl, rfl, R⟩ := I
  have a1 := R.1
  have a7 := R.2.1
  have hM := qf_N1 a1 a7
  unfold wpX_crosses
  rcases qr_el v1 with ⟨e, he, rfl⟩ | ⟨h0, h1⟩
  · have hPe := R.2.2.1 e he
    refine qx_elT he (br_f (by decide) (qx_cross a7 R.2.2.2.1 he (fun L' hx => br_f (by decide) ?_) (fun L' hx => br_t rfl ?_)))
    · show wpY_crosses _ _ _
      unfold wpY_crosses
      refine qy_badF he (br_t rfl ⟨vp_in_nI he (by omega), ?_⟩)
      rw [qr_elc R he, qu_cx R hPe, qx_bt hx]
      exact ⟨qy_i877 (by omega), br_f (by decide) ⟨rfl, qr_mk R⟩⟩
    · show wpY_crosses _ _ _
      unfold wpY_crosses
      refine qy_badF he (br_t rfl ⟨vp_in_nI he (by omega), ?_⟩)
      rw [qr_elc R he, qu_cx R hPe, qx_bf hx]
      exact ⟨qy_i877 (by omega), br_t rfl ⟨rfl, qr_mk R⟩⟩
  · refine qx_elF h0 h1 (br_t rfl ?_)
    show wpY_crosses _ _ _
    unfold wpY_crosses
    exact qy_badT h0 h1 (br_f (by decide) ⟨rfl, qr_mk R⟩)
theorem qn_sub {n i : Nat} (hi : i < n) : nI n - 1 - nI i = nI (n - 1 - i) := by
  have e : nI n - 1 = nI (n - 1) := by
    have := nI_pred (n - 1)
    rw [Nat.sub_add_cancel (by omega)] at this
    exact this
  rw [e, pk_sub (by omega)]
theorem i_vc_rank {k : Nat} {u : SX} {v : SY} (I : i_Rel k u v) (hk : k + 4 ≤ 2049) (v1 : Int32) : wpX_rank (fun r => wpY_rank (fun r' => r' = r ∧ i_Rel (k + 4) u v) v v1) u v1 := by
  obtain ⟨n, P, N, L, E, cd, pr, cn, cx, fd, el, ro, ot, nu, tw, rfl, rfl, R⟩ := I
  have a1 := R.1
  have a7 := R.2.1
  have hM := qf_N1 a1 a7
  generalize hv : i_Rel (k + 4) (nI n, N, L, E) (nI n, nI (qd_N n), cd, pr, cn, cx, fd, el, ro, ot, nu, tw) = rel
  have hrel : rel := by rw [← hv]; exact qr_mk R
  rcases qr_el v1 with ⟨e, he, rfl⟩ | ⟨h0, h1⟩
  · have hPe := R.2.2.1 e he
    have hy : ∀ r, r = nI (P e) → wpY_rank (fun r' => r' = r ∧ rel) (nI n, nI (qd_N n), cd, pr, cn, cx, fd, el, ro, ot, nu, tw) (nI e) := by
      intro r er
      unfold wpY_rank
      refine qy_badF he (br_t rfl ⟨vp_in_nI he (by omega), ?_⟩)
      rw [qr_elc R he]
      exact ⟨er.symm, hrel⟩
    unfold wpX_rank
    refine qx_elT he (br_f (by decide) ?_)
    refine qx_L (fun m i => wX_rank_15 (fun r => wpY_rank (fun r' => r' = r ∧ rel) (nI n, nI (qd_N n), cd, pr, cn, cx, fd, el, ro, ot, nu, tw) (nI e)) (nI e) (nI n) N L E m (nI (qd_sm (fun i => Nat.mul (qd_g (qd_t n (P e)) i) (qd_eg (Nat.sub (Nat.sub n 1) i) (qd_bf (qd_g (qd_t n (P e))) i))) i)) (nI i)) (fun _ => True) n 0 (Nat.zero_le _) trivial ?_ ?_
    · intro m _
      refine br_t (qx_le (by omega)) (hy _ ?_)
      exact congrArg nI (qf_rk a1 a7 hPe)
    · intro m i hi _ ih
      have hb : qd_bf (qd_g (qd_t n (P e))) i ≤ i := qd_bf_le
      refine br_f (qx_ge hi (by omega)) (qx_bb a7 R.2.2.2.1 he (by omega) (qx_nu a7 R.2.2.2.1 he hi (qx_en (r := n - 1 - i) R.2.2.2.2.1 (qn_sub hi) (by omega) (nm_r ?_ (nm_r (nI_1 i) (ih trivial))))))
      rw [pk_mul, nI_add]
      rfl
  · unfold wpX_rank
    refine qx_elF h0 h1 (br_t rfl ?_)
    show wpY_rank _ _ _
    unfold wpY_rank
    exact qy_badT h0 h1 (br_f (by decide) ⟨rfl, hrel⟩)
theorem i_vc_finer {k : Nat} {u : SX} {v : SY} (I : i_Rel k u v) (hk : k + 4 ≤ 2049) : wpX_finer (fun r => wpY_finer (fun r' => r' = r ∧ i_Rel (k + 4) u v) v) u := by
  obtain ⟨n, P, N, L, E, cd, pr, cn, cx, fd, el, ro, ot, nu, tw, rfl, rfl, R⟩ := I
  have a1 := R.1
  have a7 := R.2.1
  have hF : qx_F n (fun e => qd_t n (P e)) ↔ qd_F n (P 0) (P 1) := (qf_F a7).symm
  unfold wpX_finer
  refine qx_fin a7 R.2.2.2.1 (fun h => br_f (by decide) ?_) (fun h => br_t rfl ?_)
  · show wpY_finer _ _
    unfold wpY_finer
    dsimp only
    rw [R.2.2.2.2.2.2 0 (by omega), R.2.2.2.2.2.2 1 (by omega)]
    exact qu_fin R (R.2.2.1 0 (by omega)) (R.2.2.1 1 (by omega)) (fun _ => br_f (by decide) ⟨rfl, qr_mk R⟩) (fun hn => absurd (hF.mp h) hn)
  · show wpY_finer _ _
    unfold wpY_finer
    dsimp only
    rw [R.2.2.2.2.2.2 0 (by omega), R.2.2.2.2.2.2 1 (by omega)]
    exact qu_fin R (R.2.2.1 0 (by omega)) (R.2.2.1 1 (by omega)) (fun hf => absurd (hF.mpr hf) h) (fun _ => br_t rfl ⟨rfl, qr_mk R⟩)
