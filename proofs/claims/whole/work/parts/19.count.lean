/-! 19: partition, interval, uncrossed -/
theorem qt_N : ∀ m, m < 7 → Nat.beq (qd_eg (m + 1) 0) (qd_N (m + 1)) = true := by decide +kernel
theorem qt_eg : ∀ r, r < 8 → ∀ u, u < 8 → u + r ≤ 7 → qd_eg r u < 2 ^ 31 := by decide +kernel
theorem qt_egN {n : Nat} (h1 : 1 ≤ n) (h7 : n ≤ 7) : qd_eg n 0 = qd_N n := by
  obtain ⟨m, hm, rfl⟩ := qf_s h1 h7
  have := qt_N m hm
  rw [Nat.beq_eq] at this
  exact this
theorem qd_piS (each u : Nat) (s : Nat × Nat) : qd_pi each (u + 1) s = qd_bi (Nat.ble each (qd_pi each u s).1) ((qd_pi each u s).1 - each, (qd_pi each u s).2 + 1) (qd_pi each u s) := rfl
theorem qd_pi_le (each : Nat) (s : Nat × Nat) : ∀ u, (qd_pi each u s).1 ≤ s.1 ∧ (qd_pi each u s).2 ≤ s.2 + u := by
  intro u
  induction u with
  | zero => exact ⟨Nat.le_refl _, Nat.le_refl _⟩
  | succ u ih =>
    rw [qd_piS]
    by_cases h : Nat.ble each (qd_pi each u s).1 = true
    · rw [qd_bi_t h]
      exact ⟨Nat.le_trans (Nat.sub_le _ _) ih.1, by show (qd_pi each u s).2 + 1 ≤ _; omega⟩
    · rw [qd_bi_f h]
      exact ⟨ih.1, by omega⟩
section
variable {n : Nat} {P : Nat → Nat} {N L E cd pr cn cx fd el ro ot nu tw : Nat → Int32}
theorem qt_in {post : Int32 → Prop} {J : Int32 → Int32 → Int32 → Int32 → Prop} {sum us i each left : Nat} (hi : i < 7) (hu : us ≤ i) (he : each < 2 ^ 31) (hl : left < 2 ^ 31)
    (H : J (nI (sum + (qd_pi each us (left, 0)).2 * 8 ^ i)) (nI (qd_bi (Nat.beq (qd_pi each us (left, 0)).2 us) (us + 1) us)) (nI (qd_pi each us (left, 0)).1) (nI (i + 1))) :
    ∃ m, wX_partition_61 post J (nI sum) (nI us) (nI i) (nI each) (nI n) N L E m (nI left) 0 (nI 0) := by
  have hP := fun u => qd_pi_le each (left, 0) u
  refine qx_L (fun m b => wX_partition_61 post J (nI sum) (nI us) (nI i) (nI each) (nI n) N L E m (nI (qd_pi each b (left, 0)).1) (nI (qd_pi each b (left, 0)).2) (nI b)) (fun _ => True) us 0 (Nat.zero_le _) trivial ?_ ?_
  · intro m _
    have h2 := (hP us).2
    generalize hr : qd_pi each us (left, 0) = r at *
    have h2' : r.2 ≤ us := by simpa using h2
    have hb : r.2 * 2 ^ (3 * i) < 2 ^ 32 := by
      rw [qp_28]
      have := qp_8 (n := i) (by omega)
      exact Nat.lt_of_le_of_lt (Nat.mul_le_mul (show r.2 ≤ 7 by omega) this) (by decide)
    have fin : ∀ x : Nat, J (nI (sum + r.2 * 8 ^ i)) (nI x) (nI r.1) (nI (i + 1)) → wX_partition_99 post J (nI sum) (nI x) (nI r.1) (nI i) (nI r.2) (nI n) N L E := by
      intro x hx
      refine nm_r ?_ (nm_r (nI_1 i) hx)
      rw [pk_shlN _ (3 * i) (qp_s i (by omega)) hb, nI_add, qp_28]
    refine br_t (qx_le (by omega)) ?_
    by_cases h : r.2 = us
    · rw [qd_bi_t (by rw [Nat.beq_eq]; exact h)] at H
      exact br_t (by rw [h]) (nm_r (nI_1 us) (fin _ H))
    · rw [qd_bi_f (by rw [Nat.beq_eq]; exact h)] at H
      exact br_f (fun h' => h ((nI_eq (by omega) (by omega)).mp h')) (fin _ H)
  · intro m b hb _ ih
    have ih' := ih trivial
    have h1 := (hP b).1
    have h1' : (qd_pi each b (left, 0)).1 ≤ left := h1
    rw [qd_piS] at ih'
    refine br_f (qx_ge hb (by omega)) ?_
    by_cases h : each ≤ (qd_pi each b (left, 0)).1
    · rw [qd_bi_t (by rw [Nat.ble_eq]; exact h)] at ih'
      exact br_f (nI_nlt h (by omega)) (nm_r (pk_sub h) (nm_r (nI_1 _) (nm_r (nI_1 b) ih')))
    · rw [qd_bi_f (by rw [Nat.ble_eq]; exact h)] at ih'
      exact br_t (nI_lt (by omega) he) (nm_r (nI_1 b) ih')
theorem qd_poS (n k i : Nat) : qd_po n k (i + 1) = ((qd_po n k i).1 + (qd_pi (qd_eg (n - 1 - i) (qd_po n k i).2.1) (qd_po n k i).2.1 ((qd_po n k i).2.2, 0)).2 * 8 ^ i,
    qd_bi (Nat.beq (qd_pi (qd_eg (n - 1 - i) (qd_po n k i).2.1) (qd_po n k i).2.1 ((qd_po n k i).2.2, 0)).2 (qd_po n k i).2.1) ((qd_po n k i).2.1 + 1) (qd_po n k i).2.1,
    (qd_pi (qd_eg (n - 1 - i) (qd_po n k i).2.1) (qd_po n k i).2.1 ((qd_po n k i).2.2, 0)).1) := rfl
theorem qd_po_le (n k : Nat) : ∀ i, (qd_po n k i).2.1 ≤ i ∧ (qd_po n k i).2.2 ≤ k := by
  intro i
  induction i with
  | zero => exact ⟨Nat.le_refl 0, Nat.le_refl k⟩
  | succ i ih =>
    rw [qd_poS]
    generalize qd_po n k i = s at *
    have hp := qd_pi_le (qd_eg (n - 1 - i) s.2.1) (s.2.2, 0) s.2.1
    generalize qd_pi (qd_eg (n - 1 - i) s.2.1) s.2.1 (s.2.2, 0) = r at *
    have h1 : r.1 ≤ s.2.2 := hp.1
    refine ⟨?_, by show r.1 ≤ k; omega⟩
    show qd_bi (Nat.beq r.2 s.2.1) (s.2.1 + 1) s.2.1 ≤ i + 1
    by_cases h : Nat.beq r.2 s.2.1 = true
    · rw [qd_bi_t h]; omega
    · rw [qd_bi_f h]; omega
theorem qt_X {post : Int32 → Prop} {k : Nat} (R : qr_R n P N E cd pr cn cx el) (hk : k < qd_N n) (H : post (nI (qd_t n k))) : wpX_partition post (nI n, N, L, E) (nI k) := by
  have a1 := R.1
  have a7 := R.2.1
  have hM := qf_N1 a1 a7
  refine br_f (nI_pos (by omega)) (qx_en (u := 0) (r := n) R.2.2.2.2.1 rfl (by omega) ?_)
  rw [qt_egN a1 a7]
  refine br_t (nI_lt hk (by omega)) ?_
  refine qx_L (fun m i => wX_partition_30 post (nI n) N L E m (nI (qd_po n k i).1) (nI (qd_po n k i).2.1) (nI (qd_po n k i).2.2) (nI i)) (fun _ => True) n 0 (Nat.zero_le _) trivial ?_ ?_
  · intro m _
    refine br_t (qx_le (by omega)) ?_
    rw [qf_po a1 a7 hk]
    exact H
  · intro m i hi _ ih
    have hp := qd_po_le n k i
    have ih' := ih trivial
    rw [qd_poS] at ih'
    refine br_f (qx_ge hi (by omega)) (qx_en (r := n - 1 - i) R.2.2.2.2.1 (qn_sub hi) (by omega) ?_)
    exact qt_in (by omega) hp.1 (qt_eg _ (by omega) _ (by omega) (by omega)) (by omega) ih'
end
theorem i_vc_partition {k : Nat} {u : SX} {v : SY} (I : i_Rel k u v) (hk : k + 4 ≤ 2049) (v1 : Int32) : wpX_partition (fun r => wpY_partition (fun r' => r' = r ∧ i_Rel (k + 4) u v) v v1) u v1 := by
  obtain ⟨n, P, N, L, E, cd, pr, cn, cx, fd, el, ro, ot, nu, tw, rfl, rfl, R⟩ := I
  have a1 := R.1
  have a7 := R.2.1
  have hM := qf_N1 a1 a7
  rcases pk_ix v1 (n := qd_N n) (by omega) with h | h | ⟨j, hj, rfl⟩
  · exact br_t h (br_t h ⟨rfl, qr_mk R⟩)
  · have h0 : ¬ v1 < 0 := fun hn => absurd (Int32.lt_of_le_of_lt h hn) (nI_pos (by omega))
    refine br_f h0 (qx_en (u := 0) (r := n) R.2.2.2.2.1 rfl (by omega) ?_)
    rw [qt_egN a1 a7]
    exact br_f (Int32.not_lt.mpr h) (br_f h0 (br_f (Int32.not_lt.mpr h) ⟨rfl, qr_mk R⟩))
  · refine qt_X R hj ?_
    refine br_f (nI_pos (by omega)) (br_t (nI_lt hj (by omega)) ⟨qy_i877 (by omega), ?_⟩)
    rw [qx_c cd (by omega), R.2.2.2.2.2.1.1 j hj]
    exact ⟨rfl, qr_mk R⟩
section
variable {n : Nat} {P : Nat → Nat} {N L E cd pr cn cx fd el ro ot nu tw : Nat → Int32}
theorem qi_bet {post : Int32 → Prop} {r : Nat} (R : qr_R n P N E cd pr cn cx el) (hr : r < qd_N n) (H1 : qd_F n (P 0) r → qd_F n r (P 1) → post 1) (H0 : ¬ (qd_F n (P 0) r ∧ qd_F n r (P 1)) → post 0) : wpY_between post (nI n, nI (qd_N n), cd, pr, cn, cx, fd, el, ro, ot, nu, tw) (nI r) := by
  have p0 := R.2.2.1 0 (by omega)
  have p1 := R.2.2.1 1 (by omega)
  unfold wpY_between
  dsimp only
  rw [R.2.2.2.2.2.2 0 (by omega), R.2.2.2.2.2.2 1 (by omega)]
  refine qu_fin R p0 hr (fun h => br_f (by decide) (qu_fin R hr p1 (fun h' => br_f (by decide) (H1 h h')) (fun h' => br_t rfl (H0 (fun hh => h' hh.2))))) (fun h => br_t rfl (H0 (fun hh => h hh.1)))
theorem qi_Y {post : Int32 → Prop} (R : qr_R n P N E cd pr cn cx el) (H : post (nI (qd_sm (fun r => qd_bi (qd_bi (qd_Fb n (P 0) r) (qd_Fb n r (P 1)) false) 1 0) (qd_N n)))) : wpY_interval post (nI n, nI (qd_N n), cd, pr, cn, cx, fd, el, ro, ot, nu, tw) := by
  have hM := qf_N1 R.1 R.2.1
  refine qx_L (fun m r => wY_interval_4 post (nI n) (nI (qd_N n)) cd pr cn cx fd el ro ot nu tw m (nI (qd_sm (fun r => qd_bi (qd_bi (qd_Fb n (P 0) r) (qd_Fb n r (P 1)) false) 1 0) r)) (nI r)) (fun _ => True) (qd_N n) 0 (Nat.zero_le _) trivial ?_ ?_
  · intro m _
    exact br_t (nI_le (Nat.le_refl _) (by omega)) H
  · intro m r hr _ ih
    have ih' := ih trivial
    rw [qd_smS] at ih'
    refine br_f (nI_ge hr (by omega)) (qi_bet R hr (fun h h' => ?_) (fun h => ?_))
    · rw [qd_bi_t (b := qd_bi (qd_Fb n (P 0) r) (qd_Fb n r (P 1)) false) (qd_biAnd.mpr ⟨qd_Fb_iff.mpr h, qd_Fb_iff.mpr h'⟩)] at ih'
      exact br_f (by decide) (nm_r (nI_1 _) (nm_r (nI_1 r) ih'))
    · rw [qd_bi_f (b := qd_bi (qd_Fb n (P 0) r) (qd_Fb n r (P 1)) false) (fun hh => h ⟨qd_Fb_iff.mp (qd_biAnd.mp hh).1, qd_Fb_iff.mp (qd_biAnd.mp hh).2⟩), Nat.add_zero] at ih'
      exact br_t rfl (nm_r (nI_1 r) ih')
theorem qd_sm0 {f : Nat → Nat} : ∀ {m : Nat}, (∀ i, i < m → f i = 0) → qd_sm f m = 0 := by
  intro m
  induction m with
  | zero => intro _; rfl
  | succ m ih =>
    intro h
    rw [qd_smS, ih (fun i hi => h i (by omega)), h m (by omega)]
theorem qd_pt_le (n p q b : Nat) : qd_pt n p q b ≤ n := qd_ct_le _ n
theorem qi_X {post : Int32 → Prop} (R : qr_R n P N E cd pr cn cx el) (H1 : qd_F n (P 0) (P 1) → post (nI (qd_iv (qd_pt n (qd_t n (P 0)) (qd_t n (P 1))) n))) (H0 : ¬ qd_F n (P 0) (P 1) → post 0) : wpX_interval post (nI n, N, L, E) := by
  have a7 := R.2.1
  have hF : qx_F n (fun e => qd_t n (P e)) ↔ qd_F n (P 0) (P 1) := (qf_F a7).symm
  unfold wpX_interval
  refine qx_fin a7 R.2.2.2.1 (fun h => br_f (by decide) ?_) (fun h => br_t rfl (H0 (fun hf => h (hF.mpr hf))))
  refine qx_L (fun m b => wX_interval_13 post (nI n) N L E m (nI (qd_iv (qd_pt n (qd_t n (P 0)) (qd_t n (P 1))) b)) (nI b)) (fun _ => True) n 0 (Nat.zero_le _) trivial ?_ ?_
  · intro m _
    exact br_t (qx_le (by omega)) (H1 (hF.mp h))
  · intro m b hb _ ih
    have hp := qd_pt_le n (qd_t n (P 0)) (qd_t n (P 1)) b
    refine br_f (qx_ge hb (by omega)) (qx_pts a7 R.2.2.2.1 (by omega) (qx_en (u := 0) R.2.2.2.2.1 rfl (by omega) (nm_r (pk_mul _ _) (nm_r (nI_1 b) (ih trivial)))))
end
theorem i_vc_interval {k : Nat} {u : SX} {v : SY} (I : i_Rel k u v) (hk : k + 4 ≤ 2049) : wpX_interval (fun r => wpY_interval (fun r' => r' = r ∧ i_Rel (k + 4) u v) v) u := by
  obtain ⟨n, P, N, L, E, cd, pr, cn, cx, fd, el, ro, ot, nu, tw, rfl, rfl, R⟩ := I
  have a1 := R.1
  have a7 := R.2.1
  refine qi_X R (fun hf => qi_Y R ⟨?_, qr_mk R⟩) (fun hf => qi_Y R ⟨?_, qr_mk R⟩)
  · rw [qf_i a1 a7 (R.2.2.1 0 (by omega)) (R.2.2.1 1 (by omega)) hf]
  · rw [qd_sm0 (fun r hr => qd_bi_f (fun hh => hf ?_))]
    · rfl
    · rw [qd_biAnd, qd_Fb_iff, qd_Fb_iff] at hh
      exact qd_F_trans a7 hh.1 hh.2
section
variable {n : Nat} {P : Nat → Nat} {N L E cd pr cn cx fd el ro ot nu tw : Nat → Int32}
theorem qv_Y {post : Int32 → Prop} {e : Nat} (R : qr_R n P N E cd pr cn cx el) (he : e < 2) (hx : qd_x n (qd_t n (P e)) = false) (H : post (nI (qd_sm (fun b => qd_bi (qd_bi (qd_x n (qd_t n b)) false (qd_Fb n b (P e))) 1 0) (qd_N n)))) : wpY_uncrossed post (nI n, nI (qd_N n), cd, pr, cn, cx, fd, el, ro, ot, nu, tw) (nI e) := by
  have hM := qf_N1 R.1 R.2.1
  have hPe := R.2.2.1 e he
  have h2 : vp_in (nI e) 2 := vp_in_nI he (by omega)
  unfold wpY_uncrossed
  refine qy_badF he (br_t rfl ⟨h2, ?_⟩)
  rw [qr_elc R he, qu_cx R hPe, hx]
  refine ⟨qy_i877 (by omega), br_t rfl ?_⟩
  refine qx_L (fun m r => wY_uncrossed_32 post (nI e) (nI n) (nI (qd_N n)) cd pr cn cx fd el ro ot nu tw m (nI (qd_sm (fun b => qd_bi (qd_bi (qd_x n (qd_t n b)) false (qd_Fb n b (P e))) 1 0) r)) (nI r)) (fun _ => True) (qd_N n) 0 (Nat.zero_le _) trivial ?_ ?_
  · intro m _
    exact br_t (nI_le (Nat.le_refl _) (by omega)) H
  · intro m r hr _ ih
    have ih' := ih trivial
    rw [qd_smS] at ih'
    refine br_f (nI_ge hr (by omega)) ⟨qy_i877 (by omega), qx_bc (qu_cx R hr) rfl (fun e1 => ?_) (fun e1 => ?_)⟩
    · have hxr : qd_x n (qd_t n r) = false := by
        cases hh : qd_x n (qd_t n r) with
        | false => rfl
        | true => rw [hh] at e1; exact absurd e1 (by decide)
      rw [hxr, qd_biF] at ih'
      refine ⟨h2, ?_⟩
      rw [qr_elc R he]
      refine qu_fin R hr hPe (fun h => ?_) (fun h => ?_)
      · rw [qd_bi_t (qd_Fb_iff.mpr h)] at ih'
        exact br_f (by decide) (nm_r (nI_1 _) (nm_r (nI_1 r) ih'))
      · rw [qd_bi_f (fun hh => h (qd_Fb_iff.mp hh)), Nat.add_zero] at ih'
        exact br_t rfl (nm_r (nI_1 r) ih')
    · have hxr : qd_x n (qd_t n r) = true := by
        cases hh : qd_x n (qd_t n r) with
        | true => rfl
        | false => rw [hh] at e1; exact absurd rfl e1
      rw [hxr, qd_biT, qd_biF, Nat.add_zero] at ih'
      exact nm_r (nI_1 r) ih'
theorem qv_X {post : Int32 → SX → Prop} {e : Nat} (R : qr_R n P N E cd pr cn cx el) (he : e < 2)
    (H0 : ∀ L', qd_x n (qd_t n (P e)) = true → post (-1000001) (nI n, N, L', E)) (H1 : ∀ L', qd_x n (qd_t n (P e)) = false → post (nI (qd_uc n (qd_t n (P e)) n)) (nI n, N, L', E)) : wpX_uncrossed post (nI n, N, L, E) (nI e) := by
  have a7 := R.2.1
  unfold wpX_uncrossed
  refine qx_elT he (br_f (by decide) (qx_cross a7 R.2.2.2.1 he (fun L' hx => br_f (by decide) (H0 L' hx)) (fun L' hx => br_t rfl ?_)))
  have hx' : qd_x n (qd_t n (P e)) = false := by
    cases hh : qd_x n (qd_t n (P e)) with
    | false => rfl
    | true => exact absurd hh hx
  refine qx_L (fun m b => wX_uncrossed_26 post (nI e) (nI n) N L' E m (nI (qd_uc n (qd_t n (P e)) b)) (nI b)) (fun _ => True) n 0 (Nat.zero_le _) trivial ?_ ?_
  · intro m _
    exact br_t (qx_le (by omega)) (H1 L' hx')
  · intro m b hb _ ih
    have hp : qd_pb n (qd_t n (P e)) b ≤ n := qd_ct_le _ n
    exact br_f (qx_ge hb (by omega)) (qx_pi a7 R.2.2.2.1 he (by omega) (qx_ca (by omega) (nm_r (pk_mul _ _) (nm_r (nI_1 b) (ih trivial)))))
end
theorem i_vc_uncrossed {k : Nat} {u : SX} {v : SY} (I : i_Rel k u v) (hk : k + 4 ≤ 2049) (v1 : Int32) : wpX_uncrossed (fun r u' => wpY_uncrossed (fun r' => r' = r ∧ i_Rel (k + 4) u' v) v v1) u v1 := by
  obtain ⟨n, P, N, L, E, cd, pr, cn, cx, fd, el, ro, ot, nu, tw, rfl, rfl, R⟩ := I
  have a1 := R.1
  have a7 := R.2.1
  have hM := qf_N1 a1 a7
  rcases qr_el v1 with ⟨e, he, rfl⟩ | ⟨h0, h1⟩
  · have hPe := R.2.2.1 e he
    refine qv_X R he (fun L' hx => ?_) (fun L' hx => qv_Y R he hx ⟨?_, qr_mk R⟩)
    · show wpY_uncrossed _ _ _
      unfold wpY_uncrossed
      refine qy_badF he (br_t rfl ⟨vp_in_nI he (by omega), ?_⟩)
      rw [qr_elc R he, qu_cx R hPe, hx]
      exact ⟨qy_i877 (by omega), br_f (by decide) ⟨rfl, qr_mk R⟩⟩
    · rw [qf_c a1 a7 hPe hx]
  · unfold wpX_uncrossed
    refine qx_elF h0 h1 (br_t rfl ?_)
    show wpY_uncrossed _ _ _
    unfold wpY_uncrossed
    exact qy_badT h0 h1 (br_f (by decide) ⟨rfl, qr_mk R⟩)
