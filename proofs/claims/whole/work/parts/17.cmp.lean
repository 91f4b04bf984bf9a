/-! 17: complement -/
theorem qd_fi_le (p : Nat → Bool) : ∀ n, qd_fi p n ≤ n := by
  intro n
  by_cases h : ∃ i, i < n ∧ p i = true
  · obtain ⟨i, ⟨hi, hp⟩, hm⟩ := pk_least (fun i => i < n ∧ p i = true) h
    rw [qd_fi_at (fun j hj hpj => hm j hj ⟨by omega, hpj⟩) hp hi]
    omega
  · rw [qd_fi_no (fun i hi hp => h ⟨i, hi, hp⟩)]
    exact Nat.le_refl n
theorem qc_kq {n c j : Nat} (h7 : n ≤ 7) (hj : j < n) : qd_g (qd_kq n c) j = qd_kp n c j :=
  qd_g_pk (f := qd_kp n c) (fun i hi => Nat.lt_of_le_of_lt (qd_fi_le _ i) (by omega)) j hj
section
variable {n M : Nat} {P : Nat → Nat} {N L E cd pr cn cx fd el ro ot nu tw : Nat → Int32}
theorem qc_X {post : Int32 → SX → Prop} {e : Nat} (R : qr_R n P N E cd pr cn cx el) (he : e < 2)
    (H0 : ∀ L', qd_x n (qd_t n (P e)) = true → post (-1000001) (nI n, N, L', E))
    (H : ∀ N' s q, ¬ qd_x n (qd_t n (P e)) = true → qm_H n P E cd pr cn cx el e N' s q → qd_m n (qd_t n q) = qd_m n (qd_kq n (qd_t n (P e))) → post (nI (qd_b n (qd_t n q))) (nI n, N', s, E)) : wpX_complement post (nI n, N, L, E) (nI e) := by
  have a7 := R.2.1
  have hN := R.2.2.2.1
  unfold wpX_complement
  refine qx_elT he (br_f (by decide) ?_)
  refine qx_cross a7 hN he (fun L' hx => br_f (by decide) (H0 L' hx)) (fun L' hx => br_t rfl ?_)
  refine pk_loop (fun m i (s : Nat → Int32) => wX_complement_24 post (nI e) (nI n) m (nI i) N s E) (fun i s => ∀ j, j < i → s j = nI (qd_kp n (qd_t n (P e)) j)) n 0 L' (Nat.zero_le _) (fun j hj => absurd hj (Nat.not_lt_zero j)) ?_ ?_
  · intro m s hs
    refine br_t (qx_le (by omega)) (qm_lab R he (fun N' q h => H N' s q hx h (qu_m (fun p hp => ?_) h.2.1)))
    rw [hs p hp, qc_kq a7 hp]
  · intro m i s hi hs ih
    refine br_f (qx_ge hi (by omega)) (qx_lpa a7 hN he hi ⟨qx_i7 (by omega), ?_⟩)
    refine nm_r (congrArg (fun j => upd s j _) (nI_clamp (by omega))) (nm_r (nI_1 i) (ih _ (fun j hj => ?_)))
    by_cases ej : j = i
    · rw [ej, pk_us]
    · rw [pk_un ej]; exact hs j (by omega)
theorem qc_112 {post : Int32 → SY → Prop} {J : Int32 → Int32 → Int32 → Int32 → (Nat → Int32) → (Nat → Int32) → (Nat → Int32) → (Nat → Int32) → (Nat → Int32) → (Nat → Int32) → (Nat → Int32) → (Nat → Int32) → (Nat → Int32) → (Nat → Int32) → Prop} {x1 x2 : Int32} {k : Nat} (h1 : 1 ≤ n) (h7 : n ≤ 7)
    (H : ∀ nu' tw', (∀ i, i < n → nu' (2 * i + 1) = 8 + ro i) → (∀ i, nu' (2 * i) = nu (2 * i)) →
      (qd_cr (qy_R nu') (2 * n) = false → J (nI k) (nI (k + 1)) (nI n) (nI M) cd pr cn cx fd el ro ot nu' tw') ∧ (qd_cr (qy_R nu') (2 * n) = true → J x2 (nI (k + 1)) (nI n) (nI M) cd pr cn cx fd el ro ot nu' tw')) :
    ∃ m, wY_complement_112 post J x1 x2 (nI k) (nI n) (nI M) m (nI 0) cd pr cn cx fd el ro ot nu tw := by
  refine pk_loop (fun m i (s : Nat → Int32) => wY_complement_112 post J x1 x2 (nI k) (nI n) (nI M) m (nI i) cd pr cn cx fd el ro ot s tw) (fun i s => (∀ j, j < i → s (2 * j + 1) = 8 + ro j) ∧ ∀ j, s (2 * j) = nu (2 * j)) n 0 nu (Nat.zero_le _) ⟨fun j hj => absurd hj (Nat.not_lt_zero j), fun _ => rfl⟩ ?_ ?_
  · intro m s hs
    refine br_t (qx_le (by omega)) (qy_cr2n h1 h7 (pk_mul 2 n) (fun tw' => ?_))
    have hH := H s tw' hs.1 hs.2
    cases hc : qd_cr (qy_R s) (2 * n) with
    | false => exact br_t rfl (nm_r (nI_1 k) (hH.1 hc))
    | true => exact br_f (by decide) (nm_r (nI_1 k) (hH.2 hc))
  · intro m i s hi hs ih
    have e2 : 2 * nI i + 1 = nI (2 * i + 1) := by
      rw [show (2 : Int32) = nI 2 from rfl, pk_mul, nI_1]
    refine br_f (qx_ge hi (by omega)) ⟨qx_i7 (by omega), by rw [e2]; exact qy_i14 (by omega), ?_⟩
    refine nm_r (show upd s (2 * nI i + 1).toNatClampNeg (8 + ro (nI i).toNatClampNeg) = upd s (2 * i + 1) (8 + ro i) by rw [e2, nI_clamp (by omega), qx_c ro (by omega)]) (nm_r (nI_1 i) (ih _ ⟨fun j hj => ?_, fun j => ?_⟩))
    · by_cases ej : j = i
      · rw [ej, pk_us]
      · rw [pk_un (by omega)]; exact hs.1 j (by omega)
    · rw [pk_un (by omega)]; exact hs.2 j
theorem qc_73 {post : Int32 → SY → Prop} {J : Int32 → Int32 → Int32 → Int32 → (Nat → Int32) → (Nat → Int32) → (Nat → Int32) → (Nat → Int32) → (Nat → Int32) → (Nat → Int32) → (Nat → Int32) → (Nat → Int32) → (Nat → Int32) → (Nat → Int32) → Prop} {x1 x2 : Int32} {k d : Nat} (h1 : 1 ≤ n) (h7 : n ≤ 7) (hk : k < 877) (hd : cd k = nI d) (hd8 : d < 8 ^ n)
    (H : ∀ nu' tw' ro', (∀ i, i < n → nu' (2 * i + 1) = 8 + nI (qd_g d i)) → (∀ i, i < n → nu' (2 * i) = ro i) →
      (qd_cr (qy_R nu') (2 * n) = false → J (nI k) (nI (k + 1)) (nI n) (nI M) cd pr cn cx fd el ro' ot nu' tw') ∧ (qd_cr (qy_R nu') (2 * n) = true → J x2 (nI (k + 1)) (nI n) (nI M) cd pr cn cx fd el ro' ot nu' tw')) :
    ∃ m, wY_complement_73 post J x1 x2 (nI k) (nI n) (nI M) m (nI 0) cd pr cn cx fd el ro ot nu tw := by
  refine pk_loop (fun m i (s : Nat → Int32) => wY_complement_73 post J x1 x2 (nI k) (nI n) (nI M) m (nI i) cd pr cn cx fd el ro ot s tw) (fun i s => ∀ j, j < i → s (2 * j) = ro j) n 0 nu (Nat.zero_le _) (fun j hj => absurd hj (Nat.not_lt_zero j)) ?_ ?_
  · intro m s hs
    refine br_t (qx_le (by omega)) (qy_take h7 hk hd hd8 (fun r2 hr2 => ?_))
    refine qc_112 h1 h7 (fun nu' tw' h3 h4 => H nu' tw' r2 (fun i hi => ?_) (fun i hi => ?_))
    · rw [h3 i hi, hr2 i hi]
    · rw [h4 i, hs i hi]
  · intro m i s hi hs ih
    have e2 : 2 * nI i = nI (2 * i) := pk_mul 2 i
    refine br_f (qx_ge hi (by omega)) ⟨qx_i7 (by omega), by rw [e2]; exact qy_i14 (by omega), ?_⟩
    refine nm_r (show upd s (2 * nI i).toNatClampNeg (ro (nI i).toNatClampNeg) = upd s (2 * i) (ro i) by rw [e2, nI_clamp (by omega), qx_c ro (by omega)]) (nm_r (nI_1 i) (ih _ (fun j hj => ?_)))
    by_cases ej : j = i
    · rw [ej, pk_us]
    · rw [pk_un (by omega)]; exact hs j (by omega)
theorem qc_R2 {c d : Nat} {nu' : Nat → Int32} (h0 : ∀ i, i < n → nu' (2 * i) = nI (qd_g c i)) (h1 : ∀ i, i < n → nu' (2 * i + 1) = nI (8 + qd_g d i)) : qd_cr (qy_R nu') (2 * n) = qd_cr (qd_R2 c d) (2 * n) := by
  refine qd_crC (fun x y hx hy => ?_)
  have v0 : ∀ x, x < 2 * n → x % 2 = 0 → nu' x = nI (qd_g c (x / 2)) := fun x hx e => by
    have := h0 (x / 2) (by omega)
    rw [show 2 * (x / 2) = x by omega] at this
    exact this
  have v1 : ∀ x, x < 2 * n → x % 2 = 1 → nu' x = nI (8 + qd_g d (x / 2)) := fun x hx e => by
    have := h1 (x / 2) (by omega)
    rw [show 2 * (x / 2) + 1 = x by omega] at this
    exact this
  rw [Bool.eq_iff_iff, qy_R_iff, qd_R2_iff, qd_rl_iff, qd_rl_iff]
  have c1 := qd_g8 c (x / 2)
  have c2 := qd_g8 c (y / 2)
  have d1 := qd_g8 d (x / 2)
  have d2 := qd_g8 d (y / 2)
  rcases Nat.mod_two_eq_zero_or_one x with ex | ex <;> rcases Nat.mod_two_eq_zero_or_one y with ey | ey
  · rw [v0 x hx ex, v0 y hy ey, nI_eq (by omega) (by omega)]; omega
  · rw [v0 x hx ex, v1 y hy ey, nI_eq (by omega) (by omega)]; omega
  · rw [v1 x hx ex, v0 y hy ey, nI_eq (by omega) (by omega)]; omega
  · rw [v1 x hx ex, v1 y hy ey, nI_eq (by omega) (by omega)]; omega
theorem qc_last (h1 : 1 ≤ n) (h7 : n ≤ 7) (c : Nat) : qd_x n (qd_t n (qd_N n - 1)) = false ∧ qd_m n (qd_t n (qd_N n - 1)) &&& qd_cm n c = 0 := by
  have hz : ∀ i j, i < j → j < n → ¬ qd_rl (qd_t n (qd_N n - 1)) i j = true := fun i j hi hj h => by
    rw [qd_rl_iff, qf_tz h1 h7 (show i < n by omega), qf_tz h1 h7 hj] at h
    omega
  constructor
  · cases hx : qd_x n (qd_t n (qd_N n - 1)) with
    | false => rfl
    | true =>
      unfold qd_x at hx
      rw [qd_cr_iff] at hx
      obtain ⟨i, j, k, l, e1, e2, e3, e4, _, h, _⟩ := hx
      exact absurd h (hz i k (by omega) (by omega))
  · unfold qd_m qd_cm
    rw [qd_pm_0 (by omega)]
    intro i j hi hj h
    exact absurd h (hz i j hi hj)
theorem qc_Y {post : Int32 → SY → Prop} {e q : Nat} (R : qr_R n P N E cd pr cn cx el) (he : e < 2) (hxe : qd_x n (qd_t n (P e)) = false) (hq : q < qd_N n) (hx : qd_x n (qd_t n q) = false) (hF : qd_m n (qd_t n q) &&& qd_cm n (qd_t n (P e)) = 0)
    (hu : ∀ b, b < qd_N n → qd_x n (qd_t n b) = false → qd_m n (qd_t n b) &&& qd_cm n (qd_t n (P e)) = 0 → b = q ∨ qd_b n (qd_t n q) < qd_b n (qd_t n b))
    (H : ∀ ro' nu' tw', post (nI (qd_b n (qd_t n q))) (nI n, nI (qd_N n), cd, pr, cn, cx, fd, upd el e (nI q), ro', ot, nu', tw')) : wpY_complement post (nI n, nI (qd_N n), cd, pr, cn, cx, fd, el, ro, ot, nu, tw) (nI e) := by
  have a1 := R.1
  have a7 := R.2.1
  have hM := qf_N1 a1 a7
  have hPe := R.2.2.1 e he
  have h2 : vp_in (nI e) 2 := vp_in_nI he (by omega)
  have en : nI (qd_N n) - 1 = nI (qd_N n - 1) := by
    have := nI_pred (qd_N n - 1)
    rw [Nat.sub_add_cancel hM.1] at this
    exact this
  unfold wpY_complement
  refine qy_badF he (br_t rfl ⟨h2, ?_⟩)
  rw [qr_elc R he, qu_cx R hPe, hxe]
  refine ⟨qy_i877 (by omega), br_t rfl (nm_r en ?_)⟩
  refine pk_loop (fun m k (s : Nat × (Nat → Int32) × (Nat → Int32) × (Nat → Int32)) => wY_complement_37 post (nI e) m (nI s.1) (nI k) (nI n) (nI (qd_N n)) cd pr cn cx fd el s.2.1 ot s.2.2.1 s.2.2.2) (fun k s => s.1 < qd_N n ∧ (s.1 = q ∨ (k ≤ q ∧ qd_b n (qd_t n q) < qd_b n (qd_t n s.1)))) (qd_N n) 0 (qd_N n - 1, ro, nu, tw) (Nat.zero_le _) ⟨by show qd_N n - 1 < qd_N n; omega, ?_⟩ ?_ ?_
  · have h0 := qc_last a1 a7 (qd_t n (P e))
    rcases hu (qd_N n - 1) (by omega) h0.1 h0.2 with h | h
    · exact Or.inl h
    · exact Or.inr ⟨Nat.zero_le _, h⟩
  · rintro m ⟨s, ro', nu', tw'⟩ ⟨hs, h⟩
    have hs' : s < qd_N n := hs
    have es : s = q := by
      rcases h with h | h
      · exact h
      · have := h.1; omega
    subst es
    refine br_t (nI_le (Nat.le_refl _) (by omega)) ⟨h2, nm_r (congrArg (fun j => upd el j (nI s)) (nI_clamp (by omega))) ⟨qy_i877 (by omega), ?_⟩⟩
    rw [qu_cn R hs']
    exact H ro' nu' tw'
  · rintro m k ⟨s, ro', nu', tw'⟩ hk ⟨hs, h⟩ ih
    have hs' : s < qd_N n := hs
    have h' : s = q ∨ (k ≤ q ∧ qd_b n (qd_t n q) < qd_b n (qd_t n s)) := h
    have hb1 := qu_b8 R k
    have hb2 := qu_b8 R s
    have keep : ∀ ro' nu' tw', (s = q ∨ (k + 1 ≤ q ∧ qd_b n (qd_t n q) < qd_b n (qd_t n s))) → wY_complement_37 post (nI e) m (nI s) (nI (k + 1)) (nI n) (nI (qd_N n)) cd pr cn cx fd el ro' ot nu' tw' := fun ro' nu' tw' h => ih (s, ro', nu', tw') ⟨hs', h⟩
    refine br_f (nI_ge hk (by omega)) ⟨qy_i877 (by omega), qy_i877 (by omega), ?_⟩
    rw [qu_cn R hk, qu_cn R hs']
    by_cases hle : qd_b n (qd_t n s) ≤ qd_b n (qd_t n k)
    · refine br_t (nI_le hle (by omega)) (nm_r (nI_1 k) (keep _ _ _ ?_))
      rcases h' with h | ⟨h, h'⟩
      · exact Or.inl h
      · refine Or.inr ⟨?_, h'⟩
        have : k ≠ q := fun ek => by subst ek; omega
        omega
    · refine br_f (nI_ge (by omega) (by omega)) ⟨h2, ?_⟩
      rw [qr_elc R he]
      refine qy_take a7 (by omega) (R.2.2.2.2.2.1.1 _ hPe) (qf_lt a1 a7 hPe) (fun r1 hr1 => ?_)
      refine qc_73 a1 a7 (by omega) (R.2.2.2.2.2.1.1 k hk) (qf_lt a1 a7 hk) (fun nu2 tw2 r2 h3 h4 => ?_)
      have e8 : ∀ i, i < n → nu2 (2 * i + 1) = nI (8 + qd_g (qd_t n k) i) := fun i hi => by
        rw [h3 i hi, show (8 : Int32) = nI 8 from rfl, nI_add]
      rw [qc_R2 (c := qd_t n (P e)) (d := qd_t n k) (fun i hi => by rw [h4 i hi, hr1 i hi]) e8]
      have hc2 := qd_cr2 (n := n) (c := qd_t n (P e)) (d := qd_t n k) (by omega)
      constructor
      · intro hc
        have hc3 : ¬ (qd_x n (qd_t n (P e)) = true ∨ qd_x n (qd_t n k) = true ∨ ¬ qd_m n (qd_t n k) &&& qd_cm n (qd_t n (P e)) = 0) := fun hh => by
          rw [hc2.mpr hh] at hc; exact absurd hc (by decide)
        have hxk : qd_x n (qd_t n k) = false := by
          cases hh : qd_x n (qd_t n k) with
          | false => rfl
          | true => exact absurd (Or.inr (Or.inl hh)) hc3
        have hmk : qd_m n (qd_t n k) &&& qd_cm n (qd_t n (P e)) = 0 := Classical.byContradiction (fun hh => hc3 (Or.inr (Or.inr hh)))
        refine ih (k, r2, nu2, tw2) ⟨hk, ?_⟩
        rcases hu k hk hxk hmk with h5 | h5
        · exact Or.inl h5
        · rcases h' with h | ⟨h, h'⟩
          · subst h; omega
          · refine Or.inr ⟨?_, h5⟩
            have : k ≠ q := fun ek => by subst ek; omega
            omega
      · intro hc
        refine keep r2 nu2 tw2 ?_
        rcases h' with h | ⟨h, h'⟩
        · exact Or.inl h
        · refine Or.inr ⟨?_, h'⟩
          have : k ≠ q := fun ek => by
            subst ek
            rcases hc2.mp hc with h5 | h5 | h5
            · rw [hxe] at h5; exact absurd h5 (by decide)
            · rw [hx] at h5; exact absurd h5 (by decide)
            · exact h5 hF
          omega
end
theorem i_vc_complement {k : Nat} {u : SX} {v : SY} (I : i_Rel k u v) (hk : k + 4 ≤ 2049) (v1 : Int32) : wpX_complement (fun r u' => wpY_complement (fun r' v' => r' = r ∧ i_Rel (k + 4) u' v') v v1) u v1 := by
  obtain ⟨n, P, N, L, E, cd, pr, cn, cx, fd, el, ro, ot, nu, tw, rfl, rfl, R⟩ := I
  have a1 := R.1
  have a7 := R.2.1
  rcases qr_el v1 with ⟨e, he, rfl⟩ | ⟨h0, h1⟩
  · have hPe := R.2.2.1 e he
    have hM := qf_N1 a1 a7
    refine qc_X R he (fun L' hx => ?_) (fun N' s q hx h hm => ?_)
    · show wpY_complement _ _ _
      unfold wpY_complement
      refine qy_badF he (br_t rfl ⟨vp_in_nI he (by omega), ?_⟩)
      rw [qr_elc R he, qu_cx R hPe, hx]
      exact ⟨qy_i877 (by omega), br_f (by decide) ⟨rfl, qr_mk R⟩⟩
    · have hx' : qd_x n (qd_t n (P e)) = false := by
        cases hh : qd_x n (qd_t n (P e)) with
        | false => rfl
        | true => exact absurd hh hx
      obtain ⟨q', hq', hm', hxq, hF, hu⟩ := qf_k a1 a7 hPe hx'
      have eq : q = q' := qf_minj a1 a7 h.1 hq' (by rw [hm, hm'])
      subst eq
      exact qc_Y R he hx' h.1 hxq hF hu (fun ro' nu' tw' => ⟨rfl, qr_mk (h.2.2 _ pk_us (fun j hj => pk_un hj))⟩)
  · unfold wpX_complement
    refine qx_elF h0 h1 (br_t rfl ?_)
    show wpY_complement _ _ _
    unfold wpY_complement
    exact qy_badT h0 h1 (br_f (by decide) ⟨rfl, qr_mk R⟩)
