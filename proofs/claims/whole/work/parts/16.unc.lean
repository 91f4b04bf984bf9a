/-! 16: uncross, complement -/
theorem qd_lc_iff {n c i j : Nat} : qd_lc n c i j = true ↔ ¬ qd_g c i = qd_g c j ∧ ∃ k, k < n ∧ j < k ∧ qd_g c k = qd_g c i ∧ ∃ l, l < n ∧ k < l ∧ qd_g c l = qd_g c j := by
  unfold qd_lc
  simp only [qd_biNot, qd_biAnd, qd_ex_iff, Nat.blt_eq, qd_rl_iff]
theorem qu_lc {n c i j : Nat} {L : Nat → Int32} (hL : ∀ p, p < n → L p = nI (qd_g c p)) (hi : i < n) (hj : j < n) : qx_LC n L i j ↔ qd_lc n c i j = true := by
  have q : ∀ i j, i < n → j < n → (L i = L j ↔ qd_g c i = qd_g c j) := fun i j hi hj => by
    rw [hL i hi, hL j hj]; exact qx_eq8 (qd_g8 _ _) (qd_g8 _ _)
  rw [qd_lc_iff]
  constructor
  · rintro ⟨h1, k, l, h2, h3, h4, h5, h6⟩
    exact ⟨fun h => h1 ((q i j hi hj).mpr h), k, by omega, h2, (q k i (by omega) hi).mp h5, l, h4, h3, (q l j h4 hj).mp h6⟩
  · rintro ⟨h1, k, hk, h2, h3, l, hl, h4, h5⟩
    exact ⟨fun h => h1 ((q i j hi hj).mp h), k, l, h2, h4, hl, (q k i hk hi).mpr h3, (q l j hl hj).mpr h5⟩
theorem qd_uiS (n i c m : Nat) : qd_ui n i c (m + 1) = qd_bi (Nat.blt i m) (qd_bi (qd_lc n (qd_ui n i c m) i m) (qd_mg n (qd_ui n i c m) i m) (qd_ui n i c m)) (qd_ui n i c m) := rfl
theorem qd_ui_lo {n i c : Nat} : ∀ {m : Nat}, m ≤ i + 1 → qd_ui n i c m = c := by
  intro m
  induction m with
  | zero => intro _; rfl
  | succ m ih =>
    intro h
    rw [qd_uiS, qd_bi_f (by rw [Nat.blt_eq]; omega), ih (by omega)]
theorem qu_mg {n c i j : Nat} {L L' : Nat → Int32} (hL : ∀ p, p < n → L p = nI (qd_g c p)) (hi : i < n) (hj : j < n) (hL' : ∀ p, p < n → L' p = if L p = L j then L i else L p) :
    ∀ p, p < n → L' p = nI (qd_g (qd_mg n c i j) p) := by
  intro p hp
  have e : qd_g (qd_mg n c i j) p = qd_bi (Nat.beq (qd_g c p) (qd_g c j)) (qd_g c i) (qd_g c p) := by
    refine qd_g_pk (f := fun p => qd_bi (Nat.beq (qd_g c p) (qd_g c j)) (qd_g c i) (qd_g c p)) (fun p _ => ?_) p hp
    show qd_bi (Nat.beq (qd_g c p) (qd_g c j)) (qd_g c i) (qd_g c p) < 8
    by_cases h : Nat.beq (qd_g c p) (qd_g c j) = true
    · rw [qd_bi_t h]; exact qd_g8 _ _
    · rw [qd_bi_f h]; exact qd_g8 _ _
  rw [hL' p hp, e]
  by_cases h : qd_g c p = qd_g c j
  · rw [qd_bi_t (by rw [Nat.beq_eq]; exact h), if_pos (by rw [hL p hp, hL j hj, h]), hL i hi]
  · rw [qd_bi_f (by rw [Nat.beq_eq]; exact h), if_neg (fun h' => h (by rw [hL p hp, hL j hj] at h'; exact (qx_eq8 (qd_g8 _ _) (qd_g8 _ _)).mp h')), hL p hp]
/-- labels nI (digits of c) and the place q with this kernel have one mask -/
theorem qu_m {n c q : Nat} {L : Nat → Int32} (hL : ∀ p, p < n → L p = nI (qd_g c p)) (hK : ∀ i j, i < j → j < n → (qd_g (qd_t n q) i = qd_g (qd_t n q) j ↔ L i = L j)) : qd_m n (qd_t n q) = qd_m n c := by
  refine qd_pmC (fun i j hi hj => ?_)
  rw [Bool.eq_iff_iff, qd_rl_iff, qd_rl_iff, hK i j hi hj, hL i (by omega), hL j hj]
  exact qx_eq8 (qd_g8 _ _) (qd_g8 _ _)
theorem qu_0 {n p : Nat} (h1 : 1 ≤ n) (h7 : n ≤ 7) : qd_x n (qd_t n 0) = false ∧ qd_F n p 0 := by
  have hz : ∀ i, qd_g (qd_t n 0) i = 0 := fun i => by
    rw [qf_t0 h1 h7, qd_g_eq, Nat.zero_div]
  constructor
  · cases hx : qd_x n (qd_t n 0) with
    | false => rfl
    | true =>
      unfold qd_x at hx
      rw [qd_cr_iff] at hx
      obtain ⟨i, j, k, l, _, _, _, _, h, _⟩ := hx
      exact absurd (qd_rl_iff.mpr (by rw [hz, hz])) h
  · rw [qf_F h7]
    intro i j _ _ _
    rw [hz, hz]
section
variable {n : Nat} {P : Nat → Nat} {N L E cd pr cn cx fd el ro ot nu tw : Nat → Int32}
theorem qu_fin {post : Int32 → Prop} {p q : Nat} (R : qr_R n P N E cd pr cn cx el) (hp : p < qd_N n) (hq : q < qd_N n) (H1 : qd_F n p q → post 1) (H0 : ¬ qd_F n p q → post 0) : wpY_isFiner post (nI n, nI (qd_N n), cd, pr, cn, cx, fd, el, ro, ot, nu, tw) (nI p) (nI q) := by
  have a7 := R.2.1
  have hM := (qf_N1 R.1 a7).2
  exact qy_fin (by omega) (by omega) (R.2.2.2.2.2.1.2.1 p hp) (R.2.2.2.2.2.1.2.1 q hq) (qr_m21 a7 _) (qr_m21 a7 _) H1 H0
theorem qu_cx (R : qr_R n P N E cd pr cn cx el) {p : Nat} (hp : p < qd_N n) : cx (nI p).toNatClampNeg = qx_b (qd_x n (qd_t n p)) := by
  have hM := (qf_N1 R.1 R.2.1).2
  rw [qx_c cx (by omega)]
  exact R.2.2.2.2.2.1.2.2.2 p hp
theorem qu_cn (R : qr_R n P N E cd pr cn cx el) {p : Nat} (hp : p < qd_N n) : cn (nI p).toNatClampNeg = nI (qd_b n (qd_t n p)) := by
  have hM := (qf_N1 R.1 R.2.1).2
  rw [qx_c cn (by omega)]
  exact R.2.2.2.2.2.1.2.2.1 p hp
theorem qu_b8 (R : qr_R n P N E cd pr cn cx el) (p : Nat) : qd_b n (qd_t n p) < 8 := Nat.lt_of_le_of_lt qd_bf_le (by have := R.2.1; omega)
theorem qu_un {post : Int32 → SY → Prop} {e q : Nat} (R : qr_R n P N E cd pr cn cx el) (he : e < 2) (hq : q < qd_N n) (hx : qd_x n (qd_t n q) = false) (hF : qd_F n (P e) q)
    (hu : ∀ b, b < qd_N n → qd_x n (qd_t n b) = false → qd_F n (P e) b → b = q ∨ qd_b n (qd_t n b) < qd_b n (qd_t n q))
    (H : post (nI (qd_b n (qd_t n q))) (nI n, nI (qd_N n), cd, pr, cn, cx, fd, upd el e (nI q), ro, ot, nu, tw)) : wpY_uncross post (nI n, nI (qd_N n), cd, pr, cn, cx, fd, el, ro, ot, nu, tw) (nI e) := by
  have a1 := R.1
  have a7 := R.2.1
  have hM := (qf_N1 a1 a7).2
  have h2 : vp_in (nI e) 2 := vp_in_nI he (by omega)
  unfold wpY_uncross
  refine qy_badF he (br_t rfl ?_)
  refine pk_loop (fun m k (s : Nat) => wY_uncross_15 post (nI e) (nI n) (nI (qd_N n)) cd pr cn cx fd el ro ot nu tw m (nI s) (nI k)) (fun k s => s < qd_N n ∧ (s = q ∨ (k ≤ q ∧ qd_b n (qd_t n s) < qd_b n (qd_t n q)))) (qd_N n) 0 0 (Nat.zero_le _) ⟨by omega, ?_⟩ ?_ ?_
  · have h0 := qu_0 (p := P e) a1 a7
    rcases hu 0 (by omega) h0.1 h0.2 with h | h
    · exact Or.inl h
    · exact Or.inr ⟨Nat.zero_le _, h⟩
  · rintro m s ⟨hs, h⟩
    have es : s = q := by
      rcases h with h | h
      · exact h
      · omega
    subst es
    refine br_t (nI_le (Nat.le_refl _) (by omega)) ⟨h2, nm_r (congrArg (fun j => upd el j (nI s)) (nI_clamp (by omega))) ⟨qy_i877 (by omega), ?_⟩⟩
    rw [qu_cn R hs]
    exact H
  · rintro m k s hk ⟨hs, h⟩ ih
    have hb1 := qu_b8 R k
    have hb2 := qu_b8 R s
    have keep : (s = q ∨ (k + 1 ≤ q ∧ qd_b n (qd_t n s) < qd_b n (qd_t n q))) → wY_uncross_15 post (nI e) (nI n) (nI (qd_N n)) cd pr cn cx fd el ro ot nu tw m (nI s) (nI (k + 1)) := fun h => ih s ⟨hs, h⟩
    refine br_f (nI_ge hk (by omega)) ⟨qy_i877 (by omega), qx_bc (qu_cx R hk) rfl ?_ ?_⟩
    · intro e1
      have hxk : qd_x n (qd_t n k) = false := by
        cases hh : qd_x n (qd_t n k) with
        | false => rfl
        | true => rw [hh] at e1; exact absurd e1 (by decide)
      refine ⟨h2, ?_⟩
      rw [qr_elc R he]
      refine qu_fin R (R.2.2.1 e he) hk ?_ ?_
      · intro hf
        refine br_f (by decide) ⟨qy_i877 (by omega), qy_i877 (by omega), ?_⟩
        rw [qu_cn R hk, qu_cn R hs]
        by_cases hle : qd_b n (qd_t n k) ≤ qd_b n (qd_t n s)
        · refine br_t (nI_le hle (by omega)) (nm_r (nI_1 k) (keep ?_))
          rcases h with h | ⟨h, h'⟩
          · exact Or.inl h
          · refine Or.inr ⟨?_, h'⟩
            have : k ≠ q := fun ek => by subst ek; omega
            omega
        · refine br_f (nI_ge (by omega) (by omega)) (nm_r (nI_1 k) (ih k ⟨hk, ?_⟩))
          rcases hu k hk hxk hf with h3 | h3
          · exact Or.inl h3
          · rcases h with h | ⟨h, h'⟩
            · subst h; omega
            · refine Or.inr ⟨?_, h3⟩
              have : k ≠ q := fun ek => by subst ek; omega
              omega
      · intro hf
        refine br_t rfl (nm_r (nI_1 k) (keep ?_))
        rcases h with h | ⟨h, h'⟩
        · exact Or.inl h
        · refine Or.inr ⟨?_, h'⟩
          have : k ≠ q := fun ek => hf (ek ▸ hF)
          omega
    · intro e1
      refine nm_r (nI_1 k) (keep ?_)
      rcases h with h | ⟨h, h'⟩
      · exact Or.inl h
      · refine Or.inr ⟨?_, h'⟩
        have : k ≠ q := fun ek => e1 (by rw [ek, hx]; rfl)
        omega
theorem qu_X {post : Int32 → SX → Prop} {e : Nat} (R : qr_R n P N E cd pr cn cx el) (he : e < 2)
    (H : ∀ N' s q, qm_H n P E cd pr cn cx el e N' s q → qd_m n (qd_t n q) = qd_m n (qd_un n (qd_t n (P e)) n) → post (nI (qd_b n (qd_t n q))) (nI n, N', s, E)) : wpX_uncross post (nI n, N, L, E) (nI e) := by
  have a7 := R.2.1
  have hN := R.2.2.2.1
  unfold wpX_uncross
  refine qx_elT he (br_f (by decide) ?_)
  refine qx_give a7 he (fun L1 hL1 => ?_)
  have hL1' : ∀ i, i < n → L1 i = nI (qd_g (qd_t n (P e)) i) := fun i hi => by rw [hL1 i hi]; exact hN e he i hi
  refine pk_loop (fun m i (s : Nat → Int32) => wX_uncross_18 post (nI e) m (nI i) (nI n) N s E) (fun i s => ∀ p, p < n → s p = nI (qd_g (qd_un n (qd_t n (P e)) i) p)) n 0 L1 (Nat.zero_le _) hL1' ?_ ?_
  · intro m s hs
    exact br_t (qx_le (by omega)) (qm_lab R he (fun N' q h => H N' s q h (qu_m hs h.2.1)))
  · intro m i s hi hs ih
    refine br_f (qx_ge hi (by omega)) (nm_r (nI_1 i) ?_)
    refine pk_loop (fun m2 j (s : Nat → Int32) => wX_uncross_30 post (wX_uncross_18 post (nI e) m) (nI e) (nI i) m2 (nI j) (nI n) N s E) (fun j s => i < j ∧ ∀ p, p < n → s p = nI (qd_g (qd_ui n i (qd_un n (qd_t n (P e)) i) j) p)) n (i + 1) s (by omega) ⟨by omega, fun p hp => by rw [qd_ui_lo (Nat.le_refl _)]; exact hs p hp⟩ ?_ ?_
    · intro m2 s2 hs2
      exact br_t (qx_le (by omega)) (nm_r (nI_1 i) (ih _ hs2.2))
    · intro m2 j s2 hj hs2 jh
      have hlc := qu_lc hs2.2 hi hj
      refine br_f (qx_ge hj (by omega)) (qx_lc a7 hs2.1 hj ?_ ?_)
      · intro h
        refine br_f (by decide) (qx_merge a7 hi hj (fun s3 hs3 => nm_r (nI_1 j) (jh _ ⟨by omega, ?_⟩)))
        rw [qd_uiS, qd_bi_t (by rw [Nat.blt_eq]; exact hs2.1), qd_bi_t (hlc.mp h)]
        exact qu_mg hs2.2 hi hj hs3
      · intro h
        refine br_t rfl (nm_r (nI_1 j) (jh _ ⟨by omega, ?_⟩))
        rw [qd_uiS, qd_bi_t (by rw [Nat.blt_eq]; exact hs2.1), qd_bi_f (fun h' => h (hlc.mpr h'))]
        exact hs2.2
end
theorem i_vc_uncross {k : Nat} {u : SX} {v : SY} (I : i_Rel k u v) (hk : k + 4 ≤ 2049) (v1 : Int32) : wpX_uncross (fun r u' => wpY_uncross (fun r' v' => r' = r ∧ i_Rel (k + 4) u' v') v v1) u v1 := by
  obtain ⟨n, P, N, L, E, cd, pr, cn, cx, fd, el, ro, ot, nu, tw, rfl, rfl, R⟩ := I
  have a1 := R.1
  have a7 := R.2.1
  rcases qr_el v1 with ⟨e, he, rfl⟩ | ⟨h0, h1⟩
  · refine qu_X R he (fun N' s q h hm => ?_)
    obtain ⟨q', hq', hm', hx, hF, hu⟩ := qf_u a1 a7 (R.2.2.1 e he)
    have eq : q = q' := qf_minj a1 a7 h.1 hq' (by rw [hm, hm'])
    subst eq
    exact qu_un R he h.1 hx hF hu ⟨rfl, qr_mk (h.2.2 _ pk_us (fun j hj => pk_un hj))⟩
  · unfold wpX_uncross
    refine qx_elF h0 h1 (br_t rfl ?_)
    show wpY_uncross _ _ _
    unfold wpY_uncross
    exact qy_badT h0 h1 (br_f (by decide) ⟨rfl, qr_mk R⟩)
