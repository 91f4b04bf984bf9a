/-! 11: the class's private methods over the relation -/
/-- the numbers are the digits of the codes C 0, C 1; the table of endings -/
def qx_N (n : Nat) (C : Nat → Nat) (N : Nat → Int32) : Prop := ∀ e, e < 2 → ∀ i, i < n → N (e * 7 + i) = nI (qd_g (C e) i)
def qx_E (E : Nat → Int32) : Prop := ∀ u r, u + r ≤ 7 → E (u * 8 + r) = nI (qd_eg r u)
theorem qx_eq8 {a b : Nat} (ha : a < 8) (hb : b < 8) : nI a = nI b ↔ a = b := nI_eq (by omega) (by omega)
section
variable {n : Nat} {N L E : Nat → Int32} {C : Nat → Nat}
theorem qx_nu {post : Int32 → Prop} {f : Int32} {e i : Nat} (h7 : n ≤ 7) (hN : qx_N n C N) (he : e < 2) (hi : i < n) (h : post (nI (qd_g (C e) i))) : wpX_numberOf post (f, N, L, E) (nI e) (nI i) :=
  qx_num he (by omega) (by rw [hN e he i hi]; exact h)
theorem qx_tg {post : Int32 → Prop} {f : Int32} {e i j : Nat} (h7 : n ≤ 7) (hN : qx_N n C N) (he : e < 2) (hi : i < n) (hj : j < n)
    (H1 : qd_g (C e) i = qd_g (C e) j → post 1) (H0 : ¬ qd_g (C e) i = qd_g (C e) j → post 0) : wpX_together post (f, N, L, E) (nI e) (nI i) (nI j) := by
  show wpX_numberOf (fun r1 => wpX_numberOf (fun r6 => (r1 = r6 → post 1) ∧ (¬ r1 = r6 → post 0)) (f, N, L, E) (nI e) (nI j)) (f, N, L, E) (nI e) (nI i)
  refine qx_nu h7 hN he hi (qx_nu h7 hN he hj ?_)
  exact ⟨fun h => H1 ((qx_eq8 (qd_g8 _ _) (qd_g8 _ _)).mp h), fun h => H0 (fun e => h (by rw [e]))⟩
theorem qd_rl_iff {c i j : Nat} : qd_rl c i j = true ↔ qd_g c i = qd_g c j := by
  unfold qd_rl
  rw [Nat.beq_eq]
theorem qx_LCx {c : Nat} (hL : ∀ i, i < n → L i = nI (qd_g c i)) : qd_x n c = true ↔ ∃ i j, i < j ∧ j < n ∧ qx_LC n L i j := by
  have q : ∀ i j, i < n → j < n → (L i = L j ↔ qd_g c i = qd_g c j) := fun i j hi hj => by
    rw [hL i hi, hL j hj]; exact qx_eq8 (qd_g8 _ _) (qd_g8 _ _)
  unfold qd_x
  rw [qd_cr_iff]
  simp only [qd_rl_iff]
  constructor
  · rintro ⟨i, j, k, l, h1, h2, h3, h4, h5, h6, h7⟩
    exact ⟨i, j, h1, by omega, fun h => h5 ((q i j (by omega) (by omega)).mp h), k, l, h2, h3, h4, (q k i (by omega) (by omega)).mpr h6.symm, (q l j (by omega) (by omega)).mpr h7.symm⟩
  · rintro ⟨i, j, h1, h2, h3, k, l, h4, h5, h6, h7, h8⟩
    exact ⟨i, j, k, l, h1, h4, h5, h6, fun h => h3 ((q i j (by omega) (by omega)).mpr h), ((q k i (by omega) (by omega)).mp h7).symm, ((q l j (by omega) (by omega)).mp h8).symm⟩
theorem qx_cross {post : Int32 → SX → Prop} {e : Nat} (h7 : n ≤ 7) (hN : qx_N n C N) (he : e < 2)
    (H1 : ∀ L', qd_x n (C e) = true → post 1 (nI n, N, L', E)) (H0 : ∀ L', ¬ qd_x n (C e) = true → post 0 (nI n, N, L', E)) : wpX_hasCrossing post (nI n, N, L, E) (nI e) := by
  unfold wpX_hasCrossing
  refine qx_give h7 he (fun L' hL => ?_)
  have hL' : ∀ i, i < n → L' i = nI (qd_g (C e) i) := fun i hi => by rw [hL i hi, hN e he i hi]
  have hx := qx_LCx hL'
  show ∃ m, wX_hasCrossing_7 post (nI n) N L' E m (nI 0)
  refine qx_L (fun m i => wX_hasCrossing_7 post (nI n) N L' E m (nI i)) (fun i => ∀ i' j, i' < i → i' < j → j < n → ¬ qx_LC n L' i' j) n 0 (Nat.zero_le _) (fun i' j h => absurd h (Nat.not_lt_zero i')) ?_ ?_
  · intro m hI
    refine br_t (qx_le (by omega)) (H0 L' (fun h => ?_))
    obtain ⟨i, j, h1, h2, h3⟩ := hx.mp h
    exact hI i j (by omega) h1 h2 h3
  · intro m i hi hI ih
    refine br_f (qx_ge hi (by omega)) (nm_r (nI_1 i) ?_)
    refine qx_L (fun k j => wX_hasCrossing_19 post (wX_hasCrossing_7 post (nI n) N L' E m) (nI i) (nI n) N L' E k (nI j)) (fun j => i < j ∧ ∀ j', i < j' → j' < j → ¬ qx_LC n L' i j') n (i + 1) (by omega) ⟨by omega, fun j' h h' => by omega⟩ ?_ ?_
    · intro k hJ
      refine br_t (qx_le (by omega)) (nm_r (nI_1 i) (ih ?_))
      intro i' j h1 h2 h3
      by_cases ei : i' = i
      · subst ei; exact hJ.2 j h2 h3
      · exact hI i' j (by omega) h2 h3
    · intro k j hj hJ jh
      refine br_f (qx_ge hj (by omega)) (qx_lc h7 hJ.1 hj ?_ ?_)
      · intro h
        exact br_f (by decide) (H1 L' (hx.mpr ⟨i, j, hJ.1, hj, h⟩))
      · intro h
        refine br_t rfl (nm_r (nI_1 j) (jh ⟨by omega, fun j' h1 h2 => ?_⟩))
        by_cases ej : j' = j
        · rw [ej]; exact h
        · exact hJ.2 j' h1 (by omega)
theorem qd_cl_iff {c a b : Nat} : qd_cl n c a b = true ↔ ∀ x, a ≤ x → x ≤ b → ∀ p, p < n → (p < a ∨ b < p) → ¬ qd_g c x = qd_g c p := by
  unfold qd_cl
  simp only [qd_al_iff, qd_biImp, qd_biOr, qd_no_iff, Nat.ble_eq, Nat.blt_eq, qd_rl_iff]
  constructor
  · intro h x h1 h2 p hp ho
    exact h x (by omega) h1 p hp ho
  · intro h x hx h1 p hp ho
    exact h x h1 (by omega) p hp ho
theorem qx_clI {post J : Int32 → Prop} {e a b x : Nat} (h7 : n ≤ 7) (hN : qx_N n C N) (he : e < 2) (ha : a < 8) (hb : b < n) (hx : x < n)
    (H1 : (∀ p, p < n → (p < a ∨ b < p) → ¬ qd_g (C e) x = qd_g (C e) p) → J (nI (x + 1))) (H0 : ∀ p, p < n → (p < a ∨ b < p) → qd_g (C e) x = qd_g (C e) p → post 0) :
    ∃ m, wX_isClosed_12 post J (nI e) (nI a) (nI b) (nI x) (nI n) N L E m (nI 0) := by
  refine qx_L (fun m p => wX_isClosed_12 post J (nI e) (nI a) (nI b) (nI x) (nI n) N L E m (nI p)) (fun p => ∀ q, q < p → (q < a ∨ b < q) → ¬ qd_g (C e) x = qd_g (C e) q) n 0 (Nat.zero_le _) (fun q hq => absurd hq (Nat.not_lt_zero q)) ?_ ?_
  · intro m hI
    exact br_t (qx_le (by omega)) (nm_r (nI_1 x) (H1 hI))
  · intro m p hp hI ih
    have step : ((p < a ∨ b < p) → ¬ qd_g (C e) x = qd_g (C e) p) → wX_isClosed_12 post J (nI e) (nI a) (nI b) (nI x) (nI n) N L E m (nI (p + 1)) := by
      intro hn
      refine ih (fun q hq => ?_)
      by_cases eq : q = p
      · rw [eq]; exact hn
      · exact hI q (by omega)
    have out : (p < a ∨ b < p) → wX_isClosed_38 post J (wX_isClosed_12 post J (nI e) (nI a) (nI b) (nI x) (nI n) N L E m) (nI e) (nI a) (nI b) (nI x) (nI p) 1 (nI n) N L E := by
      intro ho
      refine br_f (by decide) (qx_tg h7 hN he hx hp ?_ ?_)
      · intro h
        exact br_f (by decide) (H0 p hp ho h)
      · intro h
        exact br_t rfl (nm_r (nI_1 p) (step (fun _ => h)))
    refine br_f (qx_ge hp (by omega)) ?_
    by_cases h1 : p < a
    · exact br_t (nI_lt h1 (by omega)) (out (Or.inl h1))
    · refine br_f (nI_nlt (by omega) (by omega)) ?_
      by_cases h2 : p ≤ b
      · exact br_t (nI_le h2 (by omega)) (br_t rfl (nm_r (nI_1 p) (step (fun h => by omega))))
      · exact br_f (nI_ge (by omega) (by omega)) (out (Or.inr (by omega)))
theorem qx_cl {post : Int32 → Prop} {e a b : Nat} {a' : Int32} (h7 : n ≤ 7) (hN : qx_N n C N) (he : e < 2) (ea : a' = nI a) (hab : a ≤ b + 1) (hb : b < n)
    (H1 : qd_cl n (C e) a b = true → post 1) (H0 : ¬ qd_cl n (C e) a b = true → post 0) : wpX_isClosed post (nI n, N, L, E) (nI e) a' (nI b) := by
  subst ea
  show ∃ m, wX_isClosed_3 post (nI e) (nI a) (nI b) (nI n) N L E m (nI a)
  refine qx_L (fun m x => wX_isClosed_3 post (nI e) (nI a) (nI b) (nI n) N L E m (nI x)) (fun x => a ≤ x ∧ ∀ y, a ≤ y → y < x → ∀ p, p < n → (p < a ∨ b < p) → ¬ qd_g (C e) y = qd_g (C e) p) (b + 1) a hab ⟨Nat.le_refl a, fun y h h' => by omega⟩ ?_ ?_
  · intro m hI
    refine br_t (nI_lt (by omega) (by omega)) (H1 (qd_cl_iff.mpr (fun x h1 h2 => hI.2 x h1 (by omega))))
  · intro m x hx hI ih
    refine br_f (nI_nlt (by omega) (by omega)) ?_
    refine qx_clI h7 hN he (by omega) hb (by omega) ?_ ?_
    · intro h
      refine ih ⟨by omega, fun y h1 h2 => ?_⟩
      by_cases ey : y = x
      · rw [ey]; exact h
      · exact hI.2 y h1 (by omega)
    · intro p hp ho h
      exact H0 (fun hc => qd_cl_iff.mp hc x hI.1 (by omega) p hp ho h)
theorem qx_lpa {post : Int32 → Prop} {e j : Nat} (h7 : n ≤ 7) (hN : qx_N n C N) (he : e < 2) (hj : j < n) (H : post (nI (qd_kp n (C e) j))) : wpX_leastPartner post (nI n, N, L, E) (nI e) (nI j) := by
  show ∃ m, wX_leastPartner_2 post (nI e) (nI j) (nI n) N L E m (nI 0)
  refine qx_L (fun m i => wX_leastPartner_2 post (nI e) (nI j) (nI n) N L E m (nI i)) (fun i => ∀ k, k < i → ¬ qd_cl n (C e) (Nat.succ k) j = true) j 0 (Nat.zero_le _) (fun k hk => absurd hk (Nat.not_lt_zero k)) ?_ ?_
  · intro m hI
    refine br_t (qx_le (by omega)) ?_
    have e1 : qd_kp n (C e) j = j := qd_fi_no hI
    rw [e1] at H
    exact H
  · intro m i hi hI ih
    refine br_f (qx_ge hi (by omega)) ?_
    refine qx_cl (a := i + 1) h7 hN he (nI_1 i) (by omega) hj ?_ ?_
    · intro h
      refine br_f (by decide) ?_
      have e1 : qd_kp n (C e) j = i := qd_fi_at hI h hi
      rw [e1] at H
      exact H
    · intro h
      exact br_t rfl (nm_r (nI_1 i) (ih (lt_s hI h)))
theorem qx_bb {post : Int32 → Prop} {e m : Nat} (h7 : n ≤ 7) (hN : qx_N n C N) (he : e < 2) (hm : m ≤ n) (H : post (nI (qd_bf (qd_g (C e)) m))) : wpX_blocksBefore post (nI n, N, L, E) (nI e) (nI m) := by
  show ∃ k, wX_blocksBefore_5 post (nI e) (nI m) (nI n) N L E k (nI (qd_bf (qd_g (C e)) 0)) (nI 0)
  refine qx_L (fun k i => wX_blocksBefore_5 post (nI e) (nI m) (nI n) N L E k (nI (qd_bf (qd_g (C e)) i)) (nI i)) (fun _ => True) m 0 (Nat.zero_le _) trivial ?_ ?_
  · intro k _
    exact br_t (qx_le (by omega)) H
  · intro k i hi _ ih
    have hb : qd_bf (qd_g (C e)) i ≤ i := qd_bf_le
    have ih' := ih trivial
    refine br_f (qx_ge hi (by omega)) (qx_nu h7 hN he (by omega) ?_)
    have h8 := qd_g8 (C e) i
    by_cases h : qd_g (C e) i = qd_bf (qd_g (C e)) i
    · rw [qd_bfS, qd_bi_t (by rw [Nat.beq_eq]; exact h)] at ih'
      exact br_t (by rw [h]) (nm_r (nI_1 _) (nm_r (nI_1 i) ih'))
    · rw [qd_bfS, qd_bi_f (by rw [Nat.beq_eq]; exact h)] at ih'
      exact br_f (fun h' => h ((nI_eq (by omega) (by omega)).mp h')) (nm_r (nI_1 i) ih')
theorem qx_pi {post : Int32 → Prop} {e b : Nat} (h7 : n ≤ 7) (hN : qx_N n C N) (he : e < 2) (hb : b < 8) (H : post (nI (qd_pb n (C e) b))) : wpX_pointsIn post (nI n, N, L, E) (nI e) (nI b) := by
  show ∃ k, wX_pointsIn_5 post (nI e) (nI b) (nI n) N L E k (nI (qd_pb 0 (C e) b)) (nI 0)
  refine qx_L (fun k i => wX_pointsIn_5 post (nI e) (nI b) (nI n) N L E k (nI (qd_pb i (C e) b)) (nI i)) (fun _ => True) n 0 (Nat.zero_le _) trivial ?_ ?_
  · intro k _
    exact br_t (qx_le (by omega)) H
  · intro k i hi _ ih
    have ih' := ih trivial
    have eS : qd_pb (i + 1) (C e) b = qd_bi (Nat.beq (qd_g (C e) i) b) (qd_pb i (C e) b + 1) (qd_pb i (C e) b) := rfl
    refine br_f (qx_ge hi (by omega)) (qx_nu h7 hN he (by omega) ?_)
    by_cases h : qd_g (C e) i = b
    · rw [eS, qd_bi_t (by rw [Nat.beq_eq]; exact h)] at ih'
      exact br_t (by rw [h]) (nm_r (nI_1 _) (nm_r (nI_1 i) ih'))
    · rw [eS, qd_bi_f (by rw [Nat.beq_eq]; exact h)] at ih'
      exact br_f (fun h' => h ((qx_eq8 (qd_g8 _ _) hb).mp h')) (nm_r (nI_1 i) ih')
theorem qx_en {post : Int32 → Prop} {f : Int32} {u r : Nat} {r' : Int32} (hE : qx_E E) (er : r' = nI r) (h : u + r ≤ 7) (H : post (nI (qd_eg r u))) : wpX_endingsOf post (f, N, L, E) (nI u) r' := by
  subst er
  have e1 : nI u * 8 + nI r = nI (u * 8 + r) := by
    rw [show (8 : Int32) = nI 8 from rfl, pk_mul, nI_add]
  show vp_in (nI u * 8 + nI r) 64 ∧ post (E (nI u * 8 + nI r).toNatClampNeg)
  rw [e1, qx_c E (by omega), hE u r h]
  exact ⟨vp_in_nI (by omega) (by omega), H⟩
theorem qx_pts {post : Int32 → Prop} {b : Nat} (h7 : n ≤ 7) (hN : qx_N n C N) (hb : b < 8) (H : post (nI (qd_pt n (C 0) (C 1) b))) : wpX_partsOf post (nI n, N, L, E) (nI b) := by
  show ∃ k, wX_partsOf_7 post (nI b) (nI n) N L E k (nI (qd_pt 0 (C 0) (C 1) b)) (nI (qd_bf (qd_g (C 0)) 0)) (nI 0)
  refine qx_L (fun k i => wX_partsOf_7 post (nI b) (nI n) N L E k (nI (qd_pt i (C 0) (C 1) b)) (nI (qd_bf (qd_g (C 0)) i)) (nI i)) (fun _ => True) n 0 (Nat.zero_le _) trivial ?_ ?_
  · intro k _
    exact br_t (qx_le (by omega)) H
  · intro k i hi _ ih
    have hbf : qd_bf (qd_g (C 0)) i ≤ i := qd_bf_le
    have h8 := qd_g8 (C 0) i
    have ih' := ih trivial
    have eS : qd_pt (i + 1) (C 0) (C 1) b = qd_bi (qd_bi (Nat.beq (qd_g (C 0) i) (qd_bf (qd_g (C 0)) i)) (Nat.beq (qd_g (C 1) i) b) false) (qd_pt i (C 0) (C 1) b + 1) (qd_pt i (C 0) (C 1) b) := rfl
    refine br_f (qx_ge hi (by omega)) (qx_nu (e := 0) h7 hN (by omega) hi ?_)
    rw [eS, qd_bfS] at ih'
    by_cases h : qd_g (C 0) i = qd_bf (qd_g (C 0)) i
    · rw [qd_bi_t (b := Nat.beq (qd_g (C 0) i) (qd_bf (qd_g (C 0)) i)) (by rw [Nat.beq_eq]; exact h), qd_bi_t (b := Nat.beq (qd_g (C 0) i) (qd_bf (qd_g (C 0)) i)) (by rw [Nat.beq_eq]; exact h)] at ih'
      refine br_t (by rw [h]) (nm_r (nI_1 _) (qx_nu (e := 1) h7 hN (by omega) hi ?_))
      by_cases h2 : qd_g (C 1) i = b
      · rw [qd_bi_t (by rw [Nat.beq_eq]; exact h2)] at ih'
        exact br_t (by rw [h2]) (nm_r (nI_1 _) (nm_r (nI_1 i) ih'))
      · rw [qd_bi_f (by rw [Nat.beq_eq]; exact h2)] at ih'
        exact br_f (fun h' => h2 ((qx_eq8 (qd_g8 _ _) hb).mp h')) (nm_r (nI_1 i) ih')
    · rw [qd_bi_f (b := Nat.beq (qd_g (C 0) i) (qd_bf (qd_g (C 0)) i)) (by rw [Nat.beq_eq]; exact h), qd_bi_f (b := Nat.beq (qd_g (C 0) i) (qd_bf (qd_g (C 0)) i)) (by rw [Nat.beq_eq]; exact h), qd_biF] at ih'
      exact br_f (fun h' => h ((nI_eq (by omega) (by omega)).mp h')) (nm_r (nI_1 i) ih')
/-- element 0 is finer than element 1, by digits -/
def qx_F (n : Nat) (C : Nat → Nat) : Prop := ∀ i j, i < j → j < n → qd_g (C 0) i = qd_g (C 0) j → qd_g (C 1) i = qd_g (C 1) j
theorem qx_fin {post : Int32 → Prop} (h7 : n ≤ 7) (hN : qx_N n C N) (H1 : qx_F n C → post 1) (H0 : ¬ qx_F n C → post 0) : wpX_isFiner post (nI n, N, L, E) := by
  show ∃ m, wX_isFiner_2 post (nI n) N L E m (nI 0)
  refine qx_L (fun m i => wX_isFiner_2 post (nI n) N L E m (nI i)) (fun i => ∀ i' j, i' < i → i' < j → j < n → qd_g (C 0) i' = qd_g (C 0) j → qd_g (C 1) i' = qd_g (C 1) j) n 0 (Nat.zero_le _) (fun i' j h => absurd h (Nat.not_lt_zero i')) ?_ ?_
  · intro m hI
    exact br_t (qx_le (by omega)) (H1 (fun i j h1 h2 => hI i j (by omega) h1 h2))
  · intro m i hi hI ih
    refine br_f (qx_ge hi (by omega)) (nm_r (nI_1 i) ?_)
    refine qx_L (fun k j => wX_isFiner_14 post (wX_isFiner_2 post (nI n) N L E m) (nI i) (nI n) N L E k (nI j)) (fun j => i < j ∧ ∀ j', i < j' → j' < j → qd_g (C 0) i = qd_g (C 0) j' → qd_g (C 1) i = qd_g (C 1) j') n (i + 1) (by omega) ⟨by omega, fun j' h h' => by omega⟩ ?_ ?_
    · intro k hJ
      refine br_t (qx_le (by omega)) (nm_r (nI_1 i) (ih ?_))
      intro i' j h1 h2 h3
      by_cases ei : i' = i
      · subst ei; exact hJ.2 j h2 h3
      · exact hI i' j (by omega) h2 h3
    · intro k j hj hJ jh
      have step : (qd_g (C 0) i = qd_g (C 0) j → qd_g (C 1) i = qd_g (C 1) j) → wX_isFiner_14 post (wX_isFiner_2 post (nI n) N L E m) (nI i) (nI n) N L E k (nI (j + 1)) := by
        intro h
        refine jh ⟨by omega, fun j' h1 h2 => ?_⟩
        by_cases ej : j' = j
        · rw [ej]; exact h
        · exact hJ.2 j' h1 (by omega)
      refine br_f (qx_ge hj (by omega)) (qx_tg (e := 0) h7 hN (by omega) hi hj ?_ ?_)
      · intro h
        refine br_f (by decide) (qx_tg (e := 1) h7 hN (by omega) hi hj ?_ ?_)
        · intro h2
          exact br_f (by decide) (nm_r (nI_1 j) (step (fun _ => h2)))
        · intro h2
          exact br_t rfl (H0 (fun hF => h2 (hF i j hJ.1 hj h)))
      · intro h
        exact br_t rfl (nm_r (nI_1 j) (step (fun h' => absurd h' h)))
theorem qx_ca_ok : ∀ s, s < 7 → qd_ca s * 2 * (2 * s + 1) < 2 ^ 31 := by decide +kernel
theorem qx_ca {post : Int32 → Prop} {u : SX} {k : Nat} (hk : k ≤ 7) (H : post (nI (qd_ca k))) : wpX_catalan post u (nI k) := by
  obtain ⟨f, N, L, E⟩ := u
  show ∃ m, wX_catalan_4 post (nI k) f N L E m (nI (qd_ca 0)) (nI 0)
  refine qx_L (fun m s => wX_catalan_4 post (nI k) f N L E m (nI (qd_ca s)) (nI s)) (fun _ => True) k 0 (Nat.zero_le _) trivial ?_ ?_
  · intro m _
    exact br_t (qx_le (by omega)) H
  · intro m s hs _ ih
    have e2 : nI s + 2 = nI (s + 2) := nI_add s 2
    have hok := qx_ca_ok s (by omega)
    have eS : qd_ca (s + 1) = qd_ca s * 2 * (2 * s + 1) / (s + 2) := rfl
    refine br_f (qx_ge hs (by omega)) ⟨by rw [e2]; exact nI_ne0 (by omega) (by omega), nm_r ?_ (nm_r (nI_1 s) (ih trivial))⟩
    have e3 : 2 * nI s + 1 = nI (2 * s + 1) := by
      rw [show (2 : Int32) = nI 2 from rfl, pk_mul, nI_1]
    rw [eS, e2, e3, show (2 : Int32) = nI 2 from rfl, pk_mul, pk_mul, pk_div hok (by omega) (by omega)]
end
