/-! 12: the reference's private methods -/
theorem qy_or2 (a b : Nat) : nI a ||| nI b = nI (a ||| b) := by
  apply Int32.toBitVec_inj.1
  show BitVec.ofNat 32 a ||| BitVec.ofNat 32 b = BitVec.ofNat 32 (a ||| b)
  apply BitVec.eq_of_getLsbD_eq
  intro i hi
  simp [hi]
theorem qy_and2 (a b : Nat) : nI a &&& nI b = nI (a &&& b) := by
  apply Int32.toBitVec_inj.1
  show BitVec.ofNat 32 a &&& BitVec.ofNat 32 b = BitVec.ofNat 32 (a &&& b)
  apply BitVec.eq_of_getLsbD_eq
  intro i hi
  simp [hi]
theorem qy_xor2 (a b : Nat) : nI a ^^^ nI b = nI (a ^^^ b) := by
  apply Int32.toBitVec_inj.1
  show BitVec.ofNat 32 a ^^^ BitVec.ofNat 32 b = BitVec.ofNat 32 (a ^^^ b)
  apply BitVec.eq_of_getLsbD_eq
  intro i hi
  simp [hi]
theorem qy_sh : ∀ b, b < 21 → (1 : Int32) <<< (nI b &&& 31) = nI (2 ^ b) := by decide +kernel
theorem qy_bx1 : ∀ n, n < 8 → ∀ i, i < n → ∀ j, j < n → i < j → qd_bx n i (j + 1) = qd_bx n i j + 1 := by decide +kernel
theorem qy_bxr : ∀ n, n < 8 → ∀ i, i < n → qd_bx n i n = qd_bx n (i + 1) (i + 2) := by decide +kernel
theorem qd_pjS (R : Nat → Nat → Bool) (n i z m : Nat) : qd_pj R n i z (m + 1) = qd_bi (Nat.blt i m) (qd_bi (R i m) (qd_pj R n i z m ||| 2 ^ qd_bx n i m) (qd_pj R n i z m)) (qd_pj R n i z m) := rfl
theorem qd_pj_lo {R : Nat → Nat → Bool} {n i z : Nat} : ∀ {m : Nat}, m ≤ i + 1 → qd_pj R n i z m = z := by
  intro m
  induction m with
  | zero => intro _; rfl
  | succ m ih =>
    intro h
    rw [qd_pjS, qd_bi_f (by rw [Nat.blt_eq]; omega), ih (by omega)]
/-- points alike in an array -/
def qy_R (a : Nat → Int32) (i j : Nat) : Bool := decide (a i = a j)
theorem qy_R_iff {a : Nat → Int32} {i j : Nat} : qy_R a i j = true ↔ a i = a j := decide_eq_true_iff
section
variable {n M : Nat} {cd pr cn cx fd el ro ot nu tw : Nat → Int32}
theorem qy_badF {post : Int32 → Prop} {u : SY} {e : Nat} (he : e < 2) (h : post 0) : wpY_bad post u (nI e) := by
  obtain ⟨f1, f2, a1, a2, a3, a4, a5, a6, a7, a8, a9, a10⟩ := u
  exact br_f (nI_pos (by omega)) (br_t (nI_le (b := 1) (by omega) (by omega)) h)
theorem qy_badT {post : Int32 → Prop} {u : SY} {e : Int32} (h0 : ¬ e = 0) (h1 : ¬ e = 1) (h : post 1) : wpY_bad post u e := by
  obtain ⟨f1, f2, a1, a2, a3, a4, a5, a6, a7, a8, a9, a10⟩ := u
  refine br_c (fun _ => h) (fun hn => br_f (fun hl => ?_) h)
  obtain ⟨j, hj, rfl⟩ := nI_of2 (n := 1) (M := 1) rfl hn hl
  rcases (show j = 0 ∨ j = 1 by omega) with rfl | rfl
  · exact h0 rfl
  · exact h1 rfl
theorem qy_ptF {post : Int32 → Prop} {i : Nat} (h7 : n ≤ 7) (hi : i < n) (h : post 0) : wpY_noPoint post (nI n, nI M, cd, pr, cn, cx, fd, el, ro, ot, nu, tw) (nI i) :=
  br_f (nI_pos (by omega)) (br_t (nI_lt hi (by omega)) h)
theorem qy_ptT {post : Int32 → Prop} {i : Int32} (hi : i < 0 ∨ nI n ≤ i) (h : post 1) : wpY_noPoint post (nI n, nI M, cd, pr, cn, cx, fd, el, ro, ot, nu, tw) i :=
  br_c (fun _ => h) (fun h0 => br_f (fun hl => absurd (hi.resolve_left h0) (Int32.not_le.mpr hl)) h)
theorem qy_togI {post : Int32 → Prop} {J : Int32 → Int32 → Int32 → Prop} {i z : Nat} (h7 : n ≤ 7) (hi : i < n)
    (H : J (nI (qd_pj (qy_R ro) n i z n)) (nI (qd_bx n (i + 1) (i + 2))) (nI (i + 1))) :
    ∃ m, wY_together_19 post J (nI i) (nI n) (nI M) cd pr cn cx fd el ro ot nu tw m (nI z) (nI (qd_bx n i (i + 1))) (nI (i + 1)) := by
  suffices h : ∃ m, wY_together_19 post J (nI i) (nI n) (nI M) cd pr cn cx fd el ro ot nu tw m (nI (qd_pj (qy_R ro) n i z (i + 1))) (nI (qd_bx n i (i + 1))) (nI (i + 1)) by
    rw [qd_pj_lo (Nat.le_refl _)] at h
    exact h
  refine qx_L (fun m j => wY_together_19 post J (nI i) (nI n) (nI M) cd pr cn cx fd el ro ot nu tw m (nI (qd_pj (qy_R ro) n i z j)) (nI (qd_bx n i j)) (nI j)) (fun j => i < j) n (i + 1) (by omega) (by omega) ?_ ?_
  · intro m _
    refine br_t (qx_le (by omega)) (nm_r (nI_1 i) ?_)
    rw [qy_bxr n (by omega) i hi]
    exact H
  · intro m j hj hij ih
    have hb := qd_bx_lt n (by omega) i hi j hj hij
    have ih' := ih (by omega)
    rw [qd_pjS, qd_bi_t (by rw [Nat.blt_eq]; exact hij), qy_bx1 n (by omega) i hi j hj hij] at ih'
    refine br_f (qx_ge hj (by omega)) ⟨qx_i7 (by omega), qx_i7 (by omega), qx_bc (qx_c ro (by omega)) (qx_c ro (by omega)) ?_ ?_⟩
    · intro e
      rw [qd_bi_t (qy_R_iff.mpr e)] at ih'
      exact nm_r (by rw [qy_sh _ hb, qy_or2]) (nm_r (nI_1 _) (nm_r (nI_1 j) ih'))
    · intro e
      rw [qd_bi_f (fun h => e (qy_R_iff.mp h))] at ih'
      exact nm_r (nI_1 _) (nm_r (nI_1 j) ih')
theorem qy_tog {post : Int32 → Prop} (h7 : n ≤ 7) (H : post (nI (qd_pm (qy_R ro) n))) : wpY_together post (nI n, nI M, cd, pr, cn, cx, fd, el, ro, ot, nu, tw) := by
  have eb : qd_bx n 0 (0 + 1) = 0 := by
    show 0 * n + 1 - 1 = 0
    rw [Nat.zero_mul]
  suffices h : ∃ m, wY_together_6 post (nI n) (nI M) cd pr cn cx fd el ro ot nu tw m (nI (qd_it (fun i r => qd_pj (qy_R ro) n i r n) 0 0)) (nI (qd_bx n 0 (0 + 1))) (nI 0) by
    rw [eb] at h
    exact h
  refine qx_L (fun m i => wY_together_6 post (nI n) (nI M) cd pr cn cx fd el ro ot nu tw m (nI (qd_it (fun i r => qd_pj (qy_R ro) n i r n) 0 i)) (nI (qd_bx n i (i + 1))) (nI i)) (fun _ => True) n 0 (Nat.zero_le _) trivial ?_ ?_
  · intro m _
    exact br_t (qx_le (by omega)) H
  · intro m i hi _ ih
    exact br_f (qx_ge hi (by omega)) (nm_r (nI_1 i) (qy_togI h7 hi (ih trivial)))
theorem qy_i14 {k : Nat} (h : k < 14) : vp_in (nI k) 14 := vp_in_nI h (by omega)
theorem qy_i877 {k : Nat} (h : k < 877) : vp_in (nI k) 877 := vp_in_nI h (by omega)
/-- between i and k, and behind k, two points alike that are not alike to i -/
def qy_SP (tw : Nat → Int32) (i k m : Nat) : Prop := ∃ j l, i < j ∧ j < k ∧ k < l ∧ l < m ∧ tw j = tw l ∧ ¬ tw j = tw i
theorem qy_split {post : Int32 → Prop} {i k m : Nat} (hm : m ≤ 14) (hik : i < k) (hk : k < m) (H1 : qy_SP tw i k m → post 1) (H0 : ¬ qy_SP tw i k m → post 0) :
    wpY_split post (nI n, nI M, cd, pr, cn, cx, fd, el, ro, ot, nu, tw) (nI i) (nI k) (nI m) := by
  refine nm_r (nI_1 i) ?_
  refine qx_L (fun f j => wY_split_5 post (nI i) (nI k) (nI m) (nI n) (nI M) cd pr cn cx fd el ro ot nu tw f (nI j)) (fun j => i < j ∧ ∀ j' l, i < j' → j' < j → k < l → l < m → ¬ (tw j' = tw l ∧ ¬ tw j' = tw i)) k (i + 1) (by omega) ⟨by omega, fun j' l h h' => by omega⟩ ?_ ?_
  · intro f hI
    refine br_t (qx_le (by omega)) (H0 ?_)
    rintro ⟨j, l, h1, h2, h3, h4, h5⟩
    exact hI.2 j l h1 h2 h3 h4 h5
  · intro f j hj hI ih
    refine br_f (qx_ge hj (by omega)) (nm_r (nI_1 k) ?_)
    refine qx_L (fun g l => wY_split_16 post (wY_split_5 post (nI i) (nI k) (nI m) (nI n) (nI M) cd pr cn cx fd el ro ot nu tw f) (nI i) (nI k) (nI m) (nI j) (nI n) (nI M) cd pr cn cx fd el ro ot nu tw g (nI l)) (fun l => k < l ∧ ∀ l', k < l' → l' < l → ¬ (tw j = tw l' ∧ ¬ tw j = tw i)) m (k + 1) (by omega) ⟨by omega, fun l' h h' => by omega⟩ ?_ ?_
    · intro g hJ
      refine br_t (qx_le (by omega)) (nm_r (nI_1 j) (ih ⟨by omega, fun j' l h1 h2 h3 h4 => ?_⟩))
      by_cases ej : j' = j
      · rw [ej]; exact hJ.2 l h3 h4
      · exact hI.2 j' l h1 (by omega) h3 h4
    · intro g l hl hJ jh
      have step : ¬ (tw j = tw l ∧ ¬ tw j = tw i) → wY_split_16 post (wY_split_5 post (nI i) (nI k) (nI m) (nI n) (nI M) cd pr cn cx fd el ro ot nu tw f) (nI i) (nI k) (nI m) (nI j) (nI n) (nI M) cd pr cn cx fd el ro ot nu tw g (nI (l + 1)) := by
        intro hn
        refine jh ⟨by omega, fun l' h1 h2 => ?_⟩
        by_cases el' : l' = l
        · rw [el']; exact hn
        · exact hJ.2 l' h1 (by omega)
      refine br_f (qx_ge hl (by omega)) ⟨qy_i14 (by omega), qy_i14 (by omega), qx_bc (qx_c tw (by omega)) (qx_c tw (by omega)) ?_ ?_⟩
      · intro e
        refine ⟨qy_i14 (by omega), qy_i14 (by omega), qx_bc (qx_c tw (by omega)) (qx_c tw (by omega)) ?_ ?_⟩
        · intro e2
          exact nm_r (nI_1 l) (step (fun h => h.2 e2))
        · intro e2
          exact H1 ⟨j, l, hI.1, hj, hJ.1, hl, e, e2⟩
      · intro e
        exact nm_r (nI_1 l) (step (fun h => e h.1))
theorem qy_cr_sp {m : Nat} : qd_cr (qy_R tw) m = true ↔ ∃ i k, i + 2 ≤ k ∧ k < m ∧ tw i = tw k ∧ qy_SP tw i k m := by
  rw [qd_cr_iff]
  simp only [qy_R_iff]
  constructor
  · rintro ⟨i, j, k, l, h1, h2, h3, h4, h5, h6, h7⟩
    exact ⟨i, k, by omega, by omega, h6, j, l, h1, h2, h3, h4, h7, fun h => h5 h.symm⟩
  · rintro ⟨i, k, h1, h2, h3, j, l, h4, h5, h6, h7, h8, h9⟩
    exact ⟨i, j, k, l, h4, h5, h6, h7, fun h => h9 h.symm, h3, h8⟩
theorem qy_cr44 {post : Int32 → SY → Prop} {m : Nat} (hm : m ≤ 14) (H1 : qd_cr (qy_R tw) m = true → post 1 (nI n, nI M, cd, pr, cn, cx, fd, el, ro, ot, nu, tw)) (H0 : ¬ qd_cr (qy_R tw) m = true → post 0 (nI n, nI M, cd, pr, cn, cx, fd, el, ro, ot, nu, tw)) :
    ∃ f, wY_crossing_44 post (nI m) (nI n) (nI M) cd pr cn cx fd el ro ot nu tw f (nI 0) := by
  have hx := qy_cr_sp (tw := tw) (m := m)
  refine qx_L (fun f i => wY_crossing_44 post (nI m) (nI n) (nI M) cd pr cn cx fd el ro ot nu tw f (nI i)) (fun i => ∀ i' k, i' < i → i' + 2 ≤ k → k < m → tw i' = tw k → ¬ qy_SP tw i' k m) m 0 (Nat.zero_le _) (fun i' k h => absurd h (Nat.not_lt_zero i')) ?_ ?_
  · intro f hI
    refine br_t (qx_le (by omega)) (H0 (fun h => ?_))
    obtain ⟨i, k, h1, h2, h3, h4⟩ := hx.mp h
    exact hI i k (by omega) h1 h2 h3 h4
  · intro f i hi hI ih
    have e2 : nI i + 2 = nI (i + 2) := nI_add i 2
    refine br_f (qx_ge hi (by omega)) (nm_r e2 ?_)
    by_cases hb : i + 2 ≤ m
    · refine qx_L (fun g k => wY_crossing_53 post (wY_crossing_44 post (nI m) (nI n) (nI M) cd pr cn cx fd el ro ot nu tw f) (nI m) (nI i) (nI n) (nI M) cd pr cn cx fd el ro ot nu tw g (nI k)) (fun k => i + 2 ≤ k ∧ ∀ k', i + 2 ≤ k' → k' < k → tw i = tw k' → ¬ qy_SP tw i k' m) m (i + 2) hb ⟨Nat.le_refl _, fun k' h h' => by omega⟩ ?_ ?_
      · intro g hJ
        refine br_t (qx_le (by omega)) (nm_r (nI_1 i) (ih (fun i' k h1 h2 h3 => ?_)))
        by_cases ei : i' = i
        · subst ei; exact hJ.2 k h2 h3
        · exact hI i' k (by omega) h2 h3
      · intro g k hk hJ jh
        have step : (tw i = tw k → ¬ qy_SP tw i k m) → wY_crossing_53 post (wY_crossing_44 post (nI m) (nI n) (nI M) cd pr cn cx fd el ro ot nu tw f) (nI m) (nI i) (nI n) (nI M) cd pr cn cx fd el ro ot nu tw g (nI (k + 1)) := by
          intro hn
          refine jh ⟨by omega, fun k' h1 h2 => ?_⟩
          by_cases ek : k' = k
          · rw [ek]; exact hn
          · exact hJ.2 k' h1 (by omega)
        refine br_f (qx_ge hk (by omega)) ⟨qy_i14 (by omega), qy_i14 (by omega), qx_bc (qx_c tw (by omega)) (qx_c tw (by omega)) ?_ ?_⟩
        · intro e
          refine qy_split hm (by omega) hk ?_ ?_
          · intro hs
            exact br_f (by decide) (H1 (hx.mpr ⟨i, k, hJ.1, hk, e, hs⟩))
          · intro hs
            exact br_t rfl (nm_r (nI_1 k) (step (fun _ => hs)))
        · intro e
          exact nm_r (nI_1 k) (step (fun h => absurd h e))
    · refine ⟨1, br_t (nI_le (by omega) (by omega)) (nm_r (nI_1 i) (ih (fun i' k h1 h2 h3 => ?_)))⟩
      by_cases ei : i' = i
      · subst ei; omega
      · exact hI i' k (by omega) h2 h3
theorem qy_crN {post : Int32 → SY → Prop} (h7 : n ≤ 7) (H : ∀ tw', post (qx_b (qd_cr (qy_R ro) n)) (nI n, nI M, cd, pr, cn, cx, fd, el, ro, ot, nu, tw')) : wpY_crossing post (nI n, nI M, cd, pr, cn, cx, fd, el, ro, ot, nu, tw) (nI n) := by
  show ∃ f, wY_crossing_2 post (nI n) (nI n) (nI M) f (nI 0) cd pr cn cx fd el ro ot nu tw
  refine pk_loop (fun f i (s : Nat → Int32) => wY_crossing_2 post (nI n) (nI n) (nI M) f (nI i) cd pr cn cx fd el ro ot nu s) (fun i s => ∀ j, j < i → s j = ro j) n 0 tw (Nat.zero_le _) (fun j hj => absurd hj (Nat.not_lt_zero j)) ?_ ?_
  · intro f s h
    have hc : qd_cr (qy_R s) n = qd_cr (qy_R ro) n := qd_crC (fun i j hi hj => by unfold qy_R; rw [h i hi, h j hj])
    refine br_t (qx_le (by omega)) (qy_cr44 (by omega) (fun h1 => ?_) (fun h1 => ?_))
    · have := H s
      rw [← hc, qx_bt h1] at this
      exact this
    · have := H s
      rw [← hc, qx_bf h1] at this
      exact this
  · intro f i s hi h ih
    refine br_f (qx_ge hi (by omega)) (br_t rfl ⟨qx_i7 (by omega), qy_i14 (by omega), ?_⟩)
    refine nm_r (show upd s (nI i).toNatClampNeg (ro (nI i).toNatClampNeg) = upd s i (ro i) by rw [nI_clamp (by omega)]) (nm_r (nI_1 i) (ih _ ?_))
    intro j hj
    by_cases ej : j = i
    · subst ej; exact pk_us
    · rw [pk_un ej]; exact h j (by omega)
theorem qy_cr2n {post : Int32 → SY → Prop} {m' : Int32} (h1 : 1 ≤ n) (h7 : n ≤ 7) (em : m' = nI (2 * n)) (H : ∀ tw', post (qx_b (qd_cr (qy_R nu) (2 * n))) (nI n, nI M, cd, pr, cn, cx, fd, el, ro, ot, nu, tw')) : wpY_crossing post (nI n, nI M, cd, pr, cn, cx, fd, el, ro, ot, nu, tw) m' := by
  subst em
  show ∃ f, wY_crossing_2 post (nI (2 * n)) (nI n) (nI M) f (nI 0) cd pr cn cx fd el ro ot nu tw
  refine pk_loop (fun f i (s : Nat → Int32) => wY_crossing_2 post (nI (2 * n)) (nI n) (nI M) f (nI i) cd pr cn cx fd el ro ot nu s) (fun i s => ∀ j, j < i → s j = nu j) (2 * n) 0 tw (Nat.zero_le _) (fun j hj => absurd hj (Nat.not_lt_zero j)) ?_ ?_
  · intro f s h
    have hc : qd_cr (qy_R s) (2 * n) = qd_cr (qy_R nu) (2 * n) := qd_crC (fun i j hi hj => by unfold qy_R; rw [h i hi, h j hj])
    refine br_t (qx_le (by omega)) (qy_cr44 (by omega) (fun h1 => ?_) (fun h1 => ?_))
    · have := H s
      rw [← hc, qx_bt h1] at this
      exact this
    · have := H s
      rw [← hc, qx_bf h1] at this
      exact this
  · intro f i s hi h ih
    refine br_f (qx_ge hi (by omega)) (br_f (fun e => absurd ((nI_eq (by omega) (by omega)).mp e) (by omega)) ⟨qy_i14 (by omega), qy_i14 (by omega), ?_⟩)
    refine nm_r (show upd s (nI i).toNatClampNeg (nu (nI i).toNatClampNeg) = upd s i (nu i) by rw [nI_clamp (by omega)]) (nm_r (nI_1 i) (ih _ ?_))
    intro j hj
    by_cases ej : j = i
    · subst ej; exact pk_us
    · rw [pk_un ej]; exact h j (by omega)
theorem qy_take {post : SY → Prop} {k c : Nat} (h7 : n ≤ 7) (hk : k < 877) (hc : cd k = nI c) (hc8 : c < 8 ^ n) (H : ∀ ro', (∀ i, i < n → ro' i = nI (qd_g c i)) → post (nI n, nI M, cd, pr, cn, cx, fd, el, ro', ot, nu, tw)) : wpY_take post (nI n, nI M, cd, pr, cn, cx, fd, el, ro, ot, nu, tw) (nI k) := by
  have hc9 : c < 2 ^ 31 := Nat.lt_of_lt_of_le hc8 (Nat.le_trans (Nat.pow_le_pow_right (by decide) h7) (by decide))
  refine ⟨qy_i877 hk, nm_r ((qx_c cd hk).trans hc) ?_⟩
  have hS : ∀ i, c / 8 ^ i / 8 = c / 8 ^ (i + 1) := fun i => by rw [Nat.div_div_eq_div_mul, Nat.pow_succ]
  have h0 : c / 8 ^ 0 = c := by rw [Nat.pow_zero, Nat.div_one]
  suffices h : ∃ f, wY_take_9 post (nI n) (nI M) f (nI (c / 8 ^ 0)) (nI 0) cd pr cn cx fd el ro ot nu tw by
    rw [h0] at h
    exact h
  refine pk_loop (fun f i (s : Nat → Int32) => wY_take_9 post (nI n) (nI M) f (nI (c / 8 ^ i)) (nI i) cd pr cn cx fd el s ot nu tw) (fun i s => ∀ j, j < i → s j = nI (qd_g c j)) n 0 ro (Nat.zero_le _) (fun j hj => absurd hj (Nat.not_lt_zero j)) ?_ ?_
  · intro f s h
    exact br_t (qx_le (by omega)) (H s h)
  · intro f i s hi h ih
    have hl : c / 8 ^ i < 2 ^ 31 := Nat.lt_of_le_of_lt (Nat.div_le_self _ _) hc9
    have e8 : (8 : Int32) = nI 8 := rfl
    refine br_f (qx_ge hi (by omega)) ⟨by decide, qx_i7 (by omega), ?_⟩
    refine nm_r (show upd s (nI i).toNatClampNeg (nI (c / 8 ^ i) - nI (c / 8 ^ i) / 8 * 8) = upd s i (nI (qd_g c i)) by rw [nI_clamp (by omega), e8, pk_rem hl (by omega) (by omega), qd_g_eq]) ⟨by decide, ?_⟩
    refine nm_r (show nI (c / 8 ^ i) / 8 = nI (c / 8 ^ (i + 1)) by rw [e8, pk_div hl (by omega) (by omega), hS]) (nm_r (nI_1 i) (ih _ ?_))
    intro j hj
    by_cases ej : j = i
    · subst ej; exact pk_us
    · rw [pk_un ej]; exact h j (by omega)
theorem qy_keep {post : Int32 → SY → Prop} {e k0 : Nat} {mk : Nat → Nat} (h7 : n ≤ 7) (he : e < 2) (hM : M ≤ 877) (hk0 : k0 < M) (hp : ∀ k, k < M → pr k = nI (mk k)) (hm : ∀ k, k < M → mk k < 2 ^ 21)
    (hs : qd_pm (qy_R ro) n = mk k0) (hu : ∀ k, k < M → mk k = mk k0 → k = k0)
    (H : ∀ el', el' e = nI k0 → (∀ j, ¬ j = e → el' j = el j) → post (cn k0) (nI n, nI M, cd, pr, cn, cx, fd, el', ro, ot, nu, tw)) : wpY_keep post (nI n, nI M, cd, pr, cn, cx, fd, el, ro, ot, nu, tw) (nI e) := by
  unfold wpY_keep
  refine qy_tog h7 ?_
  rw [hs]
  show ∃ f, wY_keep_7 post (nI e) (nI (mk k0)) (nI n) (nI M) f (nI 0) cd pr cn cx fd el ro ot nu tw
  have h2 : vp_in (nI e) 2 := vp_in_nI he (by omega)
  refine pk_loop (fun f k (s : Nat → Int32) => wY_keep_7 post (nI e) (nI (mk k0)) (nI n) (nI M) f (nI k) cd pr cn cx fd s ro ot nu tw) (fun k s => (∀ j, ¬ j = e → s j = el j) ∧ (k0 < k → s e = nI k0)) M 0 el (Nat.zero_le _) ⟨fun _ _ => rfl, fun h => absurd h (Nat.not_lt_zero k0)⟩ ?_ ?_
  · intro f s h
    have es : s (nI e).toNatClampNeg = nI k0 := by rw [qx_c s (by omega), h.2 hk0]
    refine br_t (nI_le (Nat.le_refl M) (by omega)) ⟨h2, by rw [es]; exact qy_i877 (by omega), ?_⟩
    rw [es, qx_c cn (by omega)]
    exact H s (h.2 hk0) h.1
  · intro f k s hk h ih
    refine br_f (nI_ge hk (by omega)) ⟨qy_i877 (by omega), qx_bc ((qx_c pr (by omega)).trans (hp k hk)) rfl ?_ ?_⟩
    · intro e1
      have e2 : k = k0 := hu k hk ((nI_eq (Nat.lt_trans (hm k hk) (by decide)) (Nat.lt_trans (hm k0 hk0) (by decide))).mp e1)
      refine ⟨h2, nm_r (congrArg (fun j => upd s j (nI k)) (nI_clamp (by omega))) (nm_r (nI_1 k) (ih _ ⟨fun j hj => ?_, fun _ => ?_⟩))⟩
      · rw [pk_un hj]; exact h.1 j hj
      · rw [pk_us, e2]
    · intro e1
      refine nm_r (nI_1 k) (ih _ ⟨h.1, fun hlt => ?_⟩)
      refine h.2 ?_
      have : k0 ≠ k := fun e2 => e1 (by rw [← e2])
      omega
theorem qy_unite {post : SY → Prop} {x y : Int32} (h7 : n ≤ 7) (H : ∀ ro', (∀ p, p < n → ro' p = if ro p = x then y else ro p) → post (nI n, nI M, cd, pr, cn, cx, fd, el, ro', ot, nu, tw)) : wpY_unite post (nI n, nI M, cd, pr, cn, cx, fd, el, ro, ot, nu, tw) x y := by
  show ∃ f, wY_unite_2 post x y (nI n) (nI M) f (nI 0) cd pr cn cx fd el ro ot nu tw
  refine pk_loop (fun f p (s : Nat → Int32) => wY_unite_2 post x y (nI n) (nI M) f (nI p) cd pr cn cx fd el s ot nu tw)
    (fun p s => (∀ q, q < p → s q = if ro q = x then y else ro q) ∧ ∀ q, p ≤ q → s q = ro q) n 0 ro (Nat.zero_le _) ⟨fun q hq => absurd hq (Nat.not_lt_zero q), fun _ _ => rfl⟩ ?_ ?_
  · intro f s h
    exact br_t (qx_le (by omega)) (H s h.1)
  · intro f p s hp h ih
    refine br_f (qx_ge hp (by omega)) ⟨qx_i7 (by omega), qx_bc ((qx_c s (by omega)).trans (h.2 p (Nat.le_refl p))) rfl ?_ ?_⟩
    · intro e
      refine ⟨qx_i7 (by omega), nm_r (congrArg (fun k => upd s k y) (nI_clamp (by omega))) (nm_r (nI_1 p) (ih _ ⟨?_, ?_⟩))⟩
      · intro q hq
        by_cases eq : q = p
        · subst eq; rw [pk_us, if_pos e]
        · rw [pk_un eq]; exact h.1 q (by omega)
      · intro q hq
        rw [pk_un (by omega)]
        exact h.2 q (by omega)
    · intro e
      refine nm_r (nI_1 p) (ih _ ⟨?_, fun q hq => h.2 q (by omega)⟩)
      intro q hq
      by_cases eq : q = p
      · subst eq; rw [h.2 q (Nat.le_refl q), if_neg e]
      · exact h.1 q (by omega)
theorem qy_andn {a b : Nat} (ha : a < 2 ^ 21) (hb : b < 2 ^ 21) : nI a &&& (nI b ^^^ (-1)) = 0 ↔ a &&& b = a := by
  have e1 : (-1 : Int32) = nI 4294967295 := by decide
  rw [e1, qy_xor2, qy_and2, show (0 : Int32) = nI 0 from rfl, nI_eq (Nat.lt_of_le_of_lt Nat.and_le_left (Nat.lt_trans ha (by decide))) (by decide)]
  have hM : ∀ i, (4294967295 : Nat).testBit i = decide (i < 32) := fun i => Nat.testBit_two_pow_sub_one 32 i
  have hz : ∀ i, 21 ≤ i → a.testBit i = false := fun i hi => Nat.testBit_lt_two_pow (Nat.lt_of_lt_of_le ha (Nat.pow_le_pow_right (by decide) hi))
  constructor
  · intro h
    refine Nat.eq_of_testBit_eq (fun i => ?_)
    have hi := congrArg (fun z => z.testBit i) h
    simp only [Nat.testBit_and, Nat.testBit_xor, hM, Nat.zero_testBit] at hi
    rw [Nat.testBit_and]
    by_cases h21 : i < 21
    · rw [show decide (i < 32) = true from decide_eq_true (by omega)] at hi
      cases hx : a.testBit i <;> cases hy : b.testBit i <;> simp_all
    · rw [hz i (by omega)]; rfl
  · intro h
    refine Nat.eq_of_testBit_eq (fun i => ?_)
    have hi := congrArg (fun z => z.testBit i) h
    simp only [Nat.testBit_and] at hi
    rw [Nat.testBit_and, Nat.testBit_xor, hM, Nat.zero_testBit]
    by_cases h21 : i < 21
    · rw [show decide (i < 32) = true from decide_eq_true (by omega)]
      cases hx : a.testBit i <;> cases hy : b.testBit i <;> simp_all
    · rw [hz i (by omega)]; rfl
theorem qy_fin {post : Int32 → Prop} {p q a b : Nat} (hp : p < 877) (hq : q < 877) (ea : pr p = nI a) (eb : pr q = nI b) (ha : a < 2 ^ 21) (hb : b < 2 ^ 21)
    (H1 : a &&& b = a → post 1) (H0 : ¬ a &&& b = a → post 0) : wpY_isFiner post (nI n, nI M, cd, pr, cn, cx, fd, el, ro, ot, nu, tw) (nI p) (nI q) := by
  refine ⟨qy_i877 hp, qy_i877 hq, ?_⟩
  have e1 : pr (nI p).toNatClampNeg &&& (pr (nI q).toNatClampNeg ^^^ (-1)) = nI a &&& (nI b ^^^ (-1)) := by
    rw [qx_c pr hp, qx_c pr hq, ea, eb]
  exact qx_bc e1 rfl (fun h => H1 ((qy_andn ha hb).mp h)) (fun h => H0 (fun h' => h ((qy_andn ha hb).mpr h')))
end
