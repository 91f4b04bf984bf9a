/-! 21: the constructors -/
theorem qz_ix {u r : Nat} : nI u * 8 + nI r = nI (u * 8 + r) := by
  rw [show (8 : Int32) = nI 8 from rfl, pk_mul, nI_add]
theorem qz_34 {post : SX → Prop} {J : Int32 → (Nat → Int32) → (Nat → Int32) → (Nat → Int32) → Prop} {f : Int32} {N L E : Nat → Int32} {r : Nat} (hr1 : 1 ≤ r) (hr : r ≤ 7)
    (hE : ∀ r', r' < r → ∀ u, u + r' ≤ 7 → E (u * 8 + r') = nI (qd_eg r' u))
    (H : ∀ E', (∀ r', r' < r + 1 → ∀ u, u + r' ≤ 7 → E' (u * 8 + r') = nI (qd_eg r' u)) → J (nI (r + 1)) N L E') : ∃ m, wX_fillEndings_34 post J (nI r) f m (nI 0) N L E := by
  refine pk_loop (fun m u (s : Nat → Int32) => wX_fillEndings_34 post J (nI r) f m (nI u) N L s) (fun u s => (∀ r', r' < r → ∀ u', u' + r' ≤ 7 → s (u' * 8 + r') = nI (qd_eg r' u')) ∧ ∀ u', u' < u → s (u' * 8 + r) = nI (qd_eg r u')) (8 - r) 0 E (Nat.zero_le _) ⟨hE, fun u' hu' => absurd hu' (Nat.not_lt_zero u')⟩ ?_ ?_
  · intro m s hs
    refine br_t (by rw [nI_add]; exact nI_lt (a := 7) (by omega) (by omega)) (nm_r (nI_1 r) (H s (fun r' hr' u hu => ?_)))
    by_cases e : r' = r
    · rw [e]; exact hs.2 u (by omega)
    · exact hs.1 r' (by omega) u hu
  · intro m u s hu hs ih
    have e0 : nI u * 8 + nI r = nI (u * 8 + r) := qz_ix
    have e1 : nI u * 8 + nI r - 1 = nI (u * 8 + (r - 1)) := by
      rw [e0, show u * 8 + r = (u * 8 + (r - 1)) + 1 by omega, nI_pred]
    have e2 : (nI u + 1) * 8 + nI r - 1 = nI ((u + 1) * 8 + (r - 1)) := by
      rw [nI_1, qz_ix, show (u + 1) * 8 + r = ((u + 1) * 8 + (r - 1)) + 1 by omega, nI_pred]
    refine br_f (by rw [nI_add]; exact nI_nlt (a := 7) (by omega) (by omega)) ⟨by rw [e1]; exact vp_in_nI (by omega) (by omega), ?_⟩
    refine nm_r (e' := nI (qd_eg (r - 1) u)) (by rw [e1, qx_c s (by omega), hs.1 (r - 1) (by omega) u (by omega)]) ⟨by rw [e2]; exact vp_in_nI (by omega) (by omega), ?_⟩
    refine nm_r (e' := nI (qd_eg (r - 1) (u + 1))) (by rw [e2, qx_c s (by omega), hs.1 (r - 1) (by omega) (u + 1) (by omega)]) ⟨by rw [e0]; exact vp_in_nI (by omega) (by omega), ?_⟩
    refine nm_r (e' := upd s (u * 8 + r) (nI (qd_eg r u))) ?_ (nm_r (nI_1 u) (ih _ ⟨fun r' hr' u' hu' => ?_, fun u' hu' => ?_⟩))
    · rw [e0, nI_clamp (by omega), pk_mul, nI_add]
      have := qd_egS (r - 1) u
      rw [Nat.sub_add_cancel hr1] at this
      rw [this]
    · rw [pk_un (by omega)]; exact hs.1 r' hr' u' hu'
    · by_cases e : u' = u
      · rw [e, pk_us]
      · rw [pk_un (by omega)]; exact hs.2 u' (by omega)
theorem qz_fill {post : SX → Prop} {f : Int32} {N L E : Nat → Int32} (H : ∀ E', qx_E E' → post (f, N, L, E')) : wpX_fillEndings post (f, N, L, E) := by
  refine pk_loop (fun m u (s : Nat → Int32) => wX_fillEndings_2 post f m (nI u) N L s) (fun u s => ∀ u', u' < u → s (u' * 8) = nI 1) 8 0 E (Nat.zero_le _) (fun u' hu' => absurd hu' (Nat.not_lt_zero u')) ?_ ?_
  · intro m s hs
    refine br_t (nI_lt (a := 7) (by omega) (by omega)) ?_
    refine pk_loop (fun m r (s : Nat → Int32) => wX_fillEndings_26 post f m (nI r) N L s) (fun r s => 1 ≤ r ∧ ∀ r', r' < r → ∀ u, u + r' ≤ 7 → s (u * 8 + r') = nI (qd_eg r' u)) 8 1 s (by omega) ⟨Nat.le_refl 1, fun r' hr' u hu => ?_⟩ ?_ ?_
    · have e : r' = 0 := by omega
      rw [e, Nat.add_zero, hs u (by omega)]
      rfl
    · intro m2 s2 hs2
      exact br_t (nI_lt (a := 7) (by omega) (by omega)) (H s2 (fun u r hur => hs2.2 r (by omega) u hur))
    · intro m2 r s2 hr hs2 ih
      exact br_f (nI_nlt (a := 7) (by omega) (by omega)) (qz_34 hs2.1 (by omega) hs2.2 (fun E' hE' => ih E' ⟨by omega, hE'⟩))
  · intro m u s hu hs ih
    have e0 : nI u * 8 = nI (u * 8) := pk_mul u 8
    refine br_f (nI_nlt (a := 7) (by omega) (by omega)) ⟨by rw [e0]; exact vp_in_nI (by omega) (by omega), ?_⟩
    refine nm_r (e' := upd s (u * 8) (nI 1)) (by rw [e0, nI_clamp (by omega)]; rfl) (nm_r (nI_1 u) (ih _ (fun u' hu' => ?_)))
    by_cases e : u' = u
    · rw [e, pk_us]
    · rw [pk_un (by omega)]; exact hs u' (by omega)
theorem qz_X {post : SX → Prop} {n : Nat} {f : Int32} {N L E : Nat → Int32} (h7 : n ≤ 7) (H : ∀ N' E', qx_E E' → (∀ e, e < 2 → ∀ i, i < n → N' (e * 7 + i) = nI i) → post (nI n, N', L, E')) : wX_init_50 post (nI n) f N L E := by
  unfold wX_init_50
  refine qz_fill (fun E' hE' => ?_)
  refine pk_loop (fun m i (s : Nat → Int32) => wX_init_59 post (nI n) m (nI i) s L E') (fun i s => ∀ e, e < 2 → ∀ j, j < i → s (e * 7 + j) = nI j) n 0 N (Nat.zero_le _) (fun e _ j hj => absurd hj (Nat.not_lt_zero j)) ?_ ?_
  · intro m s hs
    exact br_t (qx_le (by omega)) (H s E' hE' hs)
  · intro m i s hi hs ih
    have e7 : 7 + nI i = nI (7 + i) := nI_add 7 i
    refine br_f (qx_ge hi (by omega)) ⟨qy_i14 (by omega), nm_r (congrArg (fun j => upd s j (nI i)) (nI_clamp (by omega))) ⟨by rw [e7]; exact qy_i14 (by omega), nm_r (e' := upd (upd s i (nI i)) (7 + i) (nI i)) (by rw [e7, nI_clamp (by omega)]) (nm_r (nI_1 i) (ih _ (fun e he j hj => ?_)))⟩⟩
    rcases (show e = 0 ∨ e = 1 by omega) with rfl | rfl
    · rw [pk_un (by omega)]
      by_cases ej : j = i
      · rw [ej, show 0 * 7 + i = i by omega, pk_us]
      · rw [pk_un (by omega)]; exact hs 0 (by omega) j (by omega)
    · by_cases ej : j = i
      · rw [ej, show 1 * 7 + i = 7 + i by omega, pk_us]
      · rw [pk_un (by omega), pk_un (by omega)]; exact hs 1 (by omega) j (by omega)
theorem qz_md8 (n c : Nat) : ∀ k, qd_md n c k < 8 := by
  intro k
  induction k with
  | zero => show 0 < 8; decide
  | succ k ih =>
    have e : qd_md n c (k + 1) = qd_bi (Nat.blt (qd_md n c k) (qd_g c (n - 1 - k))) (qd_g c (n - 1 - k)) (qd_md n c k) := rfl
    rw [e]
    by_cases h : Nat.blt (qd_md n c k) (qd_g c (n - 1 - k)) = true
    · rw [qd_bi_t h]; exact qd_g8 _ _
    · rw [qd_bi_f h]; exact ih
theorem qz_mx8 (c : Nat) : ∀ k, qd_mx c k < 8 := by
  intro k
  induction k with
  | zero => show 0 < 8; decide
  | succ k ih =>
    have e : qd_mx c (k + 1) = qd_bi (Nat.blt (qd_mx c k) (qd_g c k)) (qd_g c k) (qd_mx c k) := rfl
    rw [e]
    by_cases h : Nat.blt (qd_mx c k) (qd_g c k) = true
    · rw [qd_bi_t h]; exact qd_g8 _ _
    · rw [qd_bi_f h]; exact ih
theorem qz_nar (b : Bool) : vp_nar .boolean (qx_b b) = qx_b b := by
  cases b <;> rfl
section
variable {n : Nat} {cd pr cn cx fd el ro ot nu tw : Nat → Int32}
theorem qz_note {post : SY → Prop} {c k : Nat} (h1 : 1 ≤ n) (h7 : n ≤ 7) (hk : k < 877) (hro : ∀ i, i < n → ro i = nI (qd_g c i)) (hcd : qd_cd n c n = c) (hmd : qd_md n c n + 1 = qd_b n c)
    (H : ∀ tw', post (nI n, nI (k + 1), upd cd k (nI c), upd pr k (nI (qd_m n c)), upd cn k (nI (qd_b n c)), upd cx k (qx_b (qd_x n c)), fd, el, ro, ot, nu, tw')) : wpY_note post (nI n, nI k, cd, pr, cn, cx, fd, el, ro, ot, nu, tw) := by
  have hR : ∀ i j, i < n → j < n → qy_R ro i j = qd_rl c i j := fun i j hi hj => by
    rw [Bool.eq_iff_iff, qy_R_iff, qd_rl_iff, hro i hi, hro j hj]
    exact qx_eq8 (qd_g8 _ _) (qd_g8 _ _)
  have em : qd_pm (qy_R ro) n = qd_m n c := qd_pmC (fun i j hi hj => hR i j (by omega) hj)
  have ex : qd_cr (qy_R ro) n = qd_x n c := qd_crC hR
  have ik := qy_i877 hk
  have ck : (nI k).toNatClampNeg = k := nI_clamp (by omega)
  show ∀ x, x = nI n - 1 → ∃ m, wY_note_11 post (nI n) (nI k) cd pr cn cx fd el ro ot nu tw m (nI (qd_cd n c 0)) (nI (qd_md n c 0)) x
  refine nm_r (e' := nI (n - 0) - 1) (by rw [Nat.sub_zero]) ?_
  refine qx_L (fun m j => wY_note_11 post (nI n) (nI k) cd pr cn cx fd el ro ot nu tw m (nI (qd_cd n c j)) (nI (qd_md n c j)) (nI (n - j) - 1)) (fun _ => True) n 0 (Nat.zero_le _) trivial ?_ ?_
  · intro m _
    refine br_t (by rw [Nat.sub_self]; decide) ⟨ik, nm_r (e' := upd cd k (nI c)) (by rw [ck, hcd]) ⟨ik, nm_r (e' := upd cn k (nI (qd_b n c))) (by rw [ck, nI_1, hmd]) ?_⟩⟩
    refine qy_tog h7 ⟨ik, nm_r (e' := upd pr k (nI (qd_m n c))) (by rw [ck, em]) ?_⟩
    refine qy_crN h7 (fun tw' => ⟨ik, nm_r (e' := upd cx k (qx_b (qd_x n c))) (by rw [ck, ex, qz_nar]) (nm_r (nI_1 k) (H tw'))⟩)
  · intro m j hj _ ih
    have ih' := ih trivial
    have e1 : nI (n - j) - 1 = nI (n - 1 - j) := by
      rw [show n - j = (n - 1 - j) + 1 by omega, nI_pred]
    have e2 : nI (n - 1 - j) + (-1) = nI (n - (j + 1)) - 1 := by
      rw [show n - (j + 1) = n - 1 - j by omega, Int32.sub_eq_add_neg]
    have eC : qd_cd n c (j + 1) = 8 * qd_cd n c j + qd_g c (n - 1 - j) := rfl
    have eM : qd_md n c (j + 1) = qd_bi (Nat.blt (qd_md n c j) (qd_g c (n - 1 - j))) (qd_g c (n - 1 - j)) (qd_md n c j) := rfl
    have g8 := qd_g8 c (n - 1 - j)
    have m8 := qz_md8 n c j
    have er : ro (nI (n - 1 - j)).toNatClampNeg = nI (qd_g c (n - 1 - j)) := by rw [qx_c ro (by omega), hro _ (by omega)]
    show _ ∧ _
    rw [e1]
    refine br_f (nI_pos (by omega)) ⟨qx_i7 (by omega), nm_r (e' := nI (qd_cd n c (j + 1))) (by rw [er, eC, ← nI_add, ← pk_mul]; rfl) ⟨qx_i7 (by omega), ?_⟩⟩
    rw [er]
    by_cases h : qd_g c (n - 1 - j) ≤ qd_md n c j
    · rw [eM, qd_bi_f (by rw [Nat.blt_eq]; omega)] at ih'
      exact br_t (nI_le h (by omega)) (nm_r e2 ih')
    · rw [eM, qd_bi_t (by rw [Nat.blt_eq]; omega)] at ih'
      exact br_f (nI_ge (by omega) (by omega)) ⟨qx_i7 (by omega), nm_e (nm_r e2 ih')⟩
theorem qz_71 {post : Int32 → SY → Prop} {M j0 : Nat} (h7 : n ≤ 7) (hj : j0 ≤ n) (H : ∀ ro', (∀ j, j < j0 → ro' j = ro j) → (∀ j, j0 ≤ j → j < n → ro' j = nI 0) → post 1 (nI n, nI M, cd, pr, cn, cx, fd, el, ro', ot, nu, tw)) : ∃ m, wY_nextRow_71 post (nI n) (nI M) m (nI j0) cd pr cn cx fd el ro ot nu tw := by
  refine pk_loop (fun m j (s : Nat → Int32) => wY_nextRow_71 post (nI n) (nI M) m (nI j) cd pr cn cx fd el s ot nu tw) (fun j s => j0 ≤ j ∧ (∀ i, i < j0 → s i = ro i) ∧ ∀ i, j0 ≤ i → i < j → s i = nI 0) n j0 ro hj ⟨Nat.le_refl _, fun _ _ => rfl, fun i h h' => by omega⟩ ?_ ?_
  · intro m s hs
    exact br_t (qx_le (by omega)) (H s hs.2.1 hs.2.2)
  · intro m j s hjn hs ih
    refine br_f (qx_ge hjn (by omega)) ⟨qx_i7 (by omega), nm_r (e' := upd s j (nI 0)) (by rw [nI_clamp (by omega)]; rfl) (nm_r (nI_1 j) (ih _ ⟨by omega, fun i hi => ?_, fun i h1 h2 => ?_⟩))⟩
    · rw [pk_un (by omega)]; exact hs.2.1 i hi
    · by_cases e : i = j
      · rw [e, pk_us]
      · rw [pk_un e]; exact hs.2.2 i h1 (by omega)
theorem qz_next {post : Int32 → SY → Prop} {M c : Nat} (h1 : 1 ≤ n) (h7 : n ≤ 7) (hro : ∀ i, i < n → ro i = nI (qd_g c i)) (hd : ∀ i, i < n → qd_g c i < 7)
    (H1 : ∀ ro', ¬ qd_np c (n - 1) = 0 → (∀ i, i < n → ro' i = nI (qd_g (qd_nc n c (qd_np c (n - 1))) i)) → post 1 (nI n, nI M, cd, pr, cn, cx, fd, el, ro', ot, nu, tw)) (H0 : qd_np c (n - 1) = 0 → post 0 (nI n, nI M, cd, pr, cn, cx, fd, el, ro, ot, nu, tw)) : wpY_nextRow post (nI n, nI M, cd, pr, cn, cx, fd, el, ro, ot, nu, tw) := by
  have en : nI n - 1 = nI (n - 1) := by
    have := nI_pred (n - 1)
    rw [Nat.sub_add_cancel h1] at this
    exact this
  refine nm_r en ⟨n - 1 + 1, ?_⟩
  refine pk_loopD (fun m i (_ : Unit) => wY_nextRow_7 post (nI n) (nI M) cd pr cn cx fd el ro ot nu tw m (nI i)) (fun i _ => i < n ∧ qd_np c (n - 1) = qd_np c i) ?_ ?_ (n - 1) () ⟨by omega, rfl⟩
  · intro m _ hI
    exact br_t (show (0 : Int32) ≤ 0 by decide) (H0 hI.2)
  · rintro m i _ ⟨hi, hI⟩ ih
    have hnp : qd_np c (i + 1) = qd_bi (Nat.ble (qd_g c (i + 1)) (qd_mx c (i + 1))) (i + 1) (qd_np c i) := rfl
    refine br_f (nI_nle (by omega) (by omega)) ?_
    refine qx_L (fun m2 j => wY_nextRow_15 post (wY_nextRow_7 post (nI n) (nI M) cd pr cn cx fd el ro ot nu tw m) (nI (i + 1)) (nI n) (nI M) cd pr cn cx fd el ro ot nu tw m2 (nI (qd_mx c j)) (nI j)) (fun _ => True) (i + 1) 0 (Nat.zero_le _) trivial ?_ ?_
    · intro m2 _
      have g8 := qd_g8 c (i + 1)
      have m8 := qz_mx8 c (i + 1)
      have er : ro (nI (i + 1)).toNatClampNeg = nI (qd_g c (i + 1)) := by rw [qx_c ro (by omega), hro _ hi]
      refine br_t (nI_le (Nat.le_refl _) (by omega)) ⟨qx_i7 (by omega), ?_⟩
      rw [er]
      by_cases h : qd_mx c (i + 1) < qd_g c (i + 1)
      · rw [qd_bi_f (by rw [Nat.ble_eq]; omega)] at hnp
        exact br_t (nI_lt h (by omega)) (nm_r (pk_m1 i) (ih () ⟨by omega, by rw [hI, hnp]⟩))
      · rw [qd_bi_t (by rw [Nat.ble_eq]; omega)] at hnp
        have hnp' : qd_np c (n - 1) = i + 1 := by rw [hI, hnp]
        refine br_f (nI_nlt (by omega) (by omega)) ⟨qx_i7 (by omega), qx_i7 (by omega), nm_r (e' := upd ro (i + 1) (nI (qd_g c (i + 1) + 1))) (by rw [nI_clamp (by omega), nI_1]) (nm_r (nI_1 (i + 1)) ?_)⟩
        refine qz_71 h7 (by omega) (fun ro' h3 h4 => H1 ro' (by omega) (fun j hj => ?_))
        have hf : qd_g (qd_nc n c (i + 1)) j = qd_bi (Nat.blt j (i + 1)) (qd_g c j) (qd_bi (Nat.beq j (i + 1)) (qd_g c j + 1) 0) := by
          refine qd_g_pk (f := fun j => qd_bi (Nat.blt j (i + 1)) (qd_g c j) (qd_bi (Nat.beq j (i + 1)) (Nat.succ (qd_g c j)) 0)) (fun j hj => ?_) j hj
          show qd_bi (Nat.blt j (i + 1)) (qd_g c j) (qd_bi (Nat.beq j (i + 1)) (qd_g c j + 1) 0) < 8
          have := hd j hj
          by_cases e1 : Nat.blt j (i + 1) = true
          · rw [qd_bi_t e1]; omega
          · rw [qd_bi_f e1]
            by_cases e2 : Nat.beq j (i + 1) = true
            · rw [qd_bi_t e2]; omega
            · rw [qd_bi_f e2]; omega
        rw [hnp', hf]
        by_cases e1 : j < i + 1
        · rw [qd_bi_t (by rw [Nat.blt_eq]; exact e1), h3 j (by omega), pk_un (by omega), hro j hj]
        · rw [qd_bi_f (by rw [Nat.blt_eq]; exact e1)]
          by_cases e2 : j = i + 1
          · rw [qd_bi_t (by rw [Nat.beq_eq]; exact e2), e2, h3 (i + 1) (by omega), pk_us]
          · rw [qd_bi_f (by rw [Nat.beq_eq]; exact e2), h4 j (by omega) hj]
    · intro m2 j hj _ jh
      have jh' := jh trivial
      have g8 := qd_g8 c j
      have m8 := qz_mx8 c j
      have eM : qd_mx c (j + 1) = qd_bi (Nat.blt (qd_mx c j) (qd_g c j)) (qd_g c j) (qd_mx c j) := rfl
      have er : ro (nI j).toNatClampNeg = nI (qd_g c j) := by rw [qx_c ro (by omega), hro _ (by omega)]
      refine br_f (nI_ge hj (by omega)) ⟨qx_i7 (by omega), ?_⟩
      rw [er]
      by_cases h : qd_g c j ≤ qd_mx c j
      · rw [eM, qd_bi_f (by rw [Nat.blt_eq]; omega)] at jh'
        exact br_t (nI_le h (by omega)) (nm_r (nI_1 j) jh')
      · rw [eM, qd_bi_t (by rw [Nat.blt_eq]; omega)] at jh'
        exact br_f (nI_ge (by omega) (by omega)) ⟨qx_i7 (by omega), nm_e (nm_r (nI_1 j) jh')⟩
end
/-- the tables before place k -/
def qz_T (n k : Nat) (cd pr cn cx : Nat → Int32) : Prop :=
  ∀ j, j < k → cd j = nI (qd_t n j) ∧ pr j = nI (qd_m n (qd_t n j)) ∧ cn j = nI (qd_b n (qd_t n j)) ∧ cx j = qx_b (qd_x n (qd_t n j))
theorem qz_138 {post : SY → Prop} {n : Nat} (h1 : 1 ≤ n) (h7 : n ≤ 7)
    (H : ∀ cd pr cn cx fd el ro ot nu tw, qr_Y n cd pr cn cx → (∀ e, e < 2 → el e = nI (qd_N n - 1)) → post (nI n, nI (qd_N n), cd, pr, cn, cx, fd, el, ro, ot, nu, tw)) :
    ∀ (d k : Nat) (fl : Int32) (cd pr cn cx fd el ro ot nu tw : Nat → Int32), k + d = qd_N n → qz_T n k cd pr cn cx → (k < qd_N n → fl = 1 ∧ ∀ i, i < n → ro i = nI (qd_g (qd_t n k) i)) → (k = qd_N n → fl = 0) →
      wY_init_138 post (d + 1) fl (nI n) (nI k) cd pr cn cx fd el ro ot nu tw := by
  have hM := qf_N1 h1 h7
  intro d
  induction d with
  | zero =>
    intro k fl cd pr cn cx fd el ro ot nu tw hk hT _ h0
    have ek : k = qd_N n := by omega
    have e0 := h0 ek
    subst e0
    subst ek
    have en : nI (qd_N n) - 1 = nI (qd_N n - 1) := by
      have := nI_pred (qd_N n - 1)
      rw [Nat.sub_add_cancel hM.1] at this
      exact this
    refine br_t rfl (nm_e (nm_e (H _ _ _ _ _ _ _ _ _ _ ⟨fun j hj => (hT j hj).1, fun j hj => (hT j hj).2.1, fun j hj => (hT j hj).2.2.1, fun j hj => (hT j hj).2.2.2⟩ (fun e he => ?_))))
    rw [en]
    rcases (show e = 0 ∨ e = 1 by omega) with rfl | rfl
    · rw [pk_un (by omega), pk_us]
    · rw [pk_us]
  | succ d ih =>
    intro k fl cd pr cn cx fd el ro ot nu tw hk hT h1' _
    have hkN : k < qd_N n := by omega
    obtain ⟨rfl, hro⟩ := h1' hkN
    have hnx := qf_nx h1 h7 hkN
    unfold qd_nx at hnx
    have hsub : Nat.sub n 1 = n - 1 := rfl
    rw [hsub] at hnx
    have hT' : qz_T n (k + 1) (upd cd k (nI (qd_t n k))) (upd pr k (nI (qd_m n (qd_t n k)))) (upd cn k (nI (qd_b n (qd_t n k)))) (upd cx k (qx_b (qd_x n (qd_t n k)))) := by
      intro j hj
      by_cases ej : j = k
      · rw [ej, pk_us, pk_us, pk_us, pk_us]; exact ⟨rfl, rfl, rfl, rfl⟩
      · rw [pk_un ej, pk_un ej, pk_un ej, pk_un ej]; exact hT j (by omega)
    refine br_f (by decide) (qz_note h1 h7 (by omega) hro (qf_cd h1 h7 hkN) (qf_md h1 h7 hkN) (fun tw' => ?_))
    refine qz_next h1 h7 hro (fun i hi => qf_d7 h1 h7 hkN hi) (fun ro' hn hr => ?_) (fun hn => ?_)
    · rw [qd_bi_f (by rw [Nat.beq_eq]; exact hn)] at hnx
      have hlt : qd_nc n (qd_t n k) (qd_np (qd_t n k) (n - 1)) < 8 ^ n := by
        refine qd_pk_lt (fun j hj => ?_)
        have := qf_d7 h1 h7 hkN hj
        by_cases e1 : Nat.blt j (qd_np (qd_t n k) (n - 1)) = true
        · rw [qd_bi_t e1]; omega
        · rw [qd_bi_f e1]
          by_cases e2 : Nat.beq j (qd_np (qd_t n k) (n - 1)) = true
          · rw [qd_bi_t e2]; omega
          · rw [qd_bi_f e2]; omega
      have hk1 : k + 1 < qd_N n := Classical.byContradiction (fun hh => by
        rw [if_neg hh] at hnx
        omega)
      rw [if_pos hk1] at hnx
      rw [hnx] at hr
      exact ih (k + 1) 1 _ _ _ _ _ _ _ _ _ _ (by omega) hT' (fun _ => ⟨rfl, hr⟩) (fun e => by omega)
    · rw [qd_bi_t (by rw [Nat.beq_eq]; exact hn)] at hnx
      have hk1 : ¬ k + 1 < qd_N n := fun hh => by
        rw [if_pos hh] at hnx
        have := qf_lt h1 h7 hh
        have e8 : Nat.pow 8 n = 8 ^ n := rfl
        omega
      exact ih (k + 1) 0 _ _ _ _ _ _ _ _ _ _ (by omega) hT' (fun hh => absurd hh hk1) (fun _ => rfl)
theorem qz_Y {post : SY → Prop} {n : Nat} (h1 : 1 ≤ n) (h7 : n ≤ 7)
    (H : ∀ cd pr cn cx fd el ro ot nu tw, qr_Y n cd pr cn cx → (∀ e, e < 2 → el e = nI (qd_N n - 1)) → post (nI n, nI (qd_N n), cd, pr, cn, cx, fd, el, ro, ot, nu, tw)) :
    ∃ m, wY_init_115 post (nI n) 0 m 0 (fun _ => 0) (fun _ => 0) (fun _ => 0) (fun _ => 0) (fun _ => 0) (fun _ => 0) (fun _ => 0) (fun _ => 0) (fun _ => 0) (fun _ => 0) := by
  have hM := qf_N1 h1 h7
  refine pk_loop (fun m i (s : Nat → Int32) => wY_init_115 post (nI n) 0 m (nI i) (fun _ => 0) (fun _ => 0) (fun _ => 0) (fun _ => 0) (fun _ => 0) (fun _ => 0) s (fun _ => 0) (fun _ => 0) (fun _ => 0)) (fun i s => ∀ j, j < i → s j = nI 0) n 0 (fun _ => 0) (Nat.zero_le _) (fun j hj => absurd hj (Nat.not_lt_zero j)) ?_ ?_
  · intro m s hs
    refine br_t (qx_le (by omega)) ⟨qd_N n + 1, ?_⟩
    refine qz_138 h1 h7 H (qd_N n) 0 1 _ _ _ _ _ _ _ _ _ _ (by omega) (fun j hj => absurd hj (Nat.not_lt_zero j)) (fun _ => ⟨rfl, fun i hi => ?_⟩) (fun e => by omega)
    rw [hs i hi, qf_t0 h1 h7, qd_g_eq, Nat.zero_div]
  · intro m i s hi hs ih
    refine br_f (qx_ge hi (by omega)) ⟨qx_i7 (by omega), nm_r (e' := upd s i (nI 0)) (by rw [nI_clamp (by omega)]; rfl) (nm_r (nI_1 i) (ih _ (fun j hj => ?_)))⟩
    by_cases e : j = i
    · rw [e, pk_us]
    · rw [pk_un e]; exact hs j (by omega)
theorem qz_rel {n : Nat} {N L E cd pr cn cx fd el ro ot nu tw : Nat → Int32} (h1 : 1 ≤ n) (h7 : n ≤ 7) (hE : qx_E E) (hN : ∀ e, e < 2 → ∀ i, i < n → N (e * 7 + i) = nI i) (hY : qr_Y n cd pr cn cx) (hel : ∀ e, e < 2 → el e = nI (qd_N n - 1)) :
    i_Rel 1 (nI n, N, L, E) (nI n, nI (qd_N n), cd, pr, cn, cx, fd, el, ro, ot, nu, tw) := by
  have hM := qf_N1 h1 h7
  refine qr_mk (P := fun _ => qd_N n - 1) ⟨h1, h7, fun _ _ => by show qd_N n - 1 < qd_N n; omega, fun e he i hi => ?_, hE, hY, hel⟩
  show N (e * 7 + i) = nI (qd_g (qd_t n (qd_N n - 1)) i)
  rw [qf_tz h1 h7 hi]
  exact hN e he i hi
theorem i_vc0 (k0 : Int32) : wpX_init (fun u => wpY_init (fun v => i_Rel 1 u v) k0) k0 := by
  by_cases h1 : 1 ≤ k0
  · by_cases h7 : k0 ≤ 7
    · obtain ⟨n, hn, rfl⟩ := nI_of2 (n := 7) (M := 7) rfl (Int32.not_lt.mpr (Int32.le_trans (by decide) h1)) h7
      have hn1 : 1 ≤ n := (nI_leI (a := 1) (by omega) (by omega)).mp h1
      refine br_t h1 (br_t h7 (qz_X hn (fun N' E' hE hN => br_t h1 (br_t h7 (qz_Y hn1 hn (fun cd pr cn cx fd el ro ot nu tw hY hel => qz_rel hn1 hn hE hN hY hel))))))
    · refine br_t h1 (br_f h7 (qz_X (n := 7) (by omega) (fun N' E' hE hN => br_t h1 (br_f h7 (qz_Y (n := 7) (by omega) (by omega) (fun cd pr cn cx fd el ro ot nu tw hY hel => qz_rel (by omega) (by omega) hE hN hY hel))))))
  · refine br_f h1 (qz_X (n := 1) (by omega) (fun N' E' hE hN => br_f h1 (qz_Y (n := 1) (by omega) (by omega) (fun cd pr cn cx fd el ro ot nu tw hY hel => qz_rel (by omega) (by omega) hE hN hY hel))))
