/-! 14: merge, move, turn, meet -/
theorem qm_mrg (f : Nat → Int32) (i j a b : Nat) : ((if f a = f j then f i else f a) = (if f b = f j then f i else f b)) ↔ ((if f a = f i then f j else f a) = (if f b = f i then f j else f b)) := by
  generalize f a = A
  generalize f b = B
  generalize f i = X
  generalize f j = Y
  by_cases h1 : A = Y <;> by_cases h2 : B = Y <;> by_cases h3 : A = X <;> by_cases h4 : B = X <;> simp_all <;> grind
theorem i_vc_merge {k : Nat} {u : SX} {v : SY} (I : i_Rel k u v) (hk : k + 4 ≤ 2049) (v1 : Int32) (v2 : Int32) (v3 : Int32) : wpX_merge (fun r u' => wpY_merge (fun r' v' => r' = r ∧ i_Rel (k + 4) u' v') v v1 v2 v3) u v1 v2 v3 := by
  obtain ⟨n, P, N, L, E, cd, pr, cn, cx, fd, el, ro, ot, nu, tw, rfl, rfl, R⟩ := I
  have a1 := R.1
  have a7 := R.2.1
  unfold wpX_merge
  rcases qr_el v1 with ⟨e, he, rfl⟩ | ⟨h0, h1⟩
  · refine qx_elT he (br_f (by decide) ?_)
    rcases qr_pt a7 v2 with ⟨i, hi, rfl⟩ | hi
    · refine qx_ptT a7 hi (br_f (by decide) ?_)
      rcases qr_pt a7 v3 with ⟨j, hj, rfl⟩ | hj
      · refine qx_ptT a7 hj (br_f (by decide) ?_)
        refine qx_give a7 he (fun L1 hL1 => ?_)
        refine qx_merge a7 hi hj (fun L2 hL2 => ?_)
        refine qr_lab R he (fun N' q hq hK hR => ?_)
        show wpY_merge _ _ _ _ _
        unfold wpY_merge
        refine qy_badF he (br_t rfl (qy_ptF a7 hi (br_t rfl (qy_ptF a7 hj (br_t rfl ⟨vp_in_nI he (by omega), ?_⟩)))))
        refine qr_take R he (qr_elc R he) (fun r1 hr1 => ?_)
        refine ⟨qx_i7 (by omega), qx_i7 (by omega), ?_⟩
        refine qy_unite a7 (fun r2 hr2 => ?_)
        refine qr_kp (Lx := L2) R he hq hK (fun a b ha hb => ?_) (fun el' h1 h2 => ⟨rfl, qr_mk (hR el' h1 h2)⟩)
        have eL : ∀ p, p < n → L1 p = r1 p := fun p hp => by rw [hL1 p hp, hr1 p hp, R.2.2.2.1 e he p hp]
        rw [hL2 a (by omega), hL2 b hb, hr2 a (by omega), hr2 b hb, qx_c r1 (by omega), qx_c r1 (by omega), eL a (by omega), eL b hb, eL i hi, eL j hj]
        exact qm_mrg r1 i j a b
      · refine qx_ptF hj (br_t rfl ?_)
        show wpY_merge _ _ _ _ _
        unfold wpY_merge
        exact qy_badF he (br_t rfl (qy_ptF a7 hi (br_t rfl (qy_ptT hj (br_f (by decide) ⟨rfl, qr_mk R⟩)))))
    · refine qx_ptF hi (br_t rfl ?_)
      show wpY_merge _ _ _ _ _
      unfold wpY_merge
      exact qy_badF he (br_t rfl (qy_ptT hi (br_f (by decide) ⟨rfl, qr_mk R⟩)))
  · refine qx_elF h0 h1 (br_t rfl ?_)
    show wpY_merge _ _ _ _ _
    unfold wpY_merge
    exact qy_badT h0 h1 (br_f (by decide) ⟨rfl, qr_mk R⟩)
theorem i_vc_move {k : Nat} {u : SX} {v : SY} (I : i_Rel k u v) (hk : k + 4 ≤ 2049) (v1 : Int32) (v2 : Int32) (v3 : Int32) : wpX_move (fun r u' => wpY_move (fun r' v' => r' = r ∧ i_Rel (k + 4) u' v') v v1 v2 v3) u v1 v2 v3 := by
  obtain ⟨n, P, N, L, E, cd, pr, cn, cx, fd, el, ro, ot, nu, tw, rfl, rfl, R⟩ := I
  have a1 := R.1
  have a7 := R.2.1
  unfold wpX_move
  rcases qr_el v1 with ⟨e, he, rfl⟩ | ⟨h0, h1⟩
  · refine qx_elT he (br_f (by decide) ?_)
    rcases qr_pt a7 v2 with ⟨i, hi, rfl⟩ | hi
    · refine qx_ptT a7 hi (br_f (by decide) ?_)
      rcases qr_pt a7 v3 with ⟨j, hj, rfl⟩ | hj
      · refine qx_ptT a7 hj (br_f (by decide) ?_)
        refine qx_give a7 he (fun L1 hL1 => ?_)
        have go : ∀ x : Int32, (∀ r1 : Nat → Int32, (∀ p, p < n → r1 p = nI (qd_g (qd_t n (P e)) p)) → ∀ post, wY_move_58 post (nI e) x (nI i) (nI n) (nI (qd_N n)) cd pr cn cx fd el r1 ot nu tw → (((nI i = nI j → wY_move_58 post (nI e) 7 (nI i) (nI n) (nI (qd_N n)) cd pr cn cx fd el r1 ot nu tw) ∧ (¬ nI i = nI j → vp_in (nI j) 7 ∧ wY_move_58 post (nI e) (r1 (nI j).toNatClampNeg) (nI i) (nI n) (nI (qd_N n)) cd pr cn cx fd el r1 ot nu tw)))) →
            wX_move_53 (fun r u' => wpY_move (fun r' v' => r' = r ∧ i_Rel (k + 4) u' v') (nI n, nI (qd_N n), cd, pr, cn, cx, fd, el, ro, ot, nu, tw) (nI e) (nI i) (nI j)) (nI e) x (nI i) (nI n) N L1 E := by
          intro x hx
          refine ⟨qx_i7 (by omega), nm_r (congrArg (fun p => upd L1 p x) (nI_clamp (by omega))) ?_⟩
          refine qr_lab R he (fun N' q hq hK hR => ?_)
          show wpY_move _ _ _ _ _
          unfold wpY_move
          refine qy_badF he (br_t rfl (qy_ptF a7 hi (br_t rfl (qy_ptF a7 hj (br_t rfl ⟨vp_in_nI he (by omega), ?_⟩)))))
          refine qr_take R he (qr_elc R he) (fun r1 hr1 => ?_)
          refine hx r1 hr1 _ ?_
          refine ⟨qx_i7 (by omega), nm_r (congrArg (fun p => upd r1 p x) (nI_clamp (by omega))) ?_⟩
          refine qr_kp (Lx := upd L1 i x) R he hq hK (fun a b ha hb => ?_) (fun el' h1 h2 => ⟨rfl, qr_mk (hR el' h1 h2)⟩)
          have eU : ∀ p, p < n → upd L1 i x p = upd r1 i x p := fun p hp => by
            by_cases ep : p = i
            · rw [ep, pk_us, pk_us]
            · rw [pk_un ep, pk_un ep, hL1 p hp, hr1 p hp, R.2.2.2.1 e he p hp]
          rw [eU a (by omega), eU b hb]
        refine br_c (fun eij => go 7 (fun r1 _ post h => br_t eij h)) (fun eij => ⟨qx_i7 (by omega), ?_⟩)
        rw [qx_c L1 (by omega)]
        refine go _ (fun r1 hr1 post h => br_f eij ⟨qx_i7 (by omega), ?_⟩)
        rw [qx_c r1 (by omega), hr1 j hj]
        rw [hL1 j hj, R.2.2.2.1 e he j hj] at h
        exact h
      · refine qx_ptF hj (br_t rfl ?_)
        show wpY_move _ _ _ _ _
        unfold wpY_move
        exact qy_badF he (br_t rfl (qy_ptF a7 hi (br_t rfl (qy_ptT hj (br_f (by decide) ⟨rfl, qr_mk R⟩)))))
    · refine qx_ptF hi (br_t rfl ?_)
      show wpY_move _ _ _ _ _
      unfold wpY_move
      exact qy_badF he (br_t rfl (qy_ptT hi (br_f (by decide) ⟨rfl, qr_mk R⟩)))
  · refine qx_elF h0 h1 (br_t rfl ?_)
    show wpY_move _ _ _ _ _
    unfold wpY_move
    exact qy_badT h0 h1 (br_f (by decide) ⟨rfl, qr_mk R⟩)
theorem qm_t40 {post : Int32 → SY → Prop} {e x : Int32} {n M : Nat} {cd pr cn cx fd el ot nu tw : Nat → Int32} : ∀ (i : Nat) (s : Nat → Int32), i < 7 →
    (∀ s' : Nat → Int32, (∀ j, j < i → s' (j + 1) = s j) → (∀ j, i < j → s' j = s j) → s' 0 = x → wpY_keep (fun r u => match u with | (f1, f2, b1, b2, b3, b4, b5, b6, b7, b8, b9, b10) => post r (f1, f2, b1, b2, b3, b4, b5, b6, b7, b8, b9, b10)) (nI n, nI M, cd, pr, cn, cx, fd, el, s', ot, nu, tw) e) →
    wY_turn_40 post e x (nI n) (nI M) (i + 1) (nI i) cd pr cn cx fd el s ot nu tw := by
  intro i
  induction i with
  | zero =>
    intro s _ H
    exact br_t (show (0 : Int32) ≤ 0 by decide) (nm_e (H _ (fun j hj => absurd hj (Nat.not_lt_zero j)) (fun j hj => pk_un (by omega)) pk_us))
  | succ i ih =>
    intro s hi H
    have ep : nI (i + 1) - 1 = nI i := nI_pred i
    refine br_f (nI_nle (by omega) (by omega)) ⟨by rw [ep]; exact qx_i7 (by omega), qx_i7 hi, ?_⟩
    refine nm_r (show upd s (nI (i + 1)).toNatClampNeg (s (nI (i + 1) - 1).toNatClampNeg) = upd s (i + 1) (s i) by rw [nI_clamp (by omega), ep, qx_c s (by omega)]) (nm_r (pk_m1 i) ?_)
    refine ih _ (by omega) (fun s' h1 h2 h3 => H s' (fun j hj => ?_) (fun j hj => ?_) h3)
    · by_cases ej : j = i
      · rw [ej, h2 (i + 1) (by omega), pk_us]
      · rw [h1 j (by omega), pk_un (by omega)]
    · rw [h2 j (by omega), pk_un (by omega)]
section
variable {n : Nat} {P : Nat → Nat} {N L E cd pr cn cx fd el ro ot nu tw : Nat → Int32}
/-- what X hands over: a place q with the kernel of the labels s, and that the states are related once Y has q at e -/
def qm_H (n : Nat) (P : Nat → Nat) (E cd pr cn cx el : Nat → Int32) (e : Nat) (N' s : Nat → Int32) (q : Nat) : Prop :=
  q < qd_N n ∧ (∀ i j, i < j → j < n → (qd_g (qd_t n q) i = qd_g (qd_t n q) j ↔ s i = s j)) ∧
  (∀ el', el' e = nI q → (∀ j, ¬ j = e → el' j = el j) → qr_R n (qr_P P e q) N' E cd pr cn cx el')
theorem qm_lab {e : Nat} {post : Int32 → SX → Prop} {s : Nat → Int32} (R : qr_R n P N E cd pr cn cx el) (he : e < 2) (H : ∀ N' q, qm_H n P E cd pr cn cx el e N' s q → post (nI (qd_b n (qd_t n q))) (nI n, N', s, E)) : wpX_takeLabels post (nI n, N, s, E) (nI e) :=
  qr_lab R he (fun N' q h1 h2 h3 => H N' q ⟨h1, h2, h3⟩)
theorem qm_tX {post : Int32 → SX → Prop} {e : Nat} (R : qr_R n P N E cd pr cn cx el) (he : e < 2)
    (H : ∀ N' s q, qm_H n P E cd pr cn cx el e N' s q → (∀ j, j + 1 < n → s (j + 1) = N (e * 7 + j)) → s 0 = N (e * 7 + (n - 1)) → post (nI (qd_b n (qd_t n q))) (nI n, N', s, E)) : wpX_turn post (nI n, N, L, E) (nI e) := by
  have a1 := R.1
  have a7 := R.2.1
  unfold wpX_turn
  refine qx_elT he (br_f (by decide) ?_)
  refine pk_loop (fun m i (s : Nat → Int32) => wX_turn_13 post (nI e) (nI n) m (nI i) N s E) (fun i s => (∀ j, j < i → j + 1 < n → s (j + 1) = N (e * 7 + j)) ∧ (i = n → s 0 = N (e * 7 + (n - 1)))) n 0 L (Nat.zero_le _) ⟨fun j hj => absurd hj (Nat.not_lt_zero j), fun h => by omega⟩ ?_ ?_
  · intro m s hs
    exact br_t (qx_le (by omega)) (qm_lab R he (fun N' q h => H N' s q h (fun j hj => hs.1 j (by omega) hj) (hs.2 rfl)))
  · intro m i s hi hs ih
    refine br_f (qx_ge hi (by omega)) ?_
    by_cases hl : n ≤ i + 1
    · refine br_t (by rw [nI_1]; exact nI_le hl (by omega)) (qx_num he (by omega) ⟨qx_i7 (k := 0) (by omega), nm_e (nm_r (nI_1 i) (ih _ ⟨?_, ?_⟩))⟩)
      · intro j hj hjn
        show upd s 0 (N (e * 7 + i)) (j + 1) = _
        rw [pk_un (by omega)]
        exact hs.1 j (by omega) hjn
      · intro hin
        show upd s 0 (N (e * 7 + i)) 0 = _
        rw [pk_us]
        congr 2
        omega
    · refine br_f (by rw [nI_1]; exact nI_ge (by omega) (by omega)) (qx_num he (by omega) ⟨by rw [nI_1]; exact qx_i7 (by omega), nm_r (show upd s (nI i + 1).toNatClampNeg (N (e * 7 + i)) = upd s (i + 1) (N (e * 7 + i)) by rw [nI_1, nI_clamp (by omega)]) (nm_r (nI_1 i) (ih _ ⟨?_, ?_⟩))⟩)
      · intro j hj hjn
        by_cases ej : j = i
        · rw [ej, pk_us]
        · rw [pk_un (by omega)]
          exact hs.1 j (by omega) hjn
      · intro hin
        omega
/-- Y's keep at q, once its row has the kernel of s -/
theorem qm_kp {post : Int32 → SY → Prop} {e q : Nat} {N' s : Nat → Int32} (R : qr_R n P N E cd pr cn cx el) (he : e < 2) (h : qm_H n P E cd pr cn cx el e N' s q) (hr : ∀ i j, i < j → j < n → (s i = s j ↔ ro i = ro j))
    (H : ∀ el', qr_R n (qr_P P e q) N' E cd pr cn cx el' → post (nI (qd_b n (qd_t n q))) (nI n, nI (qd_N n), cd, pr, cn, cx, fd, el', ro, ot, nu, tw)) : wpY_keep post (nI n, nI (qd_N n), cd, pr, cn, cx, fd, el, ro, ot, nu, tw) (nI e) :=
  qr_kp R he h.1 h.2.1 hr (fun el' h1 h2 => H el' (h.2.2 el' h1 h2))
theorem qm_tY {post : Int32 → SY → Prop} {e q : Nat} {N' s : Nat → Int32} (R : qr_R n P N E cd pr cn cx el) (he : e < 2) (h : qm_H n P E cd pr cn cx el e N' s q) (hs : ∀ j, j + 1 < n → s (j + 1) = N (e * 7 + j)) (hz : s 0 = N (e * 7 + (n - 1)))
    (H : ∀ el' ro', qr_R n (qr_P P e q) N' E cd pr cn cx el' → post (nI (qd_b n (qd_t n q))) (nI n, nI (qd_N n), cd, pr, cn, cx, fd, el', ro', ot, nu, tw)) : wpY_turn post (nI n, nI (qd_N n), cd, pr, cn, cx, fd, el, ro, ot, nu, tw) (nI e) := by
  have a1 := R.1
  have a7 := R.2.1
  unfold wpY_turn
  refine qy_badF he (br_t rfl ⟨vp_in_nI he (by omega), ?_⟩)
  refine qr_take R he (qr_elc R he) (fun r1 hr1 => ?_)
  have en : nI n - 1 = nI (n - 1) := by
    have := nI_pred (n - 1)
    rw [Nat.sub_add_cancel a1] at this
    exact this
  refine ⟨by rw [en]; exact qx_i7 (by omega), nm_r (show r1 (nI n - 1).toNatClampNeg = r1 (n - 1) by rw [en, qx_c r1 (by omega)]) (nm_r en ⟨n - 1 + 1, ?_⟩)⟩
  refine qm_t40 (n - 1) r1 (by omega) (fun s' h1 h2 h3 => ?_)
  refine qm_kp R he h (fun a b ha hb => ?_) (fun el' h4 => H el' s' h4)
  have eU : ∀ p, p < n → s p = s' p := fun p hp => by
    cases p with
    | zero => rw [hz, h3, hr1 (n - 1) (by omega), R.2.2.2.1 e he (n - 1) (by omega)]
    | succ p => rw [hs p hp, h1 p (by omega), hr1 p (by omega), R.2.2.2.1 e he p (by omega)]
  rw [eU a (by omega), eU b hb]
end
theorem i_vc_turn {k : Nat} {u : SX} {v : SY} (I : i_Rel k u v) (hk : k + 4 ≤ 2049) (v1 : Int32) : wpX_turn (fun r u' => wpY_turn (fun r' v' => r' = r ∧ i_Rel (k + 4) u' v') v v1) u v1 := by
  obtain ⟨n, P, N, L, E, cd, pr, cn, cx, fd, el, ro, ot, nu, tw, rfl, rfl, R⟩ := I
  rcases qr_el v1 with ⟨e, he, rfl⟩ | ⟨h0, h1⟩
  · exact qm_tX R he (fun N' s q h hs hz => qm_tY R he h hs hz (fun el' ro' h' => ⟨rfl, qr_mk h'⟩))
  · unfold wpX_turn
    refine qx_elF h0 h1 (br_t rfl ?_)
    show wpY_turn _ _ _
    unfold wpY_turn
    exact qy_badT h0 h1 (br_f (by decide) ⟨rfl, qr_mk R⟩)
/-- Y copies row to other -/
theorem qm_m50 {post : Int32 → SY → Prop} {n M : Nat} {cd pr cn cx fd el ro ot nu tw : Nat → Int32} (h7 : n ≤ 7)
    (H : ∀ s' : Nat → Int32, (∀ j, j < n → s' j = 8 * ro j + ot j) → wpY_keep (fun r u => match u with | (f1, f2, b1, b2, b3, b4, b5, b6, b7, b8, b9, b10) => post r (f1, f2, b1, b2, b3, b4, b5, b6, b7, b8, b9, b10)) (nI n, nI M, cd, pr, cn, cx, fd, el, s', ot, nu, tw) 0) : ∃ m, wY_meet_50 post (nI n) (nI M) m (nI 0) cd pr cn cx fd el ro ot nu tw := by
  refine pk_loop (fun m i (s : Nat → Int32) => wY_meet_50 post (nI n) (nI M) m (nI i) cd pr cn cx fd el s ot nu tw) (fun i s => (∀ j, j < i → s j = 8 * ro j + ot j) ∧ ∀ j, i ≤ j → s j = ro j) n 0 ro (Nat.zero_le _) ⟨fun j hj => absurd hj (Nat.not_lt_zero j), fun _ _ => rfl⟩ ?_ ?_
  · intro m s hs
    exact br_t (qx_le (by omega)) (H s hs.1)
  · intro m i s hi hs ih
    refine br_f (qx_ge hi (by omega)) ⟨qx_i7 (by omega), qx_i7 (by omega), qx_i7 (by omega), ?_⟩
    refine nm_r (show upd s (nI i).toNatClampNeg (8 * s (nI i).toNatClampNeg + ot (nI i).toNatClampNeg) = upd s i (8 * ro i + ot i) by rw [nI_clamp (by omega), hs.2 i (Nat.le_refl i)]) (nm_r (nI_1 i) (ih _ ⟨fun j hj => ?_, fun j hj => ?_⟩))
    · by_cases ej : j = i
      · rw [ej, pk_us]
      · rw [pk_un ej]; exact hs.1 j (by omega)
    · rw [pk_un (by omega)]; exact hs.2 j (by omega)
section
variable {n : Nat} {P : Nat → Nat} {N L E cd pr cn cx fd el ro ot nu tw : Nat → Int32}
theorem qm_mX {post : Int32 → SX → Prop} (R : qr_R n P N E cd pr cn cx el)
    (H : ∀ N' s q, qm_H n P E cd pr cn cx el 0 N' s q → (∀ j, j < n → s j = nI (qd_g (qd_t n (P 0)) j * 7 + qd_g (qd_t n (P 1)) j)) → post (nI (qd_b n (qd_t n q))) (nI n, N', s, E)) : wpX_meet post (nI n, N, L, E) := by
  have a7 := R.2.1
  have e7 : (7 : Int32) = nI 7 := rfl
  refine pk_loop (fun m i (s : Nat → Int32) => wX_meet_2 post (nI n) m (nI i) N s E) (fun i s => ∀ j, j < i → s j = nI (qd_g (qd_t n (P 0)) j * 7 + qd_g (qd_t n (P 1)) j)) n 0 L (Nat.zero_le _) (fun j hj => absurd hj (Nat.not_lt_zero j)) ?_ ?_
  · intro m s hs
    exact br_t (qx_le (by omega)) (qm_lab (e := 0) R (by omega) (fun N' q h => H N' s q h hs))
  · intro m i s hi hs ih
    refine br_f (qx_ge hi (by omega)) (qx_nu (e := 0) a7 R.2.2.2.1 (by omega) hi (qx_nu (e := 1) a7 R.2.2.2.1 (by omega) hi ⟨qx_i7 (by omega), ?_⟩))
    refine nm_r (show upd s (nI i).toNatClampNeg (nI (qd_g (qd_t n (P 0)) i) * 7 + nI (qd_g (qd_t n (P 1)) i)) = upd s i (nI (qd_g (qd_t n (P 0)) i * 7 + qd_g (qd_t n (P 1)) i)) by rw [nI_clamp (by omega), e7, pk_mul, nI_add]) (nm_r (nI_1 i) (ih _ (fun j hj => ?_)))
    by_cases ej : j = i
    · rw [ej, pk_us]
    · rw [pk_un ej]; exact hs j (by omega)
theorem qm_mY {post : Int32 → SY → Prop} {q : Nat} {N' s : Nat → Int32} (R : qr_R n P N E cd pr cn cx el) (h : qm_H n P E cd pr cn cx el 0 N' s q) (hs : ∀ j, j < n → s j = nI (qd_g (qd_t n (P 0)) j * 7 + qd_g (qd_t n (P 1)) j))
    (H : ∀ el' ro' ot', qr_R n (qr_P P 0 q) N' E cd pr cn cx el' → post (nI (qd_b n (qd_t n q))) (nI n, nI (qd_N n), cd, pr, cn, cx, fd, el', ro', ot', nu, tw)) : wpY_meet post (nI n, nI (qd_N n), cd, pr, cn, cx, fd, el, ro, ot, nu, tw) := by
  have a1 := R.1
  have a7 := R.2.1
  have e8 : (8 : Int32) = nI 8 := rfl
  unfold wpY_meet
  refine qr_take (e := 1) R (by omega) (R.2.2.2.2.2.2 1 (by omega)) (fun r1 hr1 => ?_)
  refine pk_loop (fun m i (s : Nat → Int32) => wY_meet_12 post (nI n) (nI (qd_N n)) m (nI i) cd pr cn cx fd el r1 s nu tw) (fun i s => ∀ j, j < i → s j = r1 j) n 0 ot (Nat.zero_le _) (fun j hj => absurd hj (Nat.not_lt_zero j)) ?_ ?_
  · intro m2 o1 ho1
    refine br_t (qx_le (by omega)) ?_
    refine qr_take (e := 0) R (by omega) (R.2.2.2.2.2.2 0 (by omega)) (fun r2 hr2 => ?_)
    refine qm_m50 a7 (fun r3 hr3 => ?_)
    refine qm_kp (e := 0) R (by omega) h (fun a b ha hb => ?_) (fun el' h4 => H el' r3 o1 h4)
    have d0 := fun i hi => qf_d7 (i := i) a1 a7 (R.2.2.1 0 (by omega)) hi
    have d1 := fun i hi => qf_d7 (i := i) a1 a7 (R.2.2.1 1 (by omega)) hi
    have er : ∀ p, p < n → r3 p = nI (8 * qd_g (qd_t n (P 0)) p + qd_g (qd_t n (P 1)) p) := fun p hp => by
      rw [hr3 p hp, hr2 p hp, ho1 p hp, hr1 p hp, e8, pk_mul, nI_add]
    have q0 := d0 a (by omega)
    have q1 := d1 a (by omega)
    have q2 := d0 b hb
    have q3 := d1 b hb
    rw [hs a (by omega), hs b hb, er a (by omega), er b hb, nI_eq (by omega) (by omega), nI_eq (by omega) (by omega)]
    omega
  · intro m2 i s2 hi hs2 ih
    refine br_f (qx_ge hi (by omega)) ⟨qx_i7 (by omega), qx_i7 (by omega), ?_⟩
    refine nm_r (show upd s2 (nI i).toNatClampNeg (r1 (nI i).toNatClampNeg) = upd s2 i (r1 i) by rw [nI_clamp (by omega)]) (nm_r (nI_1 i) (ih _ (fun j hj => ?_)))
    by_cases ej : j = i
    · rw [ej, pk_us]
    · rw [pk_un ej]; exact hs2 j (by omega)
end
theorem i_vc_meet {k : Nat} {u : SX} {v : SY} (I : i_Rel k u v) (hk : k + 4 ≤ 2049) : wpX_meet (fun r u' => wpY_meet (fun r' v' => r' = r ∧ i_Rel (k + 4) u' v') v) u := by
  obtain ⟨n, P, N, L, E, cd, pr, cn, cx, fd, el, ro, ot, nu, tw, rfl, rfl, R⟩ := I
  exact qm_mX R (fun N' s q h hs => qm_mY R h hs (fun el' ro' ot' h' => ⟨rfl, qr_mk h'⟩))
