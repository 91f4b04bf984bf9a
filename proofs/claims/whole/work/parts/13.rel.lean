/-! 13: the relation -/
/-- the reference's tables -/
def qr_Y (n : Nat) (cd pr cn cx : Nat → Int32) : Prop :=
  (∀ k, k < qd_N n → cd k = nI (qd_t n k)) ∧ (∀ k, k < qd_N n → pr k = nI (qd_m n (qd_t n k))) ∧ (∀ k, k < qd_N n → cn k = nI (qd_b n (qd_t n k))) ∧ (∀ k, k < qd_N n → cx k = qx_b (qd_x n (qd_t n k)))
/-- n points; elements 0 and 1 are the table's places P 0, P 1 -/
def qr_R (n : Nat) (P : Nat → Nat) (N E cd pr cn cx el : Nat → Int32) : Prop :=
  1 ≤ n ∧ n ≤ 7 ∧ (∀ e, e < 2 → P e < qd_N n) ∧ qx_N n (fun e => qd_t n (P e)) N ∧ qx_E E ∧ qr_Y n cd pr cn cx ∧ (∀ e, e < 2 → el e = nI (P e))
def i_Rel (_ : Nat) (u : SX) (v : SY) : Prop :=
  ∃ (n : Nat) (P : Nat → Nat) (N L E cd pr cn cx fd el ro ot nu tw : Nat → Int32), u = (nI n, N, L, E) ∧ v = (nI n, nI (qd_N n), cd, pr, cn, cx, fd, el, ro, ot, nu, tw) ∧ qr_R n P N E cd pr cn cx el
theorem i_up {k : Nat} {u : SX} {v : SY} (h : i_Rel k u v) : i_Rel (k + 4) u v := h
section
variable {n M : Nat} {P : Nat → Nat} {N L E cd pr cn cx fd el ro ot nu tw : Nat → Int32}
theorem qr_mk {k : Nat} (h : qr_R n P N E cd pr cn cx el) : i_Rel k (nI n, N, L, E) (nI n, nI (qd_N n), cd, pr, cn, cx, fd, el, ro, ot, nu, tw) :=
  ⟨n, P, N, L, E, cd, pr, cn, cx, fd, el, ro, ot, nu, tw, rfl, rfl, h⟩
/-- e at place q -/
def qr_P (P : Nat → Nat) (e q : Nat) : Nat → Nat := fun e' => if e' = e then q else P e'
theorem qr_upd {N' el' : Nat → Int32} {e q : Nat} (h : qr_R n P N E cd pr cn cx el) (he : e < 2) (hq : q < qd_N n)
    (h1 : ∀ i, i < n → N' (e * 7 + i) = nI (qd_g (qd_t n q) i)) (h2 : ∀ j, (∀ i, i < n → ¬ j = e * 7 + i) → N' j = N j)
    (h3 : el' e = nI q) (h4 : ∀ j, ¬ j = e → el' j = el j) : qr_R n (qr_P P e q) N' E cd pr cn cx el' := by
  obtain ⟨a1, a7, aP, aN, aE, aY, aL⟩ := h
  refine ⟨a1, a7, ?_, ?_, aE, aY, ?_⟩
  · intro e' he'
    unfold qr_P
    by_cases ee : e' = e
    · rw [if_pos ee]; exact hq
    · rw [if_neg ee]; exact aP e' he'
  · intro e' he' i hi
    show N' (e' * 7 + i) = nI (qd_g (qd_t n (qr_P P e q e')) i)
    unfold qr_P
    by_cases ee : e' = e
    · rw [if_pos ee, ee]; exact h1 i hi
    · rw [if_neg ee, h2 (e' * 7 + i) (fun k hk => by omega)]
      exact aN e' he' i hi
  · intro e' he'
    unfold qr_P
    by_cases ee : e' = e
    · rw [if_pos ee, ee]; exact h3
    · rw [if_neg ee, h4 e' ee]; exact aL e' he'
/-- a row whose numbers go up without a gap stands in the table; its mask is that of any labels with its kernel -/
theorem qr_place {D : Nat → Nat} {R : Nat → Nat → Bool} (h7 : n ≤ 7) (hD : ∀ i, i < n → D i ≤ qd_bf D i) (hR : ∀ i j, i < j → j < n → (D i = D j ↔ R i j = true)) :
    ∃ q, q < qd_N n ∧ (∀ i, i < n → D i = qd_g (qd_t n q) i) ∧ qd_pm R n = qd_m n (qd_t n q) ∧ qd_bf D n = qd_b n (qd_t n q) := by
  obtain ⟨q, hq, eq⟩ := qd_in_t (qd_T_in h7 hD)
  have h8 : ∀ i, i < n → D i < 8 := fun i hi => by
    have h1 := hD i hi
    have h2 := qd_bf_le (f := D) (n := i)
    omega
  have hg : ∀ i, i < n → D i = qd_g (qd_t n q) i := fun i hi => by rw [eq, qd_g_pk h8 i hi]
  refine ⟨q, hq, hg, ?_, ?_⟩
  · refine qd_pmC (fun i j hi hj => ?_)
    rw [Bool.eq_iff_iff, ← hR i j hi hj, qd_rl_iff, hg i (by omega), hg j hj]
  · exact qd_bfC hg
theorem qr_el (e : Int32) : (∃ a, a < 2 ∧ e = nI a) ∨ (¬ e = 0 ∧ ¬ e = 1) := by
  by_cases h0 : e = 0
  · exact Or.inl ⟨0, by omega, h0⟩
  · by_cases h1 : e = 1
    · exact Or.inl ⟨1, by omega, h1⟩
    · exact Or.inr ⟨h0, h1⟩
theorem qr_pt (h7 : n ≤ 7) (x : Int32) : (∃ a, a < n ∧ x = nI a) ∨ (x < 0 ∨ nI n ≤ x) := by
  rcases pk_ix x (n := n) (by omega) with h | h | h
  · exact Or.inr (Or.inl h)
  · exact Or.inr (Or.inr h)
  · exact Or.inl h
theorem qr_m21 (h7 : n ≤ 7) (c : Nat) : qd_m n c < 2 ^ 21 := qd_pm_lt (by omega)
/-- Y's take at element e; keep -/
theorem qr_take {post : SY → Prop} {e : Nat} {x : Int32} (h : qr_R n P N E cd pr cn cx el) (he : e < 2) (hx : x = nI (P e))
    (H : ∀ ro', (∀ i, i < n → ro' i = nI (qd_g (qd_t n (P e)) i)) → post (nI n, nI (qd_N n), cd, pr, cn, cx, fd, el, ro', ot, nu, tw)) : wpY_take post (nI n, nI (qd_N n), cd, pr, cn, cx, fd, el, ro, ot, nu, tw) x := by
  obtain ⟨a1, a7, aP, aN, aE, aY, aL⟩ := h
  subst hx
  exact qy_take a7 (Nat.lt_of_lt_of_le (aP e he) (qf_N1 a1 a7).2) (aY.1 _ (aP e he)) (qf_lt a1 a7 (aP e he)) H
theorem qr_keep {post : Int32 → SY → Prop} {e q : Nat} (h : qr_R n P N E cd pr cn cx el) (he : e < 2) (hq : q < qd_N n) (hm : qd_pm (qy_R ro) n = qd_m n (qd_t n q))
    (H : ∀ el', el' e = nI q → (∀ j, ¬ j = e → el' j = el j) → post (nI (qd_b n (qd_t n q))) (nI n, nI (qd_N n), cd, pr, cn, cx, fd, el', ro, ot, nu, tw)) : wpY_keep post (nI n, nI (qd_N n), cd, pr, cn, cx, fd, el, ro, ot, nu, tw) (nI e) := by
  obtain ⟨a1, a7, aP, aN, aE, aY, aL⟩ := h
  refine qy_keep (mk := fun k => qd_m n (qd_t n k)) a7 he (qf_N1 a1 a7).2 hq aY.2.1 (fun k _ => qr_m21 a7 _) hm (fun k hk e1 => qf_minj a1 a7 hk hq e1) (fun el' h1 h2 => ?_)
  rw [aY.2.2.1 q hq]
  exact H el' h1 h2
theorem qr_elc (h : qr_R n P N E cd pr cn cx el) {e : Nat} (he : e < 2) : el (nI e).toNatClampNeg = nI (P e) := by
  rw [qx_c el (by omega)]
  exact h.2.2.2.2.2.2 e he
/-- X's takeLabels, then Y from the start to its keep: K says what Y still does -/
theorem qr_lab {e : Nat} {post : Int32 → SX → Prop} (h : qr_R n P N E cd pr cn cx el) (he : e < 2) {Lx : Nat → Int32}
    (H : ∀ (N' : Nat → Int32) (q : Nat), q < qd_N n → (∀ i j, i < j → j < n → (qd_g (qd_t n q) i = qd_g (qd_t n q) j ↔ Lx i = Lx j)) →
      (∀ el', el' e = nI q → (∀ j, ¬ j = e → el' j = el j) → qr_R n (qr_P P e q) N' E cd pr cn cx el') →
      post (nI (qd_b n (qd_t n q))) (nI n, N', Lx, E)) : wpX_takeLabels post (nI n, N, Lx, E) (nI e) := by
  obtain ⟨a1, a7, aP, aN, aE, aY, aL⟩ := h
  refine qx_take a7 he (fun N' D h1 h2 h3 h4 => ?_)
  obtain ⟨q, hq, hg, _, hb⟩ := qr_place (R := qy_R Lx) a7 h3 (fun i j hi hj => by rw [h4 i j (by omega) hj, qy_R_iff])
  rw [hb]
  refine H N' q hq (fun i j hi hj => ?_) (fun el' h5 h6 => ?_)
  · rw [← hg i (by omega), ← hg j hj]
    exact h4 i j (by omega) hj
  · exact qr_upd ⟨a1, a7, aP, aN, aE, aY, aL⟩ he hq (fun i hi => by rw [h1 i hi, hg i hi]) h2 h5 h6
/-- Y's keep after X's takeLabels with the same kernel -/
theorem qr_kp {post : Int32 → SY → Prop} {e q : Nat} {Lx : Nat → Int32} (h : qr_R n P N E cd pr cn cx el) (he : e < 2) (hq : q < qd_N n)
    (hk : ∀ i j, i < j → j < n → (qd_g (qd_t n q) i = qd_g (qd_t n q) j ↔ Lx i = Lx j)) (hr : ∀ i j, i < j → j < n → (Lx i = Lx j ↔ ro i = ro j))
    (H : ∀ el', el' e = nI q → (∀ j, ¬ j = e → el' j = el j) → post (nI (qd_b n (qd_t n q))) (nI n, nI (qd_N n), cd, pr, cn, cx, fd, el', ro, ot, nu, tw)) : wpY_keep post (nI n, nI (qd_N n), cd, pr, cn, cx, fd, el, ro, ot, nu, tw) (nI e) := by
  refine qr_keep h he hq ?_ H
  refine qd_pmC (fun i j hi hj => ?_)
  rw [Bool.eq_iff_iff, qy_R_iff, qd_rl_iff, hk i j hi hj, hr i j hi hj]
end
