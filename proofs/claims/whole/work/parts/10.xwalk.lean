/-! 10: the class's private methods -/
theorem qx_L (W : Nat → Nat → Prop) (I : Nat → Prop) (e i0 : Nat) (hi : i0 ≤ e) (h0 : I i0) (hx : ∀ n, I e → W (n + 1) e)
    (hs : ∀ n i, i < e → I i → (I (i + 1) → W n (i + 1)) → W (n + 1) i) : ∃ n, W n i0 :=
  pk_loop (σ := Unit) (fun n i _ => W n i) (fun i _ => I i) e i0 () hi h0 (fun n _ h => hx n h) (fun n i _ hl hI ih => hs n i hl hI (fun h => ih () h))
theorem qx_bc {x y x' y' : Int32} {A B : Prop} (ex : x = x') (ey : y = y') (a : x' = y' → A) (b : ¬ x' = y' → B) : (x = y → A) ∧ (¬ x = y → B) := by
  subst ex
  subst ey
  exact ⟨a, b⟩
theorem qx_c (a : Nat → Int32) {k : Nat} (h : k < 877) : a (nI k).toNatClampNeg = a k := by
  rw [nI_clamp (by omega)]
theorem qx_i7 {k : Nat} (h : k < 7) : vp_in (nI k) 7 := vp_in_nI h (by omega)
theorem qx_le {n : Nat} (h : n < 877) : nI n ≤ nI n := nI_le (Nat.le_refl n) (by omega)
theorem qx_ge {i n : Nat} (h : i < n) (hn : n < 878) : ¬ nI n ≤ nI i := nI_ge h (by omega)
/-- numbers by Booleans -/
def qx_b (b : Bool) : Int32 := if b = true then 1 else 0
theorem qx_bt {b : Bool} (h : b = true) : qx_b b = 1 := by rw [h]; rfl
theorem qx_bf {b : Bool} (h : ¬ b = true) : qx_b b = 0 := by
  cases b with
  | true => exact absurd rfl h
  | false => rfl
section
variable {n : Nat} {N L E : Nat → Int32}
theorem qx_elT {post : Int32 → Prop} {u : SX} {e : Nat} (he : e < 2) (h : post 1) : wpX_isElement post u (nI e) := by
  obtain ⟨f, a, b, c⟩ := u
  show ((nI e = 0 → post 1) ∧ (¬ nI e = 0 → ((nI e = 1 → post 1) ∧ (¬ nI e = 1 → post 0))))
  rcases (show e = 0 ∨ e = 1 by omega) with rfl | rfl
  · exact br_t rfl h
  · exact br_f (by decide) (br_t rfl h)
theorem qx_elF {post : Int32 → Prop} {u : SX} {e : Int32} (h0 : ¬ e = 0) (h1 : ¬ e = 1) (h : post 0) : wpX_isElement post u e := by
  obtain ⟨f, a, b, c⟩ := u
  exact br_f h0 (br_f h1 h)
theorem qx_ptT {post : Int32 → Prop} {i : Nat} (h7 : n ≤ 7) (hi : i < n) (h : post 1) : wpX_isPoint post (nI n, N, L, E) (nI i) :=
  br_f (nI_pos (by omega)) (br_f (qx_ge hi (by omega)) h)
theorem qx_ptF {post : Int32 → Prop} {i : Int32} (hi : i < 0 ∨ nI n ≤ i) (h : post 0) : wpX_isPoint post (nI n, N, L, E) i :=
  br_c (fun _ => h) (fun h0 => br_t (hi.resolve_left h0) h)
theorem qx_num {post : Int32 → Prop} {f : Int32} {e i : Nat} (he : e < 2) (hi : i < 7) (h : post (N (e * 7 + i))) : wpX_numberOf post (f, N, L, E) (nI e) (nI i) := by
  have e1 : nI e * 7 + nI i = nI (e * 7 + i) := by
    rw [show (7 : Int32) = nI 7 from rfl, pk_mul, nI_add]
  show vp_in (nI e * 7 + nI i) 14 ∧ post (N (nI e * 7 + nI i).toNatClampNeg)
  rw [e1, qx_c N (by omega)]
  exact ⟨vp_in_nI (by omega) (by omega), h⟩
theorem qx_first {post : Int32 → Prop} {f : Int32} {i : Nat} (hi : i < 7) (hA : ∀ j, j < i → L j = L i → post (nI j)) (hB : (∀ k, k < i → ¬ L k = L i) → post (nI i)) :
    wpX_firstAlike post (f, N, L, E) (nI i) := by
  show ∃ m, wX_firstAlike_2 post (nI i) f N L E m (nI 0)
  refine qx_L (fun m j => wX_firstAlike_2 post (nI i) f N L E m (nI j)) (fun j => ∀ k, k < j → ¬ L k = L i) i 0 (Nat.zero_le _) (fun k hk => absurd hk (Nat.not_lt_zero k)) ?_ ?_
  · intro m hI
    exact br_t (qx_le (by omega)) (hB hI)
  · intro m j hj hI ih
    refine br_f (qx_ge hj (by omega)) ⟨qx_i7 (by omega), qx_i7 hi, ?_⟩
    exact qx_bc (qx_c L (by omega)) (qx_c L (by omega)) (fun e => hA j hj e) (fun e => nm_r (nI_1 j) (ih (lt_s hI e)))
theorem qd_rg_lt {D : Nat → Nat} : ∀ {i : Nat}, (∀ j, j < i → D j ≤ qd_bf D j) → ∀ j, j < i → D j < qd_bf D i := by
  intro i
  induction i with
  | zero => intro _ j hj; omega
  | succ i ih =>
    intro h j hj
    rw [qd_bfS]
    have hi := h i (by omega)
    by_cases e : Nat.beq (D i) (qd_bf D i) = true
    · rw [qd_bi_t e]
      rw [Nat.beq_eq] at e
      by_cases ej : j = i
      · subst ej; omega
      · have := ih (fun k hk => h k (by omega)) j (by omega)
        omega
    · rw [qd_bi_f e]
      rw [Nat.beq_eq] at e
      by_cases ej : j = i
      · subst ej; omega
      · exact ih (fun k hk => h k (by omega)) j (by omega)
/-- D with v at i -/
def qd_up (D : Nat → Nat) (i v : Nat) : Nat → Nat := fun j => if j = i then v else D j
theorem qd_up_s {D : Nat → Nat} {i v : Nat} : qd_up D i v i = v := if_pos rfl
theorem qd_up_n {D : Nat → Nat} {i v j : Nat} (h : j ≠ i) : qd_up D i v j = D j := if_neg h
theorem qd_up_bf {D : Nat → Nat} {i v j : Nat} (h : j ≤ i) : qd_bf (qd_up D i v) j = qd_bf D j :=
  qd_bfC (fun k hk => qd_up_n (by omega))
/-- what takeLabels has done before point i -/
def qx_TI (n : Nat) (N L : Nat → Int32) (e i : Nat) (s : Int32 × (Nat → Int32)) : Prop :=
  ∃ D : Nat → Nat, s.1 = nI (qd_bf D i) ∧ (∀ j, j < i → s.2 (e * 7 + j) = nI (D j)) ∧ (∀ j, (∀ k, k < i → ¬ j = e * 7 + k) → s.2 j = N j) ∧
    (∀ j, j < i → D j ≤ qd_bf D j) ∧ (∀ j k, j < i → k < i → (D j = D k ↔ L j = L k))
theorem qx_TI_step {e i v : Nat} {D : Nat → Nat} {N0 : Nat → Int32} {x : Int32}
    (h2 : ∀ j, j < i → N0 (e * 7 + j) = nI (D j)) (h3 : ∀ j, (∀ k, k < i → ¬ j = e * 7 + k) → N0 j = N j)
    (h4 : ∀ j, j < i → D j ≤ qd_bf D j) (h5 : ∀ j k, j < i → k < i → (D j = D k ↔ L j = L k))
    (hv : v ≤ qd_bf D i) (hx : x = nI (qd_bi (Nat.beq v (qd_bf D i)) (qd_bf D i + 1) (qd_bf D i))) (hk : ∀ j, j < i → (D j = v ↔ L j = L i)) :
    qx_TI n N L e (i + 1) (x, upd N0 (e * 7 + i) (nI v)) := by
  refine ⟨qd_up D i v, ?_, ?_, ?_, ?_, ?_⟩
  · show x = _
    rw [hx, qd_bfS, qd_up_s, qd_up_bf (Nat.le_refl i)]
  · intro j hj
    show upd N0 (e * 7 + i) (nI v) (e * 7 + j) = _
    by_cases ej : j = i
    · subst ej
      rw [pk_us, qd_up_s]
    · rw [pk_un (by omega), qd_up_n ej, h2 j (by omega)]
  · intro j hj
    show upd N0 (e * 7 + i) (nI v) j = _
    rw [pk_un (hj i (by omega)), h3 j (fun k hk => hj k (by omega))]
  · intro j hj
    by_cases ej : j = i
    · subst ej
      rw [qd_up_s, qd_up_bf (Nat.le_refl j)]
      exact hv
    · rw [qd_up_n ej, qd_up_bf (by omega)]
      exact h4 j (by omega)
  · intro j k hj hk'
    by_cases ej : j = i
    · by_cases ek : k = i
      · rw [ej, ek]
        exact ⟨fun _ => rfl, fun _ => rfl⟩
      · rw [ej, qd_up_s, qd_up_n ek]
        have := hk k (by omega)
        exact ⟨fun h => (this.mp h.symm).symm, fun h => (this.mpr h.symm).symm⟩
    · by_cases ek : k = i
      · rw [ek, qd_up_s, qd_up_n ej]
        exact hk j (by omega)
      · rw [qd_up_n ej, qd_up_n ek]
        exact h5 j k (by omega) (by omega)
theorem qx_take {post : Int32 → SX → Prop} {e : Nat} (h7 : n ≤ 7) (he : e < 2)
    (H : ∀ (N' : Nat → Int32) (D : Nat → Nat), (∀ i, i < n → N' (e * 7 + i) = nI (D i)) → (∀ j, (∀ i, i < n → ¬ j = e * 7 + i) → N' j = N j) →
      (∀ i, i < n → D i ≤ qd_bf D i) → (∀ i j, i < n → j < n → (D i = D j ↔ L i = L j)) → post (nI (qd_bf D n)) (nI n, N', L, E)) :
    wpX_takeLabels post (nI n, N, L, E) (nI e) := by
  show ∃ m, wX_takeLabels_4 post (nI e) (nI n) m 0 (nI 0) N L E
  refine pk_loop (fun m i (s : Int32 × (Nat → Int32)) => wX_takeLabels_4 post (nI e) (nI n) m s.1 (nI i) s.2 L E) (qx_TI n N L e) n 0 ((0 : Int32), N) (Nat.zero_le _) ?_ ?_ ?_
  · exact ⟨fun _ => 0, rfl, fun j hj => absurd hj (Nat.not_lt_zero j), fun _ _ => rfl, fun j hj => absurd hj (Nat.not_lt_zero j), fun j _ hj => absurd hj (Nat.not_lt_zero j)⟩
  · rintro m s ⟨D, h1, h2, h3, h4, h5⟩
    refine br_t (qx_le (by omega)) ?_
    rw [h1]
    exact H s.2 D h2 h3 h4 h5
  · rintro m i ⟨x, N0⟩ hi ⟨D, h1, h2, h3, h4, h5⟩ ih
    have h1' : x = nI (qd_bf D i) := h1
    have h2' : ∀ j, j < i → N0 (e * 7 + j) = nI (D j) := h2
    have h3' : ∀ j, (∀ k, k < i → ¬ j = e * 7 + k) → N0 j = N j := h3
    subst h1'
    have hlt := qd_rg_lt h4
    have hb : qd_bf D i ≤ i := qd_bf_le
    have e1 : nI e * 7 + nI i = nI (e * 7 + i) := by
      rw [show (7 : Int32) = nI 7 from rfl, pk_mul, nI_add]
    have hin : vp_in (nI e * 7 + nI i) 14 := by
      rw [e1]; exact vp_in_nI (by omega) (by omega)
    have hcl : (nI e * 7 + nI i).toNatClampNeg = e * 7 + i := by
      rw [e1]; exact nI_clamp (by omega)
    refine br_f (qx_ge hi (by omega)) ?_
    refine qx_first (by omega) ?_ ?_
    · intro j hj hL
      refine br_f (fun h => absurd ((nI_eq (by omega) (by omega)).mp h) (by omega)) ?_
      refine qx_num he (by omega) ?_
      refine ⟨hin, nm_r (congrArg (fun k => upd N0 k (N0 (e * 7 + j))) hcl) (nm_r (nI_1 i) ?_)⟩
      refine ih (nI (qd_bf D i), upd N0 (e * 7 + i) (N0 (e * 7 + j))) ?_
      rw [h2' j hj]
      refine qx_TI_step h2' h3' h4 h5 (Nat.le_of_lt (hlt j hj)) ?_ ?_
      · rw [qd_bi_f (by rw [Nat.beq_eq]; have := hlt j hj; omega)]
      · intro k hk
        rw [← hL]
        exact h5 k j hk hj
    · intro hno
      refine br_t rfl ⟨hin, nm_r (congrArg (fun k => upd N0 k (nI (qd_bf D i))) hcl) (nm_r (nI_1 (qd_bf D i)) (nm_r (nI_1 i) ?_))⟩
      refine ih (nI (qd_bf D i + 1), upd N0 (e * 7 + i) (nI (qd_bf D i))) ?_
      refine qx_TI_step h2' h3' h4 h5 (Nat.le_refl _) ?_ ?_
      · rw [qd_bi_t (by rw [Nat.beq_eq])]
      · intro k hk
        constructor
        · intro h
          have := hlt k hk
          omega
        · intro h
          exact absurd h (hno k hk)
theorem qx_give {post : SX → Prop} {e : Nat} (h7 : n ≤ 7) (he : e < 2) (H : ∀ L' : Nat → Int32, (∀ i, i < n → L' i = N (e * 7 + i)) → post (nI n, N, L', E)) :
    wpX_giveLabels post (nI n, N, L, E) (nI e) := by
  show ∃ m, wX_giveLabels_2 post (nI e) (nI n) m (nI 0) N L E
  refine pk_loop (fun m i (s : Nat → Int32) => wX_giveLabels_2 post (nI e) (nI n) m (nI i) N s E) (fun i s => ∀ j, j < i → s j = N (e * 7 + j)) n 0 L (Nat.zero_le _) (fun j hj => absurd hj (Nat.not_lt_zero j)) ?_ ?_
  · intro m s h
    exact br_t (qx_le (by omega)) (H s h)
  · intro m i s hi h ih
    refine br_f (qx_ge hi (by omega)) (qx_num he (by omega) ⟨qx_i7 (by omega), ?_⟩)
    refine nm_r (congrArg (fun k => upd s k (N (e * 7 + i))) (nI_clamp (by omega))) (nm_r (nI_1 i) (ih _ ?_))
    intro j hj
    by_cases ej : j = i
    · subst ej; exact pk_us
    · rw [pk_un ej]; exact h j (by omega)
theorem qx_merge {post : SX → Prop} {i j : Nat} (h7 : n ≤ 7) (hi : i < n) (hj : j < n)
    (H : ∀ L' : Nat → Int32, (∀ p, p < n → L' p = if L p = L j then L i else L p) → post (nI n, N, L', E)) : wpX_mergeLabels post (nI n, N, L, E) (nI i) (nI j) := by
  refine ⟨qx_i7 (by omega), nm_r (qx_c L (by omega)) ⟨qx_i7 (by omega), nm_r (qx_c L (by omega)) ?_⟩⟩
  show ∃ m, wX_mergeLabels_18 post (L j) (L i) (nI n) m (nI 0) N L E
  refine pk_loop (fun m p (s : Nat → Int32) => wX_mergeLabels_18 post (L j) (L i) (nI n) m (nI p) N s E)
    (fun p s => (∀ q, q < p → s q = if L q = L j then L i else L q) ∧ ∀ q, p ≤ q → s q = L q) n 0 L (Nat.zero_le _) ⟨fun q hq => absurd hq (Nat.not_lt_zero q), fun _ _ => rfl⟩ ?_ ?_
  · intro m s h
    exact br_t (qx_le (by omega)) (H s h.1)
  · intro m p s hp h ih
    refine br_f (qx_ge hp (by omega)) ⟨qx_i7 (by omega), ?_⟩
    refine qx_bc ((qx_c s (by omega)).trans (h.2 p (Nat.le_refl p))) rfl ?_ ?_
    · intro e
      refine ⟨qx_i7 (by omega), nm_r (congrArg (fun k => upd s k (L i)) (nI_clamp (by omega))) (nm_r (nI_1 p) (ih _ ⟨?_, ?_⟩))⟩
      · intro q hq
        by_cases eq : q = p
        · subst eq; rw [pk_us, if_pos e]
        · rw [pk_un eq]; exact h.1 q (by omega)
      · intro q hq
        rw [pk_un (by omega)]
        exact h.2 q (by omega)
    · intro e
      refine nm_r (nI_1 p) (ih _ ⟨?_, fun q hq => h.2 q (by omega)⟩)
      intro q hq
      by_cases eq : q = p
      · subst eq; rw [h.2 q (Nat.le_refl q), if_neg e]
      · exact h.1 q (by omega)
/-- points i < j begin a crossing of the labels L -/
def qx_LC (n : Nat) (L : Nat → Int32) (i j : Nat) : Prop := ¬ L i = L j ∧ ∃ k l, j < k ∧ k < l ∧ l < n ∧ L k = L i ∧ L l = L j
theorem qx_lcI {post J : Int32 → Prop} {i j k : Nat} (h7 : n ≤ 7) (hi : i < n) (hj : j < n) (hk : k < n)
    (H1 : L k = L i → (∃ l, k < l ∧ l < n ∧ L l = L j) → post 1) (H0 : ¬ (L k = L i ∧ ∃ l, k < l ∧ l < n ∧ L l = L j) → J (nI (k + 1))) :
    ∃ m, wX_labelsCross_34 post J (nI i) (nI j) (nI k) (nI n) N L E m (nI (k + 1)) := by
  refine qx_L (fun m l => wX_labelsCross_34 post J (nI i) (nI j) (nI k) (nI n) N L E m (nI l)) (fun l => k < l ∧ ∀ l', k < l' → l' < l → ¬ (L k = L i ∧ L l' = L j)) n (k + 1) (by omega) ⟨by omega, fun l' h h' => by omega⟩ ?_ ?_
  · intro m hI
    refine br_t (qx_le (by omega)) (nm_r (nI_1 k) (H0 ?_))
    rintro ⟨h, l, h1, h2, h3⟩
    exact hI.2 l h1 h2 ⟨h, h3⟩
  · intro m l hl hI ih
    have step : ¬ (L k = L i ∧ L l = L j) → wX_labelsCross_34 post J (nI i) (nI j) (nI k) (nI n) N L E m (nI (l + 1)) := by
      intro hn
      refine ih ⟨by omega, fun l' h h' => ?_⟩
      by_cases el : l' = l
      · rw [el]; exact hn
      · exact hI.2 l' h (by omega)
    refine br_f (qx_ge hl (by omega)) ⟨qx_i7 (by omega), qx_i7 (by omega), ?_⟩
    refine qx_bc (qx_c L (by omega)) (qx_c L (by omega)) ?_ ?_
    · intro e
      refine ⟨qx_i7 (by omega), qx_i7 (by omega), ?_⟩
      refine qx_bc (qx_c L (by omega)) (qx_c L (by omega)) ?_ ?_
      · intro e2
        exact H1 e ⟨l, hI.1, hl, e2⟩
      · intro e2
        exact nm_r (nI_1 l) (step (fun h => e2 h.2))
    · intro e
      exact nm_r (nI_1 l) (step (fun h => e h.1))
theorem qx_lc {post : Int32 → Prop} {i j : Nat} (h7 : n ≤ 7) (hi : i < j) (hj : j < n) (H1 : qx_LC n L i j → post 1) (H0 : ¬ qx_LC n L i j → post 0) :
    wpX_labelsCross post (nI n, N, L, E) (nI i) (nI j) := by
  refine ⟨qx_i7 (by omega), qx_i7 (by omega), qx_bc (qx_c L (by omega)) (qx_c L (by omega)) (fun e => H0 (fun h => h.1 e)) (fun e => nm_r (nI_1 j) ?_)⟩
  refine qx_L (fun m k => wX_labelsCross_21 post (nI i) (nI j) (nI n) N L E m (nI k)) (fun k => j < k ∧ ∀ k' l, j < k' → k' < k → k' < l → l < n → ¬ (L k' = L i ∧ L l = L j)) n (j + 1) (by omega) ⟨by omega, fun k' l h h' => by omega⟩ ?_ ?_
  · intro m hI
    refine br_t (qx_le (by omega)) (H0 ?_)
    rintro ⟨_, k, l, h1, h2, h3, h4, h5⟩
    exact hI.2 k l h1 (by omega) h2 h3 ⟨h4, h5⟩
  · intro m k hk hI ih
    refine br_f (qx_ge hk (by omega)) (nm_r (nI_1 k) ?_)
    refine qx_lcI h7 (by omega) hj hk ?_ ?_
    · rintro e2 ⟨l, h1, h2, h3⟩
      exact H1 ⟨e, k, l, hI.1, h1, h2, e2, h3⟩
    · intro hn
      refine ih ⟨by omega, fun k' l h h' h1 h2 h3 => ?_⟩
      by_cases ek : k' = k
      · subst ek
        exact hn ⟨h3.1, l, h1, h2, h3.2⟩
      · exact hI.2 k' l h (by omega) h1 h2 h3
end
