/-! 07: what the checks say of uncross, complement, uncrossed, interval, sign, full chains -/
section
variable {n k : Nat}
theorem qf_ck {f : Nat → List Nat → Nat → Bool} (h6 : ∀ m, m < 6 → qd_la (f (m + 1) (qk_tb (m + 1))) (qk_tb (m + 1)) = true) (h7' : qd_la (f 7 qk_t7) qk_t7 = true)
    (h1 : 1 ≤ n) (h7 : n ≤ 7) (hk : k < qd_N n) : f n (qk_tb n) (qd_en n (qd_t n k)) = true := by
  have hm := qf_en h1 h7 hk
  by_cases e : n = 7
  · subst e
    exact qd_la_iff.mp h7' _ hm
  · obtain ⟨m, rfl⟩ : ∃ m, n = m + 1 := ⟨n - 1, by omega⟩
    exact qd_la_iff.mp (h6 m (by omega)) _ hm
theorem qf_x0 (h7 : n ≤ 7) {c : Nat} : qd_eX (qd_en n c) = 0 ↔ qd_x n c = false := by
  rw [(qd_en_all (n := n) (c := c) (by omega)).2.2.1]
  cases qd_x n c with
  | true => exact ⟨fun h => absurd h (by decide), fun h => absurd h (by decide)⟩
  | false => exact ⟨fun _ => rfl, fun _ => rfl⟩
theorem qf_u (h1 : 1 ≤ n) (h7 : n ≤ 7) (hk : k < qd_N n) : ∃ q, q < qd_N n ∧ qd_m n (qd_t n q) = qd_m n (qd_un n (qd_t n k) n) ∧ qd_x n (qd_t n q) = false ∧ qd_F n k q ∧
    ∀ b, b < qd_N n → qd_x n (qd_t n b) = false → qd_F n k b → b = q ∨ qd_b n (qd_t n b) < qd_b n (qd_t n q) := by
  have h8 : n < 8 := by omega
  obtain ⟨a, ha, e1, e2, e3, e4⟩ := qk_u1_to (qf_ck qk_u6 qk_u7 h1 h7 hk)
  obtain ⟨q, hq, rfl⟩ := qf_ne h1 h7 ha
  rw [(qd_en_all h8).1, (qd_en_all h8).2.2.2] at e1
  rw [qf_x0 h7] at e2
  rw [(qd_en_all h8).1, (qd_en_all h8).1] at e3
  refine ⟨q, hq, e1, e2, e3, fun b hb hx hf => ?_⟩
  have := e4 _ (qf_en h1 h7 hb) ((qf_x0 h7).mpr hx) (by rw [(qd_en_all h8).1, (qd_en_all h8).1]; exact hf)
  rw [(qd_en_all h8).1, (qd_en_all h8).1, (qd_en_all h8).2.1, (qd_en_all h8).2.1] at this
  rcases this with h | h
  · exact Or.inl (qf_minj h1 h7 hb hq h)
  · exact Or.inr h
theorem qf_k (h1 : 1 ≤ n) (h7 : n ≤ 7) (hk : k < qd_N n) (hx : qd_x n (qd_t n k) = false) : ∃ q, q < qd_N n ∧ qd_m n (qd_t n q) = qd_m n (qd_kq n (qd_t n k)) ∧ qd_x n (qd_t n q) = false ∧
    qd_m n (qd_t n q) &&& qd_cm n (qd_t n k) = 0 ∧
    ∀ b, b < qd_N n → qd_x n (qd_t n b) = false → qd_m n (qd_t n b) &&& qd_cm n (qd_t n k) = 0 → b = q ∨ qd_b n (qd_t n q) < qd_b n (qd_t n b) := by
  have h8 : n < 8 := by omega
  obtain ⟨a, ha, e1, e2, e3, e4⟩ := qk_k1_to (qf_ck qk_k6 qk_k7 h1 h7 hk) ((qf_x0 h7).mpr hx)
  obtain ⟨q, hq, rfl⟩ := qf_ne h1 h7 ha
  rw [(qd_en_all h8).1, (qd_en_all h8).2.2.2] at e1
  rw [qf_x0 h7] at e2
  rw [(qd_en_all h8).1, (qd_en_all h8).2.2.2] at e3
  refine ⟨q, hq, e1, e2, e3, fun b hb hx hf => ?_⟩
  have := e4 _ (qf_en h1 h7 hb) ((qf_x0 h7).mpr hx) (by rw [(qd_en_all h8).1, (qd_en_all h8).2.2.2]; exact hf)
  rw [(qd_en_all h8).1, (qd_en_all h8).1, (qd_en_all h8).2.1, (qd_en_all h8).2.1] at this
  rcases this with h | h
  · exact Or.inl (qf_minj h1 h7 hb hq h)
  · exact Or.inr h
/-- finer, reckoned -/
noncomputable def qd_Fb (n p q : Nat) : Bool := Nat.beq (Nat.land (qd_m n (qd_t n p)) (qd_m n (qd_t n q))) (qd_m n (qd_t n p))
theorem qd_Fb_iff {p q : Nat} : qd_Fb n p q = true ↔ qd_F n p q := by
  unfold qd_Fb qd_F
  rw [Nat.beq_eq]
  exact Iff.rfl
theorem qf_c (h1 : 1 ≤ n) (h7 : n ≤ 7) (hk : k < qd_N n) (hx : qd_x n (qd_t n k) = false) :
    qd_sm (fun b => qd_bi (qd_bi (qd_x n (qd_t n b)) false (qd_Fb n b k)) 1 0) (qd_N n) = qd_uc n (qd_t n k) n := by
  have h8 : n < 8 := by omega
  have h := qk_c1_to (qf_ck qk_c6 qk_c7 h1 h7 hk) ((qf_x0 h7).mpr hx)
  rw [← qf_tb h1 h7, qd_cs_sm, (qd_en_all h8).2.2.2] at h
  rw [← h]
  refine qd_smC (fun b hb => ?_)
  show qd_bi (qd_bi (qd_x n (qd_t n b)) false (qd_Fb n b k)) 1 0 = qd_bi (qd_bi (Nat.beq (qd_eX (qd_en n (qd_t n b))) 0) (Nat.beq (Nat.land (qd_eM (qd_en n (qd_t n b))) (qd_eM (qd_en n (qd_t n k)))) (qd_eM (qd_en n (qd_t n b)))) false) 1 0
  rw [(qd_en_all h8).1, (qd_en_all h8).1, (qd_en_all h8).2.2.1]
  cases qd_x n (qd_t n b) <;> rfl
/-- the recursion of sign and of full chains, by places: V the value, cmp which places go before -/
theorem qf_h {V : (Nat → Nat) → Nat} {cmp fin : Nat → Nat → Bool} {q : Nat} (h1 : 1 ≤ n) (h7 : n ≤ 7)
    (hc : ∀ k, k < qd_N n → qk_h1 V cmp fin n (qk_tb n) (qd_en n (qd_t n k)) = true) (hk : k < qd_N n) (hq : q < qd_N n) (hf : qd_F n k q) :
    qd_b n (qd_t n q) ≤ qd_b n (qd_t n k) ∧ (q = k → V (qd_pt n (qd_t n k) (qd_t n q)) = 1) ∧
    (¬ q = k → fin (qd_sm (fun s => qd_bi (qd_bi (qd_Fb n k s) (qd_bi (qd_Fb n s q) (cmp (qd_b n (qd_t n s)) (qd_b n (qd_t n q))) false) false) (V (qd_pt n (qd_t n k) (qd_t n s))) 0) (qd_N n)) (V (qd_pt n (qd_t n k) (qd_t n q))) = true) := by
  have h8 : n < 8 := by omega
  have h := qk_h1_to (hc k hk) _ (qf_en h1 h7 hq) (by rw [(qd_en_all h8).1, (qd_en_all h8).1]; exact hf)
  rw [← qf_tb h1 h7, qd_cs_sm, (qd_en_all h8).2.2.2, (qd_en_all h8).2.2.2, (qd_en_all h8).2.1, (qd_en_all h8).2.1, (qd_en_all h8).1, (qd_en_all h8).1] at h
  refine ⟨h.1, fun e => h.2.1 (by rw [e]), fun e => ?_⟩
  have h2 := h.2.2 (fun em => e (qf_minj h1 h7 hq hk em))
  refine Eq.trans (congrArg (fun z => fin z (V (qd_pt n (qd_t n k) (qd_t n q)))) (qd_smC (fun b hb => ?_))) h2
  show _ = qd_bi (qd_bi (Nat.beq (Nat.land _ (qd_eM (qd_en n (qd_t n b)))) _) (qd_bi (Nat.beq (Nat.land (qd_eM (qd_en n (qd_t n b))) _) (qd_eM (qd_en n (qd_t n b)))) (cmp (qd_eB (qd_en n (qd_t n b))) _) false) false) (V (qd_pt n (qd_t n k) (qd_eC (qd_en n (qd_t n b))))) 0
  rw [(qd_en_all h8).1, (qd_en_all h8).2.1, (qd_en_all h8).2.2.2]
  rfl
end
/-- the row of 2 n points: points 2 i by c, 2 i + 1 by d -/
noncomputable def qd_R2 (c d : Nat) (x y : Nat) : Bool :=
  qd_bi (Nat.beq (Nat.mod x 2) (Nat.mod y 2)) (qd_bi (Nat.beq (Nat.mod x 2) 0) (qd_rl c (Nat.div x 2) (Nat.div y 2)) (qd_rl d (Nat.div x 2) (Nat.div y 2))) false
theorem qd_cf_iff {n c i j : Nat} : qd_cf n c i j = true ↔ ∃ a b, a < b ∧ b < n ∧ qd_rl c a b = true ∧ ((a ≤ i ∧ i < b ∧ b ≤ j) ∨ (i < a ∧ a ≤ j ∧ j < b)) := by
  unfold qd_cf
  simp only [qd_ex_iff, qd_biAnd, qd_biOr, Nat.blt_eq, Nat.ble_eq]
  constructor
  · rintro ⟨a, ha, b, hb, hab, hr, h⟩
    exact ⟨a, b, hab, hb, hr, h⟩
  · rintro ⟨a, b, hab, hb, hr, h⟩
    exact ⟨a, by omega, b, hb, hab, hr, h⟩
theorem qd_R2_iff {c d x y : Nat} : qd_R2 c d x y = true ↔ (x % 2 = 0 ∧ y % 2 = 0 ∧ qd_rl c (x / 2) (y / 2) = true) ∨ (x % 2 = 1 ∧ y % 2 = 1 ∧ qd_rl d (x / 2) (y / 2) = true) := by
  unfold qd_R2
  rw [qd_biAnd, Nat.beq_eq]
  have e1 : ∀ a, Nat.mod a 2 = a % 2 := fun _ => rfl
  have e2 : ∀ a, Nat.div a 2 = a / 2 := fun _ => rfl
  simp only [e1, e2]
  by_cases h : x % 2 = 0
  · rw [qd_bi_t (by rw [Nat.beq_eq]; exact h)]
    constructor
    · rintro ⟨h1, h2⟩
      exact Or.inl ⟨h, by omega, h2⟩
    · rintro (⟨h1, h2, h3⟩ | ⟨h1, h2, h3⟩)
      · exact ⟨by omega, h3⟩
      · omega
  · rw [qd_bi_f (by rw [Nat.beq_eq]; exact h)]
    constructor
    · rintro ⟨h1, h2⟩
      exact Or.inr ⟨by omega, by omega, h2⟩
    · rintro (⟨h1, h2, h3⟩ | ⟨h1, h2, h3⟩)
      · omega
      · exact ⟨by omega, h3⟩
theorem qd_cr2 {n c d : Nat} (hn : n < 8) : qd_cr (qd_R2 c d) (2 * n) = true ↔ qd_x n c = true ∨ qd_x n d = true ∨ ¬ qd_m n d &&& qd_cm n c = 0 := by
  have ec : ¬ qd_m n d &&& qd_cm n c = 0 ↔ ∃ i j, i < j ∧ j < n ∧ qd_rl d i j = true ∧ qd_cf n c i j = true := by
    unfold qd_m qd_cm
    rw [qd_pm_0 hn]
    constructor
    · intro h
      refine Classical.byContradiction (fun hh => h (fun i j hi hj hd hc => hh ⟨i, j, hi, hj, hd, hc⟩))
    · rintro ⟨i, j, hi, hj, hd, hc⟩ h
      exact h i j hi hj hd hc
  rw [ec]
  unfold qd_x
  rw [qd_cr_iff, qd_cr_iff, qd_cr_iff]
  constructor
  · rintro ⟨x, y, z, w, hxy, hyz, hzw, hw, hnR, hR1, hR2⟩
    rw [qd_R2_iff] at hnR hR1 hR2
    rcases hR1 with ⟨x0, z0, hr1⟩ | ⟨x1, z1, hr1⟩
    · rcases hR2 with ⟨y0, w0, hr2⟩ | ⟨y1, w1, hr2⟩
      · exact Or.inl ⟨x / 2, y / 2, z / 2, w / 2, by omega, by omega, by omega, by omega, fun h => hnR (Or.inl ⟨x0, y0, h⟩), hr1, hr2⟩
      · exact Or.inr (Or.inr ⟨y / 2, w / 2, by omega, by omega, hr2, qd_cf_iff.mpr ⟨x / 2, z / 2, by omega, by omega, hr1, Or.inl ⟨by omega, by omega, by omega⟩⟩⟩)
    · rcases hR2 with ⟨y0, w0, hr2⟩ | ⟨y1, w1, hr2⟩
      · exact Or.inr (Or.inr ⟨x / 2, z / 2, by omega, by omega, hr1, qd_cf_iff.mpr ⟨y / 2, w / 2, by omega, by omega, hr2, Or.inr ⟨by omega, by omega, by omega⟩⟩⟩)
      · exact Or.inr (Or.inl ⟨x / 2, y / 2, z / 2, w / 2, by omega, by omega, by omega, by omega, fun h => hnR (Or.inr ⟨x1, y1, h⟩), hr1, hr2⟩)
  · have d0 : ∀ a, 2 * a % 2 = 0 := fun a => by omega
    have d1 : ∀ a, (2 * a + 1) % 2 = 1 := fun a => by omega
    have q0 : ∀ a, 2 * a / 2 = a := fun a => by omega
    have q1 : ∀ a, (2 * a + 1) / 2 = a := fun a => by omega
    rintro (⟨i, j, k, l, hij, hjk, hkl, hl, h1, h2, h3⟩ | ⟨i, j, k, l, hij, hjk, hkl, hl, h1, h2, h3⟩ | ⟨i, j, hij, hj, hd, hc⟩)
    · refine ⟨2 * i, 2 * j, 2 * k, 2 * l, by omega, by omega, by omega, by omega, ?_, ?_, ?_⟩
      · rw [qd_R2_iff, d0, d0, q0, q0]
        rintro (⟨_, _, h⟩ | ⟨h, _⟩)
        · exact h1 h
        · omega
      · rw [qd_R2_iff, d0, d0, q0, q0]
        exact Or.inl ⟨rfl, rfl, h2⟩
      · rw [qd_R2_iff, d0, d0, q0, q0]
        exact Or.inl ⟨rfl, rfl, h3⟩
    · refine ⟨2 * i + 1, 2 * j + 1, 2 * k + 1, 2 * l + 1, by omega, by omega, by omega, by omega, ?_, ?_, ?_⟩
      · rw [qd_R2_iff, d1, d1, q1, q1]
        rintro (⟨h, _⟩ | ⟨_, _, h⟩)
        · omega
        · exact h1 h
      · rw [qd_R2_iff, d1, d1, q1, q1]
        exact Or.inr ⟨rfl, rfl, h2⟩
      · rw [qd_R2_iff, d1, d1, q1, q1]
        exact Or.inr ⟨rfl, rfl, h3⟩
    · rw [qd_cf_iff] at hc
      obtain ⟨a, b, hab, hb, hr, (⟨h1, h2, h3⟩ | ⟨h1, h2, h3⟩)⟩ := hc
      · refine ⟨2 * a, 2 * i + 1, 2 * b, 2 * j + 1, by omega, by omega, by omega, by omega, ?_, ?_, ?_⟩
        · rw [qd_R2_iff, d0, d1]
          rintro (⟨_, h, _⟩ | ⟨h, _⟩) <;> omega
        · rw [qd_R2_iff, d0, d0, q0, q0]
          exact Or.inl ⟨rfl, rfl, hr⟩
        · rw [qd_R2_iff, d1, d1, q1, q1]
          exact Or.inr ⟨rfl, rfl, hd⟩
      · refine ⟨2 * i + 1, 2 * a, 2 * j + 1, 2 * b, by omega, by omega, by omega, by omega, ?_, ?_, ?_⟩
        · rw [qd_R2_iff, d1, d0]
          rintro (⟨h, _⟩ | ⟨_, h, _⟩) <;> omega
        · rw [qd_R2_iff, d1, d1, q1, q1]
          exact Or.inr ⟨rfl, rfl, hd⟩
        · rw [qd_R2_iff, d0, d0, q0, q0]
          exact Or.inl ⟨rfl, rfl, hr⟩
