/-! 06: what the checks say of the places -/
theorem qf_s {n : Nat} (h1 : 1 ≤ n) (h7 : n ≤ 7) : ∃ m, m < 7 ∧ n = m + 1 := ⟨n - 1, by omega, by omega⟩
theorem qf_la {f : Nat → Nat → Bool} (h : ∀ m, m < 7 → qd_la (f (m + 1)) (qd_T (m + 1)) = true) {n c : Nat} (h1 : 1 ≤ n) (h7 : n ≤ 7) (hc : c ∈ qd_T n) : f n c = true := by
  obtain ⟨m, hm, rfl⟩ := qf_s h1 h7
  exact qd_la_iff.mp (h m hm) c hc
section
variable {n k : Nat}
theorem qf_N1 (h1 : 1 ≤ n) (h7 : n ≤ 7) : 1 ≤ qd_N n ∧ qd_N n ≤ 877 := by
  obtain ⟨m, hm, rfl⟩ := qf_s h1 h7
  have h := qk_len m hm
  rw [Nat.ble_eq, Nat.ble_eq] at h
  exact h
theorem qf_lt (h1 : 1 ≤ n) (h7 : n ≤ 7) (hk : k < qd_N n) : qd_t n k < 8 ^ n := by
  have h := qf_la (f := fun n c => Nat.blt c (Nat.pow 8 n)) qk_lt h1 h7 (qd_t_in hk)
  rw [Nat.blt_eq] at h
  exact h
theorem qf_rg (h1 : 1 ≤ n) (h7 : n ≤ 7) (hk : k < qd_N n) {i : Nat} (hi : i < n) : qd_g (qd_t n k) i ≤ qd_bf (qd_g (qd_t n k)) i := by
  have h := qf_la (f := fun n c => qd_al (fun i => Nat.ble (qd_g c i) (qd_bf (qd_g c) i)) n) qk_rg h1 h7 (qd_t_in hk)
  rw [qd_al_iff] at h
  have := h i hi
  rw [Nat.ble_eq] at this
  exact this
theorem qf_d7 (h1 : 1 ≤ n) (h7 : n ≤ 7) (hk : k < qd_N n) {i : Nat} (hi : i < n) : qd_g (qd_t n k) i < 7 := by
  have h := qf_la (f := fun n c => qd_al (fun i => Nat.blt (qd_g c i) 7) n) qk_d7 h1 h7 (qd_t_in hk)
  rw [qd_al_iff] at h
  have := h i hi
  rw [Nat.blt_eq] at this
  exact this
theorem qf_pk (h1 : 1 ≤ n) (h7 : n ≤ 7) (hk : k < qd_N n) : qd_pk n (qd_g (qd_t n k)) = qd_t n k := by
  have h := qf_la (f := fun n c => Nat.beq (qd_pk n (qd_g c)) c) qk_pk h1 h7 (qd_t_in hk)
  rw [Nat.beq_eq] at h
  exact h
theorem qf_cd (h1 : 1 ≤ n) (h7 : n ≤ 7) (hk : k < qd_N n) : qd_cd n (qd_t n k) n = qd_t n k := by
  have h := qf_la (f := fun n c => Nat.beq (qd_cd n c n) c) qk_cd h1 h7 (qd_t_in hk)
  rw [Nat.beq_eq] at h
  exact h
theorem qf_md (h1 : 1 ≤ n) (h7 : n ≤ 7) (hk : k < qd_N n) : qd_md n (qd_t n k) n + 1 = qd_b n (qd_t n k) := by
  have h := qf_la (f := fun n c => Nat.beq (Nat.succ (qd_md n c n)) (qd_b n c)) qk_md h1 h7 (qd_t_in hk)
  rw [Nat.beq_eq] at h
  exact h
theorem qf_rk (h1 : 1 ≤ n) (h7 : n ≤ 7) (hk : k < qd_N n) : qd_rk n (qd_t n k) = k := by
  obtain ⟨m, hm, rfl⟩ := qf_s h1 h7
  have h := qd_mapAt (qk_le_eq (qk_rk m hm)) hk
  rw [List.getD_eq_getElem?_getD (l := List.range _), List.getElem?_range hk] at h
  exact h
theorem qf_po (h1 : 1 ≤ n) (h7 : n ≤ 7) (hk : k < qd_N n) : (qd_po n k n).1 = qd_t n k := by
  obtain ⟨m, hm, rfl⟩ := qf_s h1 h7
  have h := qd_mapAt (k := k) (qk_le_eq (qk_po m hm)) (by rw [List.length_range]; exact hk)
  rw [List.getD_eq_getElem?_getD (l := List.range _), List.getElem?_range hk] at h
  exact h
theorem qf_inj (h1 : 1 ≤ n) (h7 : n ≤ 7) {a b : Nat} (ha : a < qd_N n) (hb : b < qd_N n) (h : qd_t n a = qd_t n b) : a = b := by
  rw [← qf_rk h1 h7 ha, ← qf_rk h1 h7 hb, h]
theorem qf_minj (h1 : 1 ≤ n) (h7 : n ≤ 7) {a b : Nat} (ha : a < qd_N n) (hb : b < qd_N n) (h : qd_m n (qd_t n a) = qd_m n (qd_t n b)) : a = b := by
  have e := fun k hk => qf_la (f := fun n c => Nat.beq (qd_rc n (qd_m n c)) c) qk_rc h1 h7 (qd_t_in (n := n) (k := k) hk)
  have ea := e a ha
  have eb := e b hb
  rw [Nat.beq_eq] at ea eb
  exact qf_inj h1 h7 ha hb (by rw [← ea, ← eb, h])
/-- the rows one after another; behind the last one 8^n -/
theorem qf_nx (h1 : 1 ≤ n) (h7 : n ≤ 7) (hk : k < qd_N n) : qd_nx n (qd_t n k) = if k + 1 < qd_N n then qd_t n (k + 1) else 8 ^ n := by
  obtain ⟨m, hm, rfl⟩ := qf_s h1 h7
  have h := qd_mapAt (qk_le_eq (qk_nx m hm)) hk
  rw [List.getD_eq_getElem?_getD (l := List.drop _ _), List.getElem?_drop, List.getElem?_append, Nat.add_comm 1 k] at h
  rw [show qd_nx (m + 1) (qd_t (m + 1) k) = qd_nx (m + 1) ((qd_T (m + 1)).getD k 0) from rfl, h]
  by_cases hl : k + 1 < qd_N (m + 1)
  · rw [if_pos hl, if_pos (show k + 1 < (qd_T (m + 1)).length from hl)]
    unfold qd_t
    rw [List.getD_eq_getElem?_getD]
  · rw [if_neg hl, if_neg (show ¬ k + 1 < (qd_T (m + 1)).length from hl)]
    have e : k + 1 - (qd_T (m + 1)).length = 0 := by
      have : k < (qd_T (m + 1)).length := hk
      omega
    rw [e]
    rfl
theorem qf_t0 (h1 : 1 ≤ n) (h7 : n ≤ 7) : qd_t n 0 = 0 := by
  obtain ⟨m, hm, rfl⟩ := qf_s h1 h7
  have h := qk_t0 m hm
  rw [Nat.beq_eq] at h
  have hl : 0 < (qd_T (m + 1)).length := (qf_N1 (n := m + 1) (by omega) (by omega)).1
  unfold qd_t
  rw [List.getD_eq_getElem?_getD, List.getElem?_eq_getElem hl] at h ⊢
  exact h
theorem qf_tz (h1 : 1 ≤ n) (h7 : n ≤ 7) {i : Nat} (hi : i < n) : qd_g (qd_t n (qd_N n - 1)) i = i := by
  obtain ⟨m, hm, rfl⟩ := qf_s h1 h7
  have h := qd_al_iff.mp (qk_tz m hm) i hi
  rw [Nat.beq_eq] at h
  exact h
/-- entries -/
theorem qf_tb (h1 : 1 ≤ n) (h7 : n ≤ 7) : (qd_T n).map (qd_en n) = qk_tb n := by
  obtain ⟨m, hm, rfl⟩ := qf_s h1 h7
  exact qk_le_eq (qk_tbl m hm)
theorem qf_en (h1 : 1 ≤ n) (h7 : n ≤ 7) (hk : k < qd_N n) : qd_en n (qd_t n k) ∈ qk_tb n := by
  rw [← qf_tb h1 h7]
  exact List.mem_map.mpr ⟨_, qd_t_in hk, rfl⟩
theorem qf_ne (h1 : 1 ≤ n) (h7 : n ≤ 7) {a : Nat} (ha : a ∈ qk_tb n) : ∃ k, k < qd_N n ∧ a = qd_en n (qd_t n k) := by
  rw [← qf_tb h1 h7] at ha
  obtain ⟨c, hc, rfl⟩ := List.mem_map.mp ha
  obtain ⟨k, hk, rfl⟩ := qd_in_t hc
  exact ⟨k, hk, rfl⟩
end
/-- place p is finer than place q -/
def qd_F (n p q : Nat) : Prop := qd_m n (qd_t n p) &&& qd_m n (qd_t n q) = qd_m n (qd_t n p)
theorem qf_F {n p q : Nat} (h7 : n ≤ 7) : qd_F n p q ↔ ∀ i j, i < j → j < n → qd_g (qd_t n p) i = qd_g (qd_t n p) j → qd_g (qd_t n q) i = qd_g (qd_t n q) j := by
  unfold qd_F qd_m
  rw [qd_pm_le (by omega)]
  constructor
  · intro h i j hi hj e
    have := h i j hi hj (by unfold qd_rl; rw [Nat.beq_eq]; exact e)
    unfold qd_rl at this
    rw [Nat.beq_eq] at this
    exact this
  · intro h i j hi hj e
    unfold qd_rl at e ⊢
    rw [Nat.beq_eq] at e ⊢
    exact h i j hi hj e
theorem qd_F_refl (n p : Nat) : qd_F n p p := Nat.and_self _
theorem qd_F_trans {n p q r : Nat} (h7 : n ≤ 7) (h : qd_F n p q) (h' : qd_F n q r) : qd_F n p r := by
  rw [qf_F h7] at *
  exact fun i j hi hj e => h' i j hi hj (h i j hi hj e)
