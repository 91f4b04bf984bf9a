/-! 02: what the two sides reckon, as pure functions of codes (no printed name in it) -/
/-- points i and j of a code are alike -/
def qd_rl (c i j : Nat) : Bool := Nat.beq (qd_g c i) (qd_g c j)
/-- the mask, the number of blocks -/
noncomputable def qd_m (n c : Nat) : Nat := qd_pm (qd_rl c) n
noncomputable def qd_b (n c : Nat) : Nat := qd_bf (qd_g c) n
/-- the greatest digit before i, upward and downward -/
noncomputable def qd_mx (c i : Nat) : Nat := qd_it (fun j r => qd_bi (Nat.blt r (qd_g c j)) (qd_g c j) r) 0 i
noncomputable def qd_md (n c k : Nat) : Nat := qd_it (fun k r => qd_bi (Nat.blt r (qd_g c (Nat.sub (Nat.sub n 1) k))) (qd_g c (Nat.sub (Nat.sub n 1) k)) r) 0 k
noncomputable def qd_cd (n c k : Nat) : Nat := qd_it (fun k r => Nat.add (Nat.mul 8 r) (qd_g c (Nat.sub (Nat.sub n 1) k))) 0 k
/-- the next row: the last place that may go up (0: none) -/
noncomputable def qd_np (c i : Nat) : Nat := qd_it (fun i r => qd_bi (Nat.ble (qd_g c (Nat.succ i)) (qd_mx c (Nat.succ i))) (Nat.succ i) r) 0 i
noncomputable def qd_nc (n c i : Nat) : Nat := qd_pk n (fun j => qd_bi (Nat.blt j i) (qd_g c j) (qd_bi (Nat.beq j i) (Nat.succ (qd_g c j)) 0))
noncomputable def qd_nx (n c : Nat) : Nat := qd_bi (Nat.beq (qd_np c (Nat.sub n 1)) 0) (Nat.pow 8 n) (qd_nc n c (qd_np c (Nat.sub n 1)))
/-- a crossing of a relation on m points -/
noncomputable def qd_cr (R : Nat → Nat → Bool) (m : Nat) : Bool :=
  qd_ex (fun i => qd_ex (fun j => qd_bi (Nat.blt i j) (qd_bi (R i j) false (qd_ex (fun k => qd_bi (Nat.blt j k) (qd_bi (R i k) (qd_ex (fun l => qd_bi (Nat.blt k l) (R j l) false) m) false) false) m)) false) m) m
noncomputable def qd_x (n c : Nat) : Bool := qd_cr (qd_rl c) n
theorem qd_cr_iff {R : Nat → Nat → Bool} {m : Nat} : qd_cr R m = true ↔ ∃ i j k l, i < j ∧ j < k ∧ k < l ∧ l < m ∧ ¬ R i j = true ∧ R i k = true ∧ R j l = true := by
  unfold qd_cr
  simp only [qd_ex_iff, qd_biAnd, qd_biNot, Nat.blt_eq]
  constructor
  · rintro ⟨i, hi, j, hj, hij, hR, k, hk, hjk, hik, l, hl, hkl, hjl⟩
    exact ⟨i, j, k, l, hij, hjk, hkl, hl, hR, hik, hjl⟩
  · rintro ⟨i, j, k, l, hij, hjk, hkl, hl, hR, hik, hjl⟩
    exact ⟨i, by omega, j, by omega, hij, hR, k, by omega, hjk, hik, l, hl, hkl, hjl⟩
/-- in how many ways r points can follow u blocks -/
noncomputable def qd_eg (r : Nat) : Nat → Nat := qd_it (fun _ (f : Nat → Nat) u => Nat.add (Nat.mul u (f u)) (f (Nat.succ u))) (fun _ => 1) r
theorem qd_eg0 (u : Nat) : qd_eg 0 u = 1 := rfl
theorem qd_egS (r u : Nat) : qd_eg (r + 1) u = u * qd_eg r u + qd_eg r (u + 1) := rfl
noncomputable def qd_rk (n c : Nat) : Nat := qd_sm (fun i => Nat.mul (qd_g c i) (qd_eg (Nat.sub (Nat.sub n 1) i) (qd_bf (qd_g c) i))) n
/-- partition k: inner state (left, block); outer (sum, used, left) -/
noncomputable def qd_pi (each u : Nat) (s : Nat × Nat) : Nat × Nat := qd_it (fun _ s => qd_bi (Nat.ble each s.1) (Nat.sub s.1 each, Nat.succ s.2) s) s u
noncomputable def qd_po (n k i : Nat) : Nat × Nat × Nat :=
  qd_it (fun i s => (Nat.add s.1 (Nat.mul (qd_pi (qd_eg (Nat.sub (Nat.sub n 1) i) s.2.1) s.2.1 (s.2.2, 0)).2 (Nat.pow 8 i)),
    qd_bi (Nat.beq (qd_pi (qd_eg (Nat.sub (Nat.sub n 1) i) s.2.1) s.2.1 (s.2.2, 0)).2 s.2.1) (Nat.succ s.2.1) s.2.1,
    (qd_pi (qd_eg (Nat.sub (Nat.sub n 1) i) s.2.1) s.2.1 (s.2.2, 0)).1)) (0, 0, k) i
/-- the code of a mask -/
noncomputable def qd_rc (n m : Nat) : Nat :=
  qd_it (fun i r => Nat.add r (Nat.mul (qd_bi (Nat.beq (qd_fi (fun j => Nat.beq (Nat.mod (Nat.div m (Nat.pow 2 (qd_bx n j i))) 2) 1) i) i) (qd_bf (qd_g r) i) (qd_g r (qd_fi (fun j => Nat.beq (Nat.mod (Nat.div m (Nat.pow 2 (qd_bx n j i))) 2) 1) i))) (Nat.pow 8 i))) 0 n
noncomputable def qd_no (b : Bool) : Bool := qd_bi b false true
theorem qd_no_iff {b : Bool} : qd_no b = true ↔ ¬ b = true := by
  cases b <;> decide
/-- merging labels, the class's uncross -/
noncomputable def qd_mg (n c i j : Nat) : Nat := qd_pk n (fun p => qd_bi (Nat.beq (qd_g c p) (qd_g c j)) (qd_g c i) (qd_g c p))
noncomputable def qd_lc (n c i j : Nat) : Bool :=
  qd_bi (qd_rl c i j) false (qd_ex (fun k => qd_bi (Nat.blt j k) (qd_bi (qd_rl c k i) (qd_ex (fun l => qd_bi (Nat.blt k l) (qd_rl c l j) false) n) false) false) n)
noncomputable def qd_ui (n i : Nat) (c m : Nat) : Nat := qd_it (fun j r => qd_bi (Nat.blt i j) (qd_bi (qd_lc n r i j) (qd_mg n r i j) r) r) c m
noncomputable def qd_un (n c m : Nat) : Nat := qd_it (fun i r => qd_ui n i r n) c m
/-- the class's complement -/
noncomputable def qd_cl (n c a b : Nat) : Bool :=
  qd_al (fun x => qd_bi (Nat.ble a x) (qd_al (fun p => qd_bi (qd_bi (Nat.blt p a) true (Nat.blt b p)) (qd_no (qd_rl c x p)) true) n) true) (Nat.succ b)
noncomputable def qd_kp (n c j : Nat) : Nat := qd_fi (fun i => qd_cl n c (Nat.succ i) j) j
noncomputable def qd_kq (n c : Nat) : Nat := qd_pk n (qd_kp n c)
/-- pair (i, j) lies across a pair of c in the row of 2 n points -/
noncomputable def qd_cf (n c i j : Nat) : Bool :=
  qd_ex (fun a => qd_ex (fun b => qd_bi (Nat.blt a b) (qd_bi (qd_rl c a b)
    (qd_bi (qd_bi (Nat.ble a i) (qd_bi (Nat.blt i b) (Nat.ble b j) false) false) true (qd_bi (Nat.blt i a) (qd_bi (Nat.ble a j) (Nat.blt j b) false) false)) false) false) n) n
noncomputable def qd_cm (n c : Nat) : Nat := qd_pm (qd_cf n c) n
/-- catalan, points in a block, the class's uncrossed -/
noncomputable def qd_ca (k : Nat) : Nat := qd_it (fun s w => Nat.div (Nat.mul (Nat.mul w 2) (Nat.succ (Nat.mul 2 s))) (Nat.add s 2)) 1 k
noncomputable def qd_pb (n c b : Nat) : Nat := qd_ct (fun i => Nat.beq (qd_g c i) b) n
noncomputable def qd_uc (n c m : Nat) : Nat := qd_it (fun b r => Nat.mul r (qd_ca (qd_pb n c b))) 1 m
/-- the parts of q's blocks: q's digits at the least points of p's blocks -/
noncomputable def qd_pt (n p q b : Nat) : Nat := qd_ct (fun i => qd_bi (Nat.beq (qd_g p i) (qd_bf (qd_g p) i)) (Nat.beq (qd_g q i) b) false) n
noncomputable def qd_lp (n p : Nat) : List Nat := qd_it (fun i l => qd_bi (Nat.beq (qd_g p i) (qd_bf (qd_g p) i)) (i :: l) l) [] n
noncomputable def qd_lq (l : List Nat) (q b : Nat) : Nat := qd_fo (fun i r => qd_bi (Nat.beq (qd_g q i) b) (Nat.succ r) r) 0 l
theorem qd_lq_pt (p q b : Nat) : ∀ n, qd_lq (qd_lp n p) q b = qd_pt n p q b := by
  intro n
  induction n with
  | zero => rfl
  | succ n ih =>
    have e1 : qd_lp (n + 1) p = qd_bi (Nat.beq (qd_g p n) (qd_bf (qd_g p) n)) (n :: qd_lp n p) (qd_lp n p) := rfl
    have e2 : qd_pt (n + 1) p q b = qd_bi (qd_bi (Nat.beq (qd_g p n) (qd_bf (qd_g p) n)) (Nat.beq (qd_g q n) b) false) (qd_pt n p q b + 1) (qd_pt n p q b) := rfl
    rw [e1, e2]
    by_cases h : Nat.beq (qd_g p n) (qd_bf (qd_g p) n) = true
    · rw [qd_bi_t h, qd_bi_t h]
      have e3 : qd_lq (n :: qd_lp n p) q b = qd_bi (Nat.beq (qd_g q n) b) (qd_lq (qd_lp n p) q b + 1) (qd_lq (qd_lp n p) q b) := rfl
      rw [e3, ih]
    · rw [qd_bi_f h, qd_bi_f h]
      exact ih
/-- the class's interval, sign (modulo 2^32, -1 as 2^32 - 1) and fullChains, from the parts f -/
noncomputable def qd_iv (f : Nat → Nat) (m : Nat) : Nat := qd_it (fun b r => Nat.mul r (qd_eg (f b) 0)) 1 m
noncomputable def qd_si (z m : Nat) : Nat := qd_it (fun s r => Nat.mul r (Nat.mul 4294967295 (Nat.succ s))) z m
noncomputable def qd_sg (f : Nat → Nat) (m : Nat) : Nat := qd_it (fun b r => qd_si r (Nat.sub (f b) 1)) 1 m
noncomputable def qd_st (f : Nat → Nat) (m : Nat) : Nat := qd_it (fun b r => Nat.add r (Nat.sub (f b) 1)) 0 m
noncomputable def qd_hi (t z m : Nat) : Nat := qd_it (fun s r => Nat.mul (Nat.div (Nat.mul r (Nat.succ (Nat.add t s))) (Nat.succ s)) (Nat.div (Nat.mul (Nat.succ (Nat.succ s)) (Nat.succ s)) 2)) z m
noncomputable def qd_ch (f : Nat → Nat) (m : Nat) : Nat := qd_it (fun b r => qd_hi (qd_st f b) r (Nat.sub (f b) 1)) 1 m
/-- no step of fullChains leaves the ints -/
noncomputable def qd_cb (f : Nat → Nat) (n : Nat) : Bool := qd_al (fun b => qd_al (fun s => Nat.blt (Nat.mul (qd_hi (qd_st f b) (qd_ch f b) s) (Nat.succ (Nat.add (qd_st f b) s))) 2147483648) (Nat.sub (f b) 1)) n
theorem qd_ivC {f g : Nat → Nat} {m : Nat} (h : ∀ b, f b = g b) : qd_iv f m = qd_iv g m := by
  rw [show f = g from funext h]
/-- an entry: mask + 2^21 blocks + 2^24 crossed + 2^25 code -/
noncomputable def qd_en (n c : Nat) : Nat := Nat.add (Nat.add (Nat.add (qd_m n c) (Nat.mul 2097152 (qd_b n c))) (Nat.mul 16777216 (qd_bi (qd_x n c) 1 0))) (Nat.mul 33554432 c)
def qd_eM (a : Nat) : Nat := Nat.mod a 2097152
def qd_eB (a : Nat) : Nat := Nat.mod (Nat.div a 2097152) 8
def qd_eX (a : Nat) : Nat := Nat.mod (Nat.div a 16777216) 2
def qd_eC (a : Nat) : Nat := Nat.div a 33554432
theorem qd_en_all {n c : Nat} (hn : n < 8) : qd_eM (qd_en n c) = qd_m n c ∧ qd_eB (qd_en n c) = qd_b n c ∧ qd_eX (qd_en n c) = qd_bi (qd_x n c) 1 0 ∧ qd_eC (qd_en n c) = c := by
  have h1 : qd_m n c < 2097152 := qd_pm_lt hn
  have h2 : qd_b n c < 8 := Nat.lt_of_le_of_lt qd_bf_le hn
  have h3 : (qd_bi (qd_x n c) 1 0 : Nat) < 2 := by
    cases qd_x n c <;> decide
  have e : qd_en n c = qd_m n c + 2097152 * qd_b n c + 16777216 * qd_bi (qd_x n c) 1 0 + 33554432 * c := rfl
  have f1 : ∀ a, qd_eM a = a % 2097152 := fun _ => rfl
  have f2 : ∀ a, qd_eB a = a / 2097152 % 8 := fun _ => rfl
  have f3 : ∀ a, qd_eX a = a / 16777216 % 2 := fun _ => rfl
  have f4 : ∀ a, qd_eC a = a / 33554432 := fun _ => rfl
  rw [f1, f2, f3, f4, e]
  generalize qd_m n c = m at *
  generalize qd_b n c = b at *
  generalize (qd_bi (qd_x n c) 1 0 : Nat) = x at *
  omega
/-- forcing -/
noncomputable def qd_fr {α : Type} (x : Nat) (k : Nat → α) : α := Nat.rec (motive := fun _ => α) (k 0) (fun m _ => k (Nat.succ m)) x
theorem qd_fr_eq {α : Type} (x : Nat) (k : Nat → α) : qd_fr x k = k x := by
  cases x <;> rfl
noncomputable def qd_mf {α : Type} (f : Nat → Nat) (p : Nat → Bool) (l : List Nat) : (List Nat → α) → α :=
  List.rec (motive := fun _ => (List Nat → α) → α) (fun k => k []) (fun a _ ih k => qd_bi (p a) (qd_fr (f a) (fun v => ih (fun t => k (v :: t)))) (ih k)) l
theorem qd_mf_eq {α : Type} (f : Nat → Nat) (p : Nat → Bool) : ∀ (l : List Nat) (k : List Nat → α), qd_mf f p l k = k ((l.filter p).map f) := by
  intro l
  induction l with
  | nil => intro k; rfl
  | cons a l ih =>
    intro k
    have e : qd_mf f p (a :: l) k = qd_bi (p a) (qd_fr (f a) (fun v => qd_mf f p l (fun t => k (v :: t)))) (qd_mf f p l k) := rfl
    rw [e]
    by_cases h : p a = true
    · rw [qd_bi_t h, qd_fr_eq, ih, List.filter_cons_of_pos h, List.map_cons]
    · rw [qd_bi_f h, ih, List.filter_cons_of_neg h]
/-- some of a list -/
noncomputable def qd_lx (p : Nat → Bool) (l : List Nat) : Bool := qd_fo (fun a r => qd_bi (p a) true r) false l
theorem qd_lx_to {p : Nat → Bool} {l : List Nat} (h : qd_lx p l = true) : ∃ a, a ∈ l ∧ p a = true := by
  induction l with
  | nil => exact absurd (show (false : Bool) = true from h) (by decide)
  | cons a l ih =>
    have e : qd_lx p (a :: l) = qd_bi (p a) true (qd_lx p l) := rfl
    rw [e, qd_biOr] at h
    rcases h with h | h
    · exact ⟨a, List.mem_cons_self, h⟩
    · obtain ⟨b, hb, hp⟩ := ih h
      exact ⟨b, List.mem_cons_of_mem _ hb, hp⟩
theorem qd_crC {R S : Nat → Nat → Bool} {m : Nat} (h : ∀ i j, i < m → j < m → R i j = S i j) : qd_cr R m = qd_cr S m := by
  rw [Bool.eq_iff_iff, qd_cr_iff, qd_cr_iff]
  constructor
  · rintro ⟨i, j, k, l, h1, h2, h3, h4, h5, h6, h7⟩
    exact ⟨i, j, k, l, h1, h2, h3, h4, by rw [← h i j (by omega) (by omega)]; exact h5, by rw [← h i k (by omega) (by omega)]; exact h6, by rw [← h j l (by omega) (by omega)]; exact h7⟩
  · rintro ⟨i, j, k, l, h1, h2, h3, h4, h5, h6, h7⟩
    exact ⟨i, j, k, l, h1, h2, h3, h4, by rw [h i j (by omega) (by omega)]; exact h5, by rw [h i k (by omega) (by omega)]; exact h6, by rw [h j l (by omega) (by omega)]; exact h7⟩
